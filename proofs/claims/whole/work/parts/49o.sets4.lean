theorem pL_setSequence {S : SS} {M : Mem} {Q : Int32 → Mem → Prop} {a b : Int32} (v : Nat) (hv : v ≤ 1) (hy : b = nI v) (hb : Both S M) (h1 : ∀ j, j < 6 → a = nI j → hr S j = true → ∀ M1, Half (sU S 6 j 0 v) S M1 → mL M1 60 0 0 = (if sSeq S j = v then 0 else 1) → Q 0 M1) (h0 : ¬ HereX S a → Q 1 M) : w_L_setSequence M a b Q := by
  have h := hb.2.1.1
  have ok := hb.1.1
  subst hy
  have b01 : nI v = 0 ∨ nI v = 1 := by
    rcases (show v = 0 ∨ v = 1 by omega) with z | z
    · left; rw [z]; rfl
    · right; rw [z]; rfl
  refine ⟨h.e 4, h.e 4, p_known h (fun z => ⟨rfl, h0 z⟩) (fun j hj hx hh => ⟨h.pe hh 2, ?_⟩)⟩
  unfold b_X4_setSequence_19 b_L_setSequence_16
  rw [h.seq hh]
  have b1 := ok.seq j
  have put : ∀ s : Int64, s = (if sSeq S j = v then 0 else 1) → ∀ M9 : Mem, M9 = wI M 2 j 5 (nI v) → (mE M9 60 0 = true ∧ ((vp_in (0 : Int32) 1) ∧ (∀ M_9 : Mem, M_9 = wL M9 60 0 ((0 : Int32).toNatClampNeg) s → (Q 0 M_9)))) := fun s hs M9 e => by
    have hf := half_setF (f := 6) (k := 5) hb (by omega) (ok.here hh) e
    exact ⟨hf.2.2.1.2.2.2.2, pk_in 0 1 (by omega), fun M1 e1 => h1 j hj hx hh M1 (hf.w60 e1) (by rw [e1, mL_wL, ← hs]; exact if_pos ⟨rfl, rfl, rfl⟩)⟩
  exact pk_eq (sSeq S j) v (fun z => ⟨h.pe hh 2, b01, fun M9 e => ⟨Or.inl rfl, t0 (put 0 (by rw [if_pos z]) M9 e)⟩⟩) (fun z => ⟨h.pe hh 2, b01, fun M9 e => ⟨Or.inr rfl, t1 (put 1 (by rw [if_neg z]) M9 e)⟩⟩)
theorem pM_setSequence {S : SS} {M : Mem} {Q : Int32 → Mem → Prop} {a b : Int32} (v : Nat) (hv : v ≤ 1) (hy : b = nI v) (hr' : RepM S M) (ok : OKS S)
    (h1 : ∀ j, j < 6 → a = nI j → hr S j = true → Half (sU S 6 j 0 v) S M ∧ (Half (sU S 6 j 0 v) S M → ∀ M1, Both (sU S 6 j 0 v) M1 → mI M1 5 0 0 = nI 0 → mL M1 60 0 0 = mL M 60 0 0 → Q (if sSeq S j = v then 0 else 1) M1))
    (h0 : ¬ HereX S a → ∀ M1, M1 = wI M 5 0 0 1 → mI M1 5 0 0 = nI 1 → Q 0 M1) : w_X5_setSequence M a b Q := by
  have h := hr'
  subst hy
  have b01 : nI v = 0 ∨ nI v = 1 := by
    rcases (show v = 0 ∨ v = 1 by omega) with z | z
    · left; rw [z]; rfl
    · right; rw [z]; rfl
  refine ⟨h.e 5, p_isPeerM h ok (fun z => t0 ⟨h.e 5, p_fits 1 rfl (by omega) h (fun M1 e r1 g1 v1 => ?_)⟩) (fun j hj hx hh => t1 ⟨h.e 5, p_fits 0 rfl (by omega) h (fun M1 e r1 g1 v1 => ?_)⟩)⟩
  · exact t0 (h0 z M1 e v1)
  · obtain ⟨hf, hq⟩ := h1 j hj hx hh
    subst hx
    rw [cl j (by omega), r1.seq hj]
    refine t1 ⟨r1.e 5, r1.f 7, r1.e 37, pk_in j 6 hj, fun w hw => ⟨pk_in j 6 hj, b01, fun M2 e2 => ?_⟩⟩
    subst hw
    have r := hq hf M2 (bothM_setF (f := 6) (k := 37) (hf.w5 e) (by omega) hj e2) (by rw [e2, mI_wI, if_neg (by omega)]; exact v1) (by rw [e2, e]; rfl)
    have b1 := ok.seq j
    exact pk_eq (sSeq S j) v (fun z => by rw [if_pos z] at r; exact r) (fun z => by rw [if_neg z] at r; exact r)
theorem pL_setCareful {S : SS} {M : Mem} {Q : Int32 → Mem → Prop} {a b : Int32} (v : Nat) (hv : v ≤ 1) (hy : b = nI v) (hb : Both S M) (h1 : ∀ j, j < 6 → a = nI j → hr S j = true → ∀ M1, Half (sU S 5 j 0 v) S M1 → mL M1 60 0 0 = (if sCar S j = v then 0 else 1) → Q 0 M1) (h0 : ¬ HereX S a → Q 1 M) : w_L_setCareful M a b Q := by
  have h := hb.2.1.1
  have ok := hb.1.1
  subst hy
  have b01 : nI v = 0 ∨ nI v = 1 := by
    rcases (show v = 0 ∨ v = 1 by omega) with z | z
    · left; rw [z]; rfl
    · right; rw [z]; rfl
  refine ⟨h.e 4, h.e 4, p_known h (fun z => ⟨rfl, h0 z⟩) (fun j hj hx hh => ⟨h.pe hh 2, ?_⟩)⟩
  unfold b_X4_setCareful_19 b_L_setCareful_16
  rw [h.car hh]
  have b1 := ok.car j
  have put : ∀ s : Int64, s = (if sCar S j = v then 0 else 1) → ∀ M9 : Mem, M9 = wI M 2 j 6 (nI v) → (mE M9 60 0 = true ∧ ((vp_in (0 : Int32) 1) ∧ (∀ M_9 : Mem, M_9 = wL M9 60 0 ((0 : Int32).toNatClampNeg) s → (Q 0 M_9)))) := fun s hs M9 e => by
    have hf := half_setF (f := 5) (k := 6) hb (by omega) (ok.here hh) e
    exact ⟨hf.2.2.1.2.2.2.2, pk_in 0 1 (by omega), fun M1 e1 => h1 j hj hx hh M1 (hf.w60 e1) (by rw [e1, mL_wL, ← hs]; exact if_pos ⟨rfl, rfl, rfl⟩)⟩
  exact pk_eq (sCar S j) v (fun z => ⟨h.pe hh 2, b01, fun M9 e => ⟨Or.inl rfl, t0 (put 0 (by rw [if_pos z]) M9 e)⟩⟩) (fun z => ⟨h.pe hh 2, b01, fun M9 e => ⟨Or.inr rfl, t1 (put 1 (by rw [if_neg z]) M9 e)⟩⟩)
theorem pM_setCareful {S : SS} {M : Mem} {Q : Int32 → Mem → Prop} {a b : Int32} (v : Nat) (hv : v ≤ 1) (hy : b = nI v) (hr' : RepM S M) (ok : OKS S)
    (h1 : ∀ j, j < 6 → a = nI j → hr S j = true → Half (sU S 5 j 0 v) S M ∧ (Half (sU S 5 j 0 v) S M → ∀ M1, Both (sU S 5 j 0 v) M1 → mI M1 5 0 0 = nI 0 → mL M1 60 0 0 = mL M 60 0 0 → Q (if sCar S j = v then 0 else 1) M1))
    (h0 : ¬ HereX S a → ∀ M1, M1 = wI M 5 0 0 1 → mI M1 5 0 0 = nI 1 → Q 0 M1) : w_X5_setCareful M a b Q := by
  have h := hr'
  subst hy
  have b01 : nI v = 0 ∨ nI v = 1 := by
    rcases (show v = 0 ∨ v = 1 by omega) with z | z
    · left; rw [z]; rfl
    · right; rw [z]; rfl
  refine ⟨h.e 5, p_isPeerM h ok (fun z => t0 ⟨h.e 5, p_fits 1 rfl (by omega) h (fun M1 e r1 g1 v1 => ?_)⟩) (fun j hj hx hh => t1 ⟨h.e 5, p_fits 0 rfl (by omega) h (fun M1 e r1 g1 v1 => ?_)⟩)⟩
  · exact t0 (h0 z M1 e v1)
  · obtain ⟨hf, hq⟩ := h1 j hj hx hh
    subst hx
    rw [cl j (by omega), r1.car hj]
    refine t1 ⟨r1.e 5, r1.f 6, r1.e 36, pk_in j 6 hj, fun w hw => ⟨pk_in j 6 hj, b01, fun M2 e2 => ?_⟩⟩
    subst hw
    have r := hq hf M2 (bothM_setF (f := 5) (k := 36) (hf.w5 e) (by omega) hj e2) (by rw [e2, mI_wI, if_neg (by omega)]; exact v1) (by rw [e2, e]; rfl)
    have b1 := ok.car j
    exact pk_eq (sCar S j) v (fun z => by rw [if_pos z] at r; exact r) (fun z => by rw [if_neg z] at r; exact r)
