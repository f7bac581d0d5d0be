theorem RepM.keep {S : SS} {M M1 : Mem} (h : RepM S M) (hk : ∀ κ, κ = 5 ∨ 30 ≤ κ → mE M1 κ 0 = mE M κ 0 ∧ ∀ k, mF M1 κ 0 k = mF M κ 0 k ∧ mI M1 κ 0 k = mI M κ 0 k) : RepM S M1 := by
  have r : ∀ κ k, κ = 5 ∨ 30 ≤ κ → mI M1 κ 0 k = mI M κ 0 k := fun κ k z => ((hk κ z).2 k).2
  refine ⟨⟨fun κ hκ => (hk κ ?_).1.trans (h.1.1 κ hκ), fun k hk2 => ((hk 5 (by omega)).2 k).1.trans (h.1.2 k hk2)⟩, ?_, ?_, fun p hp' => ?_, fun i hi => ⟨?_, ?_, ?_, ?_, ?_, ?_⟩, fun i p hi hp' => ⟨?_, ?_⟩, fun i b hi hb => ?_, fun i o hi ho => ⟨?_, ?_, ?_⟩⟩
  · simp only [List.mem_cons, List.not_mem_nil, or_false] at hκ
    omega
  · rw [r _ _ (by omega)]; exact h.r
  · rw [r _ _ (by omega)]; exact h.n
  · rw [r _ _ (by omega)]; exact h.pr hp'
  · rw [r _ _ (by omega)]; exact h.he hi
  · rw [r _ _ (by omega)]; exact h.held hi
  · rw [r _ _ (by omega)]; exact h.car hi
  · rw [r _ _ (by omega)]; exact h.seq hi
  · rw [r _ _ (by omega)]; exact h.sp hi
  · rw [r _ _ (by omega)]; exact h.db hi
  · rw [r _ _ (by omega)]; exact h.had hi hp'
  · rw [r _ _ (by omega)]; exact h.wr hi hp'
  · rw [r _ _ (by omega)]; exact h.fr hi hb
  · rw [r _ _ (by omega)]; exact h.got hi ho
  · rw [r _ _ (by omega)]; exact h.st hi ho
  · rw [r _ _ (by omega)]; exact h.ban hi ho
theorem p_join48 {S : SS} {M M8 : Mem} {Q : Int32 → Mem → Prop} {X : Nat → Mem → Prop} {hv : Nat} (hb : Both S M) (hn : sN S ≤ 5) (hl : hv < 2 ^ 12) (e8 : M8 = wN M 2 (sN S)) (hQ : ∀ M5, Half (jS S hv) S M5 → Q (nI (sN S)) M5) : b_X4_join_48 Q X M8 (nI (sN S)) (nI hv) (nI (sN S)) (sN S) (sN S) (nI (sN S)) := by
  have h := hb.2.1.1
  have fr := hb.2.1.2.2.2.1
  have c8 : ∀ κ i, κ ≠ 2 → mE M8 κ i = mE M κ i ∧ ∀ k, mF M8 κ i k = mF M κ i k ∧ mI M8 κ i k = mI M κ i k := fun κ i z => by
    refine ⟨by rw [e8, mE_N, if_neg (by omega)], fun k => ⟨by rw [e8, mF_N, if_neg (by omega)], by rw [e8, mI_N, if_neg (by omega)]⟩⟩
  have h2 : mE M8 2 (sN S) = true := by rw [e8, mE_N, if_pos ⟨rfl, rfl⟩]
  have o := fun κ (z : κ ≠ 0 ∧ κ ≠ 1 ∧ κ ≠ 2 ∧ κ ≠ 3 ∧ (κ < 20 ∨ 26 < κ)) => peerM_out (M := M8) (t := sN S) (a1 := nI (sN S)) (a2 := nI hv) (κ := κ) (i := 0) (Or.inr z)
  refine ⟨h2, p_X2_init h2 (fun κ hκ => ?_) ?_⟩
  · have z : κ ≠ 2 := by
      intro e; subst e; revert hκ; decide
    rw [(c8 κ _ z).1]
    refine fr κ ?_ _ (Nat.le_refl _)
    simp only [List.mem_cons, List.not_mem_nil, or_false] at hκ ⊢
    omega
  · refine ⟨?_, pk_in (sN S) 6 (by omega), ?_, peerM_e h2 2 (by decide), fun M22 e22 => ⟨?_, fun M26 e26 => hQ M26 ?_⟩⟩
    · rw [(o 10 (by omega)).1, (c8 10 0 (by omega)).1]; exact h.e 10
    · rw [cl _ (by omega)]
    · rw [e22, mE_wF, (o 4 (by omega)).1, (c8 4 0 (by omega)).1]; exact h.e 4
    · rw [cl _ (by omega)] at e22
      have v3 : mI M22 4 0 3 + 1 = nI (sN S + 1) := by
        rw [e22, mI_wF, ((o 4 (by omega)).2 3).2.1, ((c8 4 0 (by omega)).2 3).2, h.n, nI_1]
      rw [v3] at e26
      refine ⟨Good_join hb.1 hn hl, hb.1, CB_join hb.1 hb.2.1 hn hl e8 rfl e22 e26, hb.2.2.keep (fun κ z => ⟨?_, fun k => ⟨?_, ?_⟩⟩)⟩
      · rw [e26, mE_wI, e22, mE_wF, (o κ (by omega)).1, (c8 κ 0 (by omega)).1]
      · rw [e26, mF_wI, e22, mF_wF, if_neg (by omega), ((o κ (by omega)).2 k).1, ((c8 κ 0 (by omega)).2 k).1]
      · rw [e26, mI_wI, if_neg (by omega), e22, mI_wF, ((o κ (by omega)).2 k).2.1, ((c8 κ 0 (by omega)).2 k).2]
/-- what one holds that joins -/
def hvJ (v : Nat) : Nat := if v = 0 then 0 else 4095
theorem hvJ_lt (v : Nat) : hvJ v < 2 ^ 12 := by unfold hvJ; split <;> decide
theorem pL_join {S : SS} {M : Mem} {Q : Int32 → Mem → Prop} {a : Int32} (v : Nat) (hv : v ≤ 1) (hy : a = nI v) (hb : Both S M) (h1 : sN S ≤ 5 → ∀ M1, Half (jS S (hvJ v)) S M1 → mL M1 60 0 0 = (nI (sN S)).toInt64 → Q 0 M1) (h0 : sN S = 6 → Q 1 M) : w_L_join M a Q := by
  have h := hb.2.1.1
  have n6 := hb.1.1.n
  subst hy
  refine ⟨h.e 4, h.e 4, h.f 0, h.e 10, ?_⟩
  rw [h.n]
  refine pk_lt (sN S) 6 (fun w v5 h5 => ?_) (fun w => ⟨rfl, h0 (by omega)⟩)
  subst h5
  rw [cl (sN S) (by omega)]
  refine ⟨hb.2.1.2.2.2.1 2 (by decide) _ (Nat.le_refl _), fun M8 e8 => ?_⟩
  refine pk_eq v 0 (fun z => p_join48 (hv := 0) hb (by omega) (by decide) e8 (fun M5 hf => ?_)) (fun z => p_join48 (hv := 4095) hb (by omega) (by decide) e8 (fun M5 hf => ?_))
  · have e : hvJ v = 0 := by unfold hvJ; rw [if_pos z]
    rw [← e] at hf
    exact p_put2 hf (fun M2 _ h3 v3 => h1 (by omega) M2 h3 v3)
  · have e : hvJ v = 4095 := by unfold hvJ; rw [if_neg z]
    rw [← e] at hf
    exact p_put2 hf (fun M2 _ h3 v3 => h1 (by omega) M2 h3 v3)
theorem RepM_join {S : SS} {M M1 M2 M3 : Mem} {hv : Nat} (h : RepM S M) (e1 : M1 = wI M 34 0 (sN S) 1) (e2 : M2 = wI M1 35 0 (sN S) (nI hv)) (e3 : M3 = wI M2 5 0 3 (nI (sN S + 1))) : RepM (jS S hv) M3 := by
  have x : ∀ κ a k, κ ≠ 34 → κ ≠ 35 → (κ ≠ 5 ∨ k ≠ 3) → mI M3 κ a k = mI M κ a k := fun κ a k z y w => by rw [e3, mI_wI, if_neg (by omega), e2, mI_wI, if_neg (by omega), e1, mI_wI, if_neg (by omega)]
  have s : ∀ f a c, f ≠ 0 ∧ f ≠ 2 ∧ f ≠ 4 → jS S hv f a c = S f a c := fun f a c z => jS_e (Or.inl z)
  refine ⟨⟨fun κ hκ => by rw [e3, e2, e1]; exact h.1.1 κ hκ, fun k hk => by rw [e3, e2, e1]; exact h.1.2 k hk⟩, ?_, ?_, fun p hp' => ?_, fun i hi => ⟨?_, ?_, ?_, ?_, ?_, ?_⟩, fun i p hi hp2 => ⟨?_, ?_⟩, fun i b hi hb => ?_, fun i o hi ho => ⟨?_, ?_, ?_⟩⟩
  · rw [x _ _ _ (by decide) (by decide) (by decide), sR, s _ _ _ (by decide)]; exact h.r
  · rw [jS_n, e3, mI_wI, if_pos ⟨rfl, rfl, rfl⟩]
  · rw [x _ _ _ (by decide) (by decide) (by omega), sPr, s _ _ _ (by decide)]; exact h.pr hp'
  · rw [e3, mI_wI, if_neg (by omega), e2, mI_wI, if_neg (by omega), e1, mI_wI]
    by_cases z : i = sN S
    · rw [if_pos ⟨rfl, rfl, z⟩, z, jS_2]; rfl
    · rw [if_neg (by omega), jS_e (Or.inr ⟨by decide, z⟩)]; exact h.he hi
  · rw [e3, mI_wI, if_neg (by omega), e2, mI_wI]
    unfold sHeld
    by_cases z : i = sN S
    · rw [if_pos ⟨rfl, rfl, z⟩, z, jS_h]
    · rw [if_neg (by omega), e1, mI_wI, if_neg (by omega), jS_e (Or.inr ⟨by decide, z⟩)]; exact h.held hi
  · rw [x _ _ _ (by decide) (by decide) (by omega), sCar, s _ _ _ (by decide)]; exact h.car hi
  · rw [x _ _ _ (by decide) (by decide) (by omega), sSeq, s _ _ _ (by decide)]; exact h.seq hi
  · rw [x _ _ _ (by decide) (by decide) (by omega), sSp, s _ _ _ (by decide)]; exact h.sp hi
  · rw [x _ _ _ (by decide) (by decide) (by omega), sDb, s _ _ _ (by decide)]; exact h.db hi
  · rw [x _ _ _ (by decide) (by decide) (by omega), sHad, s _ _ _ (by decide)]; exact h.had hi hp2
  · rw [x _ _ _ (by decide) (by decide) (by omega), sWr, s _ _ _ (by decide)]; exact h.wr hi hp2
  · rw [x _ _ _ (by decide) (by decide) (by omega), sFr, s _ _ _ (by decide)]; exact h.fr hi hb
  · rw [x _ _ _ (by decide) (by decide) (by omega), sGot, s _ _ _ (by decide)]; exact h.got hi ho
  · rw [x _ _ _ (by decide) (by decide) (by omega), sSt, s _ _ _ (by decide)]; exact h.st hi ho
  · rw [x _ _ _ (by decide) (by decide) (by omega), sBan, s _ _ _ (by decide)]; exact h.ban hi ho
theorem p_join52 {S : SS} {M M1 : Mem} {Q : Int32 → Mem → Prop} {hv : Nat} (h : RepM S M) (hn : sN S ≤ 5) (e1 : M1 = wI M 34 0 (sN S) 1) (hQ : ∀ M3, RepM (jS S hv) M3 → Ag (fun κ a k => a = 0 ∧ (κ = 34 ∨ κ = 35 ∨ (κ = 5 ∧ k = 3))) M M3 → Q (nI (sN S)) M3) : b_X5_join_52 Q M1 (nI hv) (nI (sN S)) := by
  refine ⟨by rw [e1]; exact h.e 35, pk_in (sN S) 6 (by omega), fun M2 e2 => ⟨by rw [e2, e1]; exact h.e 5, fun M3 e3 => ?_⟩⟩
  rw [cl _ (by omega)] at e2
  have v3 : mI M2 5 0 3 + 1 = nI (sN S + 1) := by
    rw [e2, mI_wI, if_neg (by omega), e1, mI_wI, if_neg (by omega), h.n, nI_1]
  rw [v3] at e3
  have v4 : mI M3 5 0 3 - 1 = nI (sN S) := by
    rw [e3, mI_wI, if_pos ⟨rfl, rfl, rfl⟩]
    exact pk_sub (a := sN S + 1) (b := 1) (by omega)
  rw [v4]
  exact hQ M3 (RepM_join h e1 e2 e3) (((Ag.rf.wI e1 ⟨rfl, Or.inl rfl⟩).wI e2 ⟨rfl, Or.inr (Or.inl rfl)⟩).wI e3 ⟨rfl, Or.inr (Or.inr ⟨rfl, rfl⟩)⟩)
theorem pM_join {S : SS} {M : Mem} {Q : Int32 → Mem → Prop} {a : Int32} (v : Nat) (hv : v ≤ 1) (hy : a = nI v) (hr' : RepM S M) (ok : OKS S)
    (h1 : sN S ≤ 5 → Half (jS S (hvJ v)) S M ∧ ∀ M1, Both (jS S (hvJ v)) M1 → mI M1 5 0 0 = nI 0 → mL M1 60 0 0 = mL M 60 0 0 → Q (nI (sN S)) M1)
    (h0 : sN S = 6 → ∀ M1, M1 = wI M 5 0 0 1 → mI M1 5 0 0 = nI 1 → Q 0 M1) : w_X5_join M a Q := by
  have h := hr'
  have n6 := ok.n
  subst hy
  refine ⟨h.e 5, ?_⟩
  rw [h.n]
  refine pk_eq (sN S) 6 (fun z => ⟨h.e 5, p_fits 1 rfl (by omega) h (fun M1 e r1 g1 v1 => t0 (h0 z M1 e v1))⟩) (fun z => ⟨h.e 5, p_fits 0 rfl (by omega) h (fun M1 e r1 g1 v1 => t1 ?_)⟩)
  obtain ⟨hf, hq⟩ := h1 (by omega)
  rw [r1.n, cl _ (by omega)]
  refine ⟨r1.e 5, r1.f 4, r1.e 34, pk_in (sN S) 6 (by omega), fun M2 e2 => ?_⟩
  have n2 : mI M2 5 0 3 = nI (sN S) := by rw [e2, mI_wI, if_neg (by omega)]; exact r1.n
  rw [n2]
  have fin : ∀ hv, hv = hvJ v → ∀ M3, RepM (jS S hv) M3 → Ag (fun κ a k => a = 0 ∧ (κ = 34 ∨ κ = 35 ∨ (κ = 5 ∧ k = 3))) M1 M3 → Q (nI (sN S)) M3 := fun hv ehv M3 r3 g3 => by
    subst ehv
    refine hq M3 ⟨hf.1, (hf.w5 e).2.2.1.far g3 (fun κ a k z => by unfold PF; omega), r3⟩ ?_ ?_
    · rw [g3.i (by omega)]; exact v1
    · rw [g3.l (by omega), e]; rfl
  exact ⟨by rw [e2]; exact r1.f 5, pk_eq v 0 (fun z => p_join52 (hv := 0) r1 (by omega) e2 (fin 0 (by unfold hvJ; rw [if_pos z]))) (fun z => p_join52 (hv := 4095) r1 (by omega) e2 (fin 4095 (by unfold hvJ; rw [if_neg z])))⟩
