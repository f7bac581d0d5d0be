def spN (x p v : Nat) : Nat := if v = 1 then nd x (2 ^ p) ||| 2 ^ p else nd x (2 ^ p)
theorem spN_bit (x p v k : Nat) : (spN x p v).testBit k = if k = p then decide (v = 1) else x.testBit k := by
  unfold spN
  by_cases e : k = p
  · subst e
    by_cases z : v = 1
    · rw [if_pos z, Nat.testBit_or, nd_bit, Nat.testBit_two_pow_self]; simp [z]
    · rw [if_neg z, nd_bit, Nat.testBit_two_pow_self]; simp [z]
  · have t : (2 ^ p).testBit k = false := by rw [Nat.testBit_two_pow]; simp; omega
    rw [if_neg e]
    split
    · rw [Nat.testBit_or, nd_bit, t]; simp
    · rw [nd_bit, t]; simp
theorem spN_lt {x p v : Nat} (hx : x < 2 ^ 12) (hp : p < 12) : spN x p v < 2 ^ 12 := by
  have pw : 2 ^ p < 2 ^ 12 := Nat.pow_lt_pow_right (by omega) hp
  unfold spN
  split
  · exact Nat.or_lt_two_pow (nd_lt hx) pw
  · exact nd_lt hx
theorem spN_same {x p v : Nat} (hv : v ≤ 1) (h : b2 (x.testBit p) = v) : spN x p v = x := by
  apply Nat.eq_of_testBit_eq; intro k
  rw [spN_bit]
  split
  · rename_i e
    subst e
    cases hb : x.testBit k
    · rw [hb] at h; rw [← h]; rfl
    · rw [hb] at h; rw [← h]; rfl
  · rfl
theorem spN_xor {x p v : Nat} (hv : v ≤ 1) (h : b2 (x.testBit p) ≠ v) : spN x p v = x ^^^ 2 ^ p := by
  apply Nat.eq_of_testBit_eq; intro k
  rw [spN_bit, Nat.testBit_xor, Nat.testBit_two_pow]
  by_cases e : k = p
  · subst e
    rw [if_pos rfl]
    cases hb : x.testBit k
    · rw [hb] at h
      have : v = 1 := by unfold b2 at h; simp at h; omega
      simp [this]
    · rw [hb] at h
      have : v = 0 := by unfold b2 at h; simp at h; omega
      simp [this]
  · rw [if_neg e]
    have : ¬ p = k := fun z => e z.symm
    simp [this]
theorem sU_self (S : SS) (f i j : Nat) : sU S f i j (S f i j) = S := by
  funext a b c
  unfold sU
  split
  · rename_i z; rw [z.1, z.2.1, z.2.2]
  · rfl
theorem i_xor (a b : Nat) : nI a ^^^ nI b = nI (a ^^^ b) := by
  apply Int32.toBitVec_inj.mp
  apply BitVec.eq_of_getLsbD_eq
  intro i hi
  show (BitVec.ofNat 32 a ^^^ BitVec.ofNat 32 b).getLsbD i = (BitVec.ofNat 32 (a ^^^ b)).getLsbD i
  simp only [BitVec.getLsbD_xor, BitVec.getLsbD_ofNat, hi, decide_true, Bool.true_and, Nat.testBit_xor]
theorem pL_spoil {S : SS} {M : Mem} {Q : Int32 → Mem → Prop} {a b c : Int32} (v : Nat) (hv : v ≤ 1) (hc : c = nI v) (hb : Both S M) (h1 : ∀ j p, j < 6 → p < 12 → a = nI j → b = nI p → hr S j = true → ∀ M1, Half (sU S 7 j 0 (spN (sSp S j) p v)) S M1 → mL M1 60 0 0 = (if b2 ((sSp S j).testBit p) = v then 0 else 1) → Q 0 M1) (h0 : (¬ HereX S a ∨ ∀ p, p < 12 → b ≠ nI p) → Q 1 M) : w_L_spoil M a b c Q := by
  have h := hb.2.1.1
  have ok := hb.1.1
  subst hc
  refine ⟨h.e 4, h.e 4, p_known h (fun z => ⟨rfl, h0 (Or.inl z)⟩) (fun j hj hx hh => p_checkPiece (fun z => ⟨rfl, h0 (Or.inr z)⟩) (fun p hp hy => ⟨h.pe hh 2, ?_⟩))⟩
  have sp := ok.sp j
  unfold b_X4_spoil_30 b_L_spoil_18
  have hit : b2 ((sSp S j).testBit p) = v → (mE M 60 0 = true ∧ ((vp_in (0 : Int32) 1) ∧ (∀ M_9 : Mem, M_9 = wL M 60 0 ((0 : Int32).toNatClampNeg) 0 → (Q 0 M_9)))) := fun z => by
    have hf : Half (sU S 7 j 0 (spN (sSp S j) p v)) S M := by
      rw [spN_same hv z, sU_self]; exact Half.same hb
    exact ⟨hf.2.2.1.2.2.2.2, pk_in 0 1 (by omega), fun M1 e1 => h1 j p hj hp hx hy hh M1 (hf.w60 e1) (by rw [e1, mL_wL, if_pos z]; exact if_pos ⟨rfl, rfl, rfl⟩)⟩
  have miss : b2 ((sSp S j).testBit p) ≠ v → ∀ M19 : Mem, M19 = wI M 2 j 4 ((mI M 2 j 4) ^^^ (1 <<< (b &&& 31))) → (mE M19 60 0 = true ∧ ((vp_in (0 : Int32) 1) ∧ (∀ M_9 : Mem, M_9 = wL M19 60 0 ((0 : Int32).toNatClampNeg) 1 → (Q 0 M_9)))) := fun z M19 e => by
    rw [h.sp hh, hy, i_one p (by omega), i_xor, ← spN_xor hv z] at e
    have hf := half_setF (f := 7) (k := 4) hb (Or.inr (Or.inr ⟨rfl, rfl, spN_lt sp hp⟩)) (ok.here hh) e
    exact ⟨hf.2.2.1.2.2.2.2, pk_in 0 1 (by omega), fun M1 e1 => h1 j p hj hp hx hy hh M1 (hf.w60 e1) (by rw [e1, mL_wL, if_neg z]; exact if_pos ⟨rfl, rfl, rfl⟩)⟩
  refine p_isIn (sSp S j) p (by rw [h.sp hh]; exact nI_l (lt12 sp)) hy (Nat.lt_trans sp (by decide)) (by omega) (fun z => ?_) (fun z => ?_)
  · have b1 : b2 ((sSp S j).testBit p) = 1 := by rw [z]; rfl
    exact pk_eq 1 v (fun y => t0 ⟨Or.inl rfl, t0 (hit (b1.trans y))⟩) (fun y => t1 ⟨h.pe hh 2, fun M19 e => ⟨Or.inr rfl, t1 (miss (fun w => y (b1.symm.trans w)) M19 e)⟩⟩)
  · have b1 : b2 ((sSp S j).testBit p) = 0 := by rw [z]; rfl
    exact pk_eq 0 v (fun y => t0 ⟨Or.inl rfl, t0 (hit (b1.trans y))⟩) (fun y => t1 ⟨h.pe hh 2, fun M19 e => ⟨Or.inr rfl, t1 (miss (fun w => y (b1.symm.trans w)) M19 e)⟩⟩)
theorem b2_le (b : Bool) : b2 b ≤ 1 := by cases b <;> decide
theorem pM_spoil {S : SS} {M : Mem} {Q : Int32 → Mem → Prop} {a b c : Int32} (v : Nat) (hv : v ≤ 1) (hc : c = nI v) (hr' : RepM S M) (ok : OKS S)
    (h1 : ∀ j p, j < 6 → p < 12 → a = nI j → b = nI p → hr S j = true → Half (sU S 7 j 0 (spN (sSp S j) p v)) S M ∧ (Half (sU S 7 j 0 (spN (sSp S j) p v)) S M → ∀ M1, Both (sU S 7 j 0 (spN (sSp S j) p v)) M1 → mI M1 5 0 0 = nI 0 → mL M1 60 0 0 = mL M 60 0 0 → Q (if b2 ((sSp S j).testBit p) = v then 0 else 1) M1))
    (h0 : (¬ HereX S a ∨ ∀ p, p < 12 → b ≠ nI p) → ∀ M1, M1 = wI M 5 0 0 1 → mI M1 5 0 0 = nI 1 → Q 0 M1) : w_X5_spoil M a b c Q := by
  have h := hr'
  subst hc
  have no : (¬ HereX S a ∨ ∀ p, p < 12 → b ≠ nI p) → b_X5_spoil_20 Q M a b (nI v) := fun z => ⟨h.e 5, p_fits 1 rfl (by omega) h (fun M1 e r1 g1 v1 => t0 (h0 z M1 e v1))⟩
  refine ⟨h.e 5, p_isPeerM h ok (fun z => t0 (no (Or.inl z))) (fun j hj hx hh => t1 (p_isPiece (fun z => t0 (no (Or.inr z))) (fun p hp hy => t1 ⟨h.e 5, p_fits 0 rfl (by omega) h (fun M1 e r1 g1 v1 => t1 ?_)⟩)))⟩
  obtain ⟨hf, hq⟩ := h1 j p hj hp hx hy hh
  have sp := ok.sp j
  have bl := b2_le ((sSp S j).testBit p)
  have fin : ∀ s : Int32, s = nI (b2 ((sSp S j).testBit p)) → ∀ t s0 : Int32, t ||| s0 = nI (spN (sSp S j) p v) → b_X5_spoil_69 Q M1 (nI v) s s0 t (nI j) := by
    intro s hs t s0 ht
    refine ⟨r1.e 38, pk_in j 6 hj, fun M2 e2 => ?_⟩
    rw [cl j (by omega), ht] at e2
    have r := hq hf M2 (bothM_setF (f := 7) (k := 38) (hf.w5 e) (by omega) hj e2) (by rw [e2, mI_wI, if_neg (by omega)]; exact v1) (by rw [e2, e]; rfl)
    subst hs
    exact pk_eq (b2 ((sSp S j).testBit p)) v (fun z => by rw [if_pos z] at r; exact r) (fun z => by rw [if_neg z] at r; exact r)
  have tail : ∀ s : Int32, s = nI (b2 ((sSp S j).testBit p)) → (nI v = 0 → b_X5_spoil_69 Q M1 (nI v) s 0 (nI (sSp S j) &&& ((1 <<< (b &&& 31)) ^^^ (-1))) (nI j)) ∧ (¬ nI v = 0 → b_X5_spoil_69 Q M1 (nI v) s (1 <<< (b &&& 31)) (nI (sSp S j) &&& ((1 <<< (b &&& 31)) ^^^ (-1))) (nI j)) := by
    intro s hs
    subst hy
    rw [i_one p (by omega), i_nd]
    refine pk_eq v 0 (fun z => fin s hs _ _ ?_) (fun z => fin s hs _ _ ?_)
    · rw [show (0 : Int32) = nI 0 from rfl, fa_or, Nat.or_zero]
      unfold spN
      rw [if_neg (by omega)]
    · rw [fa_or]
      unfold spN
      rw [if_pos (by omega)]
  subst hx
  rw [cl j (by omega), r1.sp hj]
  refine ⟨r1.e 5, r1.f 8, r1.e 38, pk_in j 6 hj, p_has (sSp S j) p rfl hy (lt12 sp) (by omega) (fun z => ⟨r1.e 5, r1.f 8, r1.e 38, pk_in j 6 hj, ?_⟩) (fun z => ⟨r1.e 5, r1.f 8, r1.e 38, pk_in j 6 hj, ?_⟩)⟩
  · rw [r1.sp hj]
    exact tail 1 (by rw [z]; rfl)
  · rw [r1.sp hj]
    exact tail 0 (by rw [z]; rfl)
