/-! the start, and the law itself -/
def S00 : SS := fun f _ _ => if f = 3 then 1 else 0
theorem s00 {f i c : Nat} (h : f ≠ 3) : S00 f i c = 0 := by unfold S00; rw [if_neg h]
theorem good_0 : Good S00 := by
  have z : ∀ f i c, f ≠ 3 → S00 f i c = 0 := fun f i c h => s00 h
  refine ⟨⟨?_, ?_, fun i => ?_, fun i hi => ?_, fun p => ?_, fun i => ?_, fun i => ?_, fun i => ?_, fun i => ?_, fun i => ?_, fun i => ?_, fun i => ?_, fun i b => ?_, fun i o => ?_, fun i o => ?_⟩, fun a o => ?_, fun a o ha ho h3 => ?_, fun a o ha ho hb => ?_, fun a ha => ⟨?_, fun b hb => ?_⟩, fun i p hp => ?_, fun f i c hf hi => ?_⟩
  · rw [sN, z _ _ _ (by decide)]; omega
  · rw [sR, z _ _ _ (by decide)]; omega
  · rw [z _ _ _ (by decide)]; omega
  · unfold hr at hi; rw [z _ _ _ (by decide)] at hi; cases hi
  · unfold sPr S00; rw [if_pos rfl]; omega
  · rw [sHeld, z _ _ _ (by decide)]; omega
  · rw [sCar, z _ _ _ (by decide)]; omega
  · rw [sSeq, z _ _ _ (by decide)]; omega
  · rw [sSp, z _ _ _ (by decide)]; omega
  · rw [sHad, z _ _ _ (by decide)]; omega
  · rw [sWr, z _ _ _ (by decide)]; omega
  · rw [sBan, z _ _ _ (by decide)]; omega
  · rw [sFr, z _ _ _ (by decide)]; omega
  · rw [sGot, z _ _ _ (by decide)]; omega
  · rw [sSt, z _ _ _ (by decide)]; omega
  · rw [sSt, z _ _ _ (by decide)]; omega
  · rw [sSt, z _ _ _ (by decide)] at h3; omega
  · rw [sBan, z _ _ _ (by decide), Nat.zero_testBit] at hb; cases hb
  · rw [sSt, z _ _ _ (by decide)]
  · rw [sHad, z _ _ _ (by decide), Nat.zero_testBit] at hb; cases hb
  · rw [sHad, z _ _ _ (by decide), Nat.zero_and]
    exact fun w => blkP_pos p w.symm
  · exact z _ _ _ (by omega)
theorem cb_0 {M1 M2 : Mem} (g1 : Ag (fun κ a _ => κ = 11 ∧ a = 0) hallM M1) (f1 : ∀ p, p < 12 → mI M1 11 0 p = 1) (e2 : M2 = wN M1 61 0) : CB S00 M2 ∧ mE M2 61 0 = true ∧ (∀ k, mI M2 61 0 k = 0) ∧ mE M2 62 0 = false := by
  have z : ∀ f i c, f ≠ 3 → S00 f i c = 0 := fun f i c h => s00 h
  have o : ∀ κ i, ¬ (κ = 61 ∧ i = 0) → mE M2 κ i = mE hallM κ i ∧ ∀ k, mF M2 κ i k = mF hallM κ i k ∧ mI M2 κ i k = mI M1 κ i k := fun κ i w => by
    refine ⟨?_, fun k => ⟨?_, ?_⟩⟩
    · rw [e2, mE_N, if_neg w, g1.1]
    · rw [e2, mF_N, if_neg w, g1.2.1]
    · rw [e2, mI_N, if_neg w]
  have hE : ∀ κ i, i ≠ 0 ∨ (κ ≠ 4 ∧ κ ≠ 10 ∧ κ ≠ 11 ∧ κ ≠ 12) → mE hallM κ i = false := fun κ i w => by
    have q : ∀ x : Nat, x = 4 ∨ x = 10 ∨ x = 11 ∨ x = 12 → (κ = x ∧ i = 0 ↔ False) := fun x hx => ⟨fun y => by omega, False.elim⟩
    unfold hallM
    simp only [mE_N, mE_wI, mE_wF, q 4 (by omega), q 10 (by omega), q 11 (by omega), q 12 (by omega), if_false, m00_e]
  have nohr : ∀ i, hr S00 i = false := fun i => by unfold hr; rw [z _ _ _ (by decide)]; rfl
  refine ⟨⟨⟨⟨fun κ hκ => ?_, fun k hk => ?_⟩, ⟨?_, ?_, fun p hp => ?_, fun i hi => ?_⟩, fun i hi => ?_⟩, fun i hi => ?_, ⟨fun a => ?_, fun k => ?_⟩, fun κ hκ i hi => ?_⟩, ?_, fun k => ?_, ?_⟩
  · have w : κ = 4 ∨ κ = 10 ∨ κ = 11 ∨ κ = 12 := by simpa using hκ
    rw [(o κ 0 (by omega)).1]
    unfold hallM
    rcases w with rfl | rfl | rfl | rfl <;> simp [mE_N, mE_wI, mE_wF]
  · have w : k = 0 ∨ k = 1 ∨ k = 2 := by simpa using hk
    rw [((o 4 0 (by omega)).2 k).1]
    unfold hallM
    rcases w with rfl | rfl | rfl <;> simp [mF_N, mF_wI, mF_wF]
  · rw [((o 4 0 (by omega)).2 3).2, g1.i (by omega), sN, z _ _ _ (by decide)]
    unfold hallM; simp [mI_wI]; rfl
  · rw [((o 4 0 (by omega)).2 4).2, g1.i (by omega), sR, z _ _ _ (by decide)]
    unfold hallM; simp [mI_wI]; rfl
  · rw [((o 11 0 (by omega)).2 p).2, f1 p hp]; rfl
  · rw [((o 10 0 (by omega)).2 i).1, nohr]
    unfold hallM; simp [mF_N, mF_wI, mF_wF]
  · rw [nohr] at hi; cases hi
  · rw [nohr] at hi; cases hi
  · rw [(o a 6 (by omega)).1]; exact hE a 6 (by omega)
  · rw [((o 3 6 (by omega)).2 k).1]
    unfold hallM; simp [mF_N, mF_wI, mF_wF, m00_f]
  · simp only [List.mem_cons, List.not_mem_nil, or_false] at hκ
    rw [(o κ i (by omega)).1]; exact hE κ i (by omega)
  · rw [e2, mE_N, if_pos ⟨rfl, rfl⟩]
  · rw [e2, mI_N, if_pos ⟨rfl, rfl⟩]
  · rw [(o 62 0 (by omega)).1]; exact hE 62 0 (by omega)
theorem pL_draw {M : Mem} {Q : Int32 → Mem → Prop} {L : Nat} {xs : Nat → Int32} {x : Int32} {k : Nat} (hL : L ≤ 260) (hk : k < L) (hx : x = nI k) (hQ : ∀ j, j < 2 ^ 31 → Q (nI j) M) : w_L_draw L xs M x Q := by
  subst hx
  refine pk_le L k (fun z => absurd z (by omega)) (fun _ => ⟨pk_in k L hk, ?_⟩)
  obtain ⟨j, hj, e⟩ := pk_andE (xs (nI k).toNatClampNeg) (m := 2147483647) 31 (by decide)
  rw [e]
  exact hQ j hj
section LAW6
variable {L : Nat} {xs : Nat → Int32} {Q : Int32 → Mem → Prop} {X : Nat → Mem → Prop}
theorem law_loop (hL : L ≤ 260) (hQ : ∀ M, Q 1 M) {st : Nat} (hst : st ≤ 60) (hs3 : 3 * st ≤ L) : ∀ d k, k + d = st → ∀ it, it ≤ 14 + k → ∀ S hh M, LB S hh M → Tig S hh → mE M 62 0 = false → l_L_law_85 L xs Q X (d + 1) M it 1 (nI st) (nI k) := by
  intro d
  induction d with
  | zero =>
    intro k hk it hit S hh M hb ht h62
    have e : k = st := by omega
    subst e
    show b_L_law_85 L xs Q X _ M _ _ _ _
    unfold b_L_law_85
    exact ⟨by omega, pk_le k k (fun _ => hQ M) (fun z => absurd z (by omega))⟩
  | succ d ih =>
    intro k hk it hit S hh M hb ht h62
    have nx := ih (k + 1) (by omega) (it + 1) (by omega)
    show b_L_law_85 L xs Q X (l_L_law_85 L xs Q X (d + 1)) M _ _ _ _
    generalize l_L_law_85 L xs Q X (d + 1) = kk at nx ⊢
    unfold b_L_law_85
    rw [show (3 : Int32) * nI k = nI (3 * k) from pk_mul 3 k]
    refine ⟨by omega, pk_le st k (fun z => absurd z (by omega)) (fun _ => t1 ?_)⟩
    refine pL_draw (k := 3 * k + 1) hL (by omega) (nI_1 _) (fun a ha => pL_draw (k := 3 * k + 2) hL (by omega) (nI_add _ 2) (fun b hbl => pL_draw (k := 3 * k) hL (by omega) rfl (fun t htl => ?_)))
    refine pL_step hb ht h62 htl ha hbl (fun S1 h1 M1 af => t1 ?_)
    obtain ⟨hb1, e1, sub1⟩ := af
    refine pL_areHeld hb1 e1 sub1 (fun M2 h2 hb2 e2 ht2 => t1 ?_)
    have hc := hb2.v
    have n6 := hb2.ok.n
    have fin : b_L_law_174 kk L xs Q X M2 it (nI st) (nI k) := ⟨by omega, by omega, fun v hv => by rw [hv, nI_1]; exact nx S1 h2 M2 hb2 ht2 e2⟩
    refine ⟨hc.e, in0, ?_⟩
    rw [hc.n]
    refine pk_eq (sN S1) 0 (fun _ => fin) (fun z => ⟨in0, nI_ne0 (by omega) (by omega), in0, nI_ne0 (by omega) (by omega), ?_⟩)
    have ra : nI a - nI a / nI (sN S1) * nI (sN S1) = nI (a % sN S1) := pk_rem ha (by omega) (by omega)
    have rb : nI b - nI b / nI (sN S1) * nI (sN S1) = nI (b % sN S1) := pk_rem hbl (by omega) (by omega)
    rw [ra, rb]
    have la := Nat.mod_lt a (show 0 < sN S1 by omega)
    have lb := Nat.mod_lt b (show 0 < sN S1 by omega)
    exact pL_areBans hb2 ht2 (by omega) (by omega) rfl rfl (t1 fin)
theorem law_fill (hL : L ≤ 260) (hQ : ∀ M, Q 1 M) : ∀ d i, i + d = 12 → ∀ M, CB S00 M → mE M 61 0 = true → (∀ j, j < 29 → mI M 61 0 j = nI (if 3 ≤ j ∧ j < 3 + i then 1 else 0)) → mE M 62 0 = false → l_L_law_15 L xs Q X (d + 1) M i (nI i) := by
  intro d
  induction d with
  | zero =>
    intro i hi M cb e61 c61 e62
    have e : i = 12 := by omega
    subst e
    show b_L_law_15 L xs Q X _ M _ _
    unfold b_L_law_15
    have z : ∀ f i c, f ≠ 3 → S00 f i c = 0 := fun f i c h => s00 h
    have nohr : ∀ i, hr S00 i = false := fun i => by unfold hr; rw [z _ _ _ (by decide)]; rfl
    have p0 : pS S00 = 0 := by
      apply Nat.eq_of_testBit_eq
      intro k
      rw [pS_bit, nohr, Nat.zero_testBit, Bool.and_false]
    have n0 : sN S00 = 0 := z _ _ _ (by decide)
    have r0 : sR S00 = 0 := z _ _ _ (by decide)
    have cv : CV S00 (fun _ => 0) M := by
      refine ⟨e61, fun j hj => ?_⟩
      rw [c61 j hj]
      congr 1
      refine (cell_all (A := cell S00 (fun _ => 0)) (B := fun j => if 3 ≤ j ∧ j < 3 + 12 then 1 else 0) ?_ ?_ ?_ (fun q hq => ?_) ?_ ?_ (fun i hi => ?_) (fun i hi => ?_) j hj).symm
      · rw [cell_0]; exact n0
      · rw [cell_1]; exact p0
      · rw [cell_2]; exact r0
      · show _ = if 3 ≤ 3 + q ∧ 3 + q < 3 + 12 then 1 else 0
        rw [cell_pr _ _ hq, if_pos (by omega)]; rfl
      · rw [cell_15]
        apply Nat.eq_of_testBit_eq
        intro k
        unfold carS
        rw [bs_bit, sCar, z _ _ _ (by decide)]
        simp
      · rw [cell_16]
        apply Nat.eq_of_testBit_eq
        intro k
        unfold seqS
        rw [bs_bit, sSeq, z _ _ _ (by decide)]
        simp
      · show _ = if 3 ≤ 17 + i ∧ 17 + i < 3 + 12 then 1 else 0
        rw [cell_sp _ _ hi, if_neg (by omega)]; exact z _ _ _ (by decide)
      · show _ = if 3 ≤ 23 + i ∧ 23 + i < 3 + 12 then 1 else 0
        rw [cell_h, if_neg (by omega)]
    have hb : LB S00 (fun _ => 0) M := ⟨good_0, cb, cv⟩
    have c0 : cH S00 11 6 = 0 := by
      rw [cH_n hb.ok 11 6 (by omega), n0]; rfl
    have ht : Tig S00 (fun _ => 0) := fun k hk => by rw [nohr] at hk; cases hk
    have go : ∀ st, st ≤ 60 → 3 * st ≤ L → b_L_law_80 L xs Q X M 12 1 (nI st) := fun st h1 h2 => ⟨by omega, st + 1, law_loop hL hQ h1 h2 st 0 (by omega) _ (by omega) S00 _ M hb ht e62⟩
    refine ⟨by omega, pk_le 12 12 (fun _ => q_peers hb ?_) (fun z => absurd z (by omega))⟩
    rw [p0]
    refine ⟨fun _ => q_rounds hb ?_, fun z => absurd rfl z⟩
    rw [r0]
    refine ⟨fun _ => q_holders hb (p := 11) (by omega) rfl ?_, fun z => absurd rfl z⟩
    rw [c0]
    refine ⟨fun _ => ⟨by omega, ?_⟩, fun z => absurd rfl z⟩
    rw [show Int32.ofNat L / 3 = nI (L / 3) from pk_div (a := L) (d := 3) (by omega) (by decide) (by decide)]
    exact pk_le (L / 3) 60 (fun h => go _ h (by omega)) (fun h => go 60 (by omega) (by omega))
  | succ d ih =>
    intro i hi M cb e61 c61 e62
    have nx := ih (i + 1) (by omega)
    show b_L_law_15 L xs Q X (l_L_law_15 L xs Q X (d + 1)) M _ _
    unfold b_L_law_15
    refine ⟨by omega, pk_le 12 i (fun z => absurd z (by omega)) (fun _ => ⟨e61, in3 (by omega), fun M1 e1 v hv => ?_⟩)⟩
    rw [k3p (by omega)] at e1
    rw [hv, nI_1]
    refine nx M1 (cb.w61 e1) (by rw [e1, mE_wI]; exact e61) (fun j hj => ?_) (by rw [e1, mE_wI]; exact e62)
    rw [e1, mI_wI]
    by_cases z : j = 3 + i
    · rw [if_pos ⟨rfl, rfl, z⟩, if_pos (by omega)]; rfl
    · rw [if_neg (by omega), c61 j hj]
      congr 1
      by_cases w : 3 ≤ j ∧ j < 3 + i
      · rw [if_pos w, if_pos (by omega)]
      · rw [if_neg w, if_neg (by omega)]
theorem pure_law (L : Nat) (xs : Nat → Int32) (hL : L ≤ 260) : w_L_law L xs M00 (fun r _ => r = 1) (fun _ _ => False) := by
  refine ⟨rfl, fun M3 e3 => ?_⟩
  subst e3
  refine p_X4_init (fun M7 g7 f7 => ⟨?_, fun M13 e13 => ?_⟩)
  · rw [g7.1]
    unfold hallM
    simp [mE_N, mE_wI, mE_wF, m00_e]
  · obtain ⟨b1, b2, b3, b4⟩ := cb_0 g7 f7 e13
    refine ⟨13, law_fill hL (fun _ => rfl) 12 0 rfl M13 b1 b2 (fun j _ => ?_) b4⟩
    rw [b3, if_neg (by omega)]; rfl
end LAW6
