/-! the law's step -/
theorem cell_all {A B : Nat → Nat} (a0 : A 0 = B 0) (a1 : A 1 = B 1) (a2 : A 2 = B 2) (a3 : ∀ p, p < 12 → A (3 + p) = B (3 + p)) (a15 : A 15 = B 15) (a16 : A 16 = B 16) (a17 : ∀ i, i < 6 → A (17 + i) = B (17 + i)) (a23 : ∀ i, i < 6 → A (23 + i) = B (23 + i)) : ∀ j, j < 29 → A j = B j := by
  intro j hj
  by_cases h0 : j = 0
  · rw [h0]; exact a0
  by_cases h1 : j = 1
  · rw [h1]; exact a1
  by_cases h2 : j = 2
  · rw [h2]; exact a2
  by_cases h3 : j < 15
  · have := a3 (j - 3) (by omega)
    rwa [show 3 + (j - 3) = j by omega] at this
  by_cases h15 : j = 15
  · rw [h15]; exact a15
  by_cases h16 : j = 16
  · rw [h16]; exact a16
  by_cases h17 : j < 23
  · have := a17 (j - 17) (by omega)
    rwa [show 17 + (j - 17) = j by omega] at this
  · have := a23 (j - 23) (by omega)
    rwa [show 23 + (j - 23) = j by omega] at this
theorem cell_0 (S : SS) (h : Nat → Nat) : cell S h 0 = sN S := rfl
theorem cell_1 (S : SS) (h : Nat → Nat) : cell S h 1 = pS S := rfl
theorem cell_2 (S : SS) (h : Nat → Nat) : cell S h 2 = sR S := rfl
theorem cell_15 (S : SS) (h : Nat → Nat) : cell S h 15 = carS S := rfl
theorem cell_16 (S : SS) (h : Nat → Nat) : cell S h 16 = seqS S := rfl
theorem pS_same {S S1 : SS} (h : ∀ i, S1 2 i 0 = S 2 i 0) : pS S1 = pS S := by
  unfold pS; congr 1; funext i; unfold hr; rw [h]
theorem carS_same {S S1 : SS} (h : ∀ i, S1 5 i 0 = S 5 i 0) : carS S1 = carS S := by
  unfold carS; congr 1; funext i; unfold sCar; rw [h]
theorem seqS_same {S S1 : SS} (h : ∀ i, S1 6 i 0 = S 6 i 0) : seqS S1 = seqS S := by
  unfold seqS; congr 1; funext i; unfold sSeq; rw [h]
theorem cell_pri (S : SS) (hh : Nat → Nat) {p v : Nat} (hp : p < 12) : ∀ j, j < 29 → cell (sU S 3 p 0 v) hh j = if j = 3 + p then v else cell S hh j := by
  have e : ∀ f a c, f ≠ 3 → sU S 3 p 0 v f a c = S f a c := fun f a c z => sU_f z
  refine cell_all (B := fun j => if j = 3 + p then v else cell S hh j) ?_ ?_ ?_ (fun q hq => ?_) ?_ ?_ (fun i hi => ?_) (fun i hi => ?_)
  · show _ = if 0 = 3 + p then v else cell S hh (0)
    rw [if_neg (by omega)]; rw [cell_0, cell_0]; exact e _ _ _ (by decide)
  · show _ = if 1 = 3 + p then v else cell S hh (1)
    rw [if_neg (by omega)]; rw [cell_1, cell_1]; exact pS_same (fun i => e _ _ _ (by decide))
  · show _ = if 2 = 3 + p then v else cell S hh (2)
    rw [if_neg (by omega)]; rw [cell_2, cell_2]; exact e _ _ _ (by decide)
  · show _ = if 3 + q = 3 + p then v else cell S hh (3 + q)
    rw [cell_pr _ _ hq, cell_pr _ _ hq]
    unfold sPr
    by_cases z : q = p
    · subst z; rw [if_pos rfl, sU_at]
    · rw [if_neg (by omega), sU_i z]
  · show _ = if 15 = 3 + p then v else cell S hh (15)
    rw [if_neg (by omega)]; rw [cell_15, cell_15]; exact carS_same (fun i => e _ _ _ (by decide))
  · show _ = if 16 = 3 + p then v else cell S hh (16)
    rw [if_neg (by omega)]; rw [cell_16, cell_16]; exact seqS_same (fun i => e _ _ _ (by decide))
  · show _ = if 17 + i = 3 + p then v else cell S hh (17 + i)
    rw [if_neg (by omega)]; rw [cell_sp _ _ hi, cell_sp _ _ hi]; exact e _ _ _ (by decide)
  · show _ = if 23 + i = 3 + p then v else cell S hh (23 + i)
    rw [if_neg (by omega)]; rw [cell_h, cell_h]
/-- one bit of a set of peers is set anew -/
theorem bs_set {f : Nat → Bool} {P w : Nat} (hP : P < 6) {g : Nat → Bool} (hg : ∀ k, g k = if k = P then decide (w = 1) else f k) : bs g 6 = spN (bs f 6) P w := by
  apply Nat.eq_of_testBit_eq
  intro k
  rw [spN_bit, bs_bit, bs_bit, hg]
  by_cases z : k = P
  · subst z; simp [hP]
  · rw [if_neg z, if_neg z]
theorem dec1 {w : Nat} (hw : w ≤ 1) : (w == 1) = decide (w = 1) := by
  rcases (show w = 0 ∨ w = 1 by omega) with z | z <;> subst z <;> rfl
theorem cell_seq (S : SS) (hh : Nat → Nat) {P w : Nat} (hP : P < 6) (hw : w ≤ 1) : ∀ j, j < 29 → cell (sU S 6 P 0 w) hh j = if j = 16 then spN (seqS S) P w else cell S hh j := by
  have e : ∀ f a c, f ≠ 6 → sU S 6 P 0 w f a c = S f a c := fun f a c z => sU_f z
  refine cell_all (B := fun j => if j = 16 then spN (seqS S) P w else cell S hh j) ?_ ?_ ?_ (fun q hq => ?_) ?_ ?_ (fun i hi => ?_) (fun i hi => ?_)
  · show _ = if 0 = 16 then spN (seqS S) P w else cell S hh (0)
    rw [if_neg (by omega)]; rw [cell_0, cell_0]; exact e _ _ _ (by decide)
  · show _ = if 1 = 16 then spN (seqS S) P w else cell S hh (1)
    rw [if_neg (by omega)]; rw [cell_1, cell_1]; exact pS_same (fun i => e _ _ _ (by decide))
  · show _ = if 2 = 16 then spN (seqS S) P w else cell S hh (2)
    rw [if_neg (by omega)]; rw [cell_2, cell_2]; exact e _ _ _ (by decide)
  · show _ = if 3 + q = 16 then spN (seqS S) P w else cell S hh (3 + q)
    rw [if_neg (by omega)]; rw [cell_pr _ _ hq, cell_pr _ _ hq]; exact e _ _ _ (by decide)
  · show _ = if 15 = 16 then spN (seqS S) P w else cell S hh (15)
    rw [if_neg (by omega)]; rw [cell_15, cell_15]; exact carS_same (fun i => e _ _ _ (by decide))
  · show _ = if 16 = 16 then spN (seqS S) P w else cell S hh (16)
    rw [if_pos rfl, cell_16]
    refine bs_set hP (fun k => ?_)
    unfold sSeq
    by_cases z : k = P
    · subst z; rw [if_pos rfl, sU_at]; exact dec1 hw
    · rw [if_neg z, sU_i z]
  · show _ = if 17 + i = 16 then spN (seqS S) P w else cell S hh (17 + i)
    rw [if_neg (by omega)]; rw [cell_sp _ _ hi, cell_sp _ _ hi]; exact e _ _ _ (by decide)
  · show _ = if 23 + i = 16 then spN (seqS S) P w else cell S hh (23 + i)
    rw [if_neg (by omega)]; rw [cell_h, cell_h]
theorem cell_car (S : SS) (hh : Nat → Nat) {P w : Nat} (hP : P < 6) (hw : w ≤ 1) : ∀ j, j < 29 → cell (sU S 5 P 0 w) hh j = if j = 15 then spN (carS S) P w else cell S hh j := by
  have e : ∀ f a c, f ≠ 5 → sU S 5 P 0 w f a c = S f a c := fun f a c z => sU_f z
  refine cell_all (B := fun j => if j = 15 then spN (carS S) P w else cell S hh j) ?_ ?_ ?_ (fun q hq => ?_) ?_ ?_ (fun i hi => ?_) (fun i hi => ?_)
  · show _ = if 0 = 15 then spN (carS S) P w else cell S hh (0)
    rw [if_neg (by omega)]; rw [cell_0, cell_0]; exact e _ _ _ (by decide)
  · show _ = if 1 = 15 then spN (carS S) P w else cell S hh (1)
    rw [if_neg (by omega)]; rw [cell_1, cell_1]; exact pS_same (fun i => e _ _ _ (by decide))
  · show _ = if 2 = 15 then spN (carS S) P w else cell S hh (2)
    rw [if_neg (by omega)]; rw [cell_2, cell_2]; exact e _ _ _ (by decide)
  · show _ = if 3 + q = 15 then spN (carS S) P w else cell S hh (3 + q)
    rw [if_neg (by omega)]; rw [cell_pr _ _ hq, cell_pr _ _ hq]; exact e _ _ _ (by decide)
  · show _ = if 15 = 15 then spN (carS S) P w else cell S hh (15)
    rw [if_pos rfl, cell_15]
    refine bs_set hP (fun k => ?_)
    unfold sCar
    by_cases z : k = P
    · subst z; rw [if_pos rfl, sU_at]; exact dec1 hw
    · rw [if_neg z, sU_i z]
  · show _ = if 16 = 15 then spN (carS S) P w else cell S hh (16)
    rw [if_neg (by omega)]; rw [cell_16, cell_16]; exact seqS_same (fun i => e _ _ _ (by decide))
  · show _ = if 17 + i = 15 then spN (carS S) P w else cell S hh (17 + i)
    rw [if_neg (by omega)]; rw [cell_sp _ _ hi, cell_sp _ _ hi]; exact e _ _ _ (by decide)
  · show _ = if 23 + i = 15 then spN (carS S) P w else cell S hh (23 + i)
    rw [if_neg (by omega)]; rw [cell_h, cell_h]
theorem cell_spo (S : SS) (hh : Nat → Nat) {P v : Nat} (hP : P < 6) : ∀ j, j < 29 → cell (sU S 7 P 0 v) hh j = if j = 17 + P then v else cell S hh j := by
  have e : ∀ f a c, f ≠ 7 → sU S 7 P 0 v f a c = S f a c := fun f a c z => sU_f z
  refine cell_all (B := fun j => if j = 17 + P then v else cell S hh j) ?_ ?_ ?_ (fun q hq => ?_) ?_ ?_ (fun i hi => ?_) (fun i hi => ?_)
  · show _ = if 0 = 17 + P then v else cell S hh (0)
    rw [if_neg (by omega)]; rw [cell_0, cell_0]; exact e _ _ _ (by decide)
  · show _ = if 1 = 17 + P then v else cell S hh (1)
    rw [if_neg (by omega)]; rw [cell_1, cell_1]; exact pS_same (fun i => e _ _ _ (by decide))
  · show _ = if 2 = 17 + P then v else cell S hh (2)
    rw [if_neg (by omega)]; rw [cell_2, cell_2]; exact e _ _ _ (by decide)
  · show _ = if 3 + q = 17 + P then v else cell S hh (3 + q)
    rw [if_neg (by omega)]; rw [cell_pr _ _ hq, cell_pr _ _ hq]; exact e _ _ _ (by decide)
  · show _ = if 15 = 17 + P then v else cell S hh (15)
    rw [if_neg (by omega)]; rw [cell_15, cell_15]; exact carS_same (fun i => e _ _ _ (by decide))
  · show _ = if 16 = 17 + P then v else cell S hh (16)
    rw [if_neg (by omega)]; rw [cell_16, cell_16]; exact seqS_same (fun i => e _ _ _ (by decide))
  · show _ = if 17 + i = 17 + P then v else cell S hh (17 + i)
    rw [cell_sp _ _ hi, cell_sp _ _ hi]
    unfold sSp
    by_cases z : i = P
    · subst z; rw [if_pos rfl, sU_at]
    · rw [if_neg (by omega), sU_i z]
  · show _ = if 23 + i = 17 + P then v else cell S hh (23 + i)
    rw [if_neg (by omega)]; rw [cell_h, cell_h]
theorem cell_lea (S : SS) (hh : Nat → Nat) {P : Nat} (hP : P < 6) : ∀ j, j < 29 → cell (sU S 2 P 0 0) hh j = if j = 1 then nd (pS S) (2 ^ P) else cell S hh j := by
  have e : ∀ f a c, f ≠ 2 → sU S 2 P 0 0 f a c = S f a c := fun f a c z => sU_f z
  refine cell_all (B := fun j => if j = 1 then nd (pS S) (2 ^ P) else cell S hh j) ?_ ?_ ?_ (fun q hq => ?_) ?_ ?_ (fun i hi => ?_) (fun i hi => ?_)
  · show _ = if 0 = 1 then nd (pS S) (2 ^ P) else cell S hh (0)
    rw [if_neg (by omega)]; rw [cell_0, cell_0]; exact e _ _ _ (by decide)
  · show _ = if 1 = 1 then nd (pS S) (2 ^ P) else cell S hh (1)
    rw [if_pos rfl, cell_1]
    apply Nat.eq_of_testBit_eq
    intro k
    rw [nd_2, pS_bit, pS_bit, leave_hr1]
    by_cases z : k = P
    · subst z; simp
    · rw [if_neg z]
      have : decide (P = k) = false := by simp; omega
      rw [this]; simp
  · show _ = if 2 = 1 then nd (pS S) (2 ^ P) else cell S hh (2)
    rw [if_neg (by omega)]; rw [cell_2, cell_2]; exact e _ _ _ (by decide)
  · show _ = if 3 + q = 1 then nd (pS S) (2 ^ P) else cell S hh (3 + q)
    rw [if_neg (by omega)]; rw [cell_pr _ _ hq, cell_pr _ _ hq]; exact e _ _ _ (by decide)
  · show _ = if 15 = 1 then nd (pS S) (2 ^ P) else cell S hh (15)
    rw [if_neg (by omega)]; rw [cell_15, cell_15]; exact carS_same (fun i => e _ _ _ (by decide))
  · show _ = if 16 = 1 then nd (pS S) (2 ^ P) else cell S hh (16)
    rw [if_neg (by omega)]; rw [cell_16, cell_16]; exact seqS_same (fun i => e _ _ _ (by decide))
  · show _ = if 17 + i = 1 then nd (pS S) (2 ^ P) else cell S hh (17 + i)
    rw [if_neg (by omega)]; rw [cell_sp _ _ hi, cell_sp _ _ hi]; exact e _ _ _ (by decide)
  · show _ = if 23 + i = 1 then nd (pS S) (2 ^ P) else cell S hh (23 + i)
    rw [if_neg (by omega)]; rw [cell_h, cell_h]
theorem cell_joi (S : SS) (hh : Nat → Nat) {hv : Nat} (hn : sN S ≤ 5) : ∀ j, j < 29 → cell (jS S hv) (fun k => if k = sN S then hv else hh k) j = if j = 0 then sN S + 1 else if j = 23 + sN S then hv else if j = 1 then pS S ||| 2 ^ sN S else cell S hh j := by
  have e : ∀ f a c, f ≠ 0 ∧ f ≠ 2 ∧ f ≠ 4 → jS S hv f a c = S f a c := fun f a c z => jS_e (Or.inl z)
  refine cell_all (B := fun j => if j = 0 then sN S + 1 else if j = 23 + sN S then hv else if j = 1 then pS S ||| 2 ^ sN S else cell S hh j) ?_ ?_ ?_ (fun q hq => ?_) ?_ ?_ (fun i hi => ?_) (fun i hi => ?_)
  · show _ = if 0 = 0 then sN S + 1 else if 0 = 23 + sN S then hv else if 0 = 1 then pS S ||| 2 ^ sN S else cell S hh (0)
    rw [if_pos rfl, cell_0]; exact jS_n S hv
  · show _ = if 1 = 0 then sN S + 1 else if 1 = 23 + sN S then hv else if 1 = 1 then pS S ||| 2 ^ sN S else cell S hh (1)
    rw [if_neg (by omega), if_neg (by omega), if_pos rfl, cell_1]
    apply Nat.eq_of_testBit_eq
    intro k
    rw [Nat.testBit_or, pS_bit, pS_bit, jS_hr, p2_bit]
    by_cases z : k = sN S
    · subst z; simp; omega
    · rw [if_neg z]
      have : decide (sN S = k) = false := by simp; omega
      rw [this]; simp
  · show _ = if 2 = 0 then sN S + 1 else if 2 = 23 + sN S then hv else if 2 = 1 then pS S ||| 2 ^ sN S else cell S hh (2)
    rw [if_neg (by omega), if_neg (by omega), if_neg (by omega)]; rw [cell_2, cell_2]; exact e _ _ _ (by decide)
  · show _ = if 3 + q = 0 then sN S + 1 else if 3 + q = 23 + sN S then hv else if 3 + q = 1 then pS S ||| 2 ^ sN S else cell S hh (3 + q)
    rw [if_neg (by omega), if_neg (by omega), if_neg (by omega)]; rw [cell_pr _ _ hq, cell_pr _ _ hq]; exact e _ _ _ (by decide)
  · show _ = if 15 = 0 then sN S + 1 else if 15 = 23 + sN S then hv else if 15 = 1 then pS S ||| 2 ^ sN S else cell S hh (15)
    rw [if_neg (by omega), if_neg (by omega), if_neg (by omega)]; rw [cell_15, cell_15]; exact carS_same (fun i => e _ _ _ (by decide))
  · show _ = if 16 = 0 then sN S + 1 else if 16 = 23 + sN S then hv else if 16 = 1 then pS S ||| 2 ^ sN S else cell S hh (16)
    rw [if_neg (by omega), if_neg (by omega), if_neg (by omega)]; rw [cell_16, cell_16]; exact seqS_same (fun i => e _ _ _ (by decide))
  · show _ = if 17 + i = 0 then sN S + 1 else if 17 + i = 23 + sN S then hv else if 17 + i = 1 then pS S ||| 2 ^ sN S else cell S hh (17 + i)
    rw [if_neg (by omega), if_neg (by omega), if_neg (by omega)]; rw [cell_sp _ _ hi, cell_sp _ _ hi]; exact e _ _ _ (by decide)
  · show _ = if 23 + i = 0 then sN S + 1 else if 23 + i = 23 + sN S then hv else if 23 + i = 1 then pS S ||| 2 ^ sN S else cell S hh (23 + i)
    rw [cell_h, cell_h, if_neg (show ¬ 23 + i = 0 by omega)]
    show (if i = sN S then hv else hh i) = _
    by_cases z : i = sN S
    · rw [if_pos z, if_pos (by omega)]
    · rw [if_neg z, if_neg (by omega), if_neg (by omega)]
