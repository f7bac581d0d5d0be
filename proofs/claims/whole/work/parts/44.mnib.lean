/-! four blocks at a time -/
theorem nib_bit (x p k : Nat) : (nib x p).testBit k = (decide (k < 4) && x.testBit (4 * p + k)) := by
  unfold nib
  rw [show (16 : Nat) = 2 ^ 4 from rfl, Nat.testBit_mod_two_pow, Nat.testBit_div_two_pow]
  rw [Nat.add_comm]
theorem nib_lt (x p : Nat) : nib x p < 16 := Nat.mod_lt _ (by omega)
theorem nib_or (x y p : Nat) : nib (x ||| y) p = nib x p ||| nib y p := by
  apply Nat.eq_of_testBit_eq; intro k
  rw [nib_bit, Nat.testBit_or, Nat.testBit_or, nib_bit, nib_bit]
  cases decide (k < 4) <;> rfl
theorem nib_nd (x y p : Nat) : nib (nd x y) p = nd (nib x p) (nib y p) := by
  apply Nat.eq_of_testBit_eq; intro k
  rw [nib_bit, nd_bit, nd_bit, nib_bit, nib_bit]
  cases decide (k < 4) <;> cases x.testBit (4 * p + k) <;> cases y.testBit (4 * p + k) <;> rfl
theorem b15 (k : Nat) : (15 : Nat).testBit k = decide (k < 4) := by
  rw [show (15 : Nat) = 2 ^ 4 - 1 from rfl, Nat.testBit_two_pow_sub_one]
theorem nib_z {x p : Nat} : nib x p = 0 ↔ x &&& blkP p = 0 := by
  constructor
  · intro h
    apply Nat.eq_of_testBit_eq; intro b
    rw [Nat.testBit_and, blkP_b4, Nat.zero_testBit]
    by_cases e : b / 4 = p
    · have := nib_bit x p (b % 4)
      rw [h, Nat.zero_testBit, show 4 * p + b % 4 = b by omega] at this
      have e4 : b % 4 < 4 := by omega
      simp [e4] at this
      simp [this]
    · simp [e]
  · intro h
    apply Nat.eq_of_testBit_eq; intro k
    rw [nib_bit, Nat.zero_testBit]
    by_cases e : k < 4
    · have : (x &&& blkP p).testBit (4 * p + k) = false := by rw [h, Nat.zero_testBit]
      rw [Nat.testBit_and, blkP_b4] at this
      have e4 : (4 * p + k) / 4 = p := by omega
      simp [e4] at this
      simp [this]
    · simp [e]
theorem nib_f {x p : Nat} : nib x p = 15 ↔ x &&& blkP p = blkP p := by
  constructor
  · intro h
    apply Nat.eq_of_testBit_eq; intro b
    rw [Nat.testBit_and, blkP_b4]
    by_cases e : b / 4 = p
    · have := nib_bit x p (b % 4)
      rw [h, b15, show 4 * p + b % 4 = b by omega] at this
      have e4 : b % 4 < 4 := by omega
      simp [e4] at this
      simp [← this]
    · simp [e]
  · intro h
    apply Nat.eq_of_testBit_eq; intro k
    rw [nib_bit, b15]
    by_cases e : k < 4
    · have : (x &&& blkP p).testBit (4 * p + k) = (blkP p).testBit (4 * p + k) := by rw [h]
      rw [Nat.testBit_and, blkP_b4] at this
      have e4 : (4 * p + k) / 4 = p := by omega
      simp [e4] at this
      simp [this]
    · simp [e]
theorem nib_2 {b p : Nat} : nib (2 ^ b) p = if b / 4 = p then 2 ^ (b % 4) else 0 := by
  apply Nat.eq_of_testBit_eq; intro k
  rw [nib_bit, Nat.testBit_two_pow]
  by_cases e : b / 4 = p
  · rw [if_pos e, Nat.testBit_two_pow]
    by_cases e2 : b % 4 = k
    · have e3 : b = 4 * p + k := by omega
      have e4 : k < 4 := by omega
      simp [e3, e4]
    · have : ¬ (k < 4 ∧ b = 4 * p + k) := by omega
      simp [e2]; omega
  · rw [if_neg e, Nat.zero_testBit]
    simp; omega
theorem blk_bit (ps b : Nat) : (blk ps).testBit b = (decide (b < 48) && ps.testBit (b / 4)) := bs_bit _ _ _
theorem want_lack (S : SS) (i : Nat) : nd (wantS S) (sHeld S i) = lackS S i := by
  apply Nat.eq_of_testBit_eq; intro k
  unfold wantS lackS
  rw [nd_bit, bs_bit, bs_bit]
  cases decide (k < 12) <;> cases decide (0 < sPr S k) <;> cases (sHeld S i).testBit k <;> rfl
theorem nib_blk {ps p : Nat} (hp : p < 12) : nib (blk ps) p = if ps.testBit p then 15 else 0 := by
  apply Nat.eq_of_testBit_eq; intro k
  rw [nib_bit, blk_bit]
  by_cases e : k < 4
  · have e1 : 4 * p + k < 48 := by omega
    have e2 : (4 * p + k) / 4 = p := by omega
    rw [e2]
    cases ps.testBit p
    · simp
    · simp [e, e1, b15]
  · have : (15 : Nat).testBit k = false := by rw [b15]; simp [e]
    cases ps.testBit p <;> simp [e, this]
theorem nib_and (x y p : Nat) : nib (x &&& y) p = nib x p &&& nib y p := by
  apply Nat.eq_of_testBit_eq; intro k
  rw [nib_bit, Nat.testBit_and, Nat.testBit_and, nib_bit, nib_bit]
  cases decide (k < 4) <;> cases x.testBit (4 * p + k) <;> cases y.testBit (4 * p + k) <;> rfl
/-- what is asked for of a piece -/
def avail (S : SS) (i o : Nat) : Nat := missing S i &&& blk (shown S o i)
theorem nib_av {S : SS} {i o p : Nat} (hp : p < 12) : nib (avail S i o) p = if (shown S o i &&& lackS S i).testBit p then nd 15 (nib (sHad S i) p) else 0 := by
  unfold avail missing
  rw [nib_and, nib_nd, nib_blk hp, nib_blk hp, want_lack, Nat.testBit_and]
  have n15 : ∀ x : Nat, nd 15 x &&& 15 = nd 15 x := fun x => by
    apply Nat.eq_of_testBit_eq; intro k
    rw [Nat.testBit_and, nd_bit, b15]
    cases decide (k < 4) <;> cases x.testBit k <;> rfl
  have n0 : ∀ x : Nat, nd 0 x = 0 := fun x => by unfold nd; simp
  cases (shown S o i).testBit p <;> cases (lackS S i).testBit p <;> simp [n0, n15]
theorem avail_lt (S : SS) (i o : Nat) : avail S i o < 2 ^ 48 := by
  unfold avail; exact and_lt (nd_lt (bs_lt _ _))
theorem p_lowest {M : Mem} {Q : Int32 → Mem → Prop} {x : Nat} {y : Int32} (k : Nat) (hy : y = nI x) (hx : x < 16) (hk : k < 4) (hb : x.testBit k = true) (hl : ∀ j, j < k → x.testBit j = false) (hQ : Q (nI k) M) : w_X5_lowest M y Q := by
  subst hy
  have loop : ∀ d j, j + d = k → l_X5_lowest_2 Q (d + 1) M (nI x) (nI j) := by
    intro d
    induction d with
    | zero =>
      intro j hj
      have e : j = k := by omega
      subst e
      show b_X5_lowest_2 Q _ M _ _
      unfold b_X5_lowest_2
      exact p_has x j rfl rfl (by omega) (by omega) (fun _ => t1 hQ) (fun z => by rw [hb] at z; cases z)
    | succ d ih =>
      intro j hj
      show b_X5_lowest_2 Q (l_X5_lowest_2 Q (d + 1)) M _ _
      unfold b_X5_lowest_2
      refine p_has x j rfl rfl (by omega) (by omega) (fun z => by rw [hl j (by omega)] at z; cases z) (fun _ => t0 (fun v hv => ?_))
      rw [hv, nI_1]
      exact ih (j + 1) (by omega)
  exact ⟨k + 1, loop k 0 (by omega)⟩
/-! who is better -/
def rk (S : SS) (i asked p : Nat) : Nat := (((b2 (begun S i asked p)) * 4 + sPr S p) * 7 + (if sSeq S i = 0 then 6 - cH S p 6 else 0)) * 12 + (11 - p)
theorem better_rk {S : SS} (ok : OKS S) {i asked p q : Nat} (hp : p < 12) (hq : q < 12) : better S i asked p q = decide (rk S i asked q < rk S i asked p) := by
  have p1 := ok.pr p
  have p2 := ok.pr q
  have c1 := cH_le S p 6
  have c2 := cH_le S q 6
  unfold better rk
  by_cases hs : sSeq S i = 0
  · simp only [hs, if_true, true_and]
    cases begun S i asked p <;> cases begun S i asked q <;> simp only [b2, if_true, bne_self_eq_false, Bool.false_eq_true, if_false, bne_iff_ne, ne_eq, not_false_eq_true, Bool.true_eq_false, reduceCtorEq]
    · split
      · rw [decide_eq_decide]; omega
      · split
        · rw [decide_eq_decide]; omega
        · rw [decide_eq_decide]; omega
    · symm; simp only [decide_eq_false_iff_not]; omega
    · symm; simp only [decide_eq_true_eq]; omega
    · split
      · rw [decide_eq_decide]; omega
      · split
        · rw [decide_eq_decide]; omega
        · rw [decide_eq_decide]; omega
  · simp only [hs, if_false, false_and]
    cases begun S i asked p <;> cases begun S i asked q <;> simp only [b2, if_true, bne_self_eq_false, Bool.false_eq_true, if_false, bne_iff_ne, ne_eq, not_false_eq_true, Bool.true_eq_false, reduceCtorEq]
    · split
      · rw [decide_eq_decide]; omega
      · rw [decide_eq_decide]; omega
    · symm; simp only [decide_eq_false_iff_not]; omega
    · symm; simp only [decide_eq_true_eq]; omega
    · split
      · rw [decide_eq_decide]; omega
      · rw [decide_eq_decide]; omega
