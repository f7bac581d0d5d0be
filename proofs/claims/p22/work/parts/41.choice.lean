/-! whom one chooses, what one shows -/
theorem bestG_none {S : SS} {i left : Nat} : ∀ {k : Nat}, bestG S i left k = none → ∀ j, j < k → left.testBit j = false
  | 0, _, j, hj => absurd hj (Nat.not_lt_zero _)
  | k + 1, h, j, hj => by
    rw [bestG] at h
    split at h
    · rename_i hn
      split at h
      · cases h
      · rename_i hb
        by_cases e : j = k
        · subst e; simpa using hb
        · exact bestG_none hn j (by omega)
    · split at h <;> cases h
theorem bestG_max {S : SS} {i left : Nat} : ∀ {k q : Nat}, bestG S i left k = some q → ∀ j, j < k → left.testBit j = true → sGot S i j ≤ sGot S i q
  | 0, q, h, _, _, _ => by cases h
  | k + 1, q, h, j, hj, hb => by
    rw [bestG] at h
    split at h
    · rename_i hn
      by_cases e : j = k
      · subst e
        rw [if_pos hb] at h
        cases h; exact Nat.le_refl _
      · rw [bestG_none hn j (by omega)] at hb; cases hb
    · rename_i q2 h2
      by_cases e : j = k
      · subst e
        split at h
        · cases h; exact Nat.le_refl _
        · rename_i hc
          cases h
          simp [hb] at hc
          exact hc
      · have := bestG_max h2 j (by omega) hb
        split at h
        · rename_i hc
          cases h
          simp at hc
          omega
        · cases h; exact this
theorem turnF_none {S : SS} {left : Nat} : ∀ {k : Nat}, turnF S left k = none → ∀ j, j < k → left.testBit ((sR S + j) % 6) = false
  | 0, _, j, hj => absurd hj (Nat.not_lt_zero _)
  | k + 1, h, j, hj => by
    rw [turnF] at h
    split at h
    · cases h
    · rename_i hn
      split at h
      · cases h
      · rename_i hb
        by_cases e : j = k
        · subst e; simpa using hb
        · exact turnF_none hn j (by omega)
theorem set_0 {x : Nat} (hx : x < 2 ^ 6) (h : ∀ j, j < 6 → x.testBit j = false) : x = 0 := eq_bits hx (Nat.two_pow_pos 6) (fun k hk => by rw [h k hk, Nat.zero_testBit])
theorem turnF_0 {S : SS} {left : Nat} (hl : left < 2 ^ 6) (h : turnF S left 6 = none) : left = 0 := set_0 hl (fun j hj => by
  have := turnF_none h ((j + 6 - sR S % 6) % 6) (Nat.mod_lt _ (by omega))
  rwa [show (sR S + (j + 6 - sR S % 6) % 6) % 6 = j by omega] at this)
theorem nd_2 {x a k : Nat} : (nd x (2 ^ a)).testBit k = (x.testBit k && !decide (a = k)) := by rw [nd_bit, Nat.testBit_two_pow]
theorem bestG_0 {S : SS} {i k : Nat} : bestG S i 0 k = none := by
  cases h : bestG S i 0 k with
  | none => rfl
  | some q => have := (bestG_lt h).2; rw [Nat.zero_testBit] at this; cases this
theorem turnG_0 {S : SS} {k : Nat} : turnF S 0 k = none := by
  cases h : turnF S 0 k with
  | none => rfl
  | some q => have := (turnF_lt h).2; rw [Nat.zero_testBit] at this; cases this
theorem nd_0 (h : Nat) : nd 0 h = 0 := by unfold nd; simp
/-- nobody, one, two, or three, two of whom gave as much as any other one -/
theorem ch_cases (S : SS) (i : Nat) : (intr S i = 0 ∧ chosen S i = 0) ∨
    (∃ a, a < 6 ∧ (intr S i).testBit a = true ∧ chosen S i = 2 ^ a ∧ nd (intr S i) (2 ^ a) = 0) ∨
    (∃ a b, a < 6 ∧ b < 6 ∧ a ≠ b ∧ (intr S i).testBit a = true ∧ (intr S i).testBit b = true ∧ chosen S i = 2 ^ a ||| 2 ^ b ∧ nd (nd (intr S i) (2 ^ a)) (2 ^ b) = 0) ∨
    (∃ a b c, a < 6 ∧ b < 6 ∧ c < 6 ∧ a ≠ b ∧ a ≠ c ∧ b ≠ c ∧ (intr S i).testBit a = true ∧ (intr S i).testBit b = true ∧ (intr S i).testBit c = true ∧ chosen S i = 2 ^ a ||| 2 ^ b ||| 2 ^ c ∧
      ∀ k, k < 6 → (intr S i).testBit k = true → k ≠ a → sGot S i k ≤ sGot S i a ∧ (k ≠ b → sGot S i k ≤ sGot S i b)) := by
  have hi := intr_lt S i
  have h1 := left1_lt S i
  have h2 := left2_lt S i
  cases b1 : bestG S i (intr S i) 6 with
  | none =>
    left
    have z := set_0 hi (bestG_none b1)
    have z1 : left1 S i = 0 := by unfold left1; rw [z, nd_0]
    have z2 : left2 S i = 0 := by unfold left2; rw [z1, nd_0]
    refine ⟨z, ?_⟩
    unfold chosen
    rw [z1, z2, b1, bestG_0, turnG_0]; rfl
  | some a =>
    obtain ⟨a6, ha⟩ := bestG_lt b1
    have ma := bestG_max b1
    have l1 : left1 S i = nd (intr S i) (2 ^ a) := by unfold left1; rw [b1]; rfl
    right
    cases b2' : bestG S i (left1 S i) 6 with
    | none =>
      left
      have z1 := set_0 h1 (bestG_none b2')
      have z2 : left2 S i = 0 := by unfold left2; rw [z1, nd_0]
      refine ⟨a, a6, ha, ?_, by rw [← l1]; exact z1⟩
      unfold chosen
      rw [z2, b1, b2', turnG_0]
      simp [single]
    | some b =>
      obtain ⟨b6, hb⟩ := bestG_lt b2'
      have mb := bestG_max b2'
      have l2 : left2 S i = nd (left1 S i) (2 ^ b) := by unfold left2; rw [b2']; rfl
      rw [l1, nd_2] at hb
      simp at hb
      right
      cases b3 : turnF S (left2 S i) 6 with
      | none =>
        left
        have z2 := turnF_0 h2 b3
        refine ⟨a, b, a6, b6, hb.2, ha, hb.1, ?_, by rw [← l1, ← l2]; exact z2⟩
        unfold chosen
        rw [b1, b2', b3]
        simp [single]
      | some c =>
        obtain ⟨c6, hc⟩ := turnF_lt b3
        rw [l2, nd_2, l1, nd_2] at hc
        simp at hc
        right
        refine ⟨a, b, c, a6, b6, c6, hb.2, hc.1.2, hc.2, ha, hb.1, hc.1.1, ?_, fun k hk hki hka => ⟨ma k hk hki, fun hkb => mb k hk ?_⟩⟩
        · unfold chosen
          rw [b1, b2', b3]; rfl
        · rw [l1, nd_2, hki]; simp; omega
theorem pc_rm : ∀ x, x < 64 → ∀ q, q < 6 → x.testBit q = true → pcT x 12 = pcT (nd x (2 ^ q)) 12 + 1 := by decide +kernel
theorem pc_1 : ∀ a, a < 6 → pcT (2 ^ a) 12 = 1 := by decide +kernel
theorem pc_2 : ∀ a, a < 6 → ∀ b, b < 6 → a ≠ b → pcT (2 ^ a ||| 2 ^ b) 12 = 2 := by decide +kernel
theorem pc_3 : ∀ a, a < 6 → ∀ b, b < 6 → ∀ c, c < 6 → (a ≠ b ∧ a ≠ c ∧ b ≠ c) → pcT (2 ^ a ||| 2 ^ b ||| 2 ^ c) 12 = 3 := by decide +kernel
theorem pc_0 : pcT 0 12 = 0 := by decide +kernel
theorem ch_count (S : SS) (i : Nat) : pcT (chosen S i) 12 = if pcT (intr S i) 12 < 3 then pcT (intr S i) 12 else 3 := by
  have hi := intr_lt S i
  rcases ch_cases S i with ⟨z, zc⟩ | ⟨a, a6, ha, hc, hz⟩ | ⟨a, b, a6, b6, hab, ha, hb, hc, hz⟩ | ⟨a, b, c, a6, b6, c6, hab, hac, hbc, ha, hb, hcc, hc, -⟩
  · rw [z, zc, pc_0]; rfl
  · rw [hc, pc_1 a a6, pc_rm _ hi a a6 ha, hz, pc_0]; rfl
  · rw [hc, pc_2 a a6 b b6 hab, pc_rm _ hi a a6 ha, pc_rm _ (nd_lt hi) b b6 (by rw [nd_2, hb]; simp; omega), hz, pc_0]; rfl
  · rw [hc, pc_3 a a6 b b6 c c6 ⟨hab, hac, hbc⟩, pc_rm _ hi a a6 ha, pc_rm _ (nd_lt hi) b b6 (by rw [nd_2, hb]; simp; omega), pc_rm _ (nd_lt (nd_lt hi)) c c6 (by rw [nd_2, nd_2, hcc]; simp; omega), if_neg (by omega)]
theorem p2_bit (a k : Nat) : (2 ^ a).testBit k = decide (a = k) := Nat.testBit_two_pow
theorem ch_sub (S : SS) (i k : Nat) (h : (chosen S i).testBit k = true) : (intr S i).testBit k = true := by
  rcases ch_cases S i with ⟨z, zc⟩ | ⟨a, a6, ha, hc, -⟩ | ⟨a, b, a6, b6, hab, ha, hb, hc, -⟩ | ⟨a, b, c, a6, b6, c6, hab, hac, hbc, ha, hb, hcc, hc, -⟩
  · rw [zc, Nat.zero_testBit] at h; cases h
  · rw [hc, p2_bit] at h
    simp at h; rw [← h]; exact ha
  · rw [hc, Nat.testBit_or, p2_bit, p2_bit] at h
    simp at h
    rcases h with h | h
    · rw [← h]; exact ha
    · rw [← h]; exact hb
  · rw [hc, Nat.testBit_or, Nat.testBit_or, p2_bit, p2_bit, p2_bit] at h
    simp at h
    rcases h with (h | h) | h
    · rw [← h]; exact ha
    · rw [← h]; exact hb
    · rw [← h]; exact hcc
theorem intr_hr {S : SS} {i k : Nat} (h : (intr S i).testBit k = true) : k < 6 ∧ hr S k = true ∧ k ≠ i := by
  unfold intr at h
  rw [bs_bit] at h
  unfold wantsB at h
  simp at h
  exact ⟨h.1, h.2.1.1.1, h.2.1.1.2⟩
/-- one that is interested and not chosen: two that are gave as much -/
theorem ch_better {S : SS} (ok : OKS S) {i k : Nat} (hk : (intr S i).testBit k = true) (hc : (chosen S i).testBit k = false) : 2 ≤ sm (fun o => if (chosen S i).testBit o && decide (sGot S i k ≤ sGot S i o) then 1 else 0) (sN S) := by
  rcases ch_cases S i with ⟨z, -⟩ | ⟨a, a6, ha, hca, hz⟩ | ⟨a, b, a6, b6, hab, ha, hb, hcb, hz⟩ | ⟨a, b, c, a6, b6, c6, hab, hac, hbc, ha, hb, hcc, hch, hm⟩
  · rw [z, Nat.zero_testBit] at hk; cases hk
  · have : (nd (intr S i) (2 ^ a)).testBit k = false := by rw [hz, Nat.zero_testBit]
    rw [hca, p2_bit] at hc
    rw [nd_2, hk, hc] at this
    cases this
  · have : (nd (nd (intr S i) (2 ^ a)) (2 ^ b)).testBit k = false := by rw [hz, Nat.zero_testBit]
    rw [hcb, Nat.testBit_or, p2_bit, p2_bit] at hc
    simp at hc
    rw [nd_2, nd_2, hk] at this
    simp [hc.1, hc.2] at this
  · have e := hch
    rw [hch, Nat.testBit_or, Nat.testBit_or, p2_bit, p2_bit, p2_bit] at hc
    simp at hc
    obtain ⟨g1, g2⟩ := hm k (intr_hr hk).1 hk (by omega)
    have ca : (chosen S i).testBit a = true := by rw [hch, Nat.testBit_or, Nat.testBit_or, p2_bit]; simp
    have cb : (chosen S i).testBit b = true := by rw [hch, Nat.testBit_or, Nat.testBit_or, p2_bit, p2_bit]; simp
    have h := sm_two (f := fun o => if (chosen S i).testBit o && decide (sGot S i k ≤ sGot S i o) then 1 else 0) hab (sN S) (ok.here (intr_hr ha).2.1) (ok.here (intr_hr hb).2.1)
    simp only [ca, cb, g1, g2 (by omega), decide_true, Bool.and_self, if_true] at h
    exact h
theorem rarest_none {S : SS} {ps f : Nat} : ∀ {k : Nat}, rarest S ps f k = none → ∀ j, j < k → ps.testBit ((f + j) % 12) = false
  | 0, _, j, hj => absurd hj (Nat.not_lt_zero _)
  | k + 1, h, j, hj => by
    rw [rarest] at h
    split at h
    · split at h
      · cases h
      · split at h <;> cases h
    · rename_i hb
      by_cases e : j = k
      · subst e; simpa using hb
      · exact rarest_none h j (by omega)
theorem shown_can {S : SS} (ok : OKS S) {i o : Nat} (hio : i ≠ o) (hc : sCar S i ≠ 0) : (shown S i o = 0 ∧ nd (sHeld S i) (sHeld S o) = 0) ∨ ∃ q, q < 12 ∧ shown S i o = 2 ^ q ∧ (nd (sHeld S i) (sHeld S o)).testBit q = true := by
  unfold shown
  rw [if_neg hio, if_neg hc]
  cases h : rarest S (nd (sHeld S i) (sHeld S o)) o 12 with
  | none =>
    left
    refine ⟨rfl, eq_bits (nd_lt (ok.held i)) (Nat.two_pow_pos 12) (fun k hk => ?_)⟩
    have := rarest_none h ((k + 12 - o % 12) % 12) (Nat.mod_lt _ (by omega))
    rw [show (o + (k + 12 - o % 12) % 12) % 12 = k by omega] at this
    rw [this, Nat.zero_testBit]
  | some q =>
    right
    have := rarest_lt h
    exact ⟨q, this.1, rfl, this.2⟩
/-- what is held stays held -/
theorem stTo_held (t : Nat × Nat × Nat) {p : Nat} (h : t.1.testBit p = true) : ∀ k, (stTo t k).1.testBit p = true
  | 0 => h
  | k + 1 => by
    have ih := stTo_held t h k
    rw [stTo]
    unfold stP
    split
    · show (if _ then _ else _ : Nat).testBit p = true
      split
      · rw [Nat.testBit_or, ih]; rfl
      · exact ih
    · exact ih
theorem round_held {S : SS} {i p : Nat} (h6 : i < 6) (h : (sHeld S i).testBit p = true) : (sHeld (roundS S).1 i).testBit p = true := by
  have et := round_tri (S := S) h6
  have e4 : sHeld (roundS S).1 i = (stTo (tri (comesTo S (askL S) 6).1 i) 12).1 := by rw [← et]; rfl
  rw [e4]
  refine stTo_held _ ?_ 12
  have e : (tri (comesTo S (askL S) 6).1 i).1 = sHeld S i := comesTo_low (by omega) 6
  rw [e]; exact h
theorem runS_held {S : SS} {i p : Nat} (h6 : i < 6) (h : (sHeld S i).testBit p = true) : ∀ k, (sHeld (runS S k).1 i).testBit p = true
  | 0 => h
  | k + 1 => round_held h6 (runS_held h6 h k)
/-- a piece that isn't complete has less than its four blocks -/
theorem nib_lt {x p : Nat} (h : x &&& blkP p ≠ blkP p) : nib x p < 15 := by
  apply Classical.byContradiction
  intro hn
  have h15 : nib x p = 15 := by
    have : nib x p < 16 := Nat.mod_lt _ (by omega)
    omega
  apply h
  apply Nat.eq_of_testBit_eq
  intro b
  rw [Nat.testBit_and]
  cases hb : (blkP p).testBit b with
  | false => simp
  | true =>
    rw [Bool.and_true]
    rw [blkP_bit] at hb
    simp only [Bool.and_eq_true, decide_eq_true_eq] at hb
    have e : (nib x p).testBit (b - 4 * p) = x.testBit b := by
      unfold nib
      rw [show (16 : Nat) = 2 ^ 4 from rfl, Nat.testBit_mod_two_pow, Nat.testBit_div_two_pow]
      have : decide (b - 4 * p < 4) = true := by simp; omega
      rw [this, Bool.true_and, show b - 4 * p + 4 * p = b by omega]
    rw [← e, h15]
    have : b - 4 * p < 4 := by omega
    match b - 4 * p, this with
    | 0, _ => rfl
    | 1, _ => rfl
    | 2, _ => rfl
    | 3, _ => rfl
