theorem nib_all {x : Nat} (hx : x < 2 ^ 48) : x = 0 ↔ ∀ p, p < 12 → nib x p = 0 := by
  constructor
  · intro h p _; rw [h]; unfold nib; rw [Nat.zero_div]
  · intro h
    apply eq_bits hx (Nat.two_pow_pos _)
    intro b hb
    have h1 := h (b / 4) (by omega)
    have := nib_bit x (b / 4) (b % 4)
    rw [h1, Nat.zero_testBit, show 4 * (b / 4) + b % 4 = b by omega] at this
    have e4 : b % 4 < 4 := by omega
    simp [e4] at this
    rw [this, Nat.zero_testBit]
theorem nd15 {x : Nat} (hx : x < 16) : nd 15 x = 0 ↔ x = 15 := by
  constructor
  · intro h
    apply eq_bits (n := 4) hx (by decide)
    intro k hk
    have : (nd 15 x).testBit k = false := by rw [h, Nat.zero_testBit]
    rw [nd_bit, b15] at this
    simp [hk] at this
    rw [this, b15]; simp [hk]
  · intro h; rw [h]; decide
theorem nib_miss {S : SS} {i p : Nat} (hp : p < 12) : nib (missing S i) p = if (lackS S i).testBit p then nd 15 (nib (sHad S i) p) else 0 := by
  unfold missing
  rw [nib_nd, nib_blk hp, want_lack]
  have n0 : ∀ x : Nat, nd 0 x = 0 := fun x => by unfold nd; simp
  cases (lackS S i).testBit p
  · exact n0 _
  · rfl
def allTo (F : Nat → Bool) : Nat → Bool
  | 0 => true
  | k + 1 => allTo F k && F k
theorem allTo_t {F : Nat → Bool} : ∀ n, allTo F n = true ↔ ∀ k, k < n → F k = true
  | 0 => ⟨fun _ k h => absurd h (Nat.not_lt_zero _), fun _ => rfl⟩
  | n + 1 => by
    rw [allTo, Bool.and_eq_true, allTo_t n]
    constructor
    · rintro ⟨h1, h2⟩ k hk
      by_cases e : k = n
      · subst e; exact h2
      · exact h1 k (by omega)
    · intro h; exact ⟨fun k hk => h k (by omega), h n (by omega)⟩
def doneF (S : SS) (i asked p : Nat) : Bool := !(lackS S i).testBit p || (nib (sHad S i ||| asked) p == 15)
theorem done_all {S : SS} {i asked : Nat} : allTo (doneF S i asked) 12 = decide (nd (missing S i) asked = 0) := by
  rw [Bool.eq_iff_iff, allTo_t, decide_eq_true_eq, nib_all (nd_lt (by unfold missing; exact nd_lt (bs_lt _ _)))]
  refine ⟨fun h p hp => ?_, fun h p hp => ?_⟩
  · have := h p hp
    unfold doneF at this
    rw [nib_nd, nib_miss hp]
    have n0 : ∀ x : Nat, nd 0 x = 0 := fun x => by unfold nd; simp
    cases hl : (lackS S i).testBit p
    · exact n0 _
    · rw [hl] at this
      simp at this
      rw [if_pos rfl, nd_or, ← nib_or, (nd15 (nib_lt _ _))]; exact this
  · have := h p hp
    rw [nib_nd, nib_miss hp] at this
    unfold doneF
    cases hl : (lackS S i).testBit p
    · rfl
    · rw [hl, if_pos rfl, nd_or, ← nib_or, (nd15 (nib_lt _ _))] at this
      simp [this]
theorem p_hasAskedAll {S : SS} {M : Mem} {Q : Int32 → Mem → Prop} {i asked : Nat} {x : Int32} (hx : x = nI i) (h : RepM S M) (ok : OKS S) (hi : i < 6) (hA : AskM M i asked) (hQ : Q (nI (b2 (decide (nd (missing S i) asked = 0)))) M) : w_X5_hasAskedAll M x Q := by
  subst hx
  have loop : ∀ d p, p + d = 12 → l_X5_hasAskedAll_11 Q (d + 1) M (nI i) (nI (lackS S i)) (nI (b2 (allTo (doneF S i asked) p))) (nI p) := by
    intro d
    induction d with
    | zero =>
      intro p hp
      have e : p = 12 := by omega
      subst e
      show b_X5_hasAskedAll_11 Q _ M _ _ _ _
      unfold b_X5_hasAskedAll_11
      rw [done_all]
      refine pk_le 12 12 (fun _ => ⟨?_, hQ⟩) (fun z => absurd z (by omega))
      cases decide (nd (missing S i) asked = 0)
      · exact Or.inl rfl
      · exact Or.inr rfl
    | succ d ih =>
      intro p hp
      have nx := ih (p + 1) (by omega)
      rw [allTo] at nx
      show b_X5_hasAskedAll_11 Q (l_X5_hasAskedAll_11 Q (d + 1)) M _ _ _ _
      unfold b_X5_hasAskedAll_11 b_X5_hasAskedAll_63 b_X5_hasAskedAll_59 b_X5_hasAskedAll_64
      have fin : ∀ b : Bool, (allTo (doneF S i asked) p && doneF S i asked p) = b → ∀ v : Int32, v = nI p + 1 → l_X5_hasAskedAll_11 Q (d + 1) M (nI i) (nI (lackS S i)) (nI (b2 b)) v := by
        intro b hb v hv
        rw [hb] at nx
        rw [hv, nI_1]; exact nx
      refine pk_le 12 p (fun z => absurd z (by omega)) (fun _ => q_b2 _ (fun hb => fin false (by rw [hb]; rfl)) (fun hb => ?_))
      have l12 := lackS_lt S i
      refine p_has (lackS S i) p rfl rfl (by omega) (by omega) (fun hl => t1 ⟨h.e 5, h.f 10, p_at i p rfl rfl ⟨h.e 40, pk_in (12 * i + p) 72 (by omega), h.e 5, h.f 12, p_at i p rfl rfl ⟨h.e 42, pk_in (12 * i + p) 72 (by omega), ?_⟩⟩⟩) (fun hl => t0 (fin true (by rw [hb]; unfold doneF; rw [hl]; rfl)))
      rw [cl _ (by omega), h.had hi (by omega), hA p (by omega), nib_or_z]
      have lt := nib_lt (sHad S i ||| asked) p
      exact pk_eq (nib (sHad S i ||| asked) p) 15 (fun z => fin true (by rw [hb]; unfold doneF; rw [z]; simp)) (fun z => fin false (by rw [hb]; unfold doneF; rw [hl]; simp [z]))
  have l := loop 12 0 rfl
  exact ⟨h.e 5, p_lackedBy i rfl h ok hi ⟨13, l⟩⟩
/-- the lowest from a piece on -/
def LowO (A m : Nat) (r : Option Nat) : Prop := (r = none ∧ ∀ j, 4 * m ≤ j → j < 48 → A.testBit j = false) ∨ ∃ k, r = some k ∧ 4 * m ≤ k ∧ k < 48 ∧ A.testBit k = true ∧ ∀ j, 4 * m ≤ j → j < k → A.testBit j = false
theorem lowF_low (A : Nat) : LowO A 0 (lowF A 48) := by
  cases h : lowF A 48 with
  | none => exact Or.inl ⟨rfl, fun j _ hj => lowF_none h j hj⟩
  | some k =>
    obtain ⟨h1, h2⟩ := lowF_lt h
    refine Or.inr ⟨k, rfl, by omega, h1, h2, fun j _ hj => ?_⟩
    cases hb : lowF A k with
    | none => exact lowF_none hb j hj
    | some q =>
      have h3 := lowF_some hb (48 - k)
      rw [show k + (48 - k) = 48 by omega, h] at h3
      have h4 := (lowF_lt hb).1
      have h5 := Option.some.inj h3
      omega
theorem low_un {A m : Nat} {r r2 : Option Nat} (h : LowO A m r) (h2 : LowO A m r2) : r = r2 := by
  rcases h with ⟨e, hn⟩ | ⟨k, e, a1, a2, a3, a4⟩ <;> rcases h2 with ⟨e2, hn2⟩ | ⟨k2, e2, b1, b2, b3, b4⟩
  · rw [e, e2]
  · rw [hn k2 b1 b2] at b3; cases b3
  · rw [hn2 k a1 a2] at a3; cases a3
  · have : k = k2 := by
      rcases Nat.lt_trichotomy k k2 with z | z | z
      · rw [b4 k a1 z] at a3; cases a3
      · exact z
      · rw [a4 k2 b1 z] at b3; cases b3
    rw [e, e2, this]
/-- the best from a piece on -/
def TopO (S : SS) (i asked F m : Nat) (r : Option Nat) : Prop := (r = none ∧ ∀ p, m ≤ p → p < 12 → F &&& blkP p = 0) ∨ ∃ p, r = some p ∧ m ≤ p ∧ p < 12 ∧ F &&& blkP p ≠ 0 ∧ ∀ j, m ≤ j → j < 12 → F &&& blkP j ≠ 0 → rk S i asked j ≤ rk S i asked p
theorem rk_inj {S : SS} {i asked p q : Nat} (hp : p < 12) (hq : q < 12) (h : rk S i asked p = rk S i asked q) : p = q := by unfold rk at h; omega
theorem top_un {S : SS} {i asked F m : Nat} {r r2 : Option Nat} (h : TopO S i asked F m r) (h2 : TopO S i asked F m r2) : r = r2 := by
  rcases h with ⟨e, hn⟩ | ⟨k, e, a1, a2, a3, a4⟩ <;> rcases h2 with ⟨e2, hn2⟩ | ⟨k2, e2, b1, b2, b3, b4⟩
  · rw [e, e2]
  · exact absurd (hn k2 b1 b2) b3
  · exact absurd (hn2 k a1 a2) a3
  · have c1 := a4 k2 b1 b2 b3
    have c2 := b4 k a1 a2 a3
    have : k = k2 := rk_inj (S := S) (i := i) (asked := asked) a2 b2 (by omega)
    rw [e, e2, this]
theorem bestP_top {S : SS} (ok : OKS S) (i asked F : Nat) : TopO S i asked F 0 (bestP S i asked F 12) := by
  have g : ∀ n, n ≤ 12 → (bestP S i asked F n = none ∧ ∀ p, p < n → F &&& blkP p = 0) ∨ ∃ p, bestP S i asked F n = some p ∧ p < n ∧ F &&& blkP p ≠ 0 ∧ ∀ j, j < n → F &&& blkP j ≠ 0 → rk S i asked j ≤ rk S i asked p := by
    intro n
    induction n with
    | zero => intro _; exact Or.inl ⟨rfl, fun p h => absurd h (Nat.not_lt_zero _)⟩
    | succ n ih =>
      intro hn
      rw [bestP]
      rcases ih (by omega) with ⟨e, h0⟩ | ⟨p, e, a1, a2, a3⟩
      · rw [e]
        show (((if F &&& blkP n ≠ 0 then some n else none) = none ∧ _) ∨ ∃ p, (if F &&& blkP n ≠ 0 then some n else none) = some p ∧ _)
        by_cases hz : F &&& blkP n = 0
        · rw [if_neg (fun z => z hz)]
          refine Or.inl ⟨rfl, fun p hp => ?_⟩
          by_cases e2 : p = n
          · subst e2; exact hz
          · exact h0 p (by omega)
        · rw [if_pos hz]
          refine Or.inr ⟨n, rfl, by omega, hz, fun j hj hjz => ?_⟩
          by_cases e2 : j = n
          · subst e2; exact Nat.le_refl _
          · exact absurd (h0 j (by omega)) hjz
      · rw [e]
        show (((if F &&& blkP n ≠ 0 ∧ better S i asked n p = true then some n else some p) = none ∧ _) ∨ ∃ q, (if F &&& blkP n ≠ 0 ∧ better S i asked n p = true then some n else some p) = some q ∧ _)
        have hbr : better S i asked n p = true ↔ rk S i asked p < rk S i asked n := by rw [better_rk ok (by omega) (by omega), decide_eq_true_eq]
        by_cases hc : F &&& blkP n ≠ 0 ∧ better S i asked n p = true
        · rw [if_pos hc]
          refine Or.inr ⟨n, rfl, by omega, hc.1, fun j hj hjz => ?_⟩
          by_cases e2 : j = n
          · subst e2; exact Nat.le_refl _
          · have := a3 j (by omega) hjz
            have := hbr.mp hc.2
            omega
        · rw [if_neg hc]
          refine Or.inr ⟨p, rfl, by omega, a2, fun j hj hjz => ?_⟩
          by_cases e2 : j = n
          · subst e2
            have : ¬ rk S i asked p < rk S i asked j := fun z => hc ⟨hjz, hbr.mpr z⟩
            omega
          · exact a3 j (by omega) hjz
  rcases g 12 (Nat.le_refl _) with ⟨e, h0⟩ | ⟨p, e, a1, a2, a3⟩
  · exact Or.inl ⟨e, fun p _ hp => h0 p hp⟩
  · exact Or.inr ⟨p, e, Nat.zero_le _, a1, a2, fun j _ hj => a3 j hj⟩
