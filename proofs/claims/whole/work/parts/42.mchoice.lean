def TrM (κ _a k : Nat) : Prop := ¬ ((κ = 5 ∧ (k = 1 ∨ k = 3)) ∨ κ = 32 ∨ (34 ≤ κ ∧ κ ≤ 41) ∨ (43 ≤ κ ∧ κ ≤ 46))
theorem RepM.ag {S : SS} {P : Nat → Nat → Nat → Prop} {M M1 : Mem} (h : RepM S M) (g : Ag P M M1) (hp : ∀ κ a k, P κ a k → TrM κ a k) : RepM S M1 := by
  have n : ∀ κ a k, ¬ TrM κ a k → ¬ P κ a k := fun κ a k h1 h2 => h1 (hp κ a k h2)
  have r : ∀ κ a k, ((κ = 5 ∧ (k = 1 ∨ k = 3)) ∨ κ = 32 ∨ (34 ≤ κ ∧ κ ≤ 41) ∨ (43 ≤ κ ∧ κ ≤ 46)) → mI M1 κ a k = mI M κ a k := fun κ a k z => g.i (n κ a k (fun y => y z))
  refine ⟨⟨fun κ hκ => (g.1 κ 0).trans (h.1.1 κ hκ), fun k hk => (g.2.1 5 0 k).trans (h.1.2 k hk)⟩, ?_, ?_, fun p hp' => ?_, fun i hi => ⟨?_, ?_, ?_, ?_, ?_, ?_⟩, fun i p hi hp' => ⟨?_, ?_⟩, fun i b hi hb => ?_, fun i o hi ho => ⟨?_, ?_, ?_⟩⟩
  · rw [r _ _ _ (by omega)]; exact h.r
  · rw [r _ _ _ (by omega)]; exact h.n
  · rw [r _ _ _ (by omega)]; exact h.pr hp'
  · rw [r _ _ _ (by omega)]; exact h.he hi
  · rw [r _ _ _ (by omega)]; exact h.held hi
  · rw [r _ _ _ (by omega)]; exact h.car hi
  · rw [r _ _ _ (by omega)]; exact h.seq hi
  · rw [r _ _ _ (by omega)]; exact h.sp hi
  · rw [r _ _ _ (by omega)]; exact h.db hi
  · rw [r _ _ _ (by omega)]; exact h.had hi hp'
  · rw [r _ _ _ (by omega)]; exact h.wr hi hp'
  · rw [r _ _ _ (by omega)]; exact h.fr hi hb
  · rw [r _ _ _ (by omega)]; exact h.got hi ho
  · rw [r _ _ _ (by omega)]; exact h.st hi ho
  · rw [r _ _ _ (by omega)]; exact h.ban hi ho
theorem lack_eq (S : SS) (i o : Nat) : shown S i o &&& lackS S o = nd (shown S i o &&& wantS S) (sHeld S o) := by
  apply Nat.eq_of_testBit_eq
  intro k
  unfold lackS wantS
  rw [Nat.testBit_and, nd_bit, Nat.testBit_and, bs_bit, bs_bit]
  cases (shown S i o).testBit k <;> cases decide (k < 12) <;> cases decide (0 < sPr S k) <;> cases (sHeld S o).testBit k <;> rfl
theorem lackS_lt (S : SS) (i : Nat) : lackS S i < 2 ^ 12 := bs_lt _ _
theorem p_wantsM {S : SS} {M : Mem} {Q : Int32 → Mem → Prop} {x y : Int32} (i o : Nat) (hx : x = nI o) (hy : y = nI i) (h : RepM S M) (ok : OKS S) (hi : i < 6) (ho : o < 6) (hh : hr S i = true) (hQ : Q (nI (b2 (wantsB S i o))) M) : w_X5_wants M x y Q := by
  subst hx hy
  have q0 : wantsB S i o = false → Q 0 M := fun z => by rw [z] at hQ; exact hQ
  have q1 : wantsB S i o = true → Q 1 M := fun z => by rw [z] at hQ; exact hQ
  unfold w_X5_wants b_X5_wants_28 b_X5_wants_27 b_X5_wants_28
  rw [cl o (by omega), cl i (by omega)]
  refine pk_eq o i (fun e => t0 (q0 (by unfold wantsB; rw [e]; simp))) (fun e => ⟨h.e 5, h.f 4, h.e 34, pk_in o 6 ho, h.here ok ho (fun hf => t0 (q0 (by unfold wantsB; rw [hf]; rfl))) (fun hf => ⟨pk_in i 6 hi, h.here ok hi (fun z => by rw [hh] at z; cases z) (fun _ => t1 ⟨h.e 5, h.f 16, ?_⟩)⟩)⟩)
  show mE M 46 0 = true ∧ _
  rw [show (6 : Int32) * nI o + nI i = nI (6 * o + i) from by rw [show (6 : Int32) * nI o = nI (6 * o) from pk_mul 6 o, nI_add], cl _ (by omega), h.ban ho hi]
  refine ⟨h.e 46, pk_in (6 * o + i) 36 (by omega), q_b2 _ (fun hb => ⟨h.e 5, p_shownBy i o rfl rfl h ok hi ho ⟨h.e 5, p_lackedBy o rfl h ok ho ?_⟩⟩) (fun hb => q0 (by unfold wantsB; rw [hb]; simp))⟩
  rw [fa_and, lack_eq]
  have lt : nd (shown S i o &&& wantS S) (sHeld S o) < 2 ^ 12 := by rw [← lack_eq, Nat.and_comm]; exact and_lt (lackS_lt S o)
  refine pk_eq _ 0 (fun z => q0 (by unfold wantsB; rw [z]; simp)) (fun z => q1 (by unfold wantsB; rw [hf, hb]; simp [e, z])) rfl rfl (by omega)
theorem bs_n {f : Nat → Bool} {n : Nat} (h : ∀ k, n ≤ k → f k = false) : ∀ m, n ≤ m → bs f m = bs f n
  | 0, hm => by rw [show n = 0 by omega]
  | m + 1, hm => by
    by_cases e : n = m + 1
    · rw [e]
    · rw [bs_s0 (h m (by omega))]; exact bs_n h m (by omega)
theorem hr_hi {S : SS} (ok : OKS S) {k : Nat} (h : sN S ≤ k) : hr S k = false := by
  cases hk : hr S k with
  | false => rfl
  | true => have := ok.here hk; omega
theorem wantsB_hi {S : SS} (ok : OKS S) (i : Nat) {k : Nat} (h : sN S ≤ k) : wantsB S i k = false := by unfold wantsB; rw [hr_hi ok h]; rfl
theorem intr_n {S : SS} (ok : OKS S) (i : Nat) : intr S i = bs (wantsB S i) (sN S) := bs_n (fun k hk => wantsB_hi ok i hk) 6 ok.n
theorem bestG_n {S : SS} {i left n : Nat} (h : ∀ k, n ≤ k → left.testBit k = false) : ∀ m, n ≤ m → bestG S i left m = bestG S i left n
  | 0, hm => by rw [show n = 0 by omega]
  | m + 1, hm => by
    by_cases e : n = m + 1
    · rw [e]
    · rw [bestG, h m (by omega), bestG_n h m (by omega)]
      cases bestG S i left n <;> rfl
theorem nd_or (a b c : Nat) : nd (nd a b) c = nd a (b ||| c) := by
  apply Nat.eq_of_testBit_eq
  intro k
  rw [nd_bit, nd_bit, nd_bit, Nat.testBit_or]
  cases a.testBit k <;> cases b.testBit k <;> cases c.testBit k <;> rfl
theorem nd_0 (a : Nat) : nd a 0 = a := by
  apply Nat.eq_of_testBit_eq
  intro k
  rw [nd_bit, Nat.zero_testBit]
  cases a.testBit k <;> rfl
theorem single_lt2 {n : Nat} {r : Option Nat} (h : ∀ k, r = some k → k < n) : single r < 2 ^ n := by
  cases r with
  | none => exact Nat.two_pow_pos n
  | some k => exact Nat.pow_lt_pow_right (by omega) (h k rfl)
theorem p_choiceOf {S : SS} {M : Mem} {Q : Int32 → Mem → Prop} {x : Int32} (i : Nat) (hx : x = nI i) (h : RepM S M) (ok : OKS S) (hi : i < 6) (hh : hr S i = true) (hQ : Q (nI (chosen S i)) M) : w_X5_choiceOf M x Q := by
  subst hx
  have n6 := ok.n
  have r200 := ok.r
  have alt : intr S i < 2 ^ 6 := bs_lt _ _
  -- the slot by turn
  have turn : ∀ c, c < 2 ^ 6 → Q (nI (c ||| single (turnF S (nd (intr S i) c) 6))) M → ∀ d k, k + d = 6 → turnF S (nd (intr S i) c) k = none → l_X5_choiceOf_165 Q (d + 1) M (nI (intr S i)) (nI c) (nI k) := by
    intro c hc hq d
    induction d with
    | zero =>
      intro k hk hn
      have e : k = 6 := by omega
      subst e
      show b_X5_choiceOf_165 Q _ M _ _ _
      unfold b_X5_choiceOf_165
      rw [hn] at hq
      refine pk_le 6 6 (fun _ => ?_) (fun z => absurd z (by omega))
      have : c ||| single none = c := Nat.or_zero c
      rw [this] at hq; exact hq
    | succ d ih =>
      intro k hk hn
      have k6 : (sR S + k) % 6 < 6 := Nat.mod_lt _ (by omega)
      show b_X5_choiceOf_165 Q (l_X5_choiceOf_165 Q (d + 1)) M _ _ _
      unfold b_X5_choiceOf_165 b_X5_choiceOf_209
      rw [h.r]
      refine pk_le 6 k (fun z => absurd z (by omega)) (fun _ => ⟨h.e 5, fun v hv => ?_⟩)
      have hv : v = nI ((sR S + k) % 6) := hv.trans (by rw [nI_add]; exact pk_rem (a := sR S + k) (d := 6) (by omega) (by decide) (by decide))
      subst hv
      have nx : (nd (intr S i) c).testBit ((sR S + k) % 6) = false → ∀ v12 : Int32, v12 = nI k + 1 → l_X5_choiceOf_165 Q (d + 1) M (nI (intr S i)) (nI c) v12 := by
        intro hb v12 h12
        rw [h12, nI_1]
        refine ih (k + 1) (by omega) ?_
        rw [turnF, hn]
        simp [hb]
      refine p_has (intr S i) ((sR S + k) % 6) rfl rfl (by omega) (by omega) (fun hb => t1 ?_) (fun hb => t0 (nx (by rw [nd_bit, hb]; rfl)))
      refine p_has c ((sR S + k) % 6) rfl rfl (by omega) (by omega) (fun hb2 => t1 (nx (by rw [nd_bit, hb, hb2]; rfl))) (fun hb2 => t0 ?_)
      rw [i_one _ (by omega), fa_or]
      have hbit : (nd (intr S i) c).testBit ((sR S + k) % 6) = true := by rw [nd_bit, hb, hb2]; rfl
      have stay : ∀ m, k + 1 ≤ m → turnF S (nd (intr S i) c) m = some ((sR S + k) % 6) := by
        intro m
        induction m with
        | zero => intro z; omega
        | succ m ihm =>
          intro z
          by_cases e : k = m
          · subst e; rw [turnF, hn]; simp [hbit]
          · rw [turnF, ihm (by omega)]
      rw [stay 6 (by omega)] at hq
      exact hq
  -- a slot by merit
  have merit : ∀ (c : Nat) (x4 : Int32) (k42 : Mem → Int32 → Int32 → Int32 → Int32 → Prop), c < 2 ^ 6 → (∀ v22 : Int32, v22 = x4 + 1 → k42 M (nI i) (nI (intr S i)) (nI (c ||| single (bestG S i (nd (intr S i) c) 6))) v22) → ∀ d k, k + d = sN S → l_X5_choiceOf_54 k42 Q (d + 1) M (nI i) (nI (intr S i)) (nI c) x4 (oI (bestG S i (nd (intr S i) c) k)) (nI k) := by
    intro c x4 k42 hc hq d
    have hz : ∀ k, sN S ≤ k → (nd (intr S i) c).testBit k = false := fun k hk => by
      rw [nd_bit, intr, bs_bit, wantsB_hi ok i hk]; simp
    have lt6 : ∀ {k q : Nat}, bestG S i (nd (intr S i) c) k = some q → q < 6 := fun {k q} z => by
      have := (bestG_lt z).2
      rw [nd_bit] at this
      simp at this
      exact bit_lt alt this.1
    induction d with
    | zero =>
      intro k hk
      have e : k = sN S := by omega
      subst e
      show b_X5_choiceOf_54 k42 Q _ M _ _ _ _ _ _
      unfold b_X5_choiceOf_54 b_X5_choiceOf_154
      rw [h.n, bestG_n hz 6 n6] at *
      refine ⟨h.e 5, pk_le (sN S) (sN S) (fun _ => ?_) (fun z => absurd z (by omega))⟩
      cases hb : bestG S i (nd (intr S i) c) (sN S) with
      | none =>
        rw [hb] at hq
        refine ⟨fun _ v21 h21 v22 h22 => ?_, fun z => absurd rfl z⟩
        rw [h21, show (0 : Int32) = nI 0 from rfl, fa_or]
        exact hq v22 h22
      | some q =>
        rw [hb] at hq
        have q6 := lt6 hb
        refine ⟨fun z => absurd z (oI_n1 (by omega)), fun _ v21 h21 v22 h22 => ?_⟩
        have : (1 : Int32) <<< (nI q &&& 31) = nI (2 ^ q) := i_one q (by omega)
        rw [h21]
        show k42 M (nI i) (nI (intr S i)) (nI c ||| ((1 : Int32) <<< (nI q &&& 31))) v22
        rw [this, fa_or]
        exact hq v22 h22
    | succ d ih =>
      intro k hk
      have nx := ih (k + 1) (by omega)
      show b_X5_choiceOf_54 k42 Q (l_X5_choiceOf_54 k42 Q (d + 1)) M _ _ _ _ _ _
      unfold b_X5_choiceOf_54 b_X5_choiceOf_85 b_X5_choiceOf_86 b_X5_choiceOf_129 b_X5_choiceOf_124 b_X5_choiceOf_131
      rw [h.n]
      rw [bestG] at nx
      have no : (nd (intr S i) c).testBit k = false → ∀ v29 : Int32, v29 = nI k + 1 → l_X5_choiceOf_54 k42 Q (d + 1) M (nI i) (nI (intr S i)) (nI c) x4 (oI (bestG S i (nd (intr S i) c) k)) v29 := by
        intro hb v29 h29
        rw [h29, nI_1]
        rw [hb] at nx
        cases hg : bestG S i (nd (intr S i) c) k with
        | none => rw [hg] at nx; exact nx
        | some q => rw [hg] at nx; exact nx
      refine ⟨h.e 5, pk_le (sN S) k (fun z => absurd z (by omega)) (fun _ => p_has (intr S i) k rfl rfl (by omega) (by omega) (fun hb => t1 ?_) (fun hb => t0 (t0 (no (by rw [nd_bit, hb]; rfl)))))⟩
      refine p_has c k rfl rfl (by omega) (by omega) (fun hb2 => t1 (t0 (no (by rw [nd_bit, hb, hb2]; rfl)))) (fun hb2 => t0 (t1 ?_))
      have hbit : (nd (intr S i) c).testBit k = true := by rw [nd_bit, hb, hb2]; rfl
      rw [hbit] at nx
      cases hg : bestG S i (nd (intr S i) c) k with
      | none =>
        rw [hg] at nx
        refine ⟨fun _ v29 h29 => ?_, fun z => absurd rfl z⟩
        rw [h29, nI_1]; exact nx
      | some q =>
        rw [hg] at nx
        have q6 := lt6 hg
        have g1 := ok.got i k
        have g2 := ok.got i q
        refine ⟨fun z => absurd z (oI_n1 (by omega)), fun _ => ⟨h.e 5, h.f 14, ?_⟩⟩
        show mE M 44 0 = true ∧ vp_in ((6 : Int32) * nI i + nI k) 36 ∧ mE M 5 0 = true ∧ mF M 5 0 14 = true ∧ mE M 44 0 = true ∧ vp_in ((6 : Int32) * nI i + nI q) 36 ∧ _
        have pe : ∀ a, (6 : Int32) * nI i + nI a = nI (6 * i + a) := fun a => by rw [show (6 : Int32) * nI i = nI (6 * i) from pk_mul 6 i, nI_add]
        rw [pe, pe]
        refine ⟨h.e 44, pk_in (6 * i + k) 36 (by omega), h.e 5, h.f 14, h.e 44, pk_in (6 * i + q) 36 (by omega), ?_⟩
        rw [show (6 : Int32) * nI i + oI (some q) = nI (6 * i + q) from pe q, cl _ (by omega), cl _ (by omega), h.got hi (by omega), h.got hi q6]
        refine pk_le (sGot S i k) (sGot S i q) (fun z v29 h29 => ?_) (fun z v29 h29 => ?_)
        · rw [h29, nI_1]
          have nx : l_X5_choiceOf_54 k42 Q (d + 1) M (nI i) (nI (intr S i)) (nI c) x4 (oI (if (true && decide (sGot S i q < sGot S i k)) = true then some k else some q)) (nI (k + 1)) := nx
          rw [if_neg (by simp; omega)] at nx; exact nx
        · rw [h29, nI_1]
          have nx : l_X5_choiceOf_54 k42 Q (d + 1) M (nI i) (nI (intr S i)) (nI c) x4 (oI (if (true && decide (sGot S i q < sGot S i k)) = true then some k else some q)) (nI (k + 1)) := nx
          rw [if_pos (by simp; omega)] at nx; exact nx
  have lt_or : ∀ c, c < 2 ^ 6 → c ||| single (bestG S i (nd (intr S i) c) 6) < 2 ^ 6 := fun c hc => by
    refine Nat.or_lt_two_pow hc (single_lt2 (fun k hk => ?_))
    have := (bestG_lt hk).2
    rw [nd_bit] at this
    simp at this
    exact bit_lt alt this.1
  -- the slots
  have slots : ∃ n, l_X5_choiceOf_42 Q n M (nI i) (nI (intr S i)) 0 0 := by
    refine ⟨3, ?_⟩
    show b_X5_choiceOf_42 Q (l_X5_choiceOf_42 Q 2) M _ _ _ _
    unfold b_X5_choiceOf_42
    refine ⟨fun z => absurd z (by decide), fun _ => ⟨sN S + 1, merit 0 0 _ (by decide) (fun v hv => ?_) (sN S) 0 (by omega)⟩⟩
    subst hv
    have l0 := lt_or 0 (by decide)
    show b_X5_choiceOf_42 Q (l_X5_choiceOf_42 Q 1) M _ _ _ _
    unfold b_X5_choiceOf_42
    refine ⟨fun z => absurd z (by decide), fun _ => ⟨sN S + 1, merit _ _ _ l0 (fun v hv => ?_) (sN S) 0 (by omega)⟩⟩
    subst hv
    have l1 := lt_or _ l0
    show b_X5_choiceOf_42 Q (l_X5_choiceOf_42 Q 0) M _ _ _ _
    unfold b_X5_choiceOf_42
    refine ⟨fun _ => ⟨7, turn _ l1 ?_ 6 0 rfl rfl⟩, fun z => absurd (by decide) z⟩
    have e1 : (0 : Nat) ||| single (bestG S i (nd (intr S i) 0) 6) = single (bestG S i (intr S i) 6) := by rw [Nat.zero_or, nd_0]
    rw [e1, ← nd_or]
    exact hQ
  have loop : ∀ d k, k + d = sN S → l_X5_choiceOf_4 Q (d + 1) M (nI i) (nI (bs (wantsB S i) k)) (nI k) := by
    intro d
    induction d with
    | zero =>
      intro k hk
      have e : k = sN S := by omega
      subst e
      show b_X5_choiceOf_4 Q _ M _ _ _
      unfold b_X5_choiceOf_4
      rw [h.n, ← intr_n ok]
      exact ⟨h.e 5, pk_le (sN S) (sN S) (fun _ => slots) (fun z => absurd z (by omega))⟩
    | succ d ih =>
      intro k hk
      have nx := ih (k + 1) (by omega)
      show b_X5_choiceOf_4 Q (l_X5_choiceOf_4 Q (d + 1)) M _ _ _
      unfold b_X5_choiceOf_4 b_X5_choiceOf_29
      rw [h.n]
      refine ⟨h.e 5, pk_le (sN S) k (fun z => absurd z (by omega)) (fun _ => p_wantsM i k rfl rfl h ok hi (by omega) hh (q_b2 _ (fun hb v58 h58 v59 h59 => ?_) (fun hb v58 h58 v59 h59 => ?_)))⟩
      · rw [bs_s0 hb] at nx
        rw [h58, h59, nI_1, show (0 : Int32) = nI 0 from rfl, fa_or, Nat.or_zero]
        exact nx
      · rw [bs_s1 hb] at nx
        rw [h58, h59, nI_1, i_one k (by omega), fa_or]
        exact nx
  exact ⟨sN S + 1, loop (sN S) 0 (by omega)⟩
