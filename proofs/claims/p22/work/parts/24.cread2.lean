theorem bestG_lt {S : SS} {i left : Nat} : ∀ {k q : Nat}, bestG S i left k = some q → q < k ∧ left.testBit q = true
  | 0, q, h => by cases h
  | k + 1, q, h => by
    rw [bestG] at h
    split at h
    · split at h
      · rename_i hb; cases h; exact ⟨by omega, hb⟩
      · cases h
    · rename_i q2 h2
      split at h
      · rename_i hb; cases h
        simp only [Bool.and_eq_true] at hb
        exact ⟨by omega, hb.1⟩
      · cases h
        have := bestG_lt h2
        exact ⟨by omega, this.2⟩
theorem p_bestGiver {S : SS} {M : Mem} {Q : Int32 → Mem → Prop} {i : Nat} {x : Int32} (left : Nat) (hx : x = nI left) (h : RepC S M) (ok : OKS S) (hi : hr S i = true) (hl : left < 2 ^ 6) (hQ : Q (oI (bestG S i left 6)) M) : w_X4_findBestGiver M i x Q := by
  subst hx
  have hlt : left < 2 ^ 31 := by omega
  have loop : ∀ d j, j + d = 6 → ∀ x2 x3 : Int32, x2 = oI (bestG S i left j) → (∀ q, bestG S i left j = some q → x3 = nI (sGot S i q)) → l_X4_findBestGiver_7 Q (d + 1) M i (nI left) x2 x3 (nI j) := by
    intro d
    induction d with
    | zero =>
      intro j hj x2 x3 h2 h3
      have e : j = 6 := by omega
      subst e
      show b_X4_findBestGiver_7 Q _ M _ _ _ _ _
      unfold b_X4_findBestGiver_7
      exact ⟨h.pe hi 2, h.pf hi 8, h.pe hi 24, pk_le 6 6 (fun _ => by rw [h2]; exact hQ) (fun z => absurd z (by omega))⟩
    | succ d ih =>
      intro j hj x2 x3 h2 h3
      show b_X4_findBestGiver_7 Q (l_X4_findBestGiver_7 Q (d + 1)) M _ _ _ _ _
      unfold b_X4_findBestGiver_7 b_X4_findBestGiver_43 b_X4_findBestGiver_54
      rw [cl j (by omega)]
      have hg := h.got hi (o := j) (by omega)
      have nx := ih (j + 1) (by omega)
      refine ⟨h.pe hi 2, h.pf hi 8, h.pe hi 24, pk_le 6 j (fun z => absurd z (by omega)) (fun _ => ?_)⟩
      refine p_isIn left j (nI_l hlt) rfl (by omega) (by omega) (fun hb => t1 ?_) (fun hb => t0 ?_)
      · have g1 := ok.got i j
        cases hb' : bestG S i left j with
        | none =>
          rw [hb'] at h2
          refine ⟨fun _ => ⟨h.pe hi 2, h.pf hi 8, h.pe hi 24, pk_in j 6 (by omega), fun v hv v2 hv2 => ?_⟩, fun z => absurd h2 z⟩
          rw [hv2, nI_1]
          exact nx _ _ (by rw [bestG, hb']; simp only; rw [if_pos hb]; rfl) (fun q hq => by rw [bestG, hb'] at hq; simp only at hq; rw [if_pos hb] at hq; cases hq; exact hv.trans hg)
        | some q =>
          rw [hb'] at h2
          have h3 := h3 q hb'
          have g2 := ok.got i q
          have hq := bestG_lt hb'
          refine ⟨fun z => absurd (h2.symm.trans z) (oI_n1 (by omega)), fun _ => ⟨h.pe hi 2, h.pf hi 8, h.pe hi 24, pk_in j 6 (by omega), pk_le (sGot S i j) (sGot S i q) (fun hle v hv => ?_) (fun hlt => ⟨h.pe hi 2, h.pf hi 8, h.pe hi 24, pk_in j 6 (by omega), fun v hv v2 hv2 => ?_⟩) hg h3⟩⟩
          · rw [hv, nI_1]
            exact nx _ _ (by rw [bestG, hb', h2]; simp only; rw [if_neg (by simp [hb]; omega)]) (fun q2 hq2 => by rw [bestG, hb'] at hq2; simp only at hq2; rw [if_neg (by simp [hb]; omega)] at hq2; cases hq2; exact h3)
          · rw [hv2, nI_1]
            exact nx _ _ (by rw [bestG, hb']; simp only; rw [if_pos (by simp [hb]; omega)]; rfl) (fun q2 hq2 => by rw [bestG, hb'] at hq2; simp only at hq2; rw [if_pos (by simp [hb]; omega)] at hq2; cases hq2; exact hv.trans hg)
      · intro v hv
        rw [hv, nI_1]
        have e : bestG S i left (j + 1) = bestG S i left j := by
          rw [bestG, hb]
          cases bestG S i left j <;> simp
        exact nx _ _ (by rw [e]; exact h2) (by rw [e]; exact h3)
  exact ⟨7, loop 6 0 rfl _ _ rfl (fun q hq => by cases hq)⟩
theorem p_single {M : Mem} {Q : Int32 → Mem → Prop} {x : Int32} (r : Option Nat) (hx : x = oI r) (hr : ∀ q, r = some q → q < 31) (hQ : Q (nI (single r)) M) : w_X4_single M x Q := by
  subst hx
  unfold w_X4_single
  cases r with
  | none => exact ⟨fun _ => hQ, fun z => absurd rfl z⟩
  | some q =>
    have hq := hr q rfl
    refine ⟨fun z => absurd z (oI_n1 (by omega)), fun _ => ?_⟩
    show Q ((1 : Int32) <<< (nI q &&& 31)) M
    rw [i_one q hq]
    exact hQ
theorem turnF_some {S : SS} {left q : Nat} {j : Nat} (h : turnF S left j = some q) : ∀ d, turnF S left (j + d) = some q
  | 0 => h
  | d + 1 => by
    show turnF S left ((j + d) + 1) = some q
    rw [turnF, turnF_some h d]
theorem turnF_lt {S : SS} {left : Nat} : ∀ {k q : Nat}, turnF S left k = some q → q < 6 ∧ left.testBit q = true
  | 0, q, h => by cases h
  | k + 1, q, h => by
    rw [turnF] at h
    split at h
    · rename_i q2 h2; cases h; exact turnF_lt h2
    · split at h
      · rename_i hb; cases h; exact ⟨Nat.mod_lt _ (by omega), hb⟩
      · cases h
theorem p_nextTurn {S : SS} {M : Mem} {Q : Int32 → Mem → Prop} {x : Int32} (left : Nat) (hx : x = nI left) (h : RepC S M) (ok : OKS S) (hl : left < 2 ^ 6) (hQ : Q (oI (turnF S left 6)) M) : w_X4_findNextInTurn M x Q := by
  subst hx
  have hlt : left < 2 ^ 31 := by omega
  have hr := ok.r
  have loop : ∀ d j, j + d = 6 → turnF S left j = none → l_X4_findNextInTurn_2 Q (d + 1) M (nI left) (nI j) := by
    intro d
    induction d with
    | zero =>
      intro j hj hn
      have e : j = 6 := by omega
      subst e
      show b_X4_findNextInTurn_2 Q _ M _ _
      unfold b_X4_findNextInTurn_2
      rw [hn] at hQ
      exact pk_le 6 6 (fun _ => hQ) (fun z => absurd z (by omega))
    | succ d ih =>
      intro j hj hn
      show b_X4_findNextInTurn_2 Q (l_X4_findNextInTurn_2 Q (d + 1)) M _ _
      unfold b_X4_findNextInTurn_2
      rw [h.r]
      refine pk_le 6 j (fun z => absurd z (by omega)) (fun _ => ⟨h.e 4, fun v hv => ?_⟩)
      have hv : v = nI ((sR S + j) % 6) := hv.trans (by rw [nI_add]; exact pk_rem (a := sR S + j) (d := 6) (by omega) (by decide) (by decide))
      subst hv
      have hm : (sR S + j) % 6 < 6 := Nat.mod_lt _ (by omega)
      have hs : turnF S left (j + 1) = if left.testBit ((sR S + j) % 6) then some ((sR S + j) % 6) else none := by rw [turnF, hn]
      refine p_isIn left ((sR S + j) % 6) (nI_l hlt) rfl (by omega) (by omega) (fun hb => t1 ?_) (fun hb => t0 ?_)
      · rw [if_pos hb] at hs
        have := turnF_some hs d
        rw [show j + 1 + d = 6 by omega] at this
        rw [this] at hQ
        exact hQ
      · intro v hv
        rw [hv, nI_1]
        exact ih (j + 1) (by omega) (by rw [hs, if_neg (by rw [hb]; decide)])
  exact ⟨7, loop 6 0 rfl rfl⟩
theorem intr_lt (S : SS) (i : Nat) : intr S i < 2 ^ 6 := bs_lt _ _
theorem left1_lt (S : SS) (i : Nat) : left1 S i < 2 ^ 6 := nd_lt (intr_lt S i)
theorem left2_lt (S : SS) (i : Nat) : left2 S i < 2 ^ 6 := nd_lt (left1_lt S i)
theorem p_findChosen {S : SS} {M : Mem} {Q : Int32 → Mem → Prop} {i : Nat} (h : RepC S M) (ok : OKS S) (hi : hr S i = true) (hQ : Q (nI (chosen S i)) M) : w_X4_findChosen M i Q := by
  have b1 : ∀ q, bestG S i (intr S i) 6 = some q → q < 31 := fun q hq => by have := bestG_lt hq; omega
  have b2 : ∀ q, bestG S i (left1 S i) 6 = some q → q < 31 := fun q hq => by have := bestG_lt hq; omega
  have b3 : ∀ q, turnF S (left2 S i) 6 = some q → q < 31 := fun q hq => by have := turnF_lt hq; omega
  refine ⟨h.e 4, p_findInterested h ok hi ⟨3, ?_⟩⟩
  show b_X4_findChosen_11 Q (l_X4_findChosen_11 Q 2) M _ _ _ _
  unfold b_X4_findChosen_11
  refine pk_le 2 0 (fun z => absurd z (by omega)) (fun _ => ?_)
  refine p_bestGiver (intr S i) rfl h ok hi (intr_lt S i) (p_single _ rfl b1 (fun v hv => p_single _ rfl b1 (fun v2 hv2 v3 hv3 => ?_)))
  rw [i_nd] at hv2
  rw [show v = nI (single (bestG S i (intr S i) 6)) from hv.trans (by show nI 0 ||| nI _ = _; rw [fa_or, Nat.zero_or]), hv2, hv3]
  show b_X4_findChosen_11 Q (l_X4_findChosen_11 Q 1) M _ _ _ _
  unfold b_X4_findChosen_11
  refine pk_le 2 1 (fun z => absurd z (by omega)) (fun _ => ?_)
  refine p_bestGiver (left1 S i) rfl h ok hi (left1_lt S i) (p_single _ rfl b2 (fun v hv => p_single _ rfl b2 (fun v2 hv2 v3 hv3 => ?_)))
  rw [i_nd] at hv2
  rw [fa_or] at hv
  rw [hv, hv2, hv3]
  show b_X4_findChosen_11 Q (l_X4_findChosen_11 Q 0) M _ _ _ _
  unfold b_X4_findChosen_11
  refine pk_le 2 2 (fun _ => ⟨h.e 4, p_nextTurn (left2 S i) rfl h ok (left2_lt S i) (p_single _ rfl b3 ?_)⟩) (fun z => absurd z (by omega))
  rw [fa_or]
  exact hQ
/-! blocks -/
theorem lowF_some {x q : Nat} {j : Nat} (h : lowF x j = some q) : ∀ d, lowF x (j + d) = some q
  | 0 => h
  | d + 1 => by
    show lowF x ((j + d) + 1) = some q
    rw [lowF, lowF_some h d]
theorem lowF_lt {x : Nat} : ∀ {k q : Nat}, lowF x k = some q → q < k ∧ x.testBit q = true
  | 0, q, h => by cases h
  | k + 1, q, h => by
    rw [lowF] at h
    split at h
    · rename_i q2 h2; cases h; have := lowF_lt h2; exact ⟨by omega, this.2⟩
    · split at h
      · rename_i hb; cases h; exact ⟨by omega, hb⟩
      · cases h
theorem p_findLowest {M : Mem} {Q : Int32 → Mem → Prop} {x : Int64} (a : Nat) (hx : x = lN a) (ha : a < 2 ^ 62) (hQ : Q (oI (lowF a 48)) M) : w_X4_findLowest M x Q := by
  subst hx
  have loop : ∀ d j, j + d = 48 → lowF a j = none → l_X4_findLowest_2 Q (d + 1) M (lN a) (nI j) := by
    intro d
    induction d with
    | zero =>
      intro j hj hn
      have e : j = 48 := by omega
      subst e
      show b_X4_findLowest_2 Q _ M _ _
      unfold b_X4_findLowest_2
      rw [hn] at hQ
      exact pk_le 48 48 (fun _ => hQ) (fun z => absurd z (by omega))
    | succ d ih =>
      intro j hj hn
      show b_X4_findLowest_2 Q (l_X4_findLowest_2 Q (d + 1)) M _ _
      unfold b_X4_findLowest_2
      have hs : lowF a (j + 1) = if a.testBit j then some j else none := by rw [lowF, hn]
      refine pk_le 48 j (fun z => absurd z (by omega)) (fun _ => p_isIn a j rfl rfl ha (by omega) (fun hb => t1 ?_) (fun hb => t0 ?_))
      · rw [if_pos hb] at hs
        have := lowF_some hs d
        rw [show j + 1 + d = 48 by omega] at this
        rw [this] at hQ
        exact hQ
      · intro v hv
        rw [hv, nI_1]
        exact ih (j + 1) (by omega) (by rw [hs, if_neg (by rw [hb]; decide)])
  exact ⟨49, loop 48 0 rfl rfl⟩
theorem p_blocksOfPiece {M : Mem} {Q : Int64 → Mem → Prop} {x : Int32} (p : Nat) (hx : x = nI p) (hp : p < 12) (hQ : Q (lN (blkP p)) M) : w_X4_blocksOfPiece M x Q := by
  subst hx
  unfold w_X4_blocksOfPiece
  have e : nI p * 4 = nI (p * 4) := pk_mul p 4
  rw [e]
  have := l_shl 15 (k := p * 4) (by omega)
  rw [show (15 : Int64) = lN 15 from rfl, this, Nat.mul_comm p 4]
  exact hQ
theorem blkP_bit (p k : Nat) : (blkP p).testBit k = (decide (4 * p ≤ k) && decide (k < 4 * p + 4)) := by
  unfold blkP
  rw [Nat.mul_comm, Nat.testBit_two_pow_mul]
  by_cases h : 4 * p ≤ k
  · simp only [ge_iff_le, h, decide_true, Bool.true_and]
    obtain ⟨j, rfl⟩ : ∃ j, k = 4 * p + j := ⟨k - 4 * p, by omega⟩
    rw [show 4 * p + j - 4 * p = j by omega]
    by_cases hj : j < 4
    · have : decide (4 * p + j < 4 * p + 4) = true := by simp; omega
      rw [this]
      match j, hj with
      | 0, _ => rfl
      | 1, _ => rfl
      | 2, _ => rfl
      | 3, _ => rfl
    · have : decide (4 * p + j < 4 * p + 4) = false := by simp; omega
      rw [this]
      exact Nat.testBit_lt_two_pow (Nat.lt_of_lt_of_le (by decide : 15 < 2 ^ 4) (Nat.pow_le_pow_right (by omega) (by omega)))
  · simp [h]
theorem blkP_lt {p : Nat} (hp : p < 12) : blkP p < 2 ^ 48 := by
  unfold blkP
  have : 2 ^ (4 * p) ≤ 2 ^ 44 := Nat.pow_le_pow_right (by omega) (by omega)
  omega
def blkTo (ps k : Nat) : Nat := bs (fun b => ps.testBit (b / 4)) (4 * k)
theorem blkTo_s1 {ps k : Nat} (h : ps.testBit k = true) : blkTo ps (k + 1) = blkTo ps k ||| blkP k := by
  apply Nat.eq_of_testBit_eq
  intro j
  unfold blkTo
  rw [Nat.testBit_or, bs_bit, bs_bit, blkP_bit]
  by_cases h1 : j < 4 * k
  · simp [h1, show j < 4 * (k + 1) by omega, show ¬ 4 * k ≤ j by omega]
  · by_cases h2 : j < 4 * (k + 1)
    · have : j / 4 = k := by omega
      simp [h1, h2, this, h, show 4 * k ≤ j by omega, show j < 4 * k + 4 by omega]
    · simp [h1, h2, show ¬ j < 4 * k + 4 by omega]
theorem blkTo_s0 {ps k : Nat} (h : ps.testBit k = false) : blkTo ps (k + 1) = blkTo ps k := by
  apply Nat.eq_of_testBit_eq
  intro j
  unfold blkTo
  rw [bs_bit, bs_bit]
  by_cases h1 : j < 4 * k
  · simp [h1, show j < 4 * (k + 1) by omega]
  · by_cases h2 : j < 4 * (k + 1)
    · have : j / 4 = k := by omega
      simp [h1, this, h]
    · simp [h1, h2]
theorem p_blocksOf {M : Mem} {Q : Int64 → Mem → Prop} {x : Int32} (ps : Nat) (hx : x = nI ps) (hps : ps < 2 ^ 12) (hQ : Q (lN (blk ps)) M) : w_X4_blocksOf M x Q := by
  subst hx
  have loop : ∀ d j, j + d = 12 → l_X4_blocksOf_4 Q (d + 1) M (nI ps) (lN (blkTo ps j)) (nI j) := by
    intro d
    induction d with
    | zero =>
      intro j hj
      have e : j = 12 := by omega
      subst e
      show b_X4_blocksOf_4 Q _ M _ _ _
      unfold b_X4_blocksOf_4
      exact pk_le 12 12 (fun _ => hQ) (fun z => absurd z (by omega))
    | succ d ih =>
      intro j hj
      show b_X4_blocksOf_4 Q (l_X4_blocksOf_4 Q (d + 1)) M _ _ _
      unfold b_X4_blocksOf_4 b_X4_blocksOf_26
      have nx := ih (j + 1) (by omega)
      refine pk_le 12 j (fun z => absurd z (by omega)) (fun _ => p_isIn ps j (nI_l (lt12 hps)) rfl (by omega) (by omega) (fun hb => t1 ?_) (fun hb => t0 ?_))
      · refine p_blocksOfPiece j rfl (by omega) (fun v hv v2 hv2 => ?_)
        rw [blkTo_s1 hb] at nx
        rw [hv, hv2, l_or, nI_1]
        exact nx
      · intro v hv
        rw [blkTo_s0 hb] at nx
        rw [hv, nI_1]
        exact nx
  exact ⟨13, loop 12 0 rfl⟩
