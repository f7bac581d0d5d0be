theorem blkP_b4 (p k : Nat) : (blkP p).testBit k = decide (k / 4 = p) := by
  rw [blkP_bit, Bool.eq_iff_iff]
  simp
  omega
theorem cntF_le (S : SS) (i p o : Nat) : ∀ n, cntF S i p o n ≤ n
  | 0 => Nat.le_refl 0
  | n + 1 => by have := cntF_le S i p o n; rw [cntF]; split <;> omega
theorem cntF_0 (S : SS) (i p o : Nat) : ∀ n, cntF S i p o n = 0 ↔ ∀ k, k < n → sFr S i (4 * p + k) ≠ o
  | 0 => ⟨fun _ k hk => absurd hk (Nat.not_lt_zero _), fun _ => rfl⟩
  | n + 1 => by
    have ih := cntF_0 S i p o n
    rw [cntF]
    constructor
    · intro h k hk
      by_cases e : k = n
      · subst e; intro z; rw [if_pos z] at h; omega
      · exact ih.mp (by omega) k (by omega)
    · intro h
      rw [if_neg (h n (by omega)), ih.mpr (fun k hk => h k (by omega))]
theorem cntF_n (S : SS) (i p o : Nat) : ∀ n, cntF S i p o n = n ↔ ∀ k, k < n → sFr S i (4 * p + k) = o
  | 0 => ⟨fun _ k hk => absurd hk (Nat.not_lt_zero _), fun _ => rfl⟩
  | n + 1 => by
    have ih := cntF_n S i p o n
    have le := cntF_le S i p o n
    rw [cntF]
    constructor
    · intro h k hk
      by_cases e : k = n
      · subst e; apply Classical.byContradiction; intro z; rw [if_neg z] at h; omega
      · refine ih.mp ?_ k (by omega)
        split at h <;> omega
    · intro h
      rw [if_pos (h n (by omega)), ih.mpr (fun k hk => h k (by omega))]
theorem cfp_bit {S : SS} {i p o : Nat} (hf : full S i p) (b : Nat) : (cf S i o &&& blkP p).testBit b = ((blkP p).testBit b && decide (b < 48) && (sFr S i b == o)) := by
  have h : (sHad S i &&& blkP p).testBit b = (blkP p).testBit b := by rw [hf]
  rw [Nat.testBit_and] at h
  rw [Nat.testBit_and, cf_bit]
  cases hb : (blkP p).testBit b
  · simp
  · rw [hb] at h
    simp at h
    simp [h]
theorem cf_0 {S : SS} {i p o : Nat} (hf : full S i p) (hp : p < 12) : cf S i o &&& blkP p = 0 ↔ cntF S i p o 4 = 0 := by
  rw [cntF_0]
  constructor
  · intro h k hk e
    have : (cf S i o &&& blkP p).testBit (4 * p + k) = false := by rw [h, Nat.zero_testBit]
    rw [cfp_bit hf, blkP_b4] at this
    have e4 : (4 * p + k) / 4 = p := by omega
    have e5 : 4 * p + k < 48 := by omega
    simp [e, e4, e5] at this
  · intro h
    apply Nat.eq_of_testBit_eq
    intro b
    rw [cfp_bit hf, blkP_b4, Nat.zero_testBit]
    by_cases e : b / 4 = p
    · have := h (b % 4) (by omega)
      rw [show 4 * p + b % 4 = b by omega] at this
      simp [this]
    · simp [e]
theorem cf_4 {S : SS} {i p o : Nat} (hf : full S i p) (hp : p < 12) : cf S i o &&& blkP p = blkP p ↔ cntF S i p o 4 = 4 := by
  rw [cntF_n]
  constructor
  · intro h k hk
    have : (cf S i o &&& blkP p).testBit (4 * p + k) = (blkP p).testBit (4 * p + k) := by rw [h]
    rw [cfp_bit hf, blkP_b4] at this
    have e : (4 * p + k) / 4 = p := by omega
    have e5 : 4 * p + k < 48 := by omega
    simp [e, e5] at this
    exact this
  · intro h
    apply Nat.eq_of_testBit_eq
    intro b
    rw [cfp_bit hf, blkP_b4]
    by_cases e : b / 4 = p
    · have := h (b % 4) (by omega)
      rw [show 4 * p + b % 4 = b by omega] at this
      simp [this, e]; omega
    · simp [e]
theorem dropO_f {S : SS} {i p f a c : Nat} (h : (f ≠ 13 ∧ f ≠ 14) ∨ a ≠ i) : ∀ k, dropO S i p k f a c = S f a c
  | 0 => rfl
  | k + 1 => by
    have ih := dropO_f (S := S) (p := p) (c := c) h k
    rw [dropO]
    split
    · exact ih
    · split
      · rcases h with h | h
        · rw [sU_f h.2, sU_f h.1]; exact ih
        · rw [sU_i h, sU_i h]; exact ih
      · rcases h with h | h
        · rw [sU_f h.1]; exact ih
        · rw [sU_i h]; exact ih
theorem dropO_st {S : SS} {i p : Nat} (hf : full S i p) (hp : p < 12) (o : Nat) : ∀ k, sSt (dropO S i p k) i o = if o < k then bst (cf S i) (sSt S i) p o else sSt S i o
  | 0 => rfl
  | k + 1 => by
    have ih := dropO_st hf hp o k
    have c0 := cf_0 (o := k) hf hp
    have ihk := dropO_st hf hp k k
    rw [if_neg (Nat.lt_irrefl k)] at ihk
    have e13 : ∀ v, sSt (sU (dropO S i p k) 13 i k v) i o = if o = k then v else sSt (dropO S i p k) i o := fun v => by
      by_cases e : o = k
      · subst e; rw [if_pos rfl, sSt, sU_at]
      · rw [if_neg e, sSt, sU_j e]
    rw [dropO]
    by_cases hz : cntF S i p k 4 = 0
    · rw [if_pos hz, ih]
      by_cases e : o = k
      · subst e
        rw [if_neg (by omega), if_pos (by omega)]; unfold bst; rw [if_pos (c0.mpr hz)]
      · by_cases h : o < k
        · rw [if_pos h, if_pos (by omega)]
        · rw [if_neg h, if_neg (by omega)]
    · have fin : (if o = k then sSt (dropO S i p k) i k + 1 else sSt (dropO S i p k) i o) = if o < k + 1 then bst (cf S i) (sSt S i) p o else sSt S i o := by
        rw [ih, ihk]
        by_cases e : o = k
        · subst e
          rw [if_pos rfl, if_pos (by omega)]; unfold bst; rw [if_neg (fun z => hz (c0.mp z))]
        · rw [if_neg e]
          by_cases h : o < k
          · rw [if_pos h, if_pos (by omega)]
          · rw [if_neg h, if_neg (by omega)]
      rw [if_neg hz]
      split
      · show sU _ 14 i 0 _ 13 i o = _
        rw [sU_f (by decide)]
        exact (e13 _).trans fin
      · exact (e13 _).trans fin
theorem dropO_ban {S : SS} {i p : Nat} (hf : full S i p) (hp : p < 12) : ∀ k, sBan (dropO S i p k) i = bban (cf S i) (sSt S i) p (sBan S i) k
  | 0 => rfl
  | k + 1 => by
    have ih := dropO_ban hf hp k
    have c0 := cf_0 (o := k) hf hp
    have c4 := cf_4 (o := k) hf hp
    have ihk := dropO_st hf hp k k
    rw [if_neg (Nat.lt_irrefl k)] at ihk
    rw [dropO, bban]
    by_cases hz : cntF S i p k 4 = 0
    · rw [if_pos hz, if_pos (c0.mpr hz)]; exact ih
    · rw [if_neg hz, if_neg (fun z => hz (c0.mp z)), ← ih]
      by_cases hy : cntF S i p k 4 = 4 ∨ 3 ≤ sSt (dropO S i p k) i k + 1
      · rw [if_pos hy, if_pos (by rw [c4, ← ihk]; exact hy), sBan, sU_at]
      · rw [if_neg hy, if_neg (by rw [c4, ← ihk]; exact hy), sBan, sU_f (by decide)]
theorem settleP_f {S : SS} {i p f a c : Nat} (h : (f ≠ 4 ∧ f ≠ 9 ∧ f ≠ 10 ∧ f ≠ 13 ∧ f ≠ 14) ∨ a ≠ i) : settleP S i p f a c = S f a c := by
  unfold settleP clr
  split
  · split
    · rcases h with h | h
      · rw [sU_f h.2.2.1, sU_f h.2.1, sU_f h.1]
      · rw [sU_i h, sU_i h, sU_i h]
    · rcases h with h | h
      · rw [sU_f h.2.2.1, sU_f h.2.1, dropO_f (Or.inl ⟨h.2.2.2.1, h.2.2.2.2⟩)]
      · rw [sU_i h, sU_i h, dropO_f (Or.inr h)]
  · rfl
theorem settleTo_f {S : SS} {i f a c : Nat} (h : (f ≠ 4 ∧ f ≠ 9 ∧ f ≠ 10 ∧ f ≠ 13 ∧ f ≠ 14) ∨ a ≠ i) : ∀ p, settleTo S i p f a c = S f a c
  | 0 => rfl
  | p + 1 => by rw [settleTo, settleP_f h]; exact settleTo_f h p
def tri (S : SS) (i : Nat) : Nat × Nat × Nat := (sHeld S i, sHad S i, sWr S i)
theorem settleP_tri (S : SS) (i p : Nat) : tri (settleP S i p) i = stP (tri S i) p := by
  have d9 : ∀ f, f ≠ 13 ∧ f ≠ 14 → dropO S i p 6 f i 0 = S f i 0 := fun f h => dropO_f (Or.inl h) 6
  have clr_tri : ∀ T : SS, tri (clr T i p) i = (sHeld T i, nd (sHad T i) (blkP p), nd (sWr T i) (blkP p)) := fun T => by
    unfold tri clr
    rw [sHeld, sU_f (by decide), sU_f (by decide), sHad, sU_f (by decide), sU_at, sWr, sU_at]
  have t9 : tri (dropO S i p 6) i = tri S i := by unfold tri; unfold sHeld sHad sWr; rw [d9 4 (by decide), d9 9 (by decide), d9 10 (by decide)]
  unfold settleP stP
  by_cases hf : sHad S i &&& blkP p = blkP p
  · rw [if_pos hf, if_pos (show (tri S i).2.1 &&& blkP p = blkP p from hf)]
    by_cases hw : sWr S i &&& blkP p = 0
    · rw [if_pos hw, if_pos (show (tri S i).2.2 &&& blkP p = 0 from hw), clr_tri]
      rw [sHeld, sU_at, sHad, sU_f (by decide), sWr, sU_f (by decide)]
      rfl
    · rw [if_neg hw, if_neg (show ¬ (tri S i).2.2 &&& blkP p = 0 from hw), clr_tri]
      show ((tri (dropO S i p 6) i).1, nd (tri (dropO S i p 6) i).2.1 (blkP p), nd (tri (dropO S i p 6) i).2.2 (blkP p)) = _
      rw [t9]
  · rw [if_neg hf, if_neg (show ¬ (tri S i).2.1 &&& blkP p = blkP p from hf)]
theorem settleTo_tri (S : SS) (i : Nat) : ∀ p, tri (settleTo S i p) i = stTo (tri S i) p
  | 0 => rfl
  | p + 1 => by rw [settleTo, stTo, settleP_tri, settleTo_tri S i p]
theorem nd_blkP {x j p : Nat} (h : j ≠ p) : nd x (blkP j) &&& blkP p = x &&& blkP p := by
  apply Nat.eq_of_testBit_eq
  intro b
  rw [Nat.testBit_and, Nat.testBit_and, nd_bit, blkP_b4, blkP_b4]
  by_cases e : b / 4 = p
  · have : b / 4 ≠ j := by omega
    simp [this]
  · simp [e]
theorem stTo_up {t : Nat × Nat × Nat} {p : Nat} : ∀ k, k ≤ p → (stTo t k).2.1 &&& blkP p = t.2.1 &&& blkP p ∧ (stTo t k).2.2 &&& blkP p = t.2.2 &&& blkP p
  | 0, _ => ⟨rfl, rfl⟩
  | k + 1, hk => by
    have ih := stTo_up (t := t) (p := p) k (by omega)
    rw [stTo]
    unfold stP
    split
    · exact ⟨(nd_blkP (by omega)).trans ih.1, (nd_blkP (by omega)).trans ih.2⟩
    · exact ih
theorem cf_settleP {S : SS} {i p o : Nat} : cf (settleP S i p) i o = if sHad S i &&& blkP p = blkP p then nd (cf S i o) (blkP p) else cf S i o := by
  have h9 : sHad (settleP S i p) i = (stP (tri S i) p).2.1 := congrArg (fun t => t.2.1) (settleP_tri S i p)
  unfold stP at h9
  apply Nat.eq_of_testBit_eq
  intro b
  rw [cf_bit, h9, sFr, settleP_f (by omega)]
  by_cases hf : (tri S i).2.1 &&& blkP p = blkP p
  · rw [if_pos hf, if_pos (show sHad S i &&& blkP p = blkP p from hf), nd_bit, nd_bit, cf_bit]
    show (_ && ((sHad S i).testBit b && _ && _)) = _
    cases (sHad S i).testBit b <;> cases (blkP p).testBit b <;> simp
  · rw [if_neg hf, if_neg (show ¬ sHad S i &&& blkP p = blkP p from hf), cf_bit]; rfl

theorem bst_le (c st : Nat → Nat) (p o : Nat) : bst c st p o ≤ st o + 1 := by unfold bst; split <;> omega
theorem bban_lt (c st : Nat → Nat) (p : Nat) {ban : Nat} (h : ban < 2 ^ 6) : ∀ k, k ≤ 6 → bban c st p ban k < 2 ^ 6
  | 0, _ => h
  | k + 1, hk => by
    have ih := bban_lt c st p h k (by omega)
    rw [bban]
    split
    · exact ih
    · split
      · exact Nat.or_lt_two_pow ih (Nat.pow_lt_pow_right (by omega) (by omega))
      · exact ih
/-- strikes and bans, a piece settled -/
theorem settleP_st (S : SS) {i p : Nat} (hp : p < 12) {o : Nat} (ho : o < 6) : sSt (settleP S i p) i o = if sHad S i &&& blkP p = blkP p ∧ ¬ sWr S i &&& blkP p = 0 then bst (cf S i) (sSt S i) p o else sSt S i o := by
  unfold settleP clr
  by_cases hf : sHad S i &&& blkP p = blkP p
  · rw [if_pos hf]
    by_cases hw : sWr S i &&& blkP p = 0
    · rw [if_pos hw, if_neg (fun z => z.2 hw), sSt, sU_f (by decide), sU_f (by decide), sU_f (by decide)]
    · rw [if_neg hw, if_pos ⟨hf, hw⟩, sSt, sU_f (by decide), sU_f (by decide)]
      have := dropO_st (S := S) (i := i) hf hp o 6
      rw [if_pos ho] at this
      exact this
  · rw [if_neg hf, if_neg (fun z => hf z.1)]
theorem settleP_ban (S : SS) {i p : Nat} (hp : p < 12) : sBan (settleP S i p) i = if sHad S i &&& blkP p = blkP p ∧ ¬ sWr S i &&& blkP p = 0 then bban (cf S i) (sSt S i) p (sBan S i) 6 else sBan S i := by
  unfold settleP clr
  by_cases hf : sHad S i &&& blkP p = blkP p
  · rw [if_pos hf]
    by_cases hw : sWr S i &&& blkP p = 0
    · rw [if_pos hw, if_neg (fun z => z.2 hw), sBan, sU_f (by decide), sU_f (by decide), sU_f (by decide)]
    · rw [if_neg hw, if_pos ⟨hf, hw⟩, sBan, sU_f (by decide), sU_f (by decide)]
      exact dropO_ban (S := S) (i := i) hf hp 6
  · rw [if_neg hf, if_neg (fun z => hf z.1)]
theorem settleP_st6 (S : SS) {i p : Nat} (hp : p < 12) (a o : Nat) : sSt (settleP S i p) a o ≤ sSt S a o + 1 := by
  by_cases e : a = i
  · subst e
    have d : ∀ k, sSt (dropO S a p k) a o ≤ sSt S a o + 1 ∧ (k ≤ o → sSt (dropO S a p k) a o = sSt S a o) := by
      intro k
      induction k with
      | zero => exact ⟨Nat.le_succ _, fun _ => rfl⟩
      | succ k ih =>
        rw [dropO]
        split
        · exact ⟨ih.1, fun h => ih.2 (by omega)⟩
        · have e13 : ∀ v, sSt (sU (dropO S a p k) 13 a k v) a o = if o = k then v else sSt (dropO S a p k) a o := fun v => by
            by_cases e : o = k
            · subst e; rw [if_pos rfl, sSt, sU_at]
            · rw [if_neg e, sSt, sU_j e]
          have fin : (if o = k then sSt (dropO S a p k) a k + 1 else sSt (dropO S a p k) a o) ≤ sSt S a o + 1 ∧ (k + 1 ≤ o → (if o = k then sSt (dropO S a p k) a k + 1 else sSt (dropO S a p k) a o) = sSt S a o) := by
            by_cases e : o = k
            · subst e
              rw [if_pos rfl, ih.2 (Nat.le_refl _)]
              exact ⟨Nat.le_refl _, fun h => absurd h (by omega)⟩
            · rw [if_neg e]; exact ⟨ih.1, fun h => ih.2 (by omega)⟩
          split
          · have z : sSt (sU (sU (dropO S a p k) 13 a k (sSt (dropO S a p k) a k + 1)) 14 a 0 (sBan (dropO S a p k) a ||| 2 ^ k)) a o = sSt (sU (dropO S a p k) 13 a k (sSt (dropO S a p k) a k + 1)) a o := by rw [sSt, sU_f (by decide)]
            rw [z, e13]; exact fin
          · rw [e13]; exact fin
    unfold settleP clr
    split
    · split
      · rw [sSt, sU_f (by decide), sU_f (by decide), sU_f (by decide)]; exact Nat.le_succ _
      · rw [sSt, sU_f (by decide), sU_f (by decide)]; exact (d 6).1
    · exact Nat.le_succ _
  · rw [sSt, settleP_f (Or.inr e)]; exact Nat.le_succ _
theorem settleTo_stle (S : SS) {i : Nat} (a o : Nat) : ∀ p, p ≤ 12 → sSt (settleTo S i p) a o ≤ sSt S a o + p
  | 0, _ => Nat.le_refl _
  | p + 1, hp => by
    have ih := settleTo_stle S (i := i) a o p (by omega)
    have := settleP_st6 (settleTo S i p) (i := i) (show p < 12 by omega) a o
    rw [settleTo]; omega
