/-! rows of whole that p22 needs: the state alone -/
/-- a piece's four blocks of a set of blocks -/
def nib (x p : Nat) : Nat := x / 2 ^ (4 * p) % 16
def b2 (b : Bool) : Nat := if b = true then 1 else 0
theorem here_1 {S : SS} (ok : OKS S) (i : Nat) : S 2 i 0 = b2 (hr S i) := by
  have := ok.2.2.1 i
  unfold b2 hr
  by_cases h : S 2 i 0 = 1
  · rw [h]; rfl
  · have : S 2 i 0 = 0 := by omega
    rw [this]; rfl
theorem q_b2 {A B : Prop} (b : Bool) (f0 : b = false → A) (f1 : b = true → B) : (nI (b2 b) = 0 → A) ∧ (¬ nI (b2 b) = 0 → B) := by
  cases b
  · exact ⟨fun _ => f0 rfl, fun z => absurd rfl z⟩
  · exact ⟨fun z => absurd z (by decide), fun _ => f1 rfl⟩
theorem hr_hi {S : SS} (ok : OKS S) {k : Nat} (h : sN S ≤ k) : hr S k = false := by
  cases hk : hr S k with
  | false => rfl
  | true => have := ok.here hk; omega
theorem m9 (S : SS) (i b o v9 v10 v12 a : Nat) : sHad (sU (sU (sU (sU S 9 i 0 v9) 10 i 0 v10) 11 i b o) 12 i o v12) a = if a = i then v9 else sHad S a := by
  unfold sHad
  rw [sU_f (by decide), sU_f (by decide), sU_f (by decide)]
  by_cases e : a = i
  · subst e; rw [sU_at, if_pos rfl]
  · rw [sU_i e, if_neg e]
theorem m10 (S : SS) (i b o v9 v10 v12 a : Nat) : sWr (sU (sU (sU (sU S 9 i 0 v9) 10 i 0 v10) 11 i b o) 12 i o v12) a = if a = i then v10 else sWr S a := by
  unfold sWr
  rw [sU_f (by decide), sU_f (by decide)]
  by_cases e : a = i
  · subst e; rw [sU_at, if_pos rfl]
  · rw [sU_i e, sU_i e, if_neg e]
theorem m11 (S : SS) (i b o v9 v10 v12 a c : Nat) : sFr (sU (sU (sU (sU S 9 i 0 v9) 10 i 0 v10) 11 i b o) 12 i o v12) a c = if a = i ∧ c = b then o else sFr S a c := by
  unfold sFr
  rw [sU_f (by decide)]
  by_cases e : a = i ∧ c = b
  · obtain ⟨rfl, rfl⟩ := e; rw [sU_at, if_pos ⟨rfl, rfl⟩]
  · rw [if_neg e]
    have z2 : ¬ (11 = 11 ∧ a = i ∧ c = b) := fun y => e y.2
    show (if 11 = 11 ∧ a = i ∧ c = b then o else _) = _
    rw [if_neg z2, sU_f (by decide), sU_f (by decide)]
theorem m12 (S : SS) (i b o v9 v10 v12 a c : Nat) : sGot (sU (sU (sU (sU S 9 i 0 v9) 10 i 0 v10) 11 i b o) 12 i o v12) a c = if a = i ∧ c = o then v12 else sGot S a c := by
  unfold sGot
  by_cases e : a = i ∧ c = o
  · obtain ⟨rfl, rfl⟩ := e; rw [sU_at, if_pos ⟨rfl, rfl⟩]
  · rw [if_neg e]
    have z2 : ¬ (12 = 12 ∧ a = i ∧ c = o) := fun y => e y.2
    show (if 12 = 12 ∧ a = i ∧ c = o then v12 else _) = _
    rw [if_neg z2, sU_f (by decide), sU_f (by decide), sU_f (by decide)]
theorem s45 (S : SS) (i o v a c : Nat) : sSt (sU S 13 i o v) a c = if a = i ∧ c = o then v else sSt S a c := by
  unfold sSt
  by_cases e : a = i ∧ c = o
  · obtain ⟨rfl, rfl⟩ := e; rw [sU_at, if_pos ⟨rfl, rfl⟩]
  · rw [if_neg e]
    show (if 13 = 13 ∧ a = i ∧ c = o then v else _) = _
    rw [if_neg (fun y => e y.2)]
theorem s46 (S : SS) (i v a : Nat) : sBan (sU S 14 i 0 v) a = if a = i then v else sBan S a := by
  unfold sBan
  by_cases e : a = i
  · subst e; rw [sU_at, if_pos rfl]
  · rw [sU_i e, if_neg e]
/-- who has three strikes is banned -/
def BanI (S : SS) : Prop := ∀ i o, i < 6 → o < 6 → 3 ≤ sSt S i o → (sBan S i).testBit o = true
theorem dropO_bi {S : SS} (hB : BanI S) (i p : Nat) (ok : ∀ a, sBan S a < 2 ^ 6) : ∀ k, k ≤ 6 → BanI (dropO S i p k)
  | 0, _ => hB
  | k + 1, hk => by
    have ih := dropO_bi hB i p ok k (by omega)
    rw [dropO]
    split
    · exact ih
    · intro a o ha ho h3
      split at h3
      · rename_i hc
        rw [if_pos hc] 
        have h3' : 3 ≤ sSt (sU (dropO S i p k) 13 i k (sSt (dropO S i p k) i k + 1)) a o := by
          have : sSt (sU (sU (dropO S i p k) 13 i k (sSt (dropO S i p k) i k + 1)) 14 i 0 (sBan (dropO S i p k) i ||| 2 ^ k)) a o = sSt (sU (dropO S i p k) 13 i k (sSt (dropO S i p k) i k + 1)) a o := by
            unfold sSt; rw [sU_f (by decide)]
          rw [this] at h3; exact h3
        rw [s45] at h3'
        rw [s46]
        by_cases e : a = i
        · subst e
          rw [if_pos rfl, Nat.testBit_or, Nat.testBit_two_pow]
          by_cases e2 : o = k
          · subst e2; simp
          · rw [if_neg (fun z => e2 z.2)] at h3'
            rw [ih a o ha ho h3']; rfl
        · rw [if_neg e]
          rw [if_neg (fun z => e z.1)] at h3'
          have : sBan (sU (dropO S i p k) 13 i k (sSt (dropO S i p k) i k + 1)) a = sBan (dropO S i p k) a := by unfold sBan; rw [sU_f (by decide)]
          rw [this]; exact ih a o ha ho h3'
      · rename_i hc
        rw [if_neg hc]
        have : sBan (sU (dropO S i p k) 13 i k (sSt (dropO S i p k) i k + 1)) a = sBan (dropO S i p k) a := by unfold sBan; rw [sU_f (by decide)]
        rw [this]
        rw [s45] at h3
        by_cases e : a = i ∧ o = k
        · obtain ⟨rfl, rfl⟩ := e
          rw [if_pos ⟨rfl, rfl⟩] at h3
          exact absurd (Or.inr h3) hc
        · rw [if_neg e] at h3
          exact ih a o ha ho h3
theorem clr_f {T : SS} {i p f a c : Nat} (h : f ≠ 9 ∧ f ≠ 10) : clr T i p f a c = T f a c := by unfold clr; rw [sU_f h.2, sU_f h.1]
theorem settleP_bi {S : SS} (hB : BanI S) (ok : OKS S) (i p : Nat) : BanI (settleP S i p) := by
  have c : ∀ T : SS, BanI T → BanI (clr T i p) := fun T hT a o ha ho h3 => by
    have e1 : sSt (clr T i p) a o = sSt T a o := clr_f (by decide)
    have e2 : sBan (clr T i p) a = sBan T a := clr_f (by decide)
    rw [e1] at h3; rw [e2]; exact hT a o ha ho h3
  unfold settleP
  split
  · split
    · refine c _ (fun a o ha ho h3 => ?_)
      have e1 : sSt (sU S 4 i 0 (sHeld S i ||| 2 ^ p)) a o = sSt S a o := by unfold sSt; rw [sU_f (by decide)]
      have e2 : sBan (sU S 4 i 0 (sHeld S i ||| 2 ^ p)) a = sBan S a := by unfold sBan; rw [sU_f (by decide)]
      rw [e1] at h3; rw [e2]; exact hB a o ha ho h3
    · exact c _ (dropO_bi hB i p (fun a => ok.ban a) 6 (Nat.le_refl _))
  · exact hB
theorem settleTo_bi {S : SS} (hB : BanI S) (ok : OKS S) {i : Nat} (hi : i < 6) (hst : ∀ a o, sSt S a o ≤ 99000) : ∀ p, p ≤ 12 → BanI (settleTo S i p)
  | 0, _ => hB
  | p + 1, hp => settleP_bi (settleTo_bi hB ok hi hst p (by omega)) (settleTo_ok ok hi hst p (by omega)) i p
theorem endsTo_bi {S : SS} (hB : BanI S) (ok : OKS S) (hst : ∀ a o, sSt S a o ≤ 98000) : ∀ j, j ≤ 6 → BanI (endsTo S j)
  | 0, _ => hB
  | j + 1, hj => settleTo_bi (endsTo_bi hB ok hst j (by omega)) (endsTo_ok ok hst j (by omega)) (by omega) (fun a o => by
      have := endsTo_st S a o j
      have := hst a o
      split at * <;> omega) 12 (Nat.le_refl _)
theorem settleTo_z {S : SS} {i : Nat} (h : sHad S i = 0) : ∀ p, settleTo S i p = S
  | 0 => rfl
  | p + 1 => by
    rw [settleTo, settleTo_z h p]
    unfold settleP
    rw [if_neg (by rw [h, Nat.zero_and]; exact fun z => blkP_pos p z.symm)]
theorem comes_row {S : SS} {i : Nat} (h : hr S i = false) (f c : Nat) (hz : S f i c = 0) : (comesTo S (askL S) 6).1 f i c = 0 := by
  rcases Nat.lt_or_ge i 6 with h6 | h6
  · rw [comesTo_row _ (askL_i S) 6 h6, comesTo, if_neg (by rw [h]; decide)]
    show gz i (comesTo S (askL S) i).1 f i c = 0
    unfold gz
    split
    · rfl
    · rw [comesTo_hi _ (askL_i S) i (Nat.le_refl _)]; exact hz
  · rw [comesTo_hi _ (askL_i S) 6 h6]; exact hz
theorem ends_row {X : SS} {i : Nat} (h : sHad X i = 0) (f c : Nat) : endsTo X 6 f i c = X f i c := by
  rcases Nat.lt_or_ge i 6 with h6 | h6
  · rw [endsTo_lo 6 h6, settleTo_z (by
      show endsTo X i 9 i 0 = 0
      rw [endsTo_hi i (Nat.le_refl _)]; exact h), endsTo_hi i (Nat.le_refl _)]
  · exact endsTo_hi 6 h6
theorem comes_bi {S : SS} (hB : BanI S) : BanI (comesTo S (askL S) 6).1 := fun a o ha ho h3 => by
  have e1 : sSt (comesTo S (askL S) 6).1 a o = sSt S a o := comesTo_low (by omega) 6
  have e2 : sBan (comesTo S (askL S) 6).1 a = sBan S a := comesTo_low (by omega) 6
  rw [e1] at h3; rw [e2]; exact hB a o ha ho h3
