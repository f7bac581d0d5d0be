theorem s45 (S : SS) (i o v a c : Nat) : sSt (sU S 13 i o v) a c = if a = i ∧ c = o then v else sSt S a c := by
  unfold sSt
  by_cases e : a = i ∧ c = o
  · obtain ⟨rfl, rfl⟩ := e; rw [sU_at, if_pos ⟨rfl, rfl⟩]
  · rw [if_neg e]
    show (if 13 = 13 ∧ a = i ∧ c = o then v else _) = _
    rw [if_neg (fun y => e y.2)]
theorem s46 (S : SS) (i v a : Nat) : sBan (sU S 14 i 0 v) a = if a = i then v else sBan S a := by
  unfold sBan
  by_cases e : a = i
  · subst e; rw [sU_at, if_pos rfl]
  · rw [sU_i e, if_neg e]
/-- strikes and bans change, all else stays -/
theorem RepM_st {S S1 : SS} {M M1 : Mem} (h : RepM S M) (g : Ag (fun κ a _ => a = 0 ∧ (κ = 45 ∨ κ = 46)) M M1) (hS : ∀ f a c, f ≠ 13 ∧ f ≠ 14 → S1 f a c = S f a c)
    (h45 : ∀ i o, i < 6 → o < 6 → mI M1 45 0 (6 * i + o) = nI (sSt S1 i o)) (h46 : ∀ i o, i < 6 → o < 6 → mI M1 46 0 (6 * i + o) = nI (b2 ((sBan S1 i).testBit o))) : RepM S1 M1 := by
  have v : ∀ κ a k, κ ≠ 45 ∧ κ ≠ 46 → mI M1 κ a k = mI M κ a k := fun κ a k z => g.i (by omega)
  refine ⟨⟨fun κ hκ => (g.1 κ 0).trans (h.1.1 κ hκ), fun k hk => (g.2.1 5 0 k).trans (h.1.2 k hk)⟩, ?_, ?_, fun p hp' => ?_, fun i hi => ⟨?_, ?_, ?_, ?_, ?_, ?_⟩, fun i p hi hp' => ⟨?_, ?_⟩, fun i b hi hb => ?_, fun i o hi ho => ⟨?_, h45 i o hi ho, h46 i o hi ho⟩⟩
  · rw [v _ _ _ (by decide), sR, hS _ _ _ (by decide)]; exact h.r
  · rw [v _ _ _ (by decide), sN, hS _ _ _ (by decide)]; exact h.n
  · rw [v _ _ _ (by decide), sPr, hS _ _ _ (by decide)]; exact h.pr hp'
  · rw [v _ _ _ (by decide), hS _ _ _ (by decide)]; exact h.he hi
  · rw [v _ _ _ (by decide), sHeld, hS _ _ _ (by decide)]; exact h.held hi
  · rw [v _ _ _ (by decide), sCar, hS _ _ _ (by decide)]; exact h.car hi
  · rw [v _ _ _ (by decide), sSeq, hS _ _ _ (by decide)]; exact h.seq hi
  · rw [v _ _ _ (by decide), sSp, hS _ _ _ (by decide)]; exact h.sp hi
  · rw [v _ _ _ (by decide), sDb, hS _ _ _ (by decide)]; exact h.db hi
  · rw [v _ _ _ (by decide), sHad, hS _ _ _ (by decide)]; exact h.had hi hp'
  · rw [v _ _ _ (by decide), sWr, hS _ _ _ (by decide)]; exact h.wr hi hp'
  · rw [v _ _ _ (by decide), sFr, hS _ _ _ (by decide)]; exact h.fr hi hb
  · rw [v _ _ _ (by decide), sGot, hS _ _ _ (by decide)]; exact h.got hi ho
/-- who has three strikes is banned -/
def BanI (S : SS) : Prop := ∀ i o, i < 6 → o < 6 → 3 ≤ sSt S i o → (sBan S i).testBit o = true
theorem dropO_row {S : SS} {i p k : Nat} (o : Nat) (h : cntF S i p o 4 ≠ 0 ∨ True) : sSt (dropO S i p (k + 1)) i k = sSt (dropO S i p k) i k + (if cntF S i p k 4 = 0 then 0 else 1) := by
  rw [dropO]
  by_cases hz : cntF S i p k 4 = 0
  · rw [if_pos hz, if_pos hz]; rfl
  · rw [if_neg hz, if_neg hz]
    split
    · show sSt (sU _ 14 i 0 _) i k = _
      rw [sSt, sU_f (by decide)]
      show sSt (sU _ 13 i k _) i k = _
      rw [s45, if_pos ⟨rfl, rfl⟩]
    · rw [s45, if_pos ⟨rfl, rfl⟩]
theorem dropO_bi {S : SS} (hB : BanI S) (i p : Nat) (ok : ∀ a, sBan S a < 2 ^ 6) : ∀ k, k ≤ 6 → BanI (dropO S i p k)
  | 0, _ => hB
  | k + 1, hk => by
    have ih := dropO_bi hB i p ok k (by omega)
    rw [dropO]
    split
    · exact ih
    · intro a o ha ho h3
      split at h3
      · rename_i hc
        rw [if_pos hc] 
        have h3' : 3 ≤ sSt (sU (dropO S i p k) 13 i k (sSt (dropO S i p k) i k + 1)) a o := by
          have : sSt (sU (sU (dropO S i p k) 13 i k (sSt (dropO S i p k) i k + 1)) 14 i 0 (sBan (dropO S i p k) i ||| 2 ^ k)) a o = sSt (sU (dropO S i p k) 13 i k (sSt (dropO S i p k) i k + 1)) a o := by
            unfold sSt; rw [sU_f (by decide)]
          rw [this] at h3; exact h3
        rw [s45] at h3'
        rw [s46]
        by_cases e : a = i
        · subst e
          rw [if_pos rfl, Nat.testBit_or, Nat.testBit_two_pow]
          by_cases e2 : o = k
          · subst e2; simp
          · rw [if_neg (fun z => e2 z.2)] at h3'
            rw [ih a o ha ho h3']; rfl
        · rw [if_neg e]
          rw [if_neg (fun z => e z.1)] at h3'
          have : sBan (sU (dropO S i p k) 13 i k (sSt (dropO S i p k) i k + 1)) a = sBan (dropO S i p k) a := by unfold sBan; rw [sU_f (by decide)]
          rw [this]; exact ih a o ha ho h3'
      · rename_i hc
        rw [if_neg hc]
        have : sBan (sU (dropO S i p k) 13 i k (sSt (dropO S i p k) i k + 1)) a = sBan (dropO S i p k) a := by unfold sBan; rw [sU_f (by decide)]
        rw [this]
        rw [s45] at h3
        by_cases e : a = i ∧ o = k
        · obtain ⟨rfl, rfl⟩ := e
          rw [if_pos ⟨rfl, rfl⟩] at h3
          exact absurd (Or.inr h3) hc
        · rw [if_neg e] at h3
          exact ih a o ha ho h3
