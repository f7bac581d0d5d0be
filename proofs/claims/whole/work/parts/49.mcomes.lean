/-- what one got, not yet cleared from number m on -/
def mask (m : Nat) (S : SS) : SS := fun a b c => if a = 12 ∧ m ≤ b ∧ b < 6 then 0 else S a b c
theorem mask_6 (S : SS) : mask 6 S = S := by
  funext a b c
  unfold mask
  rw [if_neg (by omega)]
theorem mask_r {m : Nat} {S : SS} {a b c : Nat} (h : a ≠ 12 ∨ b < m) : mask m S a b c = S a b c := by unfold mask; rw [if_neg (by omega)]
theorem mask_sU {m : Nat} {S : SS} {f i j v : Nat} (h : i < m) : mask m (sU S f i j v) = sU (mask m S) f i j v := by
  funext a b c
  unfold mask sU
  by_cases e : a = f ∧ b = i ∧ c = j
  · rw [if_pos e, if_pos e, if_neg (by omega)]
  · rw [if_neg e, if_neg e]
theorem mask_come {m : Nat} {S : SS} {i b o : Nat} (h : i < m) : mask m (comeOne S i b o) = comeOne (mask m S) i b o := by
  have h9 : sHad (mask m S) i = sHad S i := mask_r (Or.inr h)
  cases hb : (sHad S i).testBit b with
  | true =>
    rw [comeOne_hit hb, comeOne_hit (by rw [h9]; exact hb), mask_sU h, sDb, sDb, mask_r (Or.inr h)]
  | false =>
    rw [comeOne_miss hb, comeOne_miss (by rw [h9]; exact hb), mask_sU h, mask_sU h, mask_sU h, mask_sU h, h9]
    unfold sSp sWr sGot
    rw [mask_r (Or.inr h), mask_r (Or.inr h), mask_r (Or.inl (by decide))]
theorem mask_gz (j : Nat) (S : SS) (h : j < 6) : mask (j + 1) (gz j S) = mask j S := by
  funext a b c
  unfold mask gz
  by_cases e : a = 12 ∧ j ≤ b ∧ b < 6
  · rw [if_pos e]
    split
    · rfl
    · rw [if_pos (by omega)]
  · rw [if_neg e, if_neg (by omega), if_neg (by omega)]
theorem mask_fold {m : Nat} : ∀ (l : List (Nat × Nat × Nat)) (A : SS) (n : Nat), (∀ q ∈ l, q.1 < m) → l.foldl cS (mask m A, n) = (mask m (l.foldl cS (A, n)).1, (l.foldl cS (A, n)).2)
  | [], _, _, _ => rfl
  | q :: l, A, n, h => by
    have hq := h q List.mem_cons_self
    have e : cS (mask m A, n) q = (mask m (cS (A, n) q).1, (cS (A, n) q).2) := by
      show (comeOne (mask m A) q.1 q.2.1 q.2.2, _) = (mask m (comeOne A q.1 q.2.1 q.2.2), _)
      rw [mask_come hq]
      have h9 : sHad (mask m A) q.1 = sHad A q.1 := mask_r (Or.inr hq)
      show (_, n + if (sHad (mask m A) q.1).testBit q.2.1 then 0 else 1) = _
      rw [h9]; rfl
    show l.foldl cS (cS (mask m A, n) q) = _
    rw [e, mask_fold l _ _ (fun q hq => h q (List.mem_cons_of_mem _ hq))]
    rfl
theorem alls_fold (S : SS) : ∀ j, j ≤ 6 → (alls S j).foldl cS (mask 0 S, 0) = (mask j (comesTo S (askL S) j).1, (comesTo S (askL S) j).2)
  | 0, _ => rfl
  | j + 1, h => by
    rw [alls, List.foldl_append, alls_fold S j (by omega), ← mask_gz j _ (by omega), mask_fold _ _ _ (fun q hq => by have := askL_i S j q hq; omega), comesTo]
    cases hj : hr S j with
    | true => rw [if_pos rfl]
    | false =>
      rw [if_neg (by decide), askL_no hj]
      rfl
theorem m9 (S : SS) (i b o v9 v10 v12 a : Nat) : sHad (sU (sU (sU (sU S 9 i 0 v9) 10 i 0 v10) 11 i b o) 12 i o v12) a = if a = i then v9 else sHad S a := by
  unfold sHad
  rw [sU_f (by decide), sU_f (by decide), sU_f (by decide)]
  by_cases e : a = i
  · subst e; rw [sU_at, if_pos rfl]
  · rw [sU_i e, if_neg e]
theorem m10 (S : SS) (i b o v9 v10 v12 a : Nat) : sWr (sU (sU (sU (sU S 9 i 0 v9) 10 i 0 v10) 11 i b o) 12 i o v12) a = if a = i then v10 else sWr S a := by
  unfold sWr
  rw [sU_f (by decide), sU_f (by decide)]
  by_cases e : a = i
  · subst e; rw [sU_at, if_pos rfl]
  · rw [sU_i e, sU_i e, if_neg e]
theorem m11 (S : SS) (i b o v9 v10 v12 a c : Nat) : sFr (sU (sU (sU (sU S 9 i 0 v9) 10 i 0 v10) 11 i b o) 12 i o v12) a c = if a = i ∧ c = b then o else sFr S a c := by
  unfold sFr
  rw [sU_f (by decide)]
  by_cases e : a = i ∧ c = b
  · obtain ⟨rfl, rfl⟩ := e; rw [sU_at, if_pos ⟨rfl, rfl⟩]
  · rw [if_neg e]
    have z2 : ¬ (11 = 11 ∧ a = i ∧ c = b) := fun y => e y.2
    show (if 11 = 11 ∧ a = i ∧ c = b then o else _) = _
    rw [if_neg z2, sU_f (by decide), sU_f (by decide)]
theorem m12 (S : SS) (i b o v9 v10 v12 a c : Nat) : sGot (sU (sU (sU (sU S 9 i 0 v9) 10 i 0 v10) 11 i b o) 12 i o v12) a c = if a = i ∧ c = o then v12 else sGot S a c := by
  unfold sGot
  by_cases e : a = i ∧ c = o
  · obtain ⟨rfl, rfl⟩ := e; rw [sU_at, if_pos ⟨rfl, rfl⟩]
  · rw [if_neg e]
    have z2 : ¬ (12 = 12 ∧ a = i ∧ c = o) := fun y => e y.2
    show (if 12 = 12 ∧ a = i ∧ c = o then v12 else _) = _
    rw [if_neg z2, sU_f (by decide), sU_f (by decide), sU_f (by decide)]
theorem m8 (S : SS) (i v a : Nat) : sDb (sU S 8 i 0 v) a = if a = i then v else sDb S a := by
  unfold sDb
  by_cases e : a = i
  · subst e; rw [sU_at, if_pos rfl]
  · rw [sU_i e, if_neg e]
theorem RepM_hit {S : SS} {M M1 : Mem} {i b o : Nat} (h : RepM S M) (hi : i < 6) (hb : (sHad S i).testBit b = true) (e : M1 = wI M 39 0 i (nI (sDb S i + 1))) : RepM (comeOne S i b o) M1 := by
  rw [comeOne_hit hb]
  have v : ∀ κ a k, κ ≠ 39 → mI M1 κ a k = mI M κ a k := fun κ a k z => by rw [e, mI_wI, if_neg (by omega)]
  refine ⟨⟨fun κ hκ => by rw [e]; exact h.1.1 κ hκ, fun k hk => by rw [e]; exact h.1.2 k hk⟩, ?_, ?_, fun p hp' => ?_, fun i2 hi2 => ⟨?_, ?_, ?_, ?_, ?_, ?_⟩, fun i2 p hi2 hp' => ⟨?_, ?_⟩, fun i2 b2 hi2 hb2 => ?_, fun i2 o2 hi2 ho2 => ⟨?_, ?_, ?_⟩⟩
  · rw [v _ _ _ (by decide)]; exact h.r
  · rw [v _ _ _ (by decide)]; exact h.n
  · rw [v _ _ _ (by decide)]; exact h.pr hp'
  · rw [v _ _ _ (by decide)]; exact h.he hi2
  · rw [v _ _ _ (by decide)]; exact h.held hi2
  · rw [v _ _ _ (by decide)]; exact h.car hi2
  · rw [v _ _ _ (by decide)]; exact h.seq hi2
  · rw [v _ _ _ (by decide)]; exact h.sp hi2
  · rw [e, mI_wI, m8]
    by_cases z : i2 = i
    · rw [if_pos ⟨rfl, rfl, z⟩, if_pos z]
    · rw [if_neg (by omega), if_neg z]; exact h.db hi2
  · rw [v _ _ _ (by decide)]; exact h.had hi2 hp'
  · rw [v _ _ _ (by decide)]; exact h.wr hi2 hp'
  · rw [v _ _ _ (by decide)]; exact h.fr hi2 hb2
  · rw [v _ _ _ (by decide)]; exact h.got hi2 ho2
  · rw [v _ _ _ (by decide)]; exact h.st hi2 ho2
  · rw [v _ _ _ (by decide)]; exact h.ban hi2 ho2
theorem RepM_miss {S : SS} {M M1 M2 M3 M4 : Mem} {i b o : Nat} (h : RepM S M) (hi : i < 6) (ho : o < 6) (hb48 : b < 48) (hb : (sHad S i).testBit b = false)
    (e1 : M1 = wI M 40 0 (12 * i + b / 4) (nI (nib (sHad S i) (b / 4) ||| 2 ^ (b % 4)))) (e2 : M2 = wI M1 41 0 (12 * i + b / 4) (nI (nib (sWr S i) (b / 4) ||| (if (sSp S o).testBit (b / 4) then 2 ^ (b % 4) else 0))))
    (e3 : M3 = wI M2 43 0 (48 * i + b) (nI o)) (e4 : M4 = wI M3 44 0 (6 * i + o) (nI (sGot S i o + 1))) : RepM (comeOne S i b o) M4 := by
  rw [comeOne_miss hb]
  have v : ∀ κ a k, κ ≠ 40 ∧ κ ≠ 41 ∧ κ ≠ 43 ∧ κ ≠ 44 → mI M4 κ a k = mI M κ a k := fun κ a k z => by rw [e4, mI_wI, if_neg (by omega), e3, mI_wI, if_neg (by omega), e2, mI_wI, if_neg (by omega), e1, mI_wI, if_neg (by omega)]
  refine ⟨⟨fun κ hκ => by rw [e4, e3, e2, e1]; exact h.1.1 κ hκ, fun k hk => by rw [e4, e3, e2, e1]; exact h.1.2 k hk⟩, ?_, ?_, fun p hp' => ?_, fun i2 hi2 => ⟨?_, ?_, ?_, ?_, ?_, ?_⟩, fun i2 p hi2 hp' => ⟨?_, ?_⟩, fun i2 b2 hi2 hb2 => ?_, fun i2 o2 hi2 ho2 => ⟨?_, ?_, ?_⟩⟩
  · rw [v _ _ _ (by decide)]; exact h.r
  · rw [v _ _ _ (by decide)]; exact h.n
  · rw [v _ _ _ (by decide)]; exact h.pr hp'
  · rw [v _ _ _ (by decide)]; exact h.he hi2
  · rw [v _ _ _ (by decide)]; exact h.held hi2
  · rw [v _ _ _ (by decide)]; exact h.car hi2
  · rw [v _ _ _ (by decide)]; exact h.seq hi2
  · rw [v _ _ _ (by decide)]; exact h.sp hi2
  · rw [v _ _ _ (by decide)]; exact h.db hi2
  · rw [e4, mI_wI, if_neg (by omega), e3, mI_wI, if_neg (by omega), e2, mI_wI, if_neg (by omega), e1, mI_wI, m9]
    by_cases z : i2 = i
    · subst z
      rw [if_pos rfl, nib_or, nib_2]
      by_cases z2 : b / 4 = p
      · subst z2; rw [if_pos ⟨rfl, rfl, rfl⟩, if_pos rfl]
      · rw [if_neg (by omega), if_neg z2, Nat.or_zero]; exact h.had hi2 hp'
    · rw [if_neg (by omega), if_neg z]; exact h.had hi2 hp'
  · rw [e4, mI_wI, if_neg (by omega), e3, mI_wI, if_neg (by omega), e2, mI_wI, m10]
    by_cases z : i2 = i
    · subst z
      rw [if_pos rfl]
      by_cases z2 : b / 4 = p
      · subst z2
        rw [if_pos ⟨rfl, rfl, rfl⟩]
        split
        · rw [nib_or, nib_2, if_pos rfl]
        · rw [Nat.or_zero]
      · rw [if_neg (by omega), e1, mI_wI, if_neg (by omega)]
        split
        · rw [nib_or, nib_2, if_neg z2, Nat.or_zero]; exact h.wr hi2 hp'
        · exact h.wr hi2 hp'
    · rw [if_neg (by omega), e1, mI_wI, if_neg (by omega), if_neg z]; exact h.wr hi2 hp'
  · rw [e4, mI_wI, if_neg (by omega), e3, mI_wI, m11]
    by_cases z : i2 = i ∧ b2 = b
    · rw [if_pos ⟨rfl, rfl, by omega⟩, if_pos z]
    · rw [if_neg (by omega), e2, mI_wI, if_neg (by omega), e1, mI_wI, if_neg (by omega), if_neg z]; exact h.fr hi2 hb2
  · rw [e4, mI_wI, m12]
    by_cases z : i2 = i ∧ o2 = o
    · rw [if_pos ⟨rfl, rfl, by omega⟩, if_pos z]
    · rw [if_neg (by omega), e3, mI_wI, if_neg (by omega), e2, mI_wI, if_neg (by omega), e1, mI_wI, if_neg (by omega), if_neg z]; exact h.got hi2 ho2
  · rw [v _ _ _ (by decide)]; exact h.st hi2 ho2
  · rw [v _ _ _ (by decide)]; exact h.ban hi2 ho2
