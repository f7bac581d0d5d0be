/-! sums -/
def sm (f : Nat → Nat) : Nat → Nat
  | 0 => 0
  | n + 1 => sm f n + f n
theorem sm_le {f g : Nat → Nat} : ∀ {n : Nat}, (∀ k, k < n → f k ≤ g k) → sm f n ≤ sm g n
  | 0, _ => Nat.le_refl 0
  | n + 1, h => Nat.add_le_add (sm_le (fun k hk => h k (by omega))) (h n (by omega))
theorem sm_eq {f g : Nat → Nat} : ∀ {n : Nat}, (∀ k, k < n → f k = g k) → sm f n = sm g n
  | 0, _ => rfl
  | n + 1, h => by rw [sm, sm, sm_eq (fun k hk => h k (by omega)), h n (by omega)]
theorem sm_z {f : Nat → Nat} : ∀ {n : Nat}, (∀ k, k < n → f k = 0) → sm f n = 0
  | 0, _ => rfl
  | n + 1, h => by rw [sm, sm_z (fun k hk => h k (by omega)), h n (by omega)]
theorem sm_add (f g : Nat → Nat) : ∀ n, sm (fun k => f k + g k) n = sm f n + sm g n
  | 0 => rfl
  | n + 1 => by
    have := sm_add f g n
    show sm (fun k => f k + g k) n + (f n + g n) = (sm f n + f n) + (sm g n + g n)
    omega
theorem sm_swap (f : Nat → Nat → Nat) (m : Nat) : ∀ n, sm (fun i => sm (fun o => f i o) m) n = sm (fun o => sm (fun i => f i o) n) m
  | 0 => (sm_z (fun k _ => rfl)).symm
  | n + 1 => by
    show sm (fun i => sm (fun o => f i o) m) n + sm (fun o => f n o) m = sm (fun o => sm (fun i => f i o) n + f n o) m
    rw [sm_swap f m n, sm_add]
theorem sm_ext {f : Nat → Nat} {n : Nat} (h : ∀ k, n ≤ k → f k = 0) : ∀ m, n ≤ m → sm f m = sm f n
  | 0, hm => by rw [show n = 0 by omega]
  | m + 1, hm => by
    by_cases e : n = m + 1
    · rw [e]
    · rw [sm, h m (by omega), Nat.add_zero, sm_ext h m (by omega)]
theorem sm_mono {f : Nat → Nat} {n : Nat} : ∀ m, n ≤ m → sm f n ≤ sm f m
  | 0, hm => by rw [show n = 0 by omega]; exact Nat.le_refl _
  | m + 1, hm => by
    by_cases e : n = m + 1
    · rw [e]; exact Nat.le_refl _
    · have := sm_mono (f := f) (n := n) m (by omega)
      rw [sm]; omega
theorem sm_one {f : Nat → Nat} {a : Nat} : ∀ n, a < n → f a ≤ sm f n
  | 0, h => absurd h (by omega)
  | n + 1, h => by
    rw [sm]
    by_cases e : a = n
    · subst e; omega
    · have := sm_one (f := f) (a := a) n (by omega); omega
theorem sm_two {f : Nat → Nat} {a b : Nat} (hab : a ≠ b) : ∀ n, a < n → b < n → f a + f b ≤ sm f n
  | 0, h, _ => absurd h (by omega)
  | n + 1, ha, hb => by
    rw [sm]
    by_cases e : a = n
    · have := sm_one (f := f) (a := b) n (by omega)
      subst e; omega
    · by_cases e2 : b = n
      · have := sm_one (f := f) (a := a) n (by omega)
        subst e2; omega
      · have := sm_two (f := f) hab n (by omega) (by omega); omega
theorem sm_upd (f : Nat → Nat) (a : Nat) : ∀ n, sm (fun k => if k = a then f k + 1 else f k) n = sm f n + (if a < n then 1 else 0)
  | 0 => rfl
  | n + 1 => by
    rw [sm, sm, sm_upd f a n]
    by_cases e : n = a
    · subst e
      rw [if_pos rfl, if_neg (Nat.lt_irrefl _), if_pos (Nat.lt_succ_self _)]; omega
    · rw [if_neg e]
      by_cases h : a < n
      · rw [if_pos h, if_pos (by omega)]; omega
      · rw [if_neg h, if_neg (by omega)]; omega
theorem sm_bd {f : Nat → Nat} {B : Nat} (h : ∀ k, f k ≤ B) : ∀ n, sm f n ≤ B * n
  | 0 => Nat.zero_le _
  | n + 1 => by
    have := sm_bd h n
    have := h n
    rw [sm, Nat.mul_succ]; omega
def pcT (x : Nat) : Nat → Nat
  | 0 => 0
  | k + 1 => pcT x k + (if x.testBit k then 1 else 0)
theorem pcT_sm (x : Nat) : ∀ n, pcT x n = sm (fun k => if x.testBit k then 1 else 0) n
  | 0 => rfl
  | n + 1 => by rw [pcT, sm, pcT_sm x n]
theorem pcT_le (x : Nat) : ∀ n, pcT x n ≤ n
  | 0 => Nat.le_refl 0
  | n + 1 => by
    have := pcT_le x n
    rw [pcT]; split <;> omega
/-! what was got in a round -/
/-- one that chose a peer gives it a block at most -/
def ind (S : SS) (i o : Nat) : Nat := if hr S o && (chosen S o).testBit i then 1 else 0
theorem ind_le (S : SS) (i o : Nat) : ind S i o ≤ 1 := by unfold ind; split <;> omega
theorem ind_self (S : SS) (i : Nat) : ind S i i = 0 := by
  unfold ind
  rw [if_neg]
  intro h
  simp only [Bool.and_eq_true] at h
  exact (chosen_intr h.2).2 rfl
theorem ind_hr {S : SS} {i o : Nat} (h : hr S o = false) : ind S i o = 0 := by
  unfold ind; rw [h]; rfl
def cnt (c : Nat) (l : List (Nat × Nat)) : Nat := (l.filter (fun q => q.2 == c)).length
theorem cnt_app (c : Nat) (l : List (Nat × Nat)) (q : Nat × Nat) : cnt c (l ++ [q]) = cnt c l + (if q.2 = c then 1 else 0) := by
  unfold cnt
  rw [List.filter_append, List.length_append]
  by_cases h : q.2 = c
  · rw [if_pos h, List.filter_cons_of_pos (by simp [h])]; rfl
  · rw [if_neg h, List.filter_cons_of_neg (by simp [h])]; rfl
theorem askTo_cnt (S : SS) (i c : Nat) : ∀ o, cnt c (askTo S i o).2 ≤ if c < o then ind S i c else 0
  | 0 => Nat.le_refl 0
  | o + 1 => by
    have ih := askTo_cnt S i c o
    have mono : cnt c (askTo S i o).2 ≤ if c < o + 1 then ind S i c else 0 := by
      by_cases h : c < o
      · rw [if_pos h] at ih; rw [if_pos (by omega)]; exact ih
      · rw [if_neg h] at ih; omega
    rw [askTo]
    by_cases hc : (hr S o && (chosen S o).testBit i) = true
    · rw [if_pos hc]
      cases hb : askB S i o (askTo S i o).1 with
      | none => exact mono
      | some b =>
        show cnt c ((askTo S i o).2 ++ [(b, o)]) ≤ _
        rw [cnt_app]
        by_cases e : o = c
        · subst e
          rw [if_neg (Nat.lt_irrefl _)] at ih
          rw [if_pos rfl, if_pos (by omega)]
          unfold ind
          rw [if_pos hc]; omega
        · rw [if_neg e]; exact mono
    · rw [if_neg hc]; exact mono
theorem stK_got {S : SS} {i : Nat} {l : List (Nat × Nat)} (hq : ∀ q ∈ l, q.2 < 6) : ∀ k, k ≤ l.length → sm (fun o => sGot (stK S i l k).1 i o) 6 = (stK S i l k).2 ∧ ∀ c, sGot (stK S i l k).1 i c ≤ cnt c (l.take k)
  | 0, _ => by
    have e : ∀ c, sGot (stK S i l 0).1 i c = 0 := fun c => by
      show gz i S 12 i c = 0
      unfold gz; rw [if_pos ⟨rfl, rfl⟩]
    exact ⟨sm_z (fun c _ => e c), fun c => by rw [e]; exact Nat.zero_le _⟩
  | k + 1, hk => by
    obtain ⟨h1, h2⟩ := stK_got hq k (by omega)
    obtain ⟨q, hqk⟩ : ∃ q, l[k]? = some q := ⟨_, List.getElem?_eq_getElem (by omega)⟩
    have tk : l.take (k + 1) = l.take k ++ [q] := by rw [List.take_succ, hqk]; rfl
    have q6 := hq q (List.mem_of_getElem? hqk)
    rw [stK_s hqk, tk]
    have s2 : (cS (stK S i l k) (i, q.1, q.2)).2 = (stK S i l k).2 + if (sHad (stK S i l k).1 i).testBit q.1 then 0 else 1 := rfl
    have s1 : (cS (stK S i l k) (i, q.1, q.2)).1 = comeOne (stK S i l k).1 i q.1 q.2 := rfl
    rw [s1, s2]
    cases hb : (sHad (stK S i l k).1 i).testBit q.1 with
    | true =>
      have e : ∀ c, sGot (comeOne (stK S i l k).1 i q.1 q.2) i c = sGot (stK S i l k).1 i c := fun c => by rw [comeOne_hit hb]; exact sU_f (by decide)
      refine ⟨?_, fun c => ?_⟩
      · rw [if_pos rfl, Nat.add_zero, ← h1]; exact sm_eq (fun c _ => e c)
      · rw [e, cnt_app]; exact Nat.le_trans (h2 c) (Nat.le_add_right _ _)
    | false =>
      have e : ∀ c, sGot (comeOne (stK S i l k).1 i q.1 q.2) i c = if c = q.2 then sGot (stK S i l k).1 i c + 1 else sGot (stK S i l k).1 i c := fun c => by
        rw [comeOne_miss hb, m12]
        by_cases z : c = q.2
        · rw [if_pos ⟨rfl, z⟩, if_pos z, z]
        · rw [if_neg (fun y => z y.2), if_neg z]
      refine ⟨?_, fun c => ?_⟩
      · rw [if_neg (by decide), ← h1]
        rw [sm_eq (fun c _ => e c), sm_upd, if_pos q6]
      · rw [e, cnt_app]
        have := h2 c
        by_cases z : c = q.2
        · rw [if_pos z, if_pos z.symm]; omega
        · rw [if_neg z, if_neg (fun y => z y.symm)]; omega
theorem got_round (S : SS) (i o : Nat) : sGot (roundS S).1 i o = sGot (comesTo S (askL S) 6).1 i o := by
  show (roundS S).1 12 i o = _
  rw [roundS_e, sU_f (by decide), endsTo_f (by decide)]
theorem got_row {S : SS} {i : Nat} (h6 : i < 6) (o : Nat) : sGot (roundS S).1 i o = if hr S i then sGot (stK (comesTo S (askL S) i).1 i (askTo S i 6).2 (askTo S i 6).2.length).1 i o else 0 := by
  rw [got_round]
  show (comesTo S (askL S) 6).1 12 i o = _
  rw [comesTo_row _ (askL_i S) 6 h6]
  cases hi : hr S i with
  | true => rw [comesTo_s hi]; rfl
  | false =>
    rw [comesTo, if_neg (by rw [hi]; decide)]
    show gz i _ 12 i o = 0
    unfold gz; rw [if_pos ⟨rfl, rfl⟩]
theorem got_le {S : SS} {i : Nat} (h6 : i < 6) (o : Nat) : sGot (roundS S).1 i o ≤ if hr S i then ind S i o else 0 := by
  rw [got_row h6]
  cases hi : hr S i with
  | false => exact Nat.le_refl 0
  | true =>
    rw [if_pos rfl, if_pos rfl]
    have h := (stK_got (S := (comesTo S (askL S) i).1) (i := i) (l := (askTo S i 6).2) (fun q hq => (askTo_mem S i 6 q hq).2.1) _ (Nat.le_refl _)).2 o
    rw [List.take_length] at h
    have h2 := askTo_cnt S i o 6
    refine Nat.le_trans h (Nat.le_trans h2 ?_)
    split
    · exact Nat.le_refl _
    · exact Nat.zero_le _
theorem got_1 {S : SS} {i : Nat} (h6 : i < 6) (o : Nat) : sGot (roundS S).1 i o ≤ 1 := by
  have h := got_le (S := S) h6 o
  have := ind_le S i o
  split at h <;> omega
theorem got_self {S : SS} {i : Nat} (h6 : i < 6) : sGot (roundS S).1 i i = 0 := by
  have h := got_le (S := S) h6 i
  rw [ind_self] at h
  split at h <;> omega
theorem got_out {S : SS} {i o : Nat} (h6 : i < 6) (h : hr S i = false ∨ hr S o = false) : sGot (roundS S).1 i o = 0 := by
  have g := got_le (S := S) h6 o
  rcases h with h | h
  · rw [h] at g; simpa using g
  · rw [ind_hr h] at g
    split at g <;> omega
theorem comes_sum (S : SS) : ∀ j, j ≤ 6 → (comesTo S (askL S) j).2 = sm (fun i => sm (fun o => sGot (roundS S).1 i o) 6) j
  | 0, _ => rfl
  | j + 1, hj => by
    have ih := comes_sum S j (by omega)
    rw [sm, ← ih]
    have row := fun o => got_row (S := S) (i := j) (by omega) o
    cases hh : hr S j with
    | true =>
      rw [comesTo_s hh]
      show _ + _ = _ + _
      rw [← (stK_got (S := (comesTo S (askL S) j).1) (i := j) (l := (askTo S j 6).2) (fun q hq => (askTo_mem S j 6 q hq).2.1) _ (Nat.le_refl _)).1]
      congr 1
      exact sm_eq (fun o _ => by rw [row, hh, if_pos rfl])
    | false =>
      rw [comesTo, if_neg (by rw [hh]; decide)]
      show _ = _ + _
      rw [sm_z (fun o _ => by rw [row, hh]; rfl)]; rfl
theorem round_sum (S : SS) : (roundS S).2 = sm (fun i => sm (fun o => sGot (roundS S).1 i o) 6) 6 := comes_sum S 6 (Nat.le_refl _)
theorem round_came (S : SS) : (roundS S).2 ≤ sm (fun o => if hr S o then pcT (chosen S o) 12 else 0) 6 := by
  rw [round_sum]
  refine Nat.le_trans (sm_le (g := fun i => sm (fun o => ind S i o) 6) (fun i hi => sm_le (fun o _ => ?_))) ?_
  · have h := got_le (S := S) hi o
    split at h <;> omega
  · rw [sm_swap]
    refine sm_le (fun o _ => ?_)
    cases hh : hr S o with
    | false => rw [sm_z (fun i _ => ind_hr hh)]; exact Nat.zero_le _
    | true =>
      rw [if_pos rfl, pcT_sm]
      refine Nat.le_trans (sm_le (g := fun k => if (chosen S o).testBit k then 1 else 0) (fun i _ => ?_)) (sm_mono 12 (by omega))
      unfold ind
      rw [hh, Bool.true_and]; exact Nat.le_refl _
