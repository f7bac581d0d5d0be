theorem cS_fold : ∀ (l : List (Nat × Nat × Nat)) (A : SS) (n : Nat), l.foldl cS (A, n) = ((l.foldl cS (A, 0)).1, n + (l.foldl cS (A, 0)).2)
  | [], A, n => rfl
  | q :: l, A, n => by
    show l.foldl cS (cS (A, n) q) = ((l.foldl cS (cS (A, 0) q)).1, n + (l.foldl cS (cS (A, 0) q)).2)
    have e1 : cS (A, n) q = (comeOne A q.1 q.2.1 q.2.2, n + if (sHad A q.1).testBit q.2.1 then 0 else 1) := rfl
    have e2 : cS (A, 0) q = (comeOne A q.1 q.2.1 q.2.2, 0 + if (sHad A q.1).testBit q.2.1 then 0 else 1) := rfl
    rw [e1, e2, cS_fold l _ (n + _), cS_fold l _ (0 + _)]
    simp [Nat.add_assoc]
theorem chosen_intr {S : SS} {i k : Nat} (h : (chosen S i).testBit k = true) : hr S k = true ∧ k ≠ i := by
  have hk : (intr S i).testBit k = true := by
    have sub1 : ∀ k, (left1 S i).testBit k = true → (intr S i).testBit k = true := fun k z => by
      unfold left1 at z; rw [nd_bit] at z; simp at z; exact z.1
    have sub2 : ∀ k, (left2 S i).testBit k = true → (intr S i).testBit k = true := fun k z => by
      unfold left2 at z; rw [nd_bit] at z; simp at z; exact sub1 k z.1
    unfold chosen at h
    rw [Nat.testBit_or, Nat.testBit_or] at h
    have sg : ∀ (r : Option Nat), (single r).testBit k = true → r = some k := fun r z => by
      cases r with
      | none => simp [single] at z
      | some q =>
        simp only [single, Nat.testBit_two_pow, decide_eq_true_eq] at z
        rw [z]
    simp only [Bool.or_eq_true] at h
    rcases h with (h | h) | h
    · exact (bestG_lt (sg _ h)).2
    · exact sub1 k (bestG_lt (sg _ h)).2
    · exact sub2 k (turnF_lt (sg _ h)).2
  unfold intr at hk
  rw [bs_bit] at hk
  unfold wantsB at hk
  simp at hk
  exact ⟨hk.2.1.1.1, hk.2.1.1.2⟩
theorem askTo_mem (S : SS) (i : Nat) : ∀ o, ∀ q ∈ (askTo S i o).2, q.1 < 48 ∧ q.2 < o ∧ hr S q.2 = true
  | 0, q, hq => by cases hq
  | o + 1, q, hq => by
    rw [askTo] at hq
    split at hq
    · rename_i hc
      cases hb : askB S i o (askTo S i o).1 with
      | none =>
        rw [hb] at hq
        have := askTo_mem S i o q hq
        exact ⟨this.1, by omega, this.2.2⟩
      | some b =>
        rw [hb] at hq
        rcases List.mem_append.mp hq with z | z
        · have := askTo_mem S i o q z
          exact ⟨this.1, by omega, this.2.2⟩
        · rw [List.mem_singleton.mp z]
          simp only [Bool.and_eq_true] at hc
          exact ⟨askB_lt hb, by show o < o + 1; omega, hc.1⟩
    · have := askTo_mem S i o q hq
      exact ⟨this.1, by omega, this.2.2⟩
theorem askTo_len (S : SS) (i : Nat) : ∀ o, (askTo S i o).2.length ≤ (if i < o then o - 1 else o)
  | 0 => Nat.le_refl 0
  | o + 1 => by
    have ih := askTo_len S i o
    rw [askTo]
    split
    · rename_i hc
      simp only [Bool.and_eq_true] at hc
      have hne := (chosen_intr hc.2).2
      cases hb : askB S i o (askTo S i o).1 with
      | none => simp only; split at ih <;> split <;> omega
      | some b =>
        simp only [List.length_append, List.length_singleton]
        split at ih <;> split <;> omega
    · split at ih <;> split <;> omega
theorem askL_len {S : SS} {i : Nat} (hi : i < 6) : (askTo S i 6).2.length ≤ 5 := by
  have := askTo_len S i 6
  rw [if_pos hi] at this
  exact this
theorem comesTo_s {S : SS} {j : Nat} (hj : hr S j = true) : comesTo S (askL S) (j + 1) = ((stK (comesTo S (askL S) j).1 j (askTo S j 6).2 (askTo S j 6).2.length).1, (comesTo S (askL S) j).2 + (stK (comesTo S (askL S) j).1 j (askTo S j 6).2 (askTo S j 6).2.length).2) := by
  rw [comesTo, if_pos hj, cS_fold]
  unfold stK askL
  rw [List.take_length]
theorem comesTo_low {S : SS} {f a c : Nat} (h : f ≤ 7 ∨ f = 13 ∨ f = 14) : ∀ j, (comesTo S (askL S) j).1 f a c = S f a c
  | 0 => rfl
  | j + 1 => by
    cases hj : hr S j with
    | false =>
      rw [comesTo, if_neg (by rw [hj]; decide)]
      show gz j _ f a c = _
      rw [gz_f (by omega)]; exact comesTo_low h j
    | true =>
      rw [comesTo_s hj]
      show (stK _ j _ _).1 f a c = _
      have : ∀ k, (stK (comesTo S (askL S) j).1 j (askTo S j 6).2 k).1 f a c = (comesTo S (askL S) j).1 f a c := by
        intro k
        induction k with
        | zero => exact gz_f (by omega)
        | succ k ih =>
          cases hq : (askTo S j 6).2[k]? with
          | none =>
            have e : stK (comesTo S (askL S) j).1 j (askTo S j 6).2 (k + 1) = stK (comesTo S (askL S) j).1 j (askTo S j 6).2 k := by unfold stK; rw [List.take_succ, hq]; simp
            rw [e]; exact ih
          | some q =>
            rw [stK_s hq]
            show comeOne _ j q.1 q.2 f a c = _
            rw [comeOne_f (by omega)]; exact ih
      rw [this]; exact comesTo_low h j
theorem comesTo_hr {S : SS} (j i : Nat) : hr (comesTo S (askL S) j).1 i = hr S i := by unfold hr; rw [comesTo_low (by omega)]
theorem comesTo_ok {S : SS} (ok : OKS S) : ∀ j, j ≤ 6 → OKS (comesTo S (askL S) j).1
  | 0, _ => ok
  | j + 1, hj => by
    have ih := comesTo_ok ok j (by omega)
    cases h : hr S j with
    | false => rw [comesTo, if_neg (by rw [h]; decide)]; exact gz_ok ih j
    | true =>
      rw [comesTo_s h]
      exact (stK_ok ih (fun q hq => ⟨(askTo_mem S j 6 q hq).1, (askTo_mem S j 6 q hq).2.1⟩) _ (by have := askL_len (S := S) (i := j) (by omega); omega)).1
theorem p_comeAll {S : SS} {M : Mem} {Q : Int32 → Mem → Prop} {H0 : Nat → Nat} {ES : Nat → List Nat} (h : RepC S M) (ok : OKS S) (hA : ∀ i, hr S i = true → AskV M i (askTo S i 6).1 (askTo S i 6).2) (hL : ∀ i, hr S i = true → LogM M i (H0 i) (ES i) ∧ (ES i).length ≤ 995)
    (hQ : ∀ M1, Ag (fun κ a k => PCo a κ a k) M M1 → RepC (comesTo S (askL S) 6).1 M1 → (∀ i, hr S i = true → LogM M1 i (H0 i) (ES i ++ (askTo S i 6).2.map (ent S))) → Q (nI (comesTo S (askL S) 6).2) M1) : w_X4_comeAll M Q := by
  have loop : ∀ d j, j + d = 6 → ∀ M1, Ag (fun κ a k => PCo a κ a k) M M1 → RepC (comesTo S (askL S) j).1 M1 → (∀ i, hr S i = true → i < j → LogM M1 i (H0 i) (ES i ++ (askTo S i 6).2.map (ent S))) → (∀ i, hr S i = true → j ≤ i → LogM M1 i (H0 i) (ES i)) → l_X4_comeAll_13 Q (d + 1) M1 (nI (comesTo S (askL S) j).2) 6 (nI j) := by
    intro d
    induction d with
    | zero =>
      intro j hj M1 g h1 ha hb
      have e : j = 6 := by omega
      subst e
      show b_X4_comeAll_13 Q _ M1 _ _ _
      unfold b_X4_comeAll_13
      exact pk_le 6 6 (fun _ => hQ M1 g h1 (fun i hi => ha i hi (ok.h6 hi))) (fun z => absurd z (by omega))
    | succ d ih =>
      intro j hj M1 g h1 ha hb
      show b_X4_comeAll_13 Q (l_X4_comeAll_13 Q (d + 1)) M1 _ _ _
      unfold b_X4_comeAll_13 b_X4_comeAll_39
      rw [cl j (by omega)]
      have okj := comesTo_ok ok j (by omega)
      have nx := ih (j + 1) (by omega)
      refine pk_le 6 j (fun z => absurd z (by omega)) (fun _ => ⟨h1.e 10, pk_in j 6 (by omega), fun hf => ⟨h1.e 4, ?_⟩, fun hf v hv => ?_⟩)
      · rw [h1.pres (by omega), comesTo_hr] at hf
        have hA1 := (hA j hf).ag g (fun κ k z z2 => by unfold PCo at z2; omega)
        have len := askL_len (S := S) (i := j) (by omega)
        have lenE := (hL j hf).2
        refine p_comeTo h1 okj (by rw [comesTo_hr]; exact hf) hA1 (fun q hq => ?_) (by omega) (hb j hf (Nat.le_refl _)) (by omega) (fun M2 g2 h2 hL2 v hv v2 hv2 => ?_)
        · obtain ⟨q1, q2, q3⟩ := askTo_mem S j 6 q hq
          exact ⟨q1, q2, by rw [comesTo_hr]; exact q3⟩
        · rw [hv, hv2, nI_add, nI_1]
          rw [comesTo_s hf] at nx
          refine nx M2 (g.tr (g2.mono (fun κ a k z => by unfold PCo at z ⊢; omega))) h2 (fun i hi hij => ?_) (fun i hi hij => ?_)
          · by_cases e : i = j
            · subst e
              have : ent (comesTo S (askL S) i).1 = ent S := by
                funext q
                unfold ent
                rw [sR, sSp, comesTo_low (by omega), comesTo_low (by omega)]
              rw [this] at hL2
              exact hL2
            · exact (ha i hi (by omega)).ag g2 (fun κ k _ z => e z.1)
          · exact (hb i hi (by omega)).ag g2 (fun κ k _ z => absurd z.1 (by omega))
      · rw [h1.pres (by omega), comesTo_hr] at hf
        rw [hv, nI_1]
        have e : comesTo S (askL S) (j + 1) = (gz j (comesTo S (askL S) j).1, (comesTo S (askL S) j).2) := by rw [comesTo, if_neg (by rw [hf]; decide)]
        rw [e] at nx
        refine nx M1 g (RepC_upd (i := j) h1 (Ag.rf (P := fun _ _ _ => False)) (fun _ _ _ z => z.elim) (fun f a c z => by
          rcases z with z | z
          · exact gz_f (by omega)
          · exact gz_i z) (fun hj => by rw [comesTo_hr, hf] at hj; cases hj)) (fun i hi hij => ?_) (fun i hi hij => hb i hi (by omega))
        by_cases e : i = j
        · rw [e, hf] at hi; cases hi
        · exact ha i hi (by omega)
  exact ⟨h.e 4, h.f 0, h.e 10, 7, loop 6 0 rfl M Ag.rf h (fun i _ hi => absurd hi (Nat.not_lt_zero _)) (fun i hi _ => (hL i hi).1)⟩
