theorem p_clear {S : SS} {M : Mem} {Q : Mem → Prop} {i : Nat} (h : RepC S M) (hi : hr S i = true) (hQ : ∀ M1, Ag (fun κ a _ => κ = 0 ∧ a = i) M M1 → AskV M1 i 0 [] → Q M1) : w_X0_clear M i Q := by
  refine ⟨h.pe hi 0, fun M2 h2 M3 h3 => hQ M3 ((Ag.rf.wI h2 ⟨rfl, rfl⟩).wL h3 ⟨rfl, rfl⟩) ⟨?_, ?_, fun c q hq => by simp at hq⟩⟩
  · rw [h3, mL_wL, if_pos ⟨rfl, rfl, rfl⟩]; rfl
  · rw [h3, mI_wL, h2, mI_wI, if_pos ⟨rfl, rfl, rfl⟩]; rfl
theorem p_beginShowing {S : SS} {M : Mem} {Q : Mem → Prop} {i : Nat} (h : RepC S M) (ok : OKS S) (hi : hr S i = true) (hQ : ∀ M1, Ag (fun κ a _ => κ = 26 ∧ a = i) M M1 → (∀ o, hr S o = true → mI M1 26 i o = nI (shown S i o)) → Q M1) : w_X4_beginShowing M i Q := by
  have loop : ∀ d j, j + d = 6 → ∀ M1, Ag (fun κ a _ => κ = 26 ∧ a = i) M M1 → (∀ o, hr S o = true → o < j → mI M1 26 i o = nI (shown S i o)) → l_X4_beginShowing_11 Q (d + 1) M1 i 6 (nI j) := by
    intro d
    induction d with
    | zero =>
      intro j hj M1 g ha
      have e : j = 6 := by omega
      subst e
      show b_X4_beginShowing_11 Q _ M1 _ _ _
      unfold b_X4_beginShowing_11
      exact pk_le 6 6 (fun _ => hQ M1 g (fun o ho => ha o ho (ok.h6 ho))) (fun z => absurd z (by omega))
    | succ d ih =>
      intro j hj M1 g ha
      have h1 := h.ag g (fun κ a k z => by unfold Tr; omega)
      show b_X4_beginShowing_11 Q (l_X4_beginShowing_11 Q (d + 1)) M1 _ _ _
      unfold b_X4_beginShowing_11 b_X4_beginShowing_45
      rw [cl j (by omega)]
      refine pk_le 6 j (fun z => absurd z (by omega)) (fun _ => ⟨h1.e 10, pk_in j 6 (by omega), fun hf => ?_, fun hf v hv => ?_⟩)
      · rw [h1.pres (by omega)] at hf
        refine ⟨h1.pe hi 2, h1.pf hi 12, h1.pe hf 2, h1.e 4, p_findShown h1 ok hi hf ⟨h1.pe hi 26, ?_⟩⟩
        rw [h1.num hf, cl j (by omega)]
        refine ⟨pk_in j 6 (by omega), fun M2 h2 v hv => ?_⟩
        rw [hv, nI_1]
        refine ih (j + 1) (by omega) M2 (g.wI h2 ⟨rfl, rfl⟩) (fun o ho hoj => ?_)
        rw [h2, mI_wI]
        by_cases e : o = j
        · rw [if_pos ⟨rfl, rfl, e⟩, e]
        · rw [if_neg (by omega)]; exact ha o ho (by omega)
      · rw [h1.pres (by omega)] at hf
        rw [hv, nI_1]
        refine ih (j + 1) (by omega) M1 g (fun o ho hoj => ?_)
        by_cases e : o = j
        · rw [e, hf] at ho; cases ho
        · exact ha o ho (by omega)
  exact ⟨h.e 4, h.f 0, h.e 10, 7, loop 6 0 rfl M Ag.rf (fun o _ ho => absurd ho (Nat.not_lt_zero _))⟩
/-- what stands for one when it has begun a round -/
def BegV (S : SS) (M : Mem) (i : Nat) : Prop := AskV M i 0 [] ∧ mI M 2 i 13 = nI (chosen S i) ∧ ∀ o, hr S o = true → mI M 26 i o = nI (shown S i o)
theorem BegV.ag {S : SS} {P : Nat → Nat → Nat → Prop} {M M1 : Mem} {i : Nat} (h : BegV S M i) (g : Ag P M M1) (hp : ∀ κ k, ¬ P κ i k) : BegV S M1 i :=
  ⟨h.1.ag g (fun κ k _ => hp κ k), by rw [g.i (hp 2 13)]; exact h.2.1, fun o ho => by rw [g.i (hp 26 o)]; exact h.2.2 o ho⟩
theorem p_begin {S : SS} {M : Mem} {Q : Mem → Prop} (h : RepC S M) (ok : OKS S) (hQ : ∀ M1, Ag Tr M M1 → RoundV S M1 → (∀ i, hr S i = true → AskV M1 i 0 []) → Q M1) : w_X4_begin M Q := by
  have loop2 : ∀ d j, j + d = 6 → ∀ M1, Ag Tr M M1 → (∀ p, p < 12 → mI M1 12 0 p = nI (cH S p 6)) → (∀ i, hr S i = true → i < j → BegV S M1 i) → l_X4_begin_38 Q (d + 1) M1 6 (nI j) := by
    intro d
    induction d with
    | zero =>
      intro j hj M1 g hc ha
      have e : j = 6 := by omega
      subst e
      show b_X4_begin_38 Q _ M1 _ _
      unfold b_X4_begin_38
      exact pk_le 6 6 (fun _ => hQ M1 g ⟨hc, fun i o hi ho => (ha i hi (ok.h6 hi)).2.2 o ho, fun i hi => (ha i hi (ok.h6 hi)).2.1⟩ (fun i hi => (ha i hi (ok.h6 hi)).1)) (fun z => absurd z (by omega))
    | succ d ih =>
      intro j hj M1 g hc ha
      have h1 := h.ag g (fun κ a k z => z)
      show b_X4_begin_38 Q (l_X4_begin_38 Q (d + 1)) M1 _ _
      unfold b_X4_begin_38 b_X4_begin_78
      rw [cl j (by omega)]
      refine pk_le 6 j (fun z => absurd z (by omega)) (fun _ => ⟨h1.e 10, pk_in j 6 (by omega), fun hf => ?_, fun hf v hv => ?_⟩)
      · rw [h1.pres (by omega)] at hf
        refine ⟨h1.pe hf 2, h1.pf hf 3, h1.pe hf 0, p_clear h1 hf (fun M2 g2 hA2 => ?_)⟩
        have h2 := h1.ag g2 (fun κ a k z => by unfold Tr; omega)
        refine ⟨h2.e 4, p_findChosen h2 ok hf ⟨h2.pe hf 2, fun M3 e3 => ?_⟩⟩
        have g3 : Ag (fun κ a k => κ = 2 ∧ a = j ∧ k = 13) M2 M3 := Ag.rf.wI e3 ⟨rfl, rfl, rfl⟩
        have h3 := h2.ag g3 (fun κ a k z => by unfold Tr; omega)
        refine ⟨h3.e 4, p_beginShowing h3 ok hf (fun M4 g4 hs v hv => ?_)⟩
        have gall : Ag (fun κ a k => (κ = 0 ∨ κ = 26 ∨ (κ = 2 ∧ k = 13)) ∧ a = j) M1 M4 := ((g2.mono (fun _ _ _ z => ⟨by omega, z.2⟩)).tr (g3.mono (fun _ _ _ z => ⟨by omega, z.2.1⟩))).tr (g4.mono (fun _ _ _ z => ⟨by omega, z.2⟩))
        rw [hv, nI_1]
        refine ih (j + 1) (by omega) M4 (g.tr (gall.mono (fun κ a k z => by unfold Tr; omega))) (fun p hp => by rw [gall.i (by omega)]; exact hc p hp) (fun i hi hij => ?_)
        by_cases e : i = j
        · subst e
          refine ⟨(hA2.ag g3 (fun κ k _ z => by omega)).ag g4 (fun κ k _ z => by omega), ?_, hs⟩
          rw [g4.i (by omega), e3, mI_wI, if_pos ⟨rfl, rfl, rfl⟩]
        · exact (ha i hi (by omega)).ag gall (fun κ k z => e z.2)
      · rw [h1.pres (by omega)] at hf
        rw [hv, nI_1]
        refine ih (j + 1) (by omega) M1 g hc (fun i hi hij => ?_)
        by_cases e : i = j
        · rw [e, hf] at hi; cases hi
        · exact ha i hi (by omega)
  have loop1 : ∀ d j, j + d = 12 → ∀ M1, Ag Tr M M1 → (∀ p, p < j → mI M1 12 0 p = nI (cH S p 6)) → l_X4_begin_2 Q (d + 1) M1 (nI j) := by
    intro d
    induction d with
    | zero =>
      intro j hj M1 g hc
      have h1 := h.ag g (fun κ a k z => z)
      have e : j = 12 := by omega
      subst e
      show b_X4_begin_2 Q _ M1 _
      unfold b_X4_begin_2
      exact ⟨h1.e 4, h1.f 2, h1.e 12, pk_le 12 12 (fun _ => ⟨h1.f 0, h1.e 10, 7, loop2 6 0 rfl M1 g hc (fun i _ hi => absurd hi (Nat.not_lt_zero _))⟩) (fun z => absurd z (by omega))⟩
    | succ d ih =>
      intro j hj M1 g hc
      have h1 := h.ag g (fun κ a k z => z)
      show b_X4_begin_2 Q (l_X4_begin_2 Q (d + 1)) M1 _
      unfold b_X4_begin_2
      rw [cl j (by omega)]
      refine ⟨h1.e 4, h1.f 2, h1.e 12, pk_le 12 j (fun z => absurd z (by omega)) (fun _ => p_countHolders j rfl h1 ok (by omega) ⟨h1.e 12, pk_in j 12 (by omega), fun M2 h2 v hv => ?_⟩)⟩
      rw [hv, nI_1]
      refine ih (j + 1) (by omega) M2 (g.wI h2 (by unfold Tr; omega)) (fun p hp => ?_)
      rw [h2, mI_wI]
      by_cases e : p = j
      · rw [if_pos ⟨rfl, rfl, e⟩, e]
      · rw [if_neg (by omega)]; exact hc p (by omega)
  exact ⟨13, loop1 12 0 rfl M Ag.rf (fun p hp => absurd hp (Nat.not_lt_zero _))⟩
