/-- wishes and rules change, all else stays -/
theorem Good_set {S S1 : SS} (h : Good S) (e : ∀ f a c, f ≠ 3 ∧ f ≠ 5 ∧ f ≠ 6 ∧ f ≠ 7 → S1 f a c = S f a c) (b3 : ∀ p, sPr S1 p ≤ 3) (b5 : ∀ i, sCar S1 i ≤ 1) (b6 : ∀ i, sSeq S1 i ≤ 1) (b7 : ∀ i, sSp S1 i < 2 ^ 12) (z : ∀ f i c, f = 5 ∨ f = 6 ∨ f = 7 → sN S ≤ i → S1 f i c = 0) : Good S1 := by
  obtain ⟨⟨h1, h2, h3, h4, h5, h6, h7, h8, h9, h10, h11, h12, h13, h14, h15⟩, hst, hB, hF, hz⟩ := h
  have en : sN S1 = sN S := e _ _ _ (by decide)
  have er : sR S1 = sR S := e _ _ _ (by decide)
  have eh : ∀ a, hr S1 a = hr S a := fun a => by unfold hr; rw [e 2 a 0 (by decide)]
  refine ⟨⟨by rw [en]; exact h1, by rw [er]; exact h2, fun i => by rw [e 2 i 0 (by decide)]; exact h3 i, fun i hi => by rw [eh] at hi; rw [en]; exact h4 i hi, b3, fun i => by rw [sHeld, e 4 i 0 (by decide)]; exact h6 i, b5, b6, b7, fun i => by rw [sHad, e 9 i 0 (by decide)]; exact h10 i, fun i => by rw [sWr, e 10 i 0 (by decide)]; exact h11 i, fun i => by rw [sBan, e 14 i 0 (by decide)]; exact h12 i, fun i b => by rw [sFr, e 11 i b (by decide)]; exact h13 i b, fun i o => by rw [sGot, e 12 i o (by decide)]; exact h14 i o, fun i o => by rw [sSt, e 13 i o (by decide)]; exact h15 i o⟩, fun a o => ?_, fun a o ha ho h3 => ?_, fun a b ha hb => ?_, fun f i c hf hi => ?_⟩
  · have e1 : sSt S1 a o = sSt S a o := e _ _ _ (by decide)
    rw [e1, er]; exact hst a o
  · have e1 : sSt S1 a o = sSt S a o := e _ _ _ (by decide)
    have e2 : sBan S1 a = sBan S a := e _ _ _ (by decide)
    rw [e1] at h3; rw [e2]; exact hB a o ha ho h3
  · have e1 : sFr S1 a b = sFr S a b := e _ _ _ (by decide)
    rw [e1, en]; exact hF a b ha hb
  · rw [en] at hi
    by_cases y : f = 5 ∨ f = 6 ∨ f = 7
    · exact z f i c y hi
    · rw [e f i c (by omega)]; exact hz f i c hf hi
/-- the class's side, wishes and rules changed -/
theorem CB_set {S S1 : SS} {P : Nat → Nat → Nat → Prop} {M M1 : Mem} (h : CB S M) (e : ∀ f a c, f ≠ 3 ∧ f ≠ 5 ∧ f ≠ 6 ∧ f ≠ 7 → S1 f a c = S f a c) (g : Ag P M M1) (hp : ∀ κ a k, P κ a k → ¬ (κ = 1 ∨ κ = 22)) (hc : RepC S1 M1) : CB S1 M1 := by
  have en : sN S1 = sN S := e _ _ _ (by decide)
  have eh : ∀ a, hr S1 a = hr S a := fun a => by unfold hr; rw [e 2 a 0 (by decide)]
  refine ⟨hc, fun i hi => ?_, ⟨fun a => (g.1 a 6).trans (h.2.2.1.1 a), fun k => (g.2.1 3 6 k).trans (h.2.2.1.2 k)⟩, fun κ hκ i hi => (g.1 κ i).trans (h.2.2.2.1 κ hκ i (by rw [en] at hi; exact hi)), (g.1 60 0).trans h.2.2.2.2⟩
  rw [eh] at hi
  obtain ⟨h0, es, h1, h2⟩ := h.2.1 i hi
  refine ⟨h0, es, h1.ag g (fun κ k z z2 => hp _ _ _ z2 z), ?_⟩
  have er : sR S1 = sR S := e _ _ _ (by decide)
  have et : tri S1 i = tri S i := by unfold tri sHeld sHad sWr; rw [e 4 i 0 (by decide), e 9 i 0 (by decide), e 10 i 0 (by decide)]
  unfold LogV
  rw [er, et]; exact h2
theorem RepC_pr {S : SS} {M M1 : Mem} {p v : Nat} (h : RepC S M) (e : M1 = wI M 11 0 p (nI v)) : RepC (sU S 3 p 0 v) M1 := by
  have g : Ag (fun κ a k => κ = 11 ∧ a = 0 ∧ k = p) M M1 := Ag.rf.wI e ⟨rfl, rfl, rfl⟩
  refine ⟨⟨fun κ hκ => (g.1 κ 0).trans (h.1.1 κ hκ), fun k hk => (g.2.1 4 0 k).trans (h.1.2 k hk)⟩, ⟨?_, ?_, fun q hq => ?_, fun j hj => (g.2.1 10 0 j).trans (h.pres hj)⟩, fun i hi => ⟨⟨fun κ hκ => (g.1 κ i).trans (h.pe hi κ hκ), fun k hk => (g.2.1 2 i k).trans (h.pf hi k hk), (g.2.1 0 i 0).trans (h.2.2 i hi).1.2.2.1, (g.2.1 0 i 1).trans (h.2.2 i hi).1.2.2.2.1, (g.2.1 1 i 1).trans (h.2.2 i hi).1.2.2.2.2⟩, ?_⟩⟩
  · rw [g.i (by omega)]; exact h.n
  · rw [g.i (by omega)]; exact h.r
  · rw [e, mI_wI]
    unfold sPr
    by_cases z : q = p
    · subst z; rw [if_pos ⟨rfl, rfl, rfl⟩, sU_at]
    · rw [if_neg (by omega), sU_i z]; exact h.pr hq
  · refine ⟨?_, ?_, ?_, ?_, ?_, ?_, ?_, ?_, ?_, fun o ho => ?_, fun o ho => ?_, fun o ho => ?_⟩
    · rw [g.i (by omega)]; exact h.num hi
    · rw [g.i (by omega)]; exact h.sp hi
    · rw [g.i (by omega)]; exact h.seq hi
    · rw [g.i (by omega)]; exact h.car hi
    · rw [g.i (by omega)]; exact h.ban hi
    · rw [g.i (by omega)]; exact h.db hi
    · rw [g.i (by omega)]; exact h.held hi
    · rw [g.l (by omega)]; exact h.had hi
    · rw [g.l (by omega)]; exact h.wr hi
    · rw [g.i (by omega)]; exact h.got hi ho
    · rw [g.i (by omega)]; exact h.st hi ho
    · rw [g.l (by omega)]; exact h.cf hi ho
