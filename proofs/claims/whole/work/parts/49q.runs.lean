theorem round_n (S : SS) : sN (roundS S).1 = sN S := by
  show (roundS S).1 0 0 0 = _
  rw [roundS_e, sU_f (by decide), endsTo_f (by decide)]; exact comesTo_low (by omega) 6
theorem runS_n (S : SS) : ∀ k, sN (runS S k).1 = sN S
  | 0 => rfl
  | k + 1 => by
    show sN (roundS (runS S k).1).1 = _
    rw [round_n, runS_n S k]
theorem lt1_neg {x : Int32} (h : ¬ x < 1) : ¬ x < 0 := fun z => h (Int32.lt_trans z (by decide))
/-- the rounds that a call of run may ask for -/
theorem run_no {x : Int32} (h : x < 1 ∨ ¬ x ≤ 20) : ∀ n, 1 ≤ n → n ≤ 20 → x ≠ nI n := fun n h1 h2 e => by
  subst e
  rcases h with h | h
  · exact absurd ((nI_ltI (a := n) (b := 1) (by omega) (by omega)).mp h) (by omega)
  · exact h (nI_le (a := n) (b := 20) h2 (by omega))
theorem run_yes {x : Int32} (h : ¬ x < 1) (h2 : x ≤ 20) : ∃ n, 1 ≤ n ∧ n ≤ 20 ∧ x = nI n := by
  obtain ⟨n, hn, e⟩ := nI_of2 (n := 20) (M := 20) (by decide) (lt1_neg h) h2
  refine ⟨n, ?_, hn, e⟩
  rcases Nat.lt_or_ge n 1 with z | z
  · subst e
    exact absurd ((nI_ltI (a := n) (b := 1) (by omega) (by omega)).mpr z) h
  · exact z
theorem pL_run {S : SS} {M : Mem} {Q : Int32 → Mem → Prop} {a : Int32} (hb : Both S M) (h1 : ∀ n, 1 ≤ n → n ≤ 20 → a = nI n → sR S + n ≤ 200 → ∀ M1, Half (runS S n).1 S M1 → mL M1 60 0 0 = (nI (runS S n).2).toInt64 → Q 0 M1) (h0 : (∀ n, 1 ≤ n → n ≤ 20 → a ≠ nI n) → Q 1 M) (h2 : ∀ n, 1 ≤ n → n ≤ 20 → a = nI n → 200 < sR S + n → Q 2 M) : w_L_run M a Q := by
  have h := hb.2.1.1
  have r200 := hb.1.1.r
  refine ⟨h.e 4, ?_⟩
  unfold w_X4_run b_X4_run_11
  refine ⟨fun z => Or.inl ⟨rfl, h0 (run_no (Or.inl z))⟩, fun z => ⟨fun y => ⟨h.e 4, ?_⟩, fun y => Or.inl ⟨rfl, h0 (run_no (Or.inr y))⟩⟩⟩
  obtain ⟨n, n1, n20, e⟩ := run_yes z y
  subst e
  rw [h.r, nI_add]
  refine pk_le (sR S + n) 200 (fun w => ?_) (fun w => Or.inr ⟨rfl, h2 n n1 n20 rfl w⟩)
  refine p_runC h hb.2.1.2.1 hb.1 w (fun M1 g1 c1 l1 => ?_)
  have hf : Half (runS S n).1 S M1 := ⟨runS_good hb.1 n w, hb.1, ⟨c1, l1, ⟨fun a => (g1.1 a 6).trans (hb.2.1.2.2.1.1 a), fun k => (g1.2.1 3 6 k).trans (hb.2.1.2.2.1.2 k)⟩, fun κ hκ i hi => (g1.1 κ i).trans (hb.2.1.2.2.2.1 κ hκ i (by rw [runS_n] at hi; exact hi)), (g1.1 60 0).trans hb.2.1.2.2.2.2⟩, hb.2.2.ag g1 (fun κ a k z => by unfold PC at z; unfold TrM; omega)⟩
  exact p_put2 hf (fun M2 _ h3 v3 => h1 n n1 n20 rfl w M2 h3 v3)
theorem pM_run {S : SS} {M : Mem} {Q : Int32 → Mem → Prop} {a : Int32} (hr' : RepM S M) (hg : Good S)
    (h1 : ∀ n, 1 ≤ n → n ≤ 20 → a = nI n → sR S + n ≤ 200 → Half (runS S n).1 S M ∧ ∀ M1, Both (runS S n).1 M1 → mI M1 5 0 0 = nI 0 → mL M1 60 0 0 = mL M 60 0 0 → Q (nI (runS S n).2) M1)
    (h0 : (∀ n, 1 ≤ n → n ≤ 20 → a ≠ nI n) → ∀ M1, M1 = wI M 5 0 0 1 → mI M1 5 0 0 = nI 1 → Q 0 M1)
    (h2 : ∀ n, 1 ≤ n → n ≤ 20 → a = nI n → 200 < sR S + n → ∀ M1, M1 = wI M 5 0 0 2 → mI M1 5 0 0 = nI 2 → Q 0 M1) : w_X5_run M a Q := by
  have h := hr'
  have r200 := hg.1.r
  have no : (∀ n, 1 ≤ n → n ≤ 20 → a ≠ nI n) → b_X5_run_12 Q M a := fun z => ⟨h.e 5, p_fits 1 rfl (by omega) h (fun M1 e r1 g1 v1 => t0 (h0 z M1 e v1))⟩
  refine ⟨fun z => no (run_no (Or.inl z)), fun z => ⟨fun y => ⟨h.e 5, ?_⟩, fun y => no (run_no (Or.inr y))⟩⟩
  obtain ⟨n, n1, n20, e⟩ := run_yes z y
  subst e
  rw [h.r, nI_add]
  refine pk_le (sR S + n) 200 (fun w => ⟨h.e 5, p_fits 0 rfl (by omega) h (fun M1 e r1 g1 v1 => t1 ?_)⟩) (fun w => ⟨h.e 5, p_fits 2 rfl (by omega) h (fun M1 e r1 g1 v1 => t0 (h2 n n1 n20 rfl w M1 e v1))⟩)
  obtain ⟨hf, hq⟩ := h1 n n1 n20 rfl w
  refine p_runM r1 hg w (fun M2 g2 r2 => ?_)
  refine hq M2 ⟨hf.1, (hf.w5 e).2.2.1.far g2 (fun κ a k z => by unfold PM at z; unfold PF; omega), r2⟩ ?_ ?_
  · rw [g2.i (by unfold PM; omega)]; exact v1
  · rw [g2.l (by unfold PM; omega), e]; rfl
