/-- the reference's kinds -/
def PM (κ _a k : Nat) : Prop := (κ = 5 ∧ k ≠ 0) ∨ (32 ≤ κ ∧ κ ≤ 52)
theorem RepM_round {S : SS} {M M1 : Mem} {v : Nat} (h : RepM S M) (e : M1 = wI M 5 0 1 (nI v)) : RepM (sU S 1 0 0 v) M1 := by
  have x : ∀ κ a k, ¬ (κ = 5 ∧ k = 1) → mI M1 κ a k = mI M κ a k := fun κ a k z => by rw [e, mI_wI, if_neg (by omega)]
  refine ⟨⟨fun κ hκ => by rw [e]; exact h.1.1 κ hκ, fun k hk => by rw [e]; exact h.1.2 k hk⟩, ?_, ?_, fun p hp' => ?_, fun i2 hi2 => ⟨?_, ?_, ?_, ?_, ?_, ?_⟩, fun i2 p2 hi2 hp2 => ⟨?_, ?_⟩, fun i b hi hb => ?_, fun i o hi ho => ⟨?_, ?_, ?_⟩⟩
  · rw [e, mI_wI, if_pos ⟨rfl, rfl, rfl⟩, sR, sU_at]
  · rw [x _ _ _ (by decide)]; exact h.n
  · rw [x _ _ _ (by omega)]; exact h.pr hp'
  · rw [x _ _ _ (by omega)]; exact h.he hi2
  · rw [x _ _ _ (by omega)]; exact h.held hi2
  · rw [x _ _ _ (by omega)]; exact h.car hi2
  · rw [x _ _ _ (by omega)]; exact h.seq hi2
  · rw [x _ _ _ (by omega)]; exact h.sp hi2
  · rw [x _ _ _ (by omega)]; exact h.db hi2
  · rw [x _ _ _ (by omega)]; exact h.had hi2 hp2
  · rw [x _ _ _ (by omega)]; exact h.wr hi2 hp2
  · rw [x _ _ _ (by omega)]; exact h.fr hi hb
  · rw [x _ _ _ (by omega)]; exact h.got hi ho
  · rw [x _ _ _ (by omega)]; exact h.st hi ho
  · rw [x _ _ _ (by omega)]; exact h.ban hi ho
theorem p_runM {S : SS} {M : Mem} {Q : Int32 → Mem → Prop} {n : Nat} (h : RepM S M) (hg : Good S) (hn : sR S + n ≤ 200) (hQ : ∀ M1, Ag PM M M1 → RepM (runS S n).1 M1 → Q (nI (runS S n).2) M1) : ∃ m, l_X5_run_45 Q m M (nI n) 0 0 := by
  have main : ∀ d j, j + d = n → ∀ M1, Ag PM M M1 → RepM (runS S j).1 M1 → l_X5_run_45 Q (d + 1) M1 (nI n) (nI (runS S j).2) (nI j) := by
    intro d
    induction d with
    | zero =>
      intro j hj M1 g h1
      have e : j = n := by omega
      subst e
      show b_X5_run_45 Q _ M1 _ _ _
      unfold b_X5_run_45
      exact pk_le j j (fun _ => hQ M1 g h1) (fun z => absurd z (by omega))
    | succ d ih =>
      intro j hj M1 g h1
      have nx := ih (j + 1) (by omega)
      have gd := runS_good hg j (by omega)
      have rr := runS_r S j
      show b_X5_run_45 Q (l_X5_run_45 Q (d + 1)) M1 _ _ _
      unfold b_X5_run_45
      have nx : ∀ M1, Ag PM M M1 → RepM (roundS (runS S j).1).1 M1 → l_X5_run_45 Q (d + 1) M1 (nI n) (nI ((runS S j).2 + (roundS (runS S j).1).2)) (nI (j + 1)) := nx
      generalize runS S j = A at h1 gd rr nx ⊢
      obtain ⟨ok, hst, hB, hF, hz⟩ := gd
      refine pk_le n j (fun z => absurd z (by omega)) (fun _ => ⟨h1.e 5, p_looks h1 ok (fun M2 g2 r2 => ?_)⟩)
      have h2 := h1.ag g2 (fun κ a k z => by unfold TrM; omega)
      refine ⟨h2.e 5, p_asks h2 ok r2 (fun M3 g3 l3 => ?_)⟩
      have h3 := h2.ag g3 (fun κ a k z => by unfold PAk at z; unfold TrM; omega)
      refine ⟨h3.e 5, p_comesM h3 ok l3 (fun M4 g4 h4 v hv => ⟨h4.e 5, ?_⟩)⟩
      have okc := comesTo_ok ok 6 (Nat.le_refl _)
      have cn : sN (comesTo A.1 (askL A.1) 6).1 = sN A.1 := comesTo_low (by omega) 6
      refine p_endsM h4 okc (comes_bi hB) (comes_fr ok hF) (fun a o => ?_) (fun i hi => ?_) (fun M5 g5 h5 => ⟨h5.e 5, fun M6 h6 w hw => ?_⟩)
      · have e1 : sSt (comesTo A.1 (askL A.1) 6).1 a o = sSt A.1 a o := comesTo_low (by omega) 6
        rw [e1]; have := hst a o; omega
      · rw [cn] at hi
        exact comes_row (hr_hi ok hi) 9 0 (hz 9 i 0 (by omega) hi)
      · have er : sR (endsTo (comesTo A.1 (askL A.1) 6).1 6) = sR A.1 := (endsTo_f (by decide) 6).trans (comesTo_low (by omega) 6)
        rw [h5.r, nI_1, er] at h6
        rw [hv, hw, nI_add, nI_1]
        refine nx M6 (((((g.tr (g2.mono (fun κ a k z => by unfold PM; omega))).tr (g3.mono (fun κ a k z => by unfold PAk at z; unfold PM; omega))).tr (g4.mono (fun κ a k z => by unfold PCm at z; unfold PM; omega))).tr (g5.mono (fun κ a k z => by unfold PE at z; unfold PM; omega))).wI h6 (Or.inl ⟨rfl, by decide⟩)) ?_
        rw [roundS_e]
        exact RepM_round h5 h6
  exact ⟨n + 1, main n 0 (by omega) M Ag.rf h⟩
/-- the logs of those who are here -/
def LogsV (S : SS) (M : Mem) : Prop := ∀ i, hr S i = true → ∃ h0 es, LogM M i h0 es ∧ LogV S i h0 es
theorem p_runC {S : SS} {M : Mem} {Q : Int32 → Mem → Prop} {X : Nat → Mem → Prop} {n : Nat} (h : RepC S M) (hl : LogsV S M) (hg : Good S) (hn : sR S + n ≤ 200) (hQ : ∀ M1, Ag PC M M1 → RepC (runS S n).1 M1 → LogsV (runS S n).1 M1 → Q (nI (runS S n).2) M1) : ∃ m, l_X4_run_47 Q X m M (nI n) 0 0 := by
  have main : ∀ d j, j + d = n → ∀ M1, Ag PC M M1 → RepC (runS S j).1 M1 → LogsV (runS S j).1 M1 → l_X4_run_47 Q X (d + 1) M1 (nI n) (nI (runS S j).2) (nI j) := by
    intro d
    induction d with
    | zero =>
      intro j hj M1 g h1 l1
      have e : j = n := by omega
      subst e
      show b_X4_run_47 Q X _ M1 _ _ _
      unfold b_X4_run_47
      exact pk_le j j (fun _ => hQ M1 g h1 l1) (fun z => absurd z (by omega))
    | succ d ih =>
      intro j hj M1 g h1 l1
      have nx := ih (j + 1) (by omega)
      have gd := runS_good hg j (by omega)
      have rr := runS_r S j
      have nx : ∀ M1, Ag PC M M1 → RepC (roundS (runS S j).1).1 M1 → LogsV (roundS (runS S j).1).1 M1 → l_X4_run_47 Q X (d + 1) M1 (nI n) (nI ((runS S j).2 + (roundS (runS S j).1).2)) (nI (j + 1)) := nx
      show b_X4_run_47 Q X (l_X4_run_47 Q X (d + 1)) M1 _ _ _
      unfold b_X4_run_47
      generalize runS S j = A at h1 l1 gd rr nx ⊢
      obtain ⟨ok, hst, hB, hF, hz⟩ := gd
      have ch : ∃ H0 : Nat → Nat, ∃ ES : Nat → List Nat, ∀ i, hr A.1 i = true → LogM M1 i (H0 i) (ES i) ∧ LogV A.1 i (H0 i) (ES i) := by
        refine ⟨fun i => if q : hr A.1 i = true then (l1 i q).choose else 0, fun i => if q : hr A.1 i = true then (l1 i q).choose_spec.choose else [], fun i hi => ?_⟩
        simp only [hi, dif_pos]
        exact (l1 i hi).choose_spec.choose_spec
      obtain ⟨H0, ES, hLE⟩ := ch
      refine pk_le n j (fun z => absurd z (by omega)) (fun _ => ⟨h1.e 4, p_runRound (Q := fun v M28 => ∀ w : Int32, w = nI j + 1 → l_X4_run_47 Q X (d + 1) M28 (nI n) v w) (H0 := H0) (ES := ES) h1 ok (by omega) hst (fun i hi => ⟨(hLE i hi).1, (hLE i hi).2.2.2.1⟩) (fun M2 g2 h2 l2 w hw => ?_)⟩)
      rw [hw, nI_add, nI_1]
      refine nx M2 (g.tr g2) h2 (fun i hi => ?_)
      have hi' : hr A.1 i = true := by
        have : hr (roundS A.1).1 i = hr A.1 i := by
          unfold hr
          have e : (roundS A.1).1 2 i 0 = A.1 2 i 0 := by
            rw [roundS_e, sU_f (by decide), endsTo_f (by decide)]; exact comesTo_low (by omega) 6
          rw [e]
        rw [this] at hi; exact hi
      exact ⟨H0 i, _, l2 i hi', LogV_round hi' (ok.h6 hi') (by omega) (hLE i hi').2⟩
  exact ⟨n + 1, main n 0 (by omega) M Ag.rf h hl⟩
