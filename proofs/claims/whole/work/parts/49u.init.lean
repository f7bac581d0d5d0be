/-! the start -/
/-- nothing is there yet -/
def M00 : Mem := (fun _ _ => false, fun _ _ _ => false, fun _ _ _ => 0, fun _ _ _ => 0)
theorem m00_e (κ i : Nat) : mE M00 κ i = false := rfl
theorem m00_f (κ i k : Nat) : mF M00 κ i k = false := rfl
theorem m00_i (κ i k : Nat) : mI M00 κ i k = 0 := rfl
theorem p_fill {M : Mem} {Q : Mem → Prop} (he : mE M 11 0 = true) (hQ : ∀ M1, Ag (fun κ a _ => κ = 11 ∧ a = 0) M M1 → (∀ p, p < 12 → mI M1 11 0 p = 1) → Q M1) : w_J7_fill_53178_11 M 1 Q := by
  have loop : ∀ d i, i + d = 12 → ∀ M1, Ag (fun κ a _ => κ = 11 ∧ a = 0) M M1 → (∀ p, p < i → mI M1 11 0 p = 1) → l_J7_fill_53178_11_5 Q (d + 1) M1 1 (nI i) 12 := by
    intro d
    induction d with
    | zero =>
      intro i hi M1 g1 h1
      have e : i = 12 := by omega
      subst e
      show b_J7_fill_53178_11_5 Q _ M1 _ _ _
      unfold b_J7_fill_53178_11_5
      exact pk_le 12 12 (fun _ => hQ M1 g1 h1) (fun z => absurd z (by omega))
    | succ d ih =>
      intro i hi M1 g1 h1
      show b_J7_fill_53178_11_5 Q (l_J7_fill_53178_11_5 Q (d + 1)) M1 _ _ _
      unfold b_J7_fill_53178_11_5
      refine pk_le 12 i (fun z => absurd z (by omega)) (fun _ => ⟨(g1.1 11 0).trans he, pk_in i 12 (by omega), fun M2 e2 v hv => ?_⟩)
      rw [cl i (by omega)] at e2
      rw [hv, nI_1]
      refine ih (i + 1) (by omega) M2 (g1.wI e2 ⟨rfl, rfl⟩) (fun p hp => ?_)
      rw [e2, mI_wI]
      by_cases z : p = i
      · rw [if_pos ⟨rfl, rfl, z⟩]
      · rw [if_neg (by omega)]; exact h1 p (by omega)
  exact ⟨he, 13, loop 12 0 rfl M Ag.rf (fun p hp => absurd hp (by omega))⟩
def hallM : Mem := wI (wI (wF (wN (wF (wN (wF (wN (wN M00 4 0) 10 0) 4 0 0 true) 11 0) 4 0 1 true) 12 0) 4 0 2 true) 4 0 3 0) 4 0 4 0
theorem p_X4_init {Q : Mem → Prop} (hQ : ∀ M1, Ag (fun κ a _ => κ = 11 ∧ a = 0) hallM M1 → (∀ p, p < 12 → mI M1 11 0 p = 1) → Q M1) : w_X4_init (wN M00 4 0) Q := by
  unfold w_X4_init
  refine ⟨by simp [mE_N, m00_e], fun M3 e3 => ⟨by subst e3; simp [mE_N], fun M7 e7 => ⟨by subst e7 e3; simp [mE_N, mE_wF, m00_e], fun M10 e10 M15 e15 => ⟨by subst e15 e10 e7 e3; simp [mE_N, mE_wF, m00_e], fun M18 e18 M24 e24 M25 e25 M26 e26 => ?_⟩⟩⟩⟩
  have e : M26 = hallM := by
    subst e26 e25 e24 e18 e15 e10 e7 e3
    rfl
  rw [e]
  exact ⟨by unfold hallM; simp [mF_N, mF_wF, mF_wI], p_fill (by unfold hallM; simp [mE_N, mE_wF, mE_wI]) hQ⟩
def modM (M : Mem) : Mem :=
  let A := wF (wN (wF (wN (wF (wN (wF (wN (wF (wN (wF (wN M 32 0) 5 0 2 true) 34 0) 5 0 4 true) 35 0) 5 0 5 true) 36 0) 5 0 6 true) 37 0) 5 0 7 true) 38 0) 5 0 8 true
  let B := wF (wN (wF (wN (wF (wN (wF (wN (wF (wN (wF (wN A 39 0) 5 0 9 true) 40 0) 5 0 10 true) 41 0) 5 0 11 true) 42 0) 5 0 12 true) 43 0) 5 0 13 true) 44 0) 5 0 14 true
  wF (wN (wF (wN (wF (wN (wF (wN (wF (wN (wF (wN (wF (wN B 45 0) 5 0 15 true) 46 0) 5 0 16 true) 47 0) 5 0 17 true) 48 0) 5 0 18 true) 50 0) 5 0 20 true) 51 0) 5 0 21 true) 52 0) 5 0 22 true
theorem modM_out {M : Mem} {κ i : Nat} (h : i ≠ 0 ∨ κ < 30) : mE (modM M) κ i = mE M κ i ∧ ∀ k, (κ ≠ 5 → mF (modM M) κ i k = mF M κ i k) ∧ mI (modM M) κ i k = mI M κ i k ∧ mL (modM M) κ i k = mL M κ i k := by
  have q : ∀ k, 30 ≤ k → (κ = k ∧ i = 0 ↔ False) := fun k hk => ⟨fun z => by omega, False.elim⟩
  have r32 := q 32 (by omega)
  have r34 := q 34 (by omega)
  have r35 := q 35 (by omega)
  have r36 := q 36 (by omega)
  have r37 := q 37 (by omega)
  have r38 := q 38 (by omega)
  have r39 := q 39 (by omega)
  have r40 := q 40 (by omega)
  have r41 := q 41 (by omega)
  have r42 := q 42 (by omega)
  have r43 := q 43 (by omega)
  have r44 := q 44 (by omega)
  have r45 := q 45 (by omega)
  have r46 := q 46 (by omega)
  have r47 := q 47 (by omega)
  have r48 := q 48 (by omega)
  have r50 := q 50 (by omega)
  have r51 := q 51 (by omega)
  have r52 := q 52 (by omega)
  unfold modM
  refine ⟨?_, fun k => ⟨fun h5 => ?_, ?_, ?_⟩⟩
  · simp only [mE_N, mE_wF, r32, r34, r35, r36, r37, r38, r39, r40, r41, r42, r43, r44, r45, r46, r47, r48, r50, r51, r52, if_false]
  · have p5 : ∀ x : Nat, (κ = 5 ∧ i = 0 ∧ k = x ↔ False) := fun x => ⟨fun z => h5 z.1, False.elim⟩
    simp only [mF_N, mF_wF, p5, r32, r34, r35, r36, r37, r38, r39, r40, r41, r42, r43, r44, r45, r46, r47, r48, r50, r51, r52, if_false]
  · simp only [mI_N, mI_wF, r32, r34, r35, r36, r37, r38, r39, r40, r41, r42, r43, r44, r45, r46, r47, r48, r50, r51, r52, if_false]
  · simp only [mL_N, mL_wF, r32, r34, r35, r36, r37, r38, r39, r40, r41, r42, r43, r44, r45, r46, r47, r48, r50, r51, r52, if_false]
theorem modM_e {M : Mem} : ∀ κ ∈ [32, 34, 35, 36, 37, 38, 39, 40, 41, 42, 43, 44, 45, 46, 47, 48, 50, 51, 52], mE (modM M) κ 0 = true ∧ ∀ k, mI (modM M) κ 0 k = 0 := by
  intro κ hκ
  simp only [List.mem_cons, List.not_mem_nil, or_false] at hκ
  unfold modM
  rcases hκ with rfl | rfl | rfl | rfl | rfl | rfl | rfl | rfl | rfl | rfl | rfl | rfl | rfl | rfl | rfl | rfl | rfl | rfl | rfl <;> simp [mE_N, mE_wF, mI_N, mI_wF]
theorem modM_f {M : Mem} : ∀ k ∈ [2, 4, 5, 6, 7, 8, 9, 10, 11, 12, 13, 14, 15, 16, 17, 18, 20, 21, 22], mF (modM M) 5 0 k = true := by
  intro k hk
  simp only [List.mem_cons, List.not_mem_nil, or_false] at hk
  unfold modM
  rcases hk with rfl | rfl | rfl | rfl | rfl | rfl | rfl | rfl | rfl | rfl | rfl | rfl | rfl | rfl | rfl | rfl | rfl | rfl | rfl <;> simp [mF_N, mF_wF]
theorem p_X5_init {M : Mem} {Q : Mem → Prop} (h5 : mE M 5 0 = true) (hn : ∀ κ, 30 ≤ κ → mE M κ 0 = false) (hQ : ∀ M1, Ag (fun κ a _ => κ = 32 ∧ a = 0) (modM M) M1 → (∀ p, p < 12 → mI M1 32 0 p = 1) → Q M1) : w_X5_init M Q := by
  have loop : ∀ d i, i + d = 12 → ∀ M1, Ag (fun κ a _ => κ = 32 ∧ a = 0) (modM M) M1 → (∀ p, p < i → mI M1 32 0 p = 1) → l_X5_init_159 Q (d + 1) M1 (nI i) := by
    intro d
    induction d with
    | zero =>
      intro i hi M1 g1 h1
      have e : i = 12 := by omega
      subst e
      show b_X5_init_159 Q _ M1 _
      unfold b_X5_init_159
      exact pk_le 12 12 (fun _ => hQ M1 g1 h1) (fun z => absurd z (by omega))
    | succ d ih =>
      intro i hi M1 g1 h1
      show b_X5_init_159 Q (l_X5_init_159 Q (d + 1)) M1 _
      unfold b_X5_init_159
      refine pk_le 12 i (fun z => absurd z (by omega)) (fun _ => ⟨(g1.1 5 0).trans ((modM_out (Or.inr (by omega))).1.trans h5), (g1.2.1 5 0 2).trans (modM_f 2 (by decide)), (g1.1 32 0).trans (modM_e 32 (by decide)).1, pk_in i 12 (by omega), fun M2 e2 v hv => ?_⟩)
      rw [cl i (by omega)] at e2
      rw [hv, nI_1]
      refine ih (i + 1) (by omega) M2 (g1.wI e2 ⟨rfl, rfl⟩) (fun p hp => ?_)
      rw [e2, mI_wI]
      by_cases z : p = i
      · rw [if_pos ⟨rfl, rfl, z⟩]
      · rw [if_neg (by omega)]; exact h1 p (by omega)
  have lp := loop 12 0 rfl (modM M) Ag.rf (fun p hp => absurd hp (by omega))
  have n32 := hn 32 (by omega)
  have n34 := hn 34 (by omega)
  have n35 := hn 35 (by omega)
  have n36 := hn 36 (by omega)
  have n37 := hn 37 (by omega)
  have n38 := hn 38 (by omega)
  have n39 := hn 39 (by omega)
  have n40 := hn 40 (by omega)
  have n41 := hn 41 (by omega)
  have n42 := hn 42 (by omega)
  have n43 := hn 43 (by omega)
  have n44 := hn 44 (by omega)
  have n45 := hn 45 (by omega)
  have n46 := hn 46 (by omega)
  have n47 := hn 47 (by omega)
  have n48 := hn 48 (by omega)
  have n50 := hn 50 (by omega)
  have n51 := hn 51 (by omega)
  have n52 := hn 52 (by omega)
  unfold w_X5_init
  repeat' first | (intro M' h; subst h) | refine And.intro ?_ ?_
  all_goals first | exact ⟨13, lp⟩ | simp [mE_N, mE_wF, h5, n32, n34, n35, n36, n37, n38, n39, n40, n41, n42, n43, n44, n45, n46, n47, n48, n50, n51, n52]
/-- the first state -/
def S00 : SS := fun f _ _ => if f = 3 then 1 else 0
theorem s00 {f i c : Nat} (h : f ≠ 3) : S00 f i c = 0 := by unfold S00; rw [if_neg h]
theorem good_0 : Good S00 := by
  have z : ∀ f i c, f ≠ 3 → S00 f i c = 0 := fun f i c h => s00 h
  refine ⟨⟨?_, ?_, fun i => ?_, fun i hi => ?_, fun p => ?_, fun i => ?_, fun i => ?_, fun i => ?_, fun i => ?_, fun i => ?_, fun i => ?_, fun i => ?_, fun i b => ?_, fun i o => ?_, fun i o => ?_⟩, fun a o => ?_, fun a o ha ho h3 => ?_, fun a b ha hb => ?_, fun f i c hf hi => ?_⟩
  · rw [sN, z _ _ _ (by decide)]; omega
  · rw [sR, z _ _ _ (by decide)]; omega
  · rw [z _ _ _ (by decide)]; omega
  · unfold hr at hi; rw [z _ _ _ (by decide)] at hi; cases hi
  · unfold sPr S00; rw [if_pos rfl]; omega
  · rw [sHeld, z _ _ _ (by decide)]; omega
  · rw [sCar, z _ _ _ (by decide)]; omega
  · rw [sSeq, z _ _ _ (by decide)]; omega
  · rw [sSp, z _ _ _ (by decide)]; omega
  · rw [sHad, z _ _ _ (by decide)]; omega
  · rw [sWr, z _ _ _ (by decide)]; omega
  · rw [sBan, z _ _ _ (by decide)]; omega
  · rw [sFr, z _ _ _ (by decide)]; omega
  · rw [sGot, z _ _ _ (by decide)]; omega
  · rw [sSt, z _ _ _ (by decide)]; omega
  · rw [sSt, z _ _ _ (by decide)]; omega
  · rw [sSt, z _ _ _ (by decide)] at h3; omega
  · exact Or.inl (by rw [sFr, z _ _ _ (by decide)])
  · exact z _ _ _ (by omega)
theorem both_0 {M1 M2 M3 M4 : Mem} (g1 : Ag (fun κ a _ => κ = 11 ∧ a = 0) hallM M1) (f1 : ∀ p, p < 12 → mI M1 11 0 p = 1) (e2 : M2 = wN M1 5 0) (g3 : Ag (fun κ a _ => κ = 32 ∧ a = 0) (modM M2) M3) (f3 : ∀ p, p < 12 → mI M3 32 0 p = 1) (e4 : M4 = wN M3 60 0) : Both S00 M4 := by
  have z : ∀ f i c, f ≠ 3 → S00 f i c = 0 := fun f i c h => s00 h
  have o : ∀ κ i, (i ≠ 0 ∨ (κ < 30 ∧ κ ≠ 5)) → mE M4 κ i = mE hallM κ i ∧ ∀ k, mF M4 κ i k = mF hallM κ i k ∧ mI M4 κ i k = mI M1 κ i k := fun κ i w => by
    obtain ⟨m1, m2⟩ := modM_out (M := M2) (κ := κ) (i := i) (by omega)
    refine ⟨?_, fun k => ⟨?_, ?_⟩⟩
    · rw [e4, mE_N, if_neg (by omega), g3.1, m1, e2, mE_N, if_neg (by omega), g1.1]
    · by_cases y : κ = 5
      · rw [e4, mF_N, if_neg (by omega), g3.2.1]
        have x5 : mF (modM M2) κ i k = mF M2 κ i k := by
          have q : ∀ x : Nat, (κ = 5 ∧ i = 0 ∧ k = x ↔ False) := fun x => ⟨fun y => by omega, False.elim⟩
          have r : ∀ x : Nat, (κ = x ∧ i = 0 ↔ False) := fun x => ⟨fun y => by omega, False.elim⟩
          unfold modM
          simp only [mF_N, mF_wF, q, r, if_false]
        rw [x5, e2, mF_N, if_neg (by omega), g1.2.1]
      · rw [e4, mF_N, if_neg (by omega), g3.2.1, (m2 k).1 y, e2, mF_N, if_neg (by omega), g1.2.1]
    · rw [e4, mI_N, if_neg (by omega), g3.i (by omega), (m2 k).2.1, e2, mI_N, if_neg (by omega)]
  have hE : ∀ κ i, i ≠ 0 ∨ (κ ≠ 4 ∧ κ ≠ 10 ∧ κ ≠ 11 ∧ κ ≠ 12) → mE hallM κ i = false := fun κ i w => by
    have q : ∀ x : Nat, x = 4 ∨ x = 10 ∨ x = 11 ∨ x = 12 → (κ = x ∧ i = 0 ↔ False) := fun x hx => ⟨fun y => by omega, False.elim⟩
    unfold hallM
    simp only [mE_N, mE_wI, mE_wF, q 4 (by omega), q 10 (by omega), q 11 (by omega), q 12 (by omega), if_false, m00_e]
  have n5 : mE M2 5 0 = true := by rw [e2, mE_N, if_pos ⟨rfl, rfl⟩]
  have nohr : ∀ i, hr S00 i = false := fun i => by unfold hr; rw [z _ _ _ (by decide)]; rfl
  have iM : ∀ κ, (κ = 32 ∨ (34 ≤ κ ∧ κ ≤ 48) ∨ κ = 50 ∨ κ = 51 ∨ κ = 52) → mE M4 κ 0 = true ∧ (κ ≠ 32 → ∀ k, mI M4 κ 0 k = 0) := fun κ w => by
    have q := modM_e (M := M2) κ (by simp only [List.mem_cons, List.not_mem_nil, or_false]; omega)
    refine ⟨by rw [e4, mE_N, if_neg (by omega), g3.1]; exact q.1, fun y k => by rw [e4, mI_N, if_neg (by omega), g3.i (by omega)]; exact q.2 k⟩
  have i5 : ∀ k, mI M4 5 0 k = 0 := fun k => by
    rw [e4, mI_N, if_neg (by omega), g3.i (by omega), ((modM_out (Or.inr (by omega))).2 k).2.1, e2, mI_N, if_pos ⟨rfl, rfl⟩]
  refine ⟨good_0, ⟨⟨⟨fun κ hκ => ?_, fun k hk => ?_⟩, ⟨?_, ?_, fun p hp => ?_, fun i hi => ?_⟩, fun i hi => ?_⟩, fun i hi => ?_, ⟨fun a => ?_, fun k => ?_⟩, fun κ hκ i hi => ?_, ?_⟩, ⟨⟨fun κ hκ => ?_, fun k hk => ?_⟩, ?_, ?_, fun p hp' => ?_, fun i hi => ⟨?_, ?_, ?_, ?_, ?_, ?_⟩, fun i p hi hp2 => ⟨?_, ?_⟩, fun i b hi hb => ?_, fun i o hi ho => ⟨?_, ?_, ?_⟩⟩⟩
  · have w : κ = 4 ∨ κ = 10 ∨ κ = 11 ∨ κ = 12 := by simpa using hκ
    rw [(o κ 0 (by omega)).1]
    unfold hallM
    rcases w with rfl | rfl | rfl | rfl <;> simp [mE_N, mE_wI, mE_wF]
  · have w : k = 0 ∨ k = 1 ∨ k = 2 := by simpa using hk
    rw [((o 4 0 (by omega)).2 k).1]
    unfold hallM
    rcases w with rfl | rfl | rfl <;> simp [mF_N, mF_wI, mF_wF]
  · rw [((o 4 0 (by omega)).2 3).2, g1.i (by omega), sN, z _ _ _ (by decide)]
    unfold hallM; simp [mI_wI]; rfl
  · rw [((o 4 0 (by omega)).2 4).2, g1.i (by omega), sR, z _ _ _ (by decide)]
    unfold hallM; simp [mI_wI]; rfl
  · rw [((o 11 0 (by omega)).2 p).2, f1 p hp]; rfl
  · rw [((o 10 0 (by omega)).2 i).1, nohr]
    unfold hallM; simp [mF_N, mF_wI, mF_wF]
  · rw [nohr] at hi; cases hi
  · rw [nohr] at hi; cases hi
  · rw [(o a 6 (by omega)).1]; exact hE a 6 (by omega)
  · rw [((o 3 6 (by omega)).2 k).1]
    unfold hallM; simp [mF_N, mF_wI, mF_wF, m00_f]
  · simp only [List.mem_cons, List.not_mem_nil, or_false] at hκ
    rw [(o κ i (by omega)).1]; exact hE κ i (by omega)
  · rw [e4, mE_N, if_pos ⟨rfl, rfl⟩]
  · by_cases w : κ = 5
    · rw [w, e4, mE_N, if_neg (by omega), g3.1, (modM_out (Or.inr (by omega))).1]; exact n5
    · simp only [List.mem_cons, List.not_mem_nil, or_false] at hκ
      exact (iM κ (by omega)).1
  · rw [e4, mF_N, if_neg (by omega), g3.2.1]; exact modM_f k hk
  · rw [i5, sR, z _ _ _ (by decide)]; rfl
  · rw [i5, sN, z _ _ _ (by decide)]; rfl
  · rw [e4, mI_N, if_neg (by omega), f3 p hp']; rfl
  · rw [(iM 34 (by omega)).2 (by decide), z _ _ _ (by decide)]; rfl
  · rw [(iM 35 (by omega)).2 (by decide), sHeld, z _ _ _ (by decide)]; rfl
  · rw [(iM 36 (by omega)).2 (by decide), sCar, z _ _ _ (by decide)]; rfl
  · rw [(iM 37 (by omega)).2 (by decide), sSeq, z _ _ _ (by decide)]; rfl
  · rw [(iM 38 (by omega)).2 (by decide), sSp, z _ _ _ (by decide)]; rfl
  · rw [(iM 39 (by omega)).2 (by decide), sDb, z _ _ _ (by decide)]; rfl
  · rw [(iM 40 (by omega)).2 (by decide), sHad, z _ _ _ (by decide), show nib 0 p = 0 by unfold nib; simp]; rfl
  · rw [(iM 41 (by omega)).2 (by decide), sWr, z _ _ _ (by decide), show nib 0 p = 0 by unfold nib; simp]; rfl
  · rw [(iM 43 (by omega)).2 (by decide), sFr, z _ _ _ (by decide)]; rfl
  · rw [(iM 44 (by omega)).2 (by decide), sGot, z _ _ _ (by decide)]; rfl
  · rw [(iM 45 (by omega)).2 (by decide), sSt, z _ _ _ (by decide)]; rfl
  · rw [(iM 46 (by omega)).2 (by decide), sBan, z _ _ _ (by decide), Nat.zero_testBit]; rfl
