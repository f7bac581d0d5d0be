theorem RepM_held {S : SS} {M M1 : Mem} {i v : Nat} (h : RepM S M) (e : M1 = wI M 35 0 i (nI v)) : RepM (sU S 4 i 0 v) M1 := by
  have x : ∀ κ a k, κ ≠ 35 → mI M1 κ a k = mI M κ a k := fun κ a k z => by rw [e, mI_wI, if_neg (by omega)]
  refine ⟨⟨fun κ hκ => by rw [e]; exact h.1.1 κ hκ, fun k hk => by rw [e]; exact h.1.2 k hk⟩, ?_, ?_, fun p hp' => ?_, fun i2 hi2 => ⟨?_, ?_, ?_, ?_, ?_, ?_⟩, fun i2 p2 hi2 hp2 => ⟨?_, ?_⟩, fun i b hi hb => ?_, fun i o hi ho => ⟨?_, ?_, ?_⟩⟩
  · rw [x _ _ _ (by decide)]; exact h.r
  · rw [x _ _ _ (by decide)]; exact h.n
  · rw [x _ _ _ (by decide)]; exact h.pr hp'
  · rw [x _ _ _ (by decide)]; exact h.he hi2
  · rw [e, mI_wI]
    unfold sHeld
    by_cases z : i2 = i
    · subst z; rw [if_pos ⟨rfl, rfl, rfl⟩, sU_at]
    · rw [if_neg (by omega), sU_i z]; exact h.held hi2
  · rw [x _ _ _ (by decide)]; exact h.car hi2
  · rw [x _ _ _ (by decide)]; exact h.seq hi2
  · rw [x _ _ _ (by decide)]; exact h.sp hi2
  · rw [x _ _ _ (by decide)]; exact h.db hi2
  · rw [x _ _ _ (by decide)]; exact h.had hi2 hp2
  · rw [x _ _ _ (by decide)]; exact h.wr hi2 hp2
  · rw [x _ _ _ (by decide)]; exact h.fr hi hb
  · rw [x _ _ _ (by decide)]; exact h.got hi ho
  · rw [x _ _ _ (by decide)]; exact h.st hi ho
  · rw [x _ _ _ (by decide)]; exact h.ban hi ho
theorem settleP_bi {S : SS} (hB : BanI S) (ok : OKS S) (i p : Nat) : BanI (settleP S i p) := by
  have c : ∀ T : SS, BanI T → BanI (clr T i p) := fun T hT a o ha ho h3 => by
    have e1 : sSt (clr T i p) a o = sSt T a o := clr_f (by decide)
    have e2 : sBan (clr T i p) a = sBan T a := clr_f (by decide)
    rw [e1] at h3; rw [e2]; exact hT a o ha ho h3
  unfold settleP
  split
  · split
    · refine c _ (fun a o ha ho h3 => ?_)
      have e1 : sSt (sU S 4 i 0 (sHeld S i ||| 2 ^ p)) a o = sSt S a o := by unfold sSt; rw [sU_f (by decide)]
      have e2 : sBan (sU S 4 i 0 (sHeld S i ||| 2 ^ p)) a = sBan S a := by unfold sBan; rw [sU_f (by decide)]
      rw [e1] at h3; rw [e2]; exact hB a o ha ho h3
    · exact c _ (dropO_bi hB i p (fun a => ok.ban a) 6 (Nat.le_refl _))
  · exact hB
theorem settleTo_bi {S : SS} (hB : BanI S) (ok : OKS S) {i : Nat} (hi : i < 6) (hst : ∀ a o, sSt S a o ≤ 99000) : ∀ p, p ≤ 12 → BanI (settleTo S i p)
  | 0, _ => hB
  | p + 1, hp => settleP_bi (settleTo_bi hB ok hi hst p (by omega)) (settleTo_ok ok hi hst p (by omega)) i p
theorem settleTo_fr {S : SS} (hF : FrI S) (i p : Nat) : FrI (settleTo S i p) := fun a b ha hb => by
  have e1 : sFr (settleTo S i p) a b = sFr S a b := settleTo_f (Or.inl (by decide)) p
  have e2 : sN (settleTo S i p) = sN S := settleTo_f (Or.inl (by decide)) p
  rw [e1, e2]; exact hF a b ha hb
theorem endsTo_bi {S : SS} (hB : BanI S) (ok : OKS S) (hst : ∀ a o, sSt S a o ≤ 98000) : ∀ j, j ≤ 6 → BanI (endsTo S j)
  | 0, _ => hB
  | j + 1, hj => settleTo_bi (endsTo_bi hB ok hst j (by omega)) (endsTo_ok ok hst j (by omega)) (by omega) (fun a o => by
      have := endsTo_st S a o j
      have := hst a o
      split at * <;> omega) 12 (Nat.le_refl _)
theorem endsTo_fr {S : SS} (hF : FrI S) : ∀ j, FrI (endsTo S j)
  | 0 => hF
  | j + 1 => settleTo_fr (endsTo_fr hF j) j 12
theorem settleTo_z {S : SS} {i : Nat} (h : sHad S i = 0) : ∀ p, settleTo S i p = S
  | 0 => rfl
  | p + 1 => by
    rw [settleTo, settleTo_z h p]
    unfold settleP
    rw [if_neg (by rw [h, Nat.zero_and]; exact fun z => blkP_pos p z.symm)]
theorem endsTo_n {S : SS} (hz : ∀ i, sN S ≤ i → sHad S i = 0) : ∀ m, sN S ≤ m → endsTo S m = endsTo S (sN S)
  | 0, h => by rw [show sN S = 0 by omega]
  | m + 1, h => by
    by_cases e : sN S = m + 1
    · rw [e]
    · have ih := endsTo_n hz m (by omega)
      rw [endsTo, settleTo_z (by
        show endsTo S m 9 m 0 = 0
        rw [endsTo_hi m (Nat.le_refl _)]; exact hz m (by omega)), ih]
def PE (κ a _k : Nat) : Prop := a = 0 ∧ (κ = 35 ∨ κ = 40 ∨ κ = 41 ∨ κ = 45 ∨ κ = 46)
theorem p_endsM {S : SS} {M : Mem} {Q : Mem → Prop} (h : RepM S M) (ok : OKS S) (hB : BanI S) (hF : FrI S) (hst : ∀ a o, sSt S a o ≤ 98000) (hz : ∀ i, sN S ≤ i → sHad S i = 0) (hQ : ∀ M1, Ag PE M M1 → RepM (endsTo S 6) M1 → Q M1) : w_X5_ends M Q := by
  have n6 := ok.n
  have main : ∀ d i, i + d = sN S → ∀ M1, Ag PE M M1 → RepM (endsTo S i) M1 → l_X5_ends_2 Q (d + 1) M1 (nI i) := by
    intro d
    induction d with
    | zero =>
      intro i hi M1 g h1
      have e : i = sN S := by omega
      subst e
      rw [← endsTo_n hz 6 n6] at h1
      have hn : mI M1 5 0 3 = nI (sN S) := by rw [g.i (by unfold PE; omega)]; exact h.n
      show b_X5_ends_2 Q _ M1 _
      unfold b_X5_ends_2
      rw [hn]
      exact ⟨h1.e 5, pk_le (sN S) (sN S) (fun _ => hQ M1 g h1) (fun z => absurd z (by omega))⟩
    | succ d ih =>
      intro i hi M1 g h1
      have i6 : i < 6 := by omega
      have hn : mI M1 5 0 3 = nI (sN S) := by rw [g.i (by unfold PE; omega)]; exact h.n
      have oke := endsTo_ok ok hst i (by omega)
      have bie := endsTo_bi hB ok hst i (by omega)
      have ste : ∀ a o, sSt (endsTo S i) a o ≤ 98012 := fun a o => by
        have := endsTo_st S a o i
        have := hst a o
        split at * <;> omega
      have row : ∀ d2 p, p + d2 = 12 → ∀ M2, Ag PE M M2 → RepM (settleTo (endsTo S i) i p) M2 → l_X5_ends_12 (l_X5_ends_2 Q (d + 1)) Q (d2 + 1) M2 (nI i) (nI p) := by
        intro d2
        induction d2 with
        | zero =>
          intro p hp M2 g2 h2
          have e : p = 12 := by omega
          subst e
          show b_X5_ends_12 _ Q _ M2 _ _
          unfold b_X5_ends_12
          refine pk_le 12 12 (fun _ v hv => ?_) (fun z => absurd z (by omega))
          rw [hv, nI_1]
          exact ih (i + 1) (by omega) M2 g2 h2
        | succ d2 ih2 =>
          intro p hp M2 g2 h2
          have nx := ih2 (p + 1) (by omega)
          rw [settleTo] at nx
          have okT := settleTo_ok oke i6 (fun a o => by have := ste a o; omega) p (by omega)
          have biT := settleTo_bi bie oke i6 (fun a o => by have := ste a o; omega) p (by omega)
          have frT := settleTo_fr (endsTo_fr hF i) i p
          have nT : sN (settleTo (endsTo S i) i p) = sN S := (settleTo_f (Or.inl (by decide)) p).trans (endsTo_f (by decide) i)
          have stT : ∀ a o, sSt (settleTo (endsTo S i) i p) a o ≤ 99000 := fun a o => by
            have := settleTo_stle (endsTo S i) (i := i) a o p (by omega)
            have := ste a o
            omega
          generalize hT : settleTo (endsTo S i) i p = T at h2 nx okT biT frT nT stT
          show b_X5_ends_12 _ Q (l_X5_ends_12 (l_X5_ends_2 Q (d + 1)) Q (d2 + 1)) M2 _ _
          unfold b_X5_ends_12 b_X5_ends_53 b_X5_ends_83
          refine pk_le 12 p (fun z => absurd z (by omega)) (fun _ => p_at i p rfl rfl ?_)
          rw [cl (12 * i + p) (by omega), h2.had i6 (by omega), h2.wr i6 (by omega)]
          have l1 := nib_lt (sHad T i) p
          have l2 := nib_lt (sWr T i) p
          have no : nib (sHad T i) p ≠ 15 → ∀ v : Int32, v = nI p + 1 → l_X5_ends_12 (l_X5_ends_2 Q (d + 1)) Q (d2 + 1) M2 (nI i) v := by
            intro z v hv
            rw [hv, nI_1]
            have e : settleP T i p = T := by unfold settleP; rw [if_neg (fun y => z (nib_f.mpr y))]
            rw [e] at nx
            exact nx M2 g2 h2
          refine ⟨h2.e 5, h2.f 10, h2.e 40, pk_in (12 * i + p) 72 (by omega), pk_eq (nib (sHad T i) p) 15 (fun z15 => ⟨h2.f 11, h2.e 41, pk_in (12 * i + p) 72 (by omega), ?_⟩) (fun z15 => ⟨h2.e 5, h2.f 10, h2.e 40, pk_in (12 * i + p) 72 (by omega), pk_eq (nib (sHad T i) p) 15 (fun y => absurd y z15) (fun _ => no z15)⟩)⟩
          have hf : sHad T i &&& blkP p = blkP p := nib_f.mp z15
          refine pk_eq (nib (sWr T i) p) 0 (fun zw => ⟨h2.e 5, h2.f 10, h2.e 40, pk_in (12 * i + p) 72 (by omega), pk_eq (nib (sHad T i) p) 15 (fun _ => ⟨h2.f 5, h2.e 35, pk_in i 6 i6, pk_in i 6 i6, fun M3 h3 => ⟨pk_in (12 * i + p) 72 (by omega), fun M4 h4 v hv => ?_⟩⟩) (fun y => absurd z15 y)⟩) (fun zw => ?_)
          · have hw : sWr T i &&& blkP p = 0 := nib_z.mp zw
            have e : settleP T i p = clr (sU T 4 i 0 (sHeld T i ||| 2 ^ p)) i p := by unfold settleP; rw [if_pos hf, if_pos hw]
            rw [e] at nx
            rw [cl i (by omega), h2.held i6, i_one p (by omega), fa_or] at h3
            have r3 := RepM_held h2 h3
            have g4 : Ag (fun κ a k => a = 0 ∧ (κ = 40 ∨ κ = 41) ∧ k = 12 * i + p) M3 M4 := Ag.rf.wI h4 ⟨rfl, Or.inl rfl, rfl⟩
            rw [hv, nI_1]
            refine nx M4 ((g2.wI h3 ⟨rfl, by omega⟩).wI h4 ⟨rfl, by omega⟩) (RepM_clr r3 (by omega) g4 (by rw [h4, mI_wI, if_pos ⟨rfl, rfl, rfl⟩]) ?_)
            rw [h4, mI_wI, if_neg (by omega), h3, mI_wI, if_neg (by omega), h2.wr i6 (by omega), zw]; rfl
          · have hw : ¬ sWr T i &&& blkP p = 0 := fun y => zw (nib_z.mpr y)
            have e : settleP T i p = clr (dropO T i p 6) i p := by unfold settleP; rw [if_pos hf, if_neg hw]
            rw [e] at nx
            refine p_dropsM i p rfl rfl h2 okT biT frT (by omega) (by omega) stT (fun M3 g3 h3 v hv => ?_)
            rw [hv, nI_1]
            exact nx M3 (g2.tr (g3.mono (fun κ a k z => by unfold PE; omega))) h3
      show b_X5_ends_2 Q (l_X5_ends_2 Q (d + 1)) M1 _
      unfold b_X5_ends_2
      rw [hn]
      exact ⟨h1.e 5, pk_le (sN S) i (fun z => absurd z (by omega)) (fun _ => ⟨13, row 12 0 rfl M1 g h1⟩)⟩
  exact ⟨sN S + 1, main (sN S) 0 (by omega) M Ag.rf h⟩
