theorem endsTo_f {S : SS} {f a c : Nat} (h : f ≠ 4 ∧ f ≠ 9 ∧ f ≠ 10 ∧ f ≠ 13 ∧ f ≠ 14) : ∀ j, endsTo S j f a c = S f a c
  | 0 => rfl
  | j + 1 => by rw [endsTo, settleTo_f (Or.inl h)]; exact endsTo_f h j
theorem endsTo_hi {S : SS} {f a c : Nat} : ∀ j, j ≤ a → endsTo S j f a c = S f a c
  | 0, _ => rfl
  | j + 1, h => by rw [endsTo, settleTo_f (Or.inr (by omega))]; exact endsTo_hi j (by omega)
theorem endsTo_lo {S : SS} {f a c : Nat} : ∀ j, a < j → endsTo S j f a c = settleTo (endsTo S a) a 12 f a c
  | 0, h => absurd h (Nat.not_lt_zero _)
  | j + 1, h => by
    by_cases e : a = j
    · subst e; rw [endsTo]
    · rw [endsTo, settleTo_f (Or.inr e)]; exact endsTo_lo j (by omega)
theorem endsTo_hr {S : SS} (j a : Nat) : hr (endsTo S j) a = hr S a := by unfold hr; rw [endsTo_f (by decide)]
theorem endsTo_tri {S : SS} {i : Nat} (j : Nat) (h : i < j) : tri (endsTo S j) i = stTo (tri S i) 12 := by
  have e : tri (endsTo S j) i = tri (settleTo (endsTo S i) i 12) i := by unfold tri; rw [sHeld, sHad, sWr, endsTo_lo j h, endsTo_lo j h, endsTo_lo j h]
  rw [e, settleTo_tri]
  congr 1
  unfold tri; rw [sHeld, sHad, sWr, endsTo_hi i (Nat.le_refl _), endsTo_hi i (Nat.le_refl _), endsTo_hi i (Nat.le_refl _)]
theorem endsTo_st (S : SS) (a o : Nat) : ∀ j, sSt (endsTo S j) a o ≤ sSt S a o + (if a < j then 12 else 0)
  | 0 => Nat.le_refl _
  | j + 1 => by
    have ih := endsTo_st S a o j
    by_cases e : a = j
    · subst e
      rw [if_neg (by omega)] at ih
      rw [if_pos (by omega), endsTo]
      have := settleTo_stle (endsTo S a) (i := a) a o 12 (Nat.le_refl _)
      omega
    · rw [endsTo, sSt, settleTo_f (Or.inr e)]
      by_cases h : a < j
      · rw [if_pos h] at ih; rw [if_pos (by omega)]; exact ih
      · rw [if_neg h] at ih; rw [if_neg (by omega)]; exact ih
theorem endsTo_ok {S : SS} (ok : OKS S) (hst : ∀ a o, sSt S a o ≤ 98000) : ∀ j, j ≤ 6 → OKS (endsTo S j)
  | 0, _ => ok
  | j + 1, hj => settleTo_ok (endsTo_ok ok hst j (by omega)) (by omega) (fun a o => by
      have := endsTo_st S a o j
      have := hst a o
      split at * <;> omega) 12 (Nat.le_refl _)
theorem roundS_e (S : SS) : (roundS S).1 = sU (endsTo (comesTo S (askL S) 6).1 6) 1 0 0 (sR S + 1) := rfl
theorem roundS_r (S : SS) : sR (roundS S).1 = sR S + 1 := by rw [roundS_e, sR, sU_at]
theorem roundS_ok {S : SS} (ok : OKS S) (hr : sR S ≤ 199) (hst : ∀ a o, sSt S a o ≤ 12 * sR S) : OKS (roundS S).1 ∧ ∀ a o, sSt (roundS S).1 a o ≤ 12 * sR (roundS S).1 := by
  have c := comesTo_ok ok 6 (Nat.le_refl _)
  have cst : ∀ a o, sSt (comesTo S (askL S) 6).1 a o ≤ 12 * sR S := fun a o => by rw [sSt, comesTo_low (by omega)]; exact hst a o
  have e := endsTo_ok c (fun a o => by have := cst a o; omega) 6 (Nat.le_refl _)
  obtain ⟨h1, h2, h3, h4, h5, h6, h7, h8, h9, h10, h11, h12, h13, h14, h15⟩ := e
  refine ⟨⟨h1, ?_, h3, h4, h5, h6, h7, h8, h9, h10, h11, h12, h13, h14, h15⟩, fun a o => ?_⟩
  · show sR (roundS S).1 ≤ _; rw [roundS_r]; omega
  · rw [roundS_r]
    rw [roundS_e, sSt, sU_f (by decide)]
    show sSt (endsTo (comesTo S (askL S) 6).1 6) a o ≤ _
    have := endsTo_st (comesTo S (askL S) 6).1 a o 6
    have := cst a o
    split at * <;> omega
/-- the class's kinds -/
def PC (κ _a _k : Nat) : Prop := κ ≤ 4 ∨ (10 ≤ κ ∧ κ ≤ 29)
theorem p_runRound {S : SS} {M : Mem} {Q : Int32 → Mem → Prop} {x : Int32} {H0 : Nat → Nat} {ES : Nat → List Nat} (h : RepC S M) (ok : OKS S) (h199 : sR S ≤ 199) (hst : ∀ a o, sSt S a o ≤ 12 * sR S) (hL : ∀ i, hr S i = true → LogM M i (H0 i) (ES i) ∧ (ES i).length ≤ 5 * sR S)
    (hQ : ∀ M1, Ag PC M M1 → RepC (roundS S).1 M1 → (∀ i, hr S i = true → LogM M1 i (H0 i) (ES i ++ (askTo S i 6).2.map (ent S))) → Q (x + nI (roundS S).2) M1) :
    w_X4_begin M (fun (M3 : Mem) => (mE M3 4 0 = true ∧ (w_X4_askAll M3 (fun (M8 : Mem) => (mE M8 4 0 = true ∧ (w_X4_comeAll M8 (fun (r : Int32) (M13 : Mem) => (∀ v : Int32, v = (x + r) → (mE M13 4 0 = true ∧ (w_X4_settleAll M13 (fun (M24 : Mem) => (mE M24 4 0 = true ∧ (∀ M28 : Mem, M28 = wI M24 4 0 4 ((mI M24 4 0 4) + 1) → Q v M28))))))))))))) := by
  refine p_begin h ok (fun M1 g1 r1 a1 => ?_)
  have h1 := h.ag g1 (fun _ _ _ z => z)
  refine ⟨h1.e 4, p_askAll h1 r1 ok a1 (fun M2 g2 a2 => ?_)⟩
  have h2 := h1.ag g2 (fun κ a k z => by unfold PAskA at z; unfold Tr; omega)
  refine ⟨h2.e 4, p_comeAll h2 ok a2 (fun i hi => ⟨((hL i hi).1.ag g1 (fun κ k z z2 => by unfold Tr at z2; omega)).ag g2 (fun κ k z z2 => by unfold PAskA at z2; omega), by have := (hL i hi).2; omega⟩) (fun M3 g3 h3 l3 v hv => ?_)⟩
  have c3 := comesTo_ok ok 6 (Nat.le_refl _)
  have cst : ∀ a o, sSt (comesTo S (askL S) 6).1 a o ≤ 12 * sR S := fun a o => by rw [sSt, comesTo_low (by omega)]; exact hst a o
  have g13 : Ag PC M M3 := ((g1.mono (fun κ a k z => by unfold Tr at z; unfold PC; omega)).tr (g2.mono (fun κ a k z => by unfold PAskA at z; unfold PC; omega))).tr (g3.mono (fun κ a k z => by unfold PCo at z; unfold PC; omega))
  subst hv
  refine ⟨h3.e 4, h3.e 4, h3.f 0, h3.e 10, 7, ?_⟩
  have loop : ∀ Q' : Mem → Prop, (∀ M4, Ag PC M M4 → RepC (endsTo (comesTo S (askL S) 6).1 6) M4 → (∀ i, hr S i = true → LogM M4 i (H0 i) (ES i ++ (askTo S i 6).2.map (ent S))) → Q' M4) → ∀ d j, j + d = 6 → ∀ M4, Ag PC M M4 → RepC (endsTo (comesTo S (askL S) 6).1 j) M4 → (∀ i, hr S i = true → LogM M4 i (H0 i) (ES i ++ (askTo S i 6).2.map (ent S))) → l_X4_settleAll_10 Q' (d + 1) M4 6 (nI j) := by
    intro Q' hQ' d
    induction d with
    | zero =>
      intro j hj M4 g4 h4 l4
      have e : j = 6 := by omega
      subst e
      show b_X4_settleAll_10 Q' _ M4 _ _
      unfold b_X4_settleAll_10
      exact pk_le 6 6 (fun _ => hQ' M4 g4 h4 l4) (fun z => absurd z (by omega))
    | succ d ih =>
      intro j hj M4 g4 h4 l4
      have nx := ih (j + 1) (by omega)
      show b_X4_settleAll_10 Q' (l_X4_settleAll_10 Q' (d + 1)) M4 _ _
      unfold b_X4_settleAll_10 b_X4_settleAll_30
      rw [cl j (by omega)]
      refine pk_le 6 j (fun z => absurd z (by omega)) (fun _ => ⟨h4.e 10, pk_in j 6 (by omega), fun hf => ?_, fun hf v hv => ?_⟩)
      · rw [h4.pres (by omega)] at hf
        refine p_settle h4 (endsTo_ok c3 (fun a o => by have := cst a o; omega) j (by omega)) hf (fun a o => by
          have := endsTo_st (comesTo S (askL S) 6).1 a o j
          have := cst a o
          split at * <;> omega) (fun M5 g5 h5 v hv => ?_)
        rw [hv, nI_1]
        exact nx M5 (g4.tr (g5.mono (fun κ a k z => by unfold PSt at z; unfold PC; omega))) h5 (fun i hi => (l4 i hi).ag g5 (fun κ k z z2 => by unfold PSt at z2; omega))
      · rw [h4.pres (by omega)] at hf
        rw [hv, nI_1]
        refine nx M4 g4 (RepC_upd (i := j) h4 (Ag.rf (P := fun _ _ _ => False)) (fun _ _ _ z => z.elim) (fun f a c z => by rw [endsTo]; exact settleTo_f (by omega) 12) (fun hj => by rw [hf] at hj; cases hj)) l4
  refine loop _ (fun M4 g4 h4 l4 => ⟨h4.e 4, fun M5 h5 => ?_⟩) 6 0 rfl M3 g13 h3 l3
  have er : sR (endsTo (comesTo S (askL S) 6).1 6) = sR S := by rw [sR, endsTo_f (by decide), comesTo_low (by omega)]
  rw [h4.r, nI_1, er] at h5
  have g5 : Ag (fun κ a k => κ = 4 ∧ a = 0 ∧ k = 4) M4 M5 := Ag.rf.wI h5 ⟨rfl, rfl, rfl⟩
  refine hQ M5 (g4.tr (g5.mono (fun κ a k z => by unfold PC; omega))) ?_ (fun i hi => (l4 i hi).ag g5 (fun κ k z z2 => by omega))
  refine ⟨⟨fun κ hκ => (g5.1 κ 0).trans (h4.1.1 κ hκ), fun k hk => (g5.2.1 4 0 k).trans (h4.1.2 k hk)⟩, ⟨?_, ?_, fun p hp' => ?_, fun j hj => ?_⟩, fun i hi => ⟨⟨fun κ hκ => (g5.1 κ i).trans (h4.pe hi κ hκ), fun k hk => (g5.2.1 2 i k).trans (h4.pf hi k hk), (g5.2.1 0 i 0).trans (h4.2.2 i hi).1.2.2.1, (g5.2.1 0 i 1).trans (h4.2.2 i hi).1.2.2.2.1, (g5.2.1 1 i 1).trans (h4.2.2 i hi).1.2.2.2.2⟩, ?_⟩⟩
  · rw [g5.i (by omega)]; exact h4.n
  · rw [h5, mI_wI, if_pos ⟨rfl, rfl, rfl⟩]; show _ = nI (sR (roundS S).1); rw [roundS_r]
  · rw [g5.i (by omega)]; exact h4.pr hp'
  · exact (g5.2.1 10 0 j).trans (h4.pres hj)
  · refine ⟨?_, ?_, ?_, ?_, ?_, ?_, ?_, ?_, ?_, fun o ho => ?_, fun o ho => ?_, fun o ho => ?_⟩
    · rw [g5.i (by omega)]; exact h4.num hi
    · rw [g5.i (by omega)]; exact h4.sp hi
    · rw [g5.i (by omega)]; exact h4.seq hi
    · rw [g5.i (by omega)]; exact h4.car hi
    · rw [g5.i (by omega)]; exact h4.ban hi
    · rw [g5.i (by omega)]; exact h4.db hi
    · rw [g5.i (by omega)]; exact h4.held hi
    · rw [g5.l (by omega)]; exact h4.had hi
    · rw [g5.l (by omega)]; exact h4.wr hi
    · rw [g5.i (by omega)]; exact h4.got hi ho
    · rw [g5.i (by omega)]; exact h4.st hi ho
    · rw [g5.l (by omega)]; exact h4.cf hi ho
