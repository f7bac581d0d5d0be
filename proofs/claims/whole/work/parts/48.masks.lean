def alls (S : SS) : Nat → List (Nat × Nat × Nat)
  | 0 => []
  | i + 1 => alls S i ++ askL S i
theorem askTo_n {S : SS} (ok : OKS S) (i : Nat) : ∀ o, sN S ≤ o → askTo S i o = askTo S i (sN S)
  | 0, h => by rw [show sN S = 0 by omega]
  | o + 1, h => by
    by_cases e : sN S = o + 1
    · rw [e]
    · rw [askTo, if_neg (by rw [hr_hi ok (show sN S ≤ o by omega)]; simp)]
      exact askTo_n ok i o (by omega)
theorem askTo_no {S : SS} {i : Nat} (h : hr S i = false) : ∀ o, askTo S i o = (0, [])
  | 0 => rfl
  | o + 1 => by
    rw [askTo, if_neg (fun z => ?_)]
    · exact askTo_no h o
    · simp only [Bool.and_eq_true] at z
      have := (chosen_intr z.2).1
      rw [h] at this; cases this
theorem askL_no {S : SS} {i : Nat} (h : hr S i = false) : askL S i = [] := by unfold askL; rw [askTo_no h]; rfl
theorem alls_n {S : SS} (ok : OKS S) : ∀ m, sN S ≤ m → alls S m = alls S (sN S)
  | 0, h => by rw [show sN S = 0 by omega]
  | m + 1, h => by
    by_cases e : sN S = m + 1
    · rw [e]
    · rw [alls, askL_no (hr_hi ok (show sN S ≤ m by omega)), List.append_nil]; exact alls_n ok m (by omega)
theorem alls_len (S : SS) : ∀ m, m ≤ 6 → (alls S m).length ≤ 5 * m
  | 0, _ => Nat.le_refl _
  | m + 1, h => by
    have ih := alls_len S m (by omega)
    have := askL_len (S := S) (i := m) (by omega)
    rw [alls, List.length_append]
    unfold askL
    rw [List.length_map]; omega
/-- the reference's list of what is asked for -/
def ListM (M : Mem) (l : List (Nat × Nat × Nat)) : Prop := mI M 5 0 19 = nI l.length ∧ ∀ c q, l[c]? = some q → mI M 50 0 c = nI q.1 ∧ mI M 52 0 c = nI q.2.1 ∧ mI M 51 0 c = nI q.2.2
def PAk (κ a k : Nat) : Prop := a = 0 ∧ (κ = 42 ∨ κ = 50 ∨ κ = 51 ∨ κ = 52 ∨ (κ = 5 ∧ k = 19))
theorem nib_0 (p : Nat) : nib 0 p = 0 := by unfold nib; rw [Nat.zero_div]
theorem p_asks {S : SS} {M : Mem} {Q : Mem → Prop} (h : RepM S M) (ok : OKS S) (hR : RoundM S M) (hQ : ∀ M1, Ag PAk M M1 → ListM M1 (alls S 6) → Q M1) : w_X5_asks M Q := by
  have n6 := ok.n
  have trm : ∀ κ a k, PAk κ a k → TrM κ a k := fun κ a k z => by unfold PAk at z; unfold TrM; omega
  have rm : ∀ {M1 : Mem}, Ag PAk M M1 → RoundM S M1 := fun {M1} g => ⟨fun i o hi ho => by rw [g.i (by unfold PAk; omega)]; exact hR.1 i o hi ho, fun i hi => by rw [g.i (by unfold PAk; omega)]; exact hR.2 i hi⟩
  have main : ∀ d i, i + d = sN S → ∀ M1, Ag PAk M M1 → ListM M1 (alls S i) → (∀ a, i ≤ a → a < 6 → AskM M1 a 0) → l_X5_asks_28 Q (d + 1) M1 (nI i) := by
    intro d
    induction d with
    | zero =>
      intro i hi M1 g hl ha
      have e : i = sN S := by omega
      subst e
      have h1 := h.ag g trm
      show b_X5_asks_28 Q _ M1 _
      unfold b_X5_asks_28
      rw [h1.n]
      exact ⟨h1.e 5, pk_le (sN S) (sN S) (fun _ => hQ M1 g (by rw [alls_n ok 6 n6]; exact hl)) (fun z => absurd z (by omega))⟩
    | succ d ih =>
      intro i hi M1 g hl ha
      have h1 := h.ag g trm
      have row : ∀ d2 o, o + d2 = sN S → ∀ M2, Ag PAk M M2 → ListM M2 (alls S i ++ (askTo S i o).2.map (fun q => (i, q.1, q.2))) → AskM M2 i (askTo S i o).1 → (∀ a, i + 1 ≤ a → a < 6 → AskM M2 a 0) → l_X5_asks_38 (l_X5_asks_28 Q (d + 1)) Q (d2 + 1) M2 (nI i) (nI o) := by
        intro d2
        induction d2 with
        | zero =>
          intro o ho M2 g2 hl2 hk ha2
          have e : o = sN S := by omega
          subst e
          have h2 := h.ag g2 trm
          show b_X5_asks_38 _ Q _ M2 _ _
          unfold b_X5_asks_38
          rw [h2.n]
          refine ⟨h2.e 5, pk_le (sN S) (sN S) (fun _ v hv => ?_) (fun z => absurd z (by omega))⟩
          rw [hv, nI_1]
          refine ih (i + 1) (by omega) M2 g2 ?_ ha2
          rw [alls]
          unfold askL
          rw [askTo_n ok i 6 n6]; exact hl2
        | succ d2 ih2 =>
          intro o ho M2 g2 hl2 hk ha2
          have h2 := h.ag g2 trm
          have r2 := rm g2
          show b_X5_asks_38 _ Q (l_X5_asks_38 (l_X5_asks_28 Q (d + 1)) Q (d2 + 1)) M2 _ _
          unfold b_X5_asks_38 b_X5_asks_69 b_X5_asks_135
          rw [h2.n, cl o (by omega)]
          have nx := ih2 (o + 1) (by omega)
          have nx0 := nx
          rw [askTo] at nx
          have skip : ∀ r : Option Nat, r = none → ((hr S o && (chosen S o).testBit i) = false ∨ askB S i o (askTo S i o).1 = none) → ∀ v : Int32, v = nI o + 1 → l_X5_asks_38 (l_X5_asks_28 Q (d + 1)) Q (d2 + 1) M2 (nI i) v := by
            intro r _ hc v hv
            rw [hv, nI_1]
            have e : askTo S i (o + 1) = askTo S i o := by
              rw [askTo]
              by_cases z : (hr S o && (chosen S o).testBit i) = true
              · rw [if_pos z]
                rcases hc with y | y
                · rw [z] at y; cases y
                · rw [y]
              · rw [if_neg z]
            rw [e] at nx0
            exact nx0 M2 g2 hl2 hk ha2
          refine ⟨h2.e 5, pk_le (sN S) o (fun z => absurd z (by omega)) (fun _ => ⟨h2.f 18, h2.e 48, pk_in o 6 (by omega), ?_⟩)⟩
          rw [r2.2 o (by omega)]
          have c6 : (if hr S o = true then chosen S o else 0) < 2 ^ 6 := by
            split
            · exact chosen_lt o
            · decide
          refine p_has (if hr S o = true then chosen S o else 0) i rfl rfl (by omega) (by omega) (fun hb => t1 ⟨h2.e 5, ?_⟩) (fun hb => t0 ⟨fun _ => skip none rfl (Or.inl ?_), fun z => absurd rfl z⟩)
          · have hho : hr S o = true := by
              cases z : hr S o with
              | true => rfl
              | false => rw [z] at hb; simp at hb
            rw [if_pos hho] at hb
            have hhi := (chosen_intr hb).1
            have hc : (hr S o && (chosen S o).testBit i) = true := by rw [hho, hb]; rfl
            rw [if_pos hc] at nx
            refine p_blockFor i o rfl rfl h2 ok (by omega) (by omega) hhi hho r2 hk ?_
            cases hB : askB S i o (askTo S i o).1 with
            | none => exact ⟨fun _ => skip none rfl (Or.inr hB), fun z => absurd rfl z⟩
            | some b =>
              rw [hB] at nx
              have nx : ∀ M3, Ag PAk M M3 → ListM M3 (alls S i ++ ((askTo S i o).2 ++ [(b, o)]).map (fun q => (i, q.1, q.2))) → AskM M3 i ((askTo S i o).1 ||| 2 ^ b) → (∀ a, i + 1 ≤ a → a < 6 → AskM M3 a 0) → l_X5_asks_38 (l_X5_asks_28 Q (d + 1)) Q (d2 + 1) M3 (nI i) (nI (o + 1)) := nx
              have b48 := askB_lt hB
              have ll := alls_len S i (by omega)
              have al := askTo_len S i o
              have len : (alls S i ++ (askTo S i o).2.map (fun q => (i, q.1, q.2))).length < 36 := by
                rw [List.length_append, List.length_map]
                split at al <;> omega
              refine ⟨fun z => absurd z (oI_n1 (by omega)), fun _ => ⟨h2.e 5, h2.f 12, p_at i (b / 4) rfl (pk_div (a := b) (d := 4) (by omega) (by decide) (by decide)) ⟨h2.e 42, pk_in (12 * i + b / 4) 72 (by omega), pk_in (12 * i + b / 4) 72 (by omega), fun M3 h3 => ?_⟩⟩⟩
              have e4 : oI (some b) - oI (some b) / 4 * 4 = nI (b % 4) := pk_rem (a := b) (d := 4) (by omega) (by decide) (by decide)
              rw [cl _ (by omega), hk (b / 4) (by omega), e4, i_one _ (by omega), fa_or] at h3
              have g3 : Ag PAk M M3 := g2.wI h3 ⟨rfl, by omega⟩
              have h3' := h.ag g3 trm
              have c3 : mI M3 5 0 19 = nI (alls S i ++ (askTo S i o).2.map (fun q => (i, q.1, q.2))).length := by rw [h3, mI_wI, if_neg (by omega)]; exact hl2.1
              refine ⟨h3'.e 5, h3'.f 20, h3'.e 50, pk_in _ 36 len c3, fun M4 h4 => ?_⟩
              rw [c3, cl _ (by omega)] at h4
              have g4 : Ag PAk M M4 := g3.wI h4 ⟨rfl, by omega⟩
              have h4' := h.ag g4 trm
              have c4 : mI M4 5 0 19 = nI (alls S i ++ (askTo S i o).2.map (fun q => (i, q.1, q.2))).length := by rw [h4, mI_wI, if_neg (by omega)]; exact c3
              refine ⟨h4'.f 21, h4'.e 51, by rw [c4]; exact pk_in _ 36 len, fun M5 h5 => ?_⟩
              rw [c4, cl _ (by omega)] at h5
              have g5 : Ag PAk M M5 := g4.wI h5 ⟨rfl, by omega⟩
              have h5' := h.ag g5 trm
              have c5 : mI M5 5 0 19 = nI (alls S i ++ (askTo S i o).2.map (fun q => (i, q.1, q.2))).length := by rw [h5, mI_wI, if_neg (by omega)]; exact c4
              refine ⟨h5'.f 22, h5'.e 52, by rw [c5]; exact pk_in _ 36 len, fun M6 h6 M7 h7 v hv => ?_⟩
              rw [c5, cl _ (by omega)] at h6
              have g6 : Ag PAk M M6 := g5.wI h6 ⟨rfl, by omega⟩
              have c6' : mI M6 5 0 19 = nI (alls S i ++ (askTo S i o).2.map (fun q => (i, q.1, q.2))).length := by rw [h6, mI_wI, if_neg (by omega)]; exact c5
              rw [c6', nI_1] at h7
              have g7 : Ag PAk M M7 := g6.wI h7 ⟨rfl, by omega⟩
              rw [hv, nI_1]
              have v42 : ∀ k, mI M7 42 0 k = if k = 12 * i + b / 4 then nI (nib (askTo S i o).1 (b / 4) ||| 2 ^ (b % 4)) else mI M2 42 0 k := fun k => by
                rw [h7, mI_wI, if_neg (by omega), h6, mI_wI, if_neg (by omega), h5, mI_wI, if_neg (by omega), h4, mI_wI, if_neg (by omega), h3, mI_wI]
                by_cases e : k = 12 * i + b / 4
                · rw [if_pos ⟨rfl, rfl, e⟩, if_pos e]
                · rw [if_neg (fun z => e z.2.2), if_neg e]
              refine nx M7 g7 ⟨?_, fun c q hq => ?_⟩ (fun p hp => ?_) (fun a ha1 ha6 p hp => ?_)
              · rw [h7, mI_wI, if_pos ⟨rfl, rfl, rfl⟩, List.map_append, ← List.append_assoc]; simp [Nat.add_assoc]
              · rw [List.map_append, ← List.append_assoc] at hq
                by_cases hcl : c = (alls S i ++ (askTo S i o).2.map (fun q => (i, q.1, q.2))).length
                · subst hcl
                  rw [List.getElem?_append_right (Nat.le_refl _), Nat.sub_self] at hq
                  have hq : some (i, b, o) = some q := hq
                  cases hq
                  refine ⟨?_, ?_, ?_⟩
                  · rw [h7, mI_wI, if_neg (by omega), h6, mI_wI, if_neg (by omega), h5, mI_wI, if_neg (by omega), h4, mI_wI, if_pos ⟨rfl, rfl, rfl⟩]
                  · rw [h7, mI_wI, if_neg (by omega), h6, mI_wI, if_pos ⟨rfl, rfl, rfl⟩]; rfl
                  · rw [h7, mI_wI, if_neg (by omega), h6, mI_wI, if_neg (by omega), h5, mI_wI, if_pos ⟨rfl, rfl, rfl⟩]
                · have hc2 : c < (alls S i ++ (askTo S i o).2.map (fun q => (i, q.1, q.2))).length := by
                    have := (List.getElem?_eq_some_iff.mp hq).1
                    rw [List.length_append] at this
                    simp only [List.map_cons, List.map_nil, List.length_singleton] at this
                    omega
                  rw [List.getElem?_append_left hc2] at hq
                  obtain ⟨z1, z2, z3⟩ := hl2.2 c q hq
                  refine ⟨?_, ?_, ?_⟩
                  · rw [h7, mI_wI, if_neg (by omega), h6, mI_wI, if_neg (by omega), h5, mI_wI, if_neg (by omega), h4, mI_wI, if_neg (fun z => hcl z.2.2), h3, mI_wI, if_neg (by omega)]; exact z1
                  · rw [h7, mI_wI, if_neg (by omega), h6, mI_wI, if_neg (fun z => hcl z.2.2), h5, mI_wI, if_neg (by omega), h4, mI_wI, if_neg (by omega), h3, mI_wI, if_neg (by omega)]; exact z2
                  · rw [h7, mI_wI, if_neg (by omega), h6, mI_wI, if_neg (by omega), h5, mI_wI, if_neg (fun z => hcl z.2.2), h4, mI_wI, if_neg (by omega), h3, mI_wI, if_neg (by omega)]; exact z3
              · rw [v42, nib_or, nib_2]
                by_cases e : b / 4 = p
                · subst e; rw [if_pos rfl, if_pos rfl]
                · rw [if_neg (by omega), if_neg e, Nat.or_zero]; exact hk p hp
              · rw [v42, if_neg (by omega)]; exact ha2 a ha1 ha6 p hp
          · by_cases z : hr S o = true
            · rw [if_pos z] at hb; rw [z, hb]; rfl
            · simp only [Bool.not_eq_true] at z; rw [z]; rfl
      show b_X5_asks_28 Q (l_X5_asks_28 Q (d + 1)) M1 _
      unfold b_X5_asks_28
      rw [h1.n]
      refine ⟨h1.e 5, pk_le (sN S) i (fun z => absurd z (by omega)) (fun _ => ⟨sN S + 1, row (sN S) 0 (by omega) M1 g ?_ (ha i (Nat.le_refl _) (by omega)) (fun a ha1 ha6 => ha a (by omega) ha6)⟩)⟩
      show ListM M1 (alls S i ++ [])
      rw [List.append_nil]; exact hl
  refine ⟨h.e 5, fun M2 h2 => ⟨73, ?_⟩⟩
  have g2 : Ag PAk M M2 := Ag.rf.wI h2 ⟨rfl, by omega⟩
  have clear : ∀ d k, k + d = 72 → ∀ M3, Ag PAk M M3 → mI M3 5 0 19 = 0 → (∀ j, j < k → mI M3 42 0 j = 0) → l_X5_asks_7 Q (d + 1) M3 (nI k) := by
    intro d
    induction d with
    | zero =>
      intro k hk M3 g3 c3 z3
      have e : k = 72 := by omega
      subst e
      show b_X5_asks_7 Q _ M3 _
      unfold b_X5_asks_7
      refine pk_le 72 72 (fun _ => ⟨sN S + 1, main (sN S) 0 (by omega) M3 g3 ⟨c3, fun c q hq => by cases hq⟩ (fun a _ ha p hp => ?_)⟩) (fun z => absurd z (by omega))
      rw [z3 _ (by omega), nib_0]; rfl
    | succ d ih =>
      intro k hk M3 g3 c3 z3
      have h3 := h.ag g3 trm
      show b_X5_asks_7 Q (l_X5_asks_7 Q (d + 1)) M3 _
      unfold b_X5_asks_7
      rw [cl k (by omega)]
      refine pk_le 72 k (fun z => absurd z (by omega)) (fun _ => ⟨h3.e 5, h3.f 12, h3.e 42, pk_in k 72 (by omega), fun M4 h4 v hv => ?_⟩)
      rw [hv, nI_1]
      refine ih (k + 1) (by omega) M4 (g3.wI h4 ⟨rfl, by omega⟩) (by rw [h4, mI_wI, if_neg (by omega)]; exact c3) (fun j hj => ?_)
      rw [h4, mI_wI]
      by_cases e : j = k
      · rw [if_pos ⟨rfl, rfl, e⟩]
      · rw [if_neg (fun z => e z.2.2)]; exact z3 j (by omega)
  exact clear 72 0 rfl M2 g2 (by rw [h2, mI_wI, if_pos ⟨rfl, rfl, rfl⟩]) (fun j hj => absurd hj (Nat.not_lt_zero _))
