theorem mE_N (M : Mem) (κ i a b : Nat) : mE (wN M κ i) a b = if a = κ ∧ b = i then true else mE M a b := rfl
theorem mF_N (M : Mem) (κ i a b c : Nat) : mF (wN M κ i) a b c = if a = κ ∧ b = i then false else mF M a b c := rfl
theorem mI_N (M : Mem) (κ i a b c : Nat) : mI (wN M κ i) a b c = if a = κ ∧ b = i then 0 else mI M a b c := rfl
theorem mL_N (M : Mem) (κ i a b c : Nat) : mL (wN M κ i) a b c = if a = κ ∧ b = i then 0 else mL M a b c := rfl
theorem mE_D (M : Mem) (κ i a b : Nat) : mE (wD M κ i) a b = if a = κ ∧ b = i then false else mE M a b := rfl
/-- the replay of a log -/
def tk (t : Nat × Nat × Nat) (b w : Nat) : Nat × Nat × Nat := if t.2.1.testBit b then t else (t.1, t.2.1 ||| 2 ^ b, if w = 1 then t.2.2 ||| 2 ^ b else t.2.2)
def rpS (st : (Nat × Nat × Nat) × Nat) (e : Nat) : (Nat × Nat × Nat) × Nat := (tk (if e / 96 = st.2 then st.1 else stTo st.1 12) (e % 48) (e / 48 % 2), e / 96)
def rpL (h0 : Nat) (es : List Nat) : (Nat × Nat × Nat) × Nat := es.foldl rpS ((h0, 0, 0), 0)
def tOK (t : Nat × Nat × Nat) : Prop := t.1 < 2 ^ 12 ∧ t.2.1 < 2 ^ 48 ∧ t.2.2 < 2 ^ 48
theorem tk_ok {t : Nat × Nat × Nat} (h : tOK t) {b : Nat} (w : Nat) (hb : b < 48) : tOK (tk t b w) := by
  have pw : 2 ^ b < 2 ^ 48 := Nat.pow_lt_pow_right (by omega) hb
  unfold tk
  split
  · exact h
  · refine ⟨h.1, Nat.or_lt_two_pow h.2.1 pw, ?_⟩
    show (if w = 1 then t.2.2 ||| 2 ^ b else t.2.2) < _
    split
    · exact Nat.or_lt_two_pow h.2.2 pw
    · exact h.2.2
theorem rpS_ok {st : (Nat × Nat × Nat) × Nat} (h : tOK st.1) (e : Nat) : tOK (rpS st e).1 := by
  unfold rpS
  refine tk_ok ?_ _ (Nat.mod_lt _ (by omega))
  split
  · exact h
  · exact stTo_lt h.1 h.2.1 h.2.2 12 (Nat.le_refl _)
theorem rp_ok : ∀ (es : List Nat) (st : (Nat × Nat × Nat) × Nat), tOK st.1 → tOK (es.foldl rpS st).1
  | [], _, h => h
  | e :: es, _, h => rp_ok es _ (rpS_ok h e)
theorem rp_r {B : Nat} : ∀ (es : List Nat) (st : (Nat × Nat × Nat) × Nat), st.2 ≤ B → (∀ e ∈ es, e / 96 ≤ B) → (es.foldl rpS st).2 ≤ B
  | [], _, h, _ => h
  | e :: es, st, _, h => rp_r es (rpS st e) (h e List.mem_cons_self) (fun e he => h e (List.mem_cons_of_mem _ he))
/-- nothing is numbered 6 but the store of a replay -/
def N6 (M : Mem) : Prop := (∀ a, mE M a 6 = false) ∧ ∀ k, mF M 3 6 k = false
theorem kR_6 {M : Mem} {a b k : Nat} (h : ∀ a, a ≠ 3 → mE M a 6 = false) (h1 : mE M a b = true) (hn : ¬ (a = 3 ∧ b = 6)) : ¬ ((kR a b k).1 = 3 ∧ (kR a b k).2 = 6) := by
  unfold kR
  split
  · intro z; simp at z
  · intro z
    have hb : b = 6 := z.2
    subst hb
    rw [h a (by omega)] at h1
    cases h1
theorem p_replayHeld {M : Mem} {Q : Int32 → Mem → Prop} {i h0 : Nat} {es : List Nat} (he1 : mE M 1 i = true) (hf : mF M 1 i 1 = true) (he22 : mE M 22 i = true) (hL : LogM M i h0 es) (n6 : N6 M) (hh0 : h0 < 2 ^ 12) (hes : ∀ e ∈ es, e < 2 ^ 20) (hlen : es.length ≤ 1000)
    (hQ : ∀ M1, Ag (fun κ a _ => κ = 3 ∧ a = 6) M M1 → Q (nI (stTo (rpL h0 es).1 12).1) M1) : w_X1_replayHeld M i Q := by
  refine ⟨n6.1 3, fun M3 h3 => ?_⟩
  have e3 : ∀ a b, mE M3 a b = if a = 3 ∧ b = 6 then true else mE M a b := fun a b => by rw [h3]; rfl
  have f3 : ∀ a b c, mF M3 a b c = mF M a b c := fun a b c => by
    rw [h3, mF_N]
    split
    · rename_i z; rw [z.1, z.2, n6.2]
    · rfl
  have i3 : ∀ a b c, ¬ (a = 3 ∧ b = 6) → mI M3 a b c = mI M a b c ∧ mL M3 a b c = mL M a b c := fun a b c z => by
    rw [h3, mI_N, mL_N, if_neg z, if_neg z]; exact ⟨rfl, rfl⟩
  have he : ∀ {M1 : Mem}, Ag (fun κ a _ => κ = 3 ∧ a = 6) M3 M1 → mE M1 1 i = true ∧ mF M1 1 i 1 = true ∧ mE M1 22 i = true ∧ mE M1 3 6 = true ∧ LogM M1 i h0 es := fun {M1} g =>
    ⟨(g.1 1 i).trans ((e3 1 i).trans (by rw [if_neg (by omega)]; exact he1)), (g.2.1 1 i 1).trans ((f3 _ _ _).trans hf), (g.1 22 i).trans ((e3 22 i).trans (by rw [if_neg (by omega)]; exact he22)), (g.1 3 6).trans ((e3 3 6).trans (if_pos ⟨rfl, rfl⟩)),
      by rw [g.i (by omega), (i3 _ _ _ (by omega)).1]; exact hL.1, by rw [g.i (by omega), (i3 _ _ _ (by omega)).1]; exact hL.2.1, fun c q hq => by rw [g.i (by omega), (i3 _ _ _ (by omega)).1]; exact hL.2.2 c q hq⟩
  have z3 := he (Ag.rf (M := M3))
  refine ⟨z3.1, z3.2.2.2.1, fun M4 h4 M5 h5 M6 h6 => ?_⟩
  have g6 : Ag (fun κ a _ => κ = 3 ∧ a = 6) M3 M6 := ((Ag.rf.wL h4 ⟨rfl, rfl⟩).wL h5 ⟨rfl, rfl⟩).wI h6 ⟨rfl, rfl⟩
  have loop : ∀ d c, c + d = es.length → ∀ M1, Ag (fun κ a _ => κ = 3 ∧ a = 6) M3 M1 → mI M1 3 6 0 = nI (rpL h0 (es.take c)).1.1 → mL M1 3 6 1 = lN (rpL h0 (es.take c)).1.2.1 → mL M1 3 6 2 = lN (rpL h0 (es.take c)).1.2.2 → l_X1_replayHeld_16 Q (d + 1) M1 i (nI (rpL h0 (es.take c)).2) (nI c) := by
    intro d
    induction d with
    | zero =>
      intro c hc M1 g a1 a2 a3
      have e : c = es.length := by omega
      subst e
      rw [List.take_length] at a1 a2 a3 ⊢
      obtain ⟨y1, y2, y3, y4, y5⟩ := he g
      have ok := rp_ok es ((h0, 0, 0), 0) ⟨hh0, Nat.two_pow_pos _, Nat.two_pow_pos _⟩
      show b_X1_replayHeld_16 Q _ M1 _ _ _
      unfold b_X1_replayHeld_16
      refine ⟨y1, ?_⟩
      rw [y5.2.1]
      refine pk_le es.length es.length (fun _ => ⟨y4, p_endPieces y4 a1 a2 a3 ok.1 ok.2.1 ok.2.2 (fun M2 g2 b1 _ _ => ?_)⟩) (fun z => absurd z (by omega))
      have gg := g.tr g2
      refine ⟨(he gg).2.2.2.1, fun a b k q1 _ q3 => kR_6 (M := M2) (fun a ha => ?_) q1 q3, ?_⟩
      · rw [gg.1, e3, if_neg (by omega)]; exact n6.1 a
      · rw [b1]
        refine hQ _ ⟨fun κ a => ?_, fun κ a k => ?_, fun κ a k hn => ?_⟩
        · rw [mE_D]
          split
          · rename_i z; rw [z.1, z.2, n6.1]
          · rename_i z; rw [gg.1, e3, if_neg z]
        · show mF M2 κ a k = _
          rw [gg.2.1, f3]
        · show mI M2 κ a k = _ ∧ mL M2 κ a k = _
          rw [gg.i hn, gg.l hn]; exact i3 κ a k hn
    | succ d ih =>
      intro c hc M1 g a1 a2 a3
      obtain ⟨y1, y2, y3, y4, y5⟩ := he g
      obtain ⟨e, hq⟩ : ∃ e, es[c]? = some e := ⟨es[c], List.getElem?_eq_getElem (by omega)⟩
      have he20 := hes e (List.mem_of_getElem? hq)
      have ok := rp_ok (es.take c) ((h0, 0, 0), 0) ⟨hh0, Nat.two_pow_pos _, Nat.two_pow_pos _⟩
      have nx := ih (c + 1) (by omega)
      have es1 : rpL h0 (es.take (c + 1)) = rpS (rpL h0 (es.take c)) e := by
        unfold rpL
        rw [List.take_succ, hq, List.foldl_append]; rfl
      rw [es1] at nx
      have hr2 : (rpL h0 (es.take c)).2 < 2 ^ 20 := by
        have := rp_r (B := 2 ^ 20 - 1) (es.take c) ((h0, 0, 0), 0) (Nat.zero_le _) (fun e he => by have := hes e (List.mem_of_mem_take he); omega)
        unfold rpL; omega
      show b_X1_replayHeld_16 Q (l_X1_replayHeld_16 Q (d + 1)) M1 _ _ _
      unfold b_X1_replayHeld_16
      rw [cl c (by omega)]
      have rest : ∀ (M2 : Mem) (t : Nat × Nat × Nat), t = (if e / 96 = (rpL h0 (es.take c)).2 then (rpL h0 (es.take c)).1 else stTo (rpL h0 (es.take c)).1 12) → tOK t → Ag (fun κ a _ => κ = 3 ∧ a = 6) M3 M2 → mI M2 3 6 0 = nI t.1 → mL M2 3 6 1 = lN t.2.1 → mL M2 3 6 2 = lN t.2.2 → b_X1_replayHeld_51 (l_X1_replayHeld_16 Q (d + 1)) Q M2 i (nI (e / 96)) (nI c) (nI e) := by
        intro M2 t ht hok g2 b1 b2 b3
        unfold b_X1_replayHeld_51 b_X1_replayHeld_73
        rw [show nI e / 48 = nI (e / 48) from pk_div (a := e) (d := 48) (by omega) (by decide) (by decide), show nI (e / 48) - nI (e / 48) / 2 * 2 = nI (e / 48 % 2) from pk_rem (a := e / 48) (d := 2) (by omega) (by decide) (by decide)]
        have e48 : nI e - nI (e / 48) * 48 = nI (e % 48) := by
          rw [← show nI e / 48 = nI (e / 48) from pk_div (a := e) (d := 48) (by omega) (by decide) (by decide)]
          exact pk_rem (a := e) (d := 48) (by omega) (by decide) (by decide)
        rw [e48]
        have y4' := (he g2).2.2.2.1
        have b48 : e % 48 < 48 := Nat.mod_lt _ (by omega)
        have w2 : e / 48 % 2 ≤ 1 := by omega
        have go : ∀ s0 : Int32, s0 = nI (e / 48 % 2) → (mE M2 3 6 = true ∧ (w_X3_take M2 6 (nI (e % 48)) s0 (fun (r_29 : Int32) (M_27 : Mem) => (∀ v_30 : Int32, v_30 = nI c + 1 → (l_X1_replayHeld_16 Q (d + 1) M_27 i (nI (e / 96)) v_30))))) := by
          intro s0 hs0
          refine ⟨y4', p_take (b := e % 48) (w := e / 48 % 2) rfl hs0 w2 y4' b2 b3 hok.2.1 b48 (fun hb v hv => ?_) (fun hb M7 g7 c1 c2 v hv => ?_)⟩
          · rw [hv, nI_1]
            have et : tk t (e % 48) (e / 48 % 2) = t := by unfold tk; rw [if_pos hb]
            have er : rpS (rpL h0 (es.take c)) e = (t, e / 96) := by unfold rpS; rw [← ht, et]
            rw [er] at nx
            exact nx M2 g2 b1 b2 b3
          · rw [hv, nI_1]
            have et : tk t (e % 48) (e / 48 % 2) = (t.1, t.2.1 ||| 2 ^ (e % 48), if e / 48 % 2 = 1 then t.2.2 ||| 2 ^ (e % 48) else t.2.2) := by unfold tk; rw [if_neg (by rw [hb]; decide)]
            have er : rpS (rpL h0 (es.take c)) e = ((t.1, t.2.1 ||| 2 ^ (e % 48), if e / 48 % 2 = 1 then t.2.2 ||| 2 ^ (e % 48) else t.2.2), e / 96) := by unfold rpS; rw [← ht, et]
            rw [er] at nx
            exact nx M7 (g2.tr (g7.mono (fun κ a k z => ⟨z.1, z.2.1⟩))) (by rw [g7.i (by omega)]; exact b1) c1 c2
        exact pk_eq (e / 48 % 2) 1 (fun z => go 1 (by rw [z]; rfl)) (fun z => go 0 (by rw [show e / 48 % 2 = 0 by omega]; rfl))
      refine ⟨y1, ?_⟩
      rw [y5.2.1]
      refine pk_le es.length c (fun z => absurd z (by omega)) (fun _ => ⟨y2, y3, pk_in c 1000 (by omega), fun v hv => ?_⟩)
      rw [y5.2.2 c e hq] at hv
      subst hv
      rw [show nI e / 96 = nI (e / 96) from pk_div (a := e) (d := 96) (by omega) (by decide) (by decide)]
      refine pk_eq (e / 96) (rpL h0 (es.take c)).2 (fun z => ?_) (fun z => ⟨y4, p_endPieces y4 a1 a2 a3 ok.1 ok.2.1 ok.2.2 (fun M2 g2 b1 b2 b3 v hv => ?_)⟩)
      · rw [← z]
        exact rest M1 (rpL h0 (es.take c)).1 (by rw [if_pos z]) ok g a1 a2 a3
      · rw [hv]
        exact rest M2 (stTo (rpL h0 (es.take c)).1 12) (by rw [if_neg z]) (stTo_lt ok.1 ok.2.1 ok.2.2 12 (Nat.le_refl _)) (g.tr g2) b1 b2 b3
  have h6a : mI M6 3 6 0 = mI M3 1 i 0 := by rw [h6, mI_wI, if_pos ⟨rfl, rfl, rfl⟩]
  refine ⟨es.length + 1, ?_⟩
  have := loop es.length 0 (by omega) M6 g6 (by rw [h6a, (i3 _ _ _ (by omega)).1]; exact hL.1) (by rw [h6, mL_wI, h5, mL_wL, if_neg (by omega), h4, mL_wL, if_pos ⟨rfl, rfl, rfl⟩]; rfl) (by rw [h6, mL_wI, h5, mL_wL, if_pos ⟨rfl, rfl, rfl⟩]; rfl)
  exact this
