theorem comeOne_hit {S : SS} {i b o : Nat} (hb : (sHad S i).testBit b = true) : comeOne S i b o = sU S 8 i 0 (sDb S i + 1) := by unfold comeOne; rw [if_pos hb]
theorem comeOne_miss {S : SS} {i b o : Nat} (hb : (sHad S i).testBit b = false) : comeOne S i b o = sU (sU (sU (sU S 9 i 0 (sHad S i ||| 2 ^ b)) 10 i 0 (if (sSp S o).testBit (b / 4) then sWr S i ||| 2 ^ b else sWr S i)) 11 i b o) 12 i o (sGot S i o + 1) := by unfold comeOne; rw [if_neg (by rw [hb]; decide)]
theorem comeOne_low {S : SS} {i b o : Nat} {f a c : Nat} (h : f ≤ 7 ∨ a ≠ i) : comeOne S i b o f a c = S f a c := by
  rcases h with h | h
  · exact comeOne_f (by omega)
  · exact comeOne_i h
theorem rep_hit {S : SS} {M M1 : Mem} {i b o : Nat} (h : RepC S M) (hi : hr S i = true) (hb : (sHad S i).testBit b = true) (e : M1 = wI M 2 i 11 ((mI M 2 i 11) + 1)) : RepC (comeOne S i b o) M1 := by
  have g : Ag (fun κ a k => κ = 2 ∧ a = i ∧ k = 11) M M1 := Ag.rf.wI e ⟨rfl, rfl, rfl⟩
  refine RepC_upd (i := i) h g (fun κ a k z => Or.inr (by omega)) (fun f a c z => comeOne_low (by omega)) (fun _ => ?_)
  rw [comeOne_hit hb]
  have c1 : ∀ c, cf (sU S 8 i 0 (sDb S i + 1)) i c = cf S i c := fun c => rfl
  refine ⟨?_, ?_, ?_, ?_, ?_, ?_, ?_, ?_, ?_, fun c hc => ?_, fun c hc => ?_, fun c hc => ?_⟩
  · rw [g.i (by omega)]; exact h.num hi
  · rw [g.i (by omega)]; exact h.sp hi
  · rw [g.i (by omega)]; exact h.seq hi
  · rw [g.i (by omega)]; exact h.car hi
  · rw [g.i (by omega)]; exact h.ban hi
  · rw [e, mI_wI, if_pos ⟨rfl, rfl, rfl⟩, h.db hi, nI_1]; show nI _ = nI (sU S 8 i 0 _ 8 i 0); rw [sU_at]
  · rw [g.i (by omega)]; exact h.held hi
  · rw [g.l (by omega)]; exact h.had hi
  · rw [g.l (by omega)]; exact h.wr hi
  · rw [g.i (by omega)]; exact h.got hi hc
  · rw [g.i (by omega)]; exact h.st hi hc
  · rw [g.l (by omega), c1]; exact h.cf hi hc
theorem rep_miss {S : SS} {M M36 M48 M53 : Mem} {i b o : Nat} (h : RepC S M) (hi : hr S i = true) (hb : (sHad S i).testBit b = false) (hb48 : b < 48) (ho : o < 6)
    (g : Ag (fun κ a k => κ = 3 ∧ a = i ∧ (k = 1 ∨ k = 2)) M M36) (e1 : mL M36 3 i 1 = lN (sHad S i ||| 2 ^ b)) (e2 : mL M36 3 i 2 = lN (if (sSp S o).testBit (b / 4) = true then sWr S i ||| 2 ^ b else sWr S i))
    (h48 : M48 = wL M36 23 i o (lN (cf S i o) ||| (lN (2 ^ b)))) (h53 : M53 = wI M48 24 i o (nI (sGot S i o) + 1)) : RepC (comeOne S i b o) M53 := by
  have g2 : Ag (fun κ a k => a = i ∧ ((κ = 3 ∧ (k = 1 ∨ k = 2)) ∨ (κ = 23 ∧ k = o) ∨ (κ = 24 ∧ k = o))) M M53 := ((g.mono (fun κ a k z => ⟨z.2.1, Or.inl ⟨z.1, z.2.2⟩⟩)).wL h48 ⟨rfl, by omega⟩).wI h53 ⟨rfl, by omega⟩
  refine RepC_upd (i := i) h g2 (fun κ a k z => Or.inr (by omega)) (fun f a c z => comeOne_low (by omega)) (fun _ => ?_)
  have c0 := cf_come (o := o) hb hb48
  rw [comeOne_miss hb] at c0 ⊢
  refine ⟨?_, ?_, ?_, ?_, ?_, ?_, ?_, ?_, ?_, fun c hc => ?_, fun c hc => ?_, fun c hc => ?_⟩
  · rw [g2.i (by omega)]; exact h.num hi
  · rw [g2.i (by omega)]; exact h.sp hi
  · rw [g2.i (by omega)]; exact h.seq hi
  · rw [g2.i (by omega)]; exact h.car hi
  · rw [g2.i (by omega)]; exact h.ban hi
  · rw [g2.i (by omega)]; exact h.db hi
  · rw [g2.i (by omega)]; exact h.held hi
  · rw [h53, mL_wI, h48, mL_wL, if_neg (by omega), e1]; show lN _ = lN (sU _ 12 _ _ _ 9 i 0); rw [sU_f (by decide), sU_f (by decide), sU_f (by decide), sU_at]
  · rw [h53, mL_wI, h48, mL_wL, if_neg (by omega), e2]; show lN _ = lN (sU _ 12 _ _ _ 10 i 0); rw [sU_f (by decide), sU_f (by decide), sU_at]
  · rw [h53, mI_wI]
    by_cases e : c = o
    · subst e
      rw [if_pos ⟨rfl, rfl, rfl⟩, nI_1]; show nI _ = nI (sU _ 12 i c _ 12 i c); rw [sU_at]
    · rw [if_neg (by omega)]; show _ = nI (sU _ 12 i o _ 12 i c); rw [sU_j e, sU_f (by decide), sU_f (by decide), sU_f (by decide), h48, mI_wL, g.i (by omega)]
      exact h.got hi hc
  · rw [g2.i (by omega)]; exact h.st hi hc
  · rw [c0, h53, mL_wI, h48, mL_wL]
    by_cases e : c = o
    · subst e
      rw [if_pos ⟨rfl, rfl, rfl⟩, if_pos rfl, l_or]
    · rw [if_neg (by omega), if_neg e, g.l (by omega)]
      exact h.cf hi hc
theorem gz_f {S : SS} {i a b c : Nat} (h : a ≠ 12) : gz i S a b c = S a b c := by unfold gz; rw [if_neg (fun z => h z.1)]
theorem gz_i {S : SS} {i a b c : Nat} (h : b ≠ i) : gz i S a b c = S a b c := by unfold gz; rw [if_neg (fun z => h z.2)]
theorem gz_ok {S : SS} (ok : OKS S) (i : Nat) : OKS (gz i S) := by
  obtain ⟨h1, h2, h3, h4, h5, h6, h7, h8, h9, h10, h11, h12, h13, h14, h15⟩ := ok
  refine ⟨h1, h2, h3, h4, h5, h6, h7, h8, h9, h10, h11, h12, h13, fun a o => ?_, h15⟩
  show gz i S 12 a o ≤ _
  unfold gz
  split
  · omega
  · exact h14 a o
theorem p_fill24 {S : SS} {M : Mem} {Q : Mem → Prop} {i : Nat} (h : RepC S M) (hi : hr S i = true) (hQ : ∀ M1, Ag (fun κ a _ => κ = 24 ∧ a = i) M M1 → RepC (gz i S) M1 → Q M1) : w_J7_fill_53178_24 M i 0 Q := by
  have loop : ∀ d j, j + d = 6 → ∀ M1, Ag (fun κ a _ => κ = 24 ∧ a = i) M M1 → (∀ c, c < j → mI M1 24 i c = 0) → l_J7_fill_53178_24_5 Q (d + 1) M1 i 0 (nI j) 6 := by
    intro d
    induction d with
    | zero =>
      intro j hj M1 g ha
      have e : j = 6 := by omega
      subst e
      show b_J7_fill_53178_24_5 Q _ M1 _ _ _ _
      unfold b_J7_fill_53178_24_5
      refine pk_le 6 6 (fun _ => hQ M1 g ?_) (fun z => absurd z (by omega))
      refine RepC_upd (i := i) h g (fun κ a k z => Or.inr (by omega)) (fun f a c z => by
        rcases z with z | z
        · exact gz_f (by omega)
        · exact gz_i z) (fun _ => ?_)
      refine ⟨?_, ?_, ?_, ?_, ?_, ?_, ?_, ?_, ?_, fun c hc => ?_, fun c hc => ?_, fun c hc => ?_⟩
      · rw [g.i (by omega)]; exact h.num hi
      · rw [g.i (by omega)]; exact h.sp hi
      · rw [g.i (by omega)]; exact h.seq hi
      · rw [g.i (by omega)]; exact h.car hi
      · rw [g.i (by omega)]; exact h.ban hi
      · rw [g.i (by omega)]; exact h.db hi
      · rw [g.i (by omega)]; exact h.held hi
      · rw [g.l (by omega)]; exact h.had hi
      · rw [g.l (by omega)]; exact h.wr hi
      · rw [ha c hc, sGot]; unfold gz; rw [if_pos ⟨rfl, rfl⟩]; rfl
      · rw [g.i (by omega)]; exact h.st hi hc
      · rw [g.l (by omega)]; exact h.cf hi hc
    | succ d ih =>
      intro j hj M1 g ha
      show b_J7_fill_53178_24_5 Q (l_J7_fill_53178_24_5 Q (d + 1)) M1 _ _ _ _
      unfold b_J7_fill_53178_24_5
      rw [cl j (by omega)]
      refine pk_le 6 j (fun z => absurd z (by omega)) (fun _ => ⟨(g.1 24 i).trans (h.pe hi 24), pk_in j 6 (by omega), fun M2 h2 v hv => ?_⟩)
      rw [hv, nI_1]
      refine ih (j + 1) (by omega) M2 (g.wI h2 ⟨rfl, rfl⟩) (fun c hc => ?_)
      rw [h2, mI_wI]
      by_cases e : c = j
      · rw [if_pos ⟨rfl, rfl, e⟩]
      · rw [if_neg (by omega)]; exact ha c (by omega)
  exact ⟨h.pe hi 24, 7, loop 6 0 rfl M Ag.rf (fun c hc => absurd hc (Nat.not_lt_zero _))⟩
def PCo (i κ a k : Nat) : Prop := a = i ∧ ((κ = 3 ∧ (k = 1 ∨ k = 2)) ∨ (κ = 1 ∧ k = 2) ∨ κ = 22 ∨ κ = 23 ∨ κ = 24 ∨ (κ = 2 ∧ k = 11))
/-- the state when k of what one asked for have come -/
def stK (S : SS) (i : Nat) (l : List (Nat × Nat)) (k : Nat) : SS × Nat := (((l.take k).map (fun q => (i, q.1, q.2))).foldl cS (gz i S, 0))
theorem stK_s {S : SS} {i : Nat} {l : List (Nat × Nat)} {k : Nat} {q : Nat × Nat} (hq : l[k]? = some q) : stK S i l (k + 1) = cS (stK S i l k) (i, q.1, q.2) := by
  unfold stK
  rw [List.take_succ, hq]
  simp
theorem stK_low {S : SS} {i : Nat} {l : List (Nat × Nat)} (f a c : Nat) (h : f ≤ 7 ∨ a ≠ i) : ∀ k, (stK S i l k).1 f a c = S f a c
  | 0 => by
    show gz i S f a c = S f a c
    rcases h with h | h
    · exact gz_f (by omega)
    · exact gz_i h
  | k + 1 => by
    cases hq : l[k]? with
    | none =>
      have e : stK S i l (k + 1) = stK S i l k := by unfold stK; rw [List.take_succ, hq]; simp
      rw [e]; exact stK_low f a c h k
    | some q =>
      rw [stK_s hq]
      show comeOne (stK S i l k).1 i q.1 q.2 f a c = _
      rw [comeOne_low h]
      exact stK_low f a c h k
theorem stK_ok {S : SS} {i : Nat} {l : List (Nat × Nat)} (ok : OKS S) (hq : ∀ q ∈ l, q.1 < 48 ∧ q.2 < 6) : ∀ k, k ≤ 6 → OKS (stK S i l k).1 ∧ ∀ o, sGot (stK S i l k).1 i o ≤ k
  | 0, _ => ⟨gz_ok ok i, fun o => by show gz i S 12 i o ≤ 0; unfold gz; rw [if_pos ⟨rfl, rfl⟩]; exact Nat.le_refl 0⟩
  | k + 1, hk => by
    obtain ⟨h1, h2⟩ := stK_ok ok hq k (by omega)
    cases hl : l[k]? with
    | none =>
      have e : stK S i l (k + 1) = stK S i l k := by unfold stK; rw [List.take_succ, hl]; simp
      rw [e]; exact ⟨h1, fun o => Nat.le_succ_of_le (h2 o)⟩
    | some q =>
      rw [stK_s hl]
      obtain ⟨b1, b2⟩ := hq q (List.mem_of_getElem? hl)
      refine ⟨comeOne_ok h1 b1 b2 (by have := h2 q.2; show sGot _ i q.2 ≤ 999; omega), fun o => ?_⟩
      show comeOne (stK S i l k).1 i q.1 q.2 12 i o ≤ _
      cases hb : (sHad (stK S i l k).1 i).testBit q.1 with
      | true => rw [comeOne_hit hb, sU_f (by decide)]; exact Nat.le_succ_of_le (h2 o)
      | false =>
        rw [comeOne_miss hb]
        by_cases e : o = q.2
        · rw [e, sU_at]; have := h2 q.2; omega
        · rw [sU_j e, sU_f (by decide), sU_f (by decide), sU_f (by decide)]; exact Nat.le_succ_of_le (h2 o)
theorem p_isInV {M : Mem} {Q : Int32 → Mem → Prop} {x : Int64} {y : Int32} (a k : Nat) (hx : x = lN a) (hy : y = nI k) (ha : a < 2 ^ 62) (hk : k < 64) (h : ∀ (w : Nat) (s0 : Int32), w = (if a.testBit k then 1 else 0) → s0 = nI w → Q s0 M) : w_X4_isIn M x y Q :=
  p_isIn a k hx hy ha hk (fun hb => h 1 1 (by rw [if_pos hb]) rfl) (fun hb => h 0 0 (by rw [if_neg (by rw [hb]; decide)]) rfl)
/-- one block comes -/
theorem p_comeOne {S : SS} {M : Mem} {Q : Int32 → Mem → Prop} {i b o h0 : Nat} {es : List Nat} {x : Int32} (hx : x = nI b) (h : RepC S M) (hhad : sHad S i < 2 ^ 48) (hsp : sSp S o < 2 ^ 12) (hi : hr S i = true) (hro : hr S o = true) (b48 : b < 48) (o6 : o < 6) (hL : LogM M i h0 es) (hlen : es.length < 1000)
    (hQ : ∀ M1, Ag (PCo i) M M1 → RepC (comeOne S i b o) M1 → LogM M1 i h0 (es ++ [ent S (b, o)]) → Q (if (sHad S i).testBit b = true then 0 else 1) M1) : w_X4_comeOne M i o x Q := by
  subst hx
  unfold w_X4_comeOne
  have hd : nI b / 4 = nI (b / 4) := pk_div (a := b) (d := 4) (by omega) (by decide) (by decide)
  refine ⟨h.pe hro 2, p_isInV (sSp S o) (b / 4) (by rw [h.sp hro]; exact nI_l (by omega)) hd (by omega) (by omega) (fun w s0 hw hs0 => ?_)⟩
  have hw1 : w ≤ 1 := by rw [hw]; split <;> omega
  refine ⟨h.pe hi 2, h.pf hi 2, h.e 4, h.pe hi 1, p_logAdd (r := sR S) h.r rfl hs0 hw1 h hi hL hlen (fun M29 g29 hL29 => ?_)⟩
  have h29 := RepC_agL h g29 (fun κ a k z => by unfold TrL; omega)
  rw [show (sR S * 2 + w) * 48 + b = ent S (b, o) by unfold ent; rw [hw]] at hL29
  have g29' : Ag (PCo i) M M29 := g29.mono (fun κ a k z => ⟨z.2, by omega⟩)
  refine ⟨h29.pe hi 2, h29.pf hi 1, h29.pe hi 3, p_take rfl hs0 hw1 (h29.pe hi 3) (h29.had hi) (h29.wr hi) hhad b48 (fun hbt => t0 ⟨h29.pe hi 2, fun M41 h41 => ?_⟩) (fun hbt M36 g36 e36 f36 => t1 ?_)⟩
  · have := hQ M41 (g29'.wI h41 ⟨rfl, by omega⟩) (rep_hit h29 hi hbt h41) (hL29.ag (Ag.rf.wI (P := fun κ a k => κ = 2 ∧ a = i ∧ k = 11) h41 ⟨rfl, rfl, rfl⟩) (fun κ k _ z => by omega))
    rw [if_pos hbt] at this
    exact this
  · have h36 := fun κ hκ => (g36.1 κ i).trans (h29.pe hi κ hκ)
    have n36 : mI M36 2 o 0 = nI o := by rw [g36.i (by omega)]; exact h29.num hro
    refine ⟨h36 2 (by decide), (g36.2.1 2 i 7).trans (h29.pf hi 7), (g36.1 2 o).trans (h29.pe hro 2), h36 23 (by decide), pk_in o 6 o6 n36, pk_in o 6 o6 n36, fun M48 e48 => ?_⟩
    rw [n36, cl o (by omega), g36.l (by omega), h29.cf hi o6, l_one (by omega)] at e48
    have g48 : Ag (fun κ a k => a = i ∧ (κ = 3 ∨ κ = 23)) M29 M48 := (g36.mono (fun κ a k z => ⟨z.2.1, by omega⟩)).wL e48 ⟨rfl, by omega⟩
    have n48 : mI M48 2 o 0 = nI o := by rw [g48.i (by omega)]; exact h29.num hro
    refine ⟨(g48.2.1 2 i 8).trans (h29.pf hi 8), (g48.1 24 i).trans (h29.pe hi 24), pk_in o 6 o6 n48, pk_in o 6 o6 n48, fun M53 e53 => ?_⟩
    rw [n48, cl o (by omega), g48.i (by omega), h29.got hi o6] at e53
    have hrep := rep_miss (o := o) h29 hi hbt b48 o6 g36 e36 (by rw [f36, hw]; split <;> rfl) e48 e53
    have gg : Ag (PCo i) M29 M53 := ((g36.mono (fun κ a k z => ⟨z.2.1, by omega⟩)).wL e48 ⟨rfl, by omega⟩).wI e53 ⟨rfl, by omega⟩
    have gl : Ag (fun κ a k => κ = 3 ∨ κ = 23 ∨ κ = 24) M29 M53 := ((g36.mono (fun κ a k z => by omega)).wL e48 (by omega)).wI e53 (by omega)
    have := hQ M53 (g29'.tr gg) hrep (hL29.ag gl (fun κ k _ z => by omega))
    rw [if_neg (by rw [hbt]; decide)] at this
    exact this
theorem p_comeTo {S : SS} {M : Mem} {Q : Int32 → Mem → Prop} {i asked h0 : Nat} {l : List (Nat × Nat)} {es : List Nat} (h : RepC S M) (ok : OKS S) (hi : hr S i = true) (hA : AskV M i asked l) (hq : ∀ q ∈ l, q.1 < 48 ∧ q.2 < 6 ∧ hr S q.2 = true) (hl : l.length ≤ 6) (hL : LogM M i h0 es) (hcap : es.length + l.length ≤ 1000)
    (hQ : ∀ M1, Ag (PCo i) M M1 → RepC (stK S i l l.length).1 M1 → LogM M1 i h0 (es ++ l.map (ent S)) → Q (nI (stK S i l l.length).2) M1) : w_X4_comeTo M i Q := by
  have hq2 : ∀ q ∈ l, q.1 < 48 ∧ q.2 < 6 := fun q z => ⟨(hq q z).1, (hq q z).2.1⟩
  have loop : ∀ d k, k + d = l.length → ∀ M1, Ag (PCo i) M M1 → RepC (stK S i l k).1 M1 → LogM M1 i h0 (es ++ (l.take k).map (ent S)) → l_X4_comeTo_12 Q (d + 1) M1 i (nI (stK S i l k).2) (nI k) := by
    intro d
    induction d with
    | zero =>
      intro k hk M1 g h1 hL1
      have e : k = l.length := by omega
      subst e
      have hi1 : hr (stK S i l l.length).1 i = true := by unfold hr; rw [stK_low 2 i 0 (by omega)]; exact hi
      have hA1 := hA.ag g (fun κ k _ z => by unfold PCo at z; omega)
      show b_X4_comeTo_12 Q _ M1 _ _ _
      unfold b_X4_comeTo_12
      rw [List.take_length] at hL1
      exact ⟨h1.pe hi1 2, h1.pf hi1 3, h1.pe hi1 0, pk_le l.length l.length (fun _ => hQ M1 g h1 hL1) (fun z => absurd z (by omega)) hA1.2.1 rfl⟩
    | succ d ih =>
      intro k hk M1 g h1 hL1
      have lo := fun f a c hfa => stK_low (S := S) (i := i) (l := l) f a c hfa k
      have hi1 : hr (stK S i l k).1 i = true := by unfold hr; rw [lo 2 i 0 (by omega)]; exact hi
      have hA1 := hA.ag g (fun κ k _ z => by unfold PCo at z; omega)
      obtain ⟨q, hqk⟩ : ∃ q, l[k]? = some q := ⟨_, List.getElem?_eq_getElem (by omega)⟩
      obtain ⟨b48, o6, hro⟩ := hq q (List.mem_of_getElem? hqk)
      obtain ⟨ok1, gotk⟩ := stK_ok (i := i) ok hq2 k (by omega)
      have hro1 : hr (stK S i l k).1 q.2 = true := by unfold hr; rw [lo 2 q.2 0 (by omega)]; exact hro
      obtain ⟨a20, a21⟩ := hA1.2.2 k q hqk
      have sp1 : sSp (stK S i l k).1 q.2 = sSp S q.2 := lo 7 q.2 0 (by omega)
      have r1 : sR (stK S i l k).1 = sR S := lo 1 0 0 (by omega)
      have nx := ih (k + 1) (by omega)
      rw [stK_s hqk] at nx
      have hlen : (es ++ (l.take k).map (ent S)).length < 1000 := by
        rw [List.length_append, List.length_map, List.length_take]; omega
      have tk : (l.take (k + 1)).map (ent S) = (l.take k).map (ent S) ++ [ent S q] := by rw [List.take_succ, hqk]; simp
      rw [tk, ← List.append_assoc] at nx
      show b_X4_comeTo_12 Q (l_X4_comeTo_12 Q (d + 1)) M1 _ _ _
      unfold b_X4_comeTo_12 b_X4_comeTo_65
      rw [cl k (by omega)]
      refine ⟨h1.pe hi1 2, h1.pf hi1 3, h1.pe hi1 0, pk_le l.length k (fun z => absurd z (by omega)) (fun _ => ⟨(h1.2.2 i hi1).1.2.2.2.1, h1.pe hi1 21, pk_in k 6 (by omega), h1.e 4, p_find q.2 a21 h1 o6 (fun _ => ⟨fun z => (by cases z), fun r hr => ?_⟩) (fun z => by rw [hro1] at z; cases z)⟩) hA1.2.1 rfl⟩
      cases hr
      refine ⟨h1.pe hi1 2, h1.pf hi1 3, h1.pe hi1 0, (h1.2.2 i hi1).1.2.2.1, h1.pe hi1 20, pk_in k 6 (by omega), h1.e 4, p_comeOne a20 h1 (ok1.had i) (by rw [sp1]; have := ok.sp q.2; omega) hi1 hro1 b48 o6 hL1 hlen (fun M2 g2 h2 hL2 => ?_)⟩
      rw [show ent (stK S i l k).1 (q.1, q.2) = ent S q by unfold ent; rw [r1, sp1]] at hL2
      have nn := nx M2 (g.tr g2) h2 hL2
      by_cases hbt : (sHad (stK S i l k).1 i).testBit q.1 = true
      · rw [show (cS (stK S i l k) (i, q.1, q.2)).2 = (stK S i l k).2 by show _ + (if _ then 0 else 1) = _; rw [if_pos hbt]; exact Nat.add_zero _] at nn
        rw [if_pos hbt]
        exact t0 (fun v hv => by rw [hv, nI_1]; exact nn)
      · rw [show (cS (stK S i l k) (i, q.1, q.2)).2 = (stK S i l k).2 + 1 by show _ + (if _ then 0 else 1) = _; rw [if_neg hbt]] at nn
        rw [if_neg hbt]
        exact t1 (fun v hv v2 hv2 => by rw [hv, hv2, nI_1, nI_1]; exact nn)
  refine ⟨h.pe hi 2, h.pf hi 8, p_fill24 h hi (fun M4 g4 h4 => ⟨l.length + 1, ?_⟩)⟩
  exact loop l.length 0 (by omega) M4 (g4.mono (fun κ a k z => ⟨z.2, by omega⟩)) h4 (by
    rw [List.take_zero, List.map_nil, List.append_nil]
    exact hL.ag g4 (fun κ k _ z => by omega))
