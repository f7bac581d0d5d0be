def TrL (κ i k : Nat) : Prop := Tr κ i k ∨ κ = 1 ∨ κ = 22
/-- one's values change, all else stays -/
theorem RepC_upd {S S1 : SS} {P : Nat → Nat → Nat → Prop} {M M1 : Mem} {i : Nat} (h : RepC S M) (g : Ag P M M1) (hp : ∀ κ a k, P κ a k → TrL κ a k ∨ ((κ = 2 ∨ κ = 3 ∨ κ = 23 ∨ κ = 24 ∨ κ = 25) ∧ a = i)) (hS : ∀ f a c, (f ≤ 3 ∨ a ≠ i) → S1 f a c = S f a c) (hv : hr S i = true → PeerV S1 M1 i) : RepC S1 M1 := by
  have n : ∀ κ a k, ¬ (TrL κ a k ∨ ((κ = 2 ∨ κ = 3 ∨ κ = 23 ∨ κ = 24 ∨ κ = 25) ∧ a = i)) → ¬ P κ a k := fun κ a k h1 h2 => h1 (hp κ a k h2)
  have hh : ∀ a, hr S1 a = hr S a := fun a => by unfold hr; rw [hS 2 a 0 (by omega)]
  refine ⟨⟨fun κ hκ => (g.1 κ 0).trans (h.1.1 κ hκ), fun k hk => (g.2.1 4 0 k).trans (h.1.2 k hk)⟩, ⟨?_, ?_, fun p hp' => ?_, fun j hj => by rw [hh]; exact (g.2.1 10 0 j).trans (h.pres hj)⟩, fun j hj => ?_⟩
  · rw [g.i (n _ _ _ (by unfold TrL Tr; omega)), sN, hS 0 0 0 (by omega)]; exact h.n
  · rw [g.i (n _ _ _ (by unfold TrL Tr; omega)), sR, hS 1 0 0 (by omega)]; exact h.r
  · rw [g.i (n _ _ _ (by unfold TrL Tr; omega)), sPr, hS 3 p 0 (by omega)]; exact h.pr hp'
  · rw [hh] at hj
    refine ⟨⟨fun κ hκ => (g.1 κ j).trans (h.pe hj κ hκ), fun k hk => (g.2.1 2 j k).trans (h.pf hj k hk), (g.2.1 0 j 0).trans (h.2.2 j hj).1.2.2.1, (g.2.1 0 j 1).trans (h.2.2 j hj).1.2.2.2.1, (g.2.1 1 j 1).trans (h.2.2 j hj).1.2.2.2.2⟩, ?_⟩
    by_cases e : j = i
    · subst e; exact hv hj
    · have s : ∀ f c, S1 f j c = S f j c := fun f c => hS f j c (Or.inr e)
      have c1 : ∀ o, cf S1 j o = cf S j o := fun o => by
        unfold cf; congr 1; funext b
        rw [sHad, sFr, s 9 0, s 11 b]
      refine ⟨?_, ?_, ?_, ?_, ?_, ?_, ?_, ?_, ?_, fun o ho => ?_, fun o ho => ?_, fun o ho => ?_⟩
      · rw [g.i (n _ _ _ (by unfold TrL Tr; omega))]; exact h.num hj
      · rw [g.i (n _ _ _ (by unfold TrL Tr; omega)), sSp, s]; exact h.sp hj
      · rw [g.i (n _ _ _ (by unfold TrL Tr; omega)), sSeq, s]; exact h.seq hj
      · rw [g.i (n _ _ _ (by unfold TrL Tr; omega)), sCar, s]; exact h.car hj
      · rw [g.i (n _ _ _ (by unfold TrL Tr; omega)), sBan, s]; exact h.ban hj
      · rw [g.i (n _ _ _ (by unfold TrL Tr; omega)), sDb, s]; exact h.db hj
      · rw [g.i (n _ _ _ (by unfold TrL Tr; omega)), sHeld, s]; exact h.held hj
      · rw [g.l (n _ _ _ (by unfold TrL Tr; omega)), sHad, s]; exact h.had hj
      · rw [g.l (n _ _ _ (by unfold TrL Tr; omega)), sWr, s]; exact h.wr hj
      · rw [g.i (n _ _ _ (by unfold TrL Tr; omega)), sGot, s]; exact h.got hj ho
      · rw [g.i (n _ _ _ (by unfold TrL Tr; omega)), sSt, s]; exact h.st hj ho
      · rw [g.l (n _ _ _ (by unfold TrL Tr; omega)), c1]; exact h.cf hj ho
theorem RepC_agL {S : SS} {P : Nat → Nat → Nat → Prop} {M M1 : Mem} (h : RepC S M) (g : Ag P M M1) (hp : ∀ κ i k, P κ i k → TrL κ i k) : RepC S M1 :=
  RepC_upd (i := 99) h g (fun κ a k z => Or.inl (hp κ a k z)) (fun _ _ _ _ => rfl) (fun hi => by
    have n : ∀ κ a k, ¬ TrL κ a k → ¬ P κ a k := fun κ a k h1 h2 => h1 (hp κ a k h2)
    refine ⟨?_, ?_, ?_, ?_, ?_, ?_, ?_, ?_, ?_, fun o ho => ?_, fun o ho => ?_, fun o ho => ?_⟩
    · rw [g.i (n _ _ _ (by unfold TrL Tr; omega))]; exact h.num hi
    · rw [g.i (n _ _ _ (by unfold TrL Tr; omega))]; exact h.sp hi
    · rw [g.i (n _ _ _ (by unfold TrL Tr; omega))]; exact h.seq hi
    · rw [g.i (n _ _ _ (by unfold TrL Tr; omega))]; exact h.car hi
    · rw [g.i (n _ _ _ (by unfold TrL Tr; omega))]; exact h.ban hi
    · rw [g.i (n _ _ _ (by unfold TrL Tr; omega))]; exact h.db hi
    · rw [g.i (n _ _ _ (by unfold TrL Tr; omega))]; exact h.held hi
    · rw [g.l (n _ _ _ (by unfold TrL Tr; omega))]; exact h.had hi
    · rw [g.l (n _ _ _ (by unfold TrL Tr; omega))]; exact h.wr hi
    · rw [g.i (n _ _ _ (by unfold TrL Tr; omega))]; exact h.got hi ho
    · rw [g.i (n _ _ _ (by unfold TrL Tr; omega))]; exact h.st hi ho
    · rw [g.l (n _ _ _ (by unfold TrL Tr; omega))]; exact h.cf hi ho)
/-- the log of one: what it held at first, and its entries -/
def LogM (M : Mem) (i h0 : Nat) (es : List Nat) : Prop := mI M 1 i 0 = nI h0 ∧ mI M 1 i 2 = nI es.length ∧ ∀ c q, es[c]? = some q → mI M 22 i c = nI q
theorem LogM.ag {P : Nat → Nat → Nat → Prop} {M M1 : Mem} {i h0 : Nat} {es : List Nat} (h : LogM M i h0 es) (g : Ag P M M1) (hp : ∀ κ k, (κ = 1 ∨ κ = 22) → ¬ P κ i k) : LogM M1 i h0 es :=
  ⟨by rw [g.i (hp 1 0 (by omega))]; exact h.1, by rw [g.i (hp 1 2 (by omega))]; exact h.2.1, fun c q hq => by rw [g.i (hp 22 c (by omega))]; exact h.2.2 c q hq⟩
def ent (S : SS) (q : Nat × Nat) : Nat := (sR S * 2 + if (sSp S q.2).testBit (q.1 / 4) then 1 else 0) * 48 + q.1
theorem p_logAdd {S : SS} {M : Mem} {Q : Mem → Prop} {i h0 r b w : Nat} {es : List Nat} {x y z : Int32} (hx : x = nI r) (hy : y = nI b) (hz : z = nI w) (hw : w ≤ 1) (h : RepC S M) (hi : hr S i = true) (hL : LogM M i h0 es) (hl : es.length < 1000) (hQ : ∀ M1, Ag (fun κ a k => ((κ = 1 ∧ k = 2) ∨ κ = 22) ∧ a = i) M M1 → LogM M1 i h0 (es ++ [(r * 2 + w) * 48 + b]) → Q M1) : w_X1_add M i x y z Q := by
  subst hx hy hz
  have e1 : mE M 1 i = true := h.pe hi 1
  have e2 : mE M 22 i = true := h.pe hi 22
  have core : ∀ s0 : Int32, s0 = nI w → b_X1_add_32 Q M i (nI b) s0 (nI r * 2) (mI M 1 i 2) i := by
    intro s0 hs0
    subst hs0
    unfold b_X1_add_32
    refine ⟨e2, pk_in es.length 1000 hl hL.2.1, fun M8 h8 => ?_⟩
    have hc : (mI M 1 i 2).toNatClampNeg = es.length := by rw [hL.2.1]; exact cl _ (by omega)
    rw [hc, show nI r * 2 = nI (r * 2) from pk_mul r 2, nI_add, show nI (r * 2 + w) * 48 = nI ((r * 2 + w) * 48) from pk_mul _ 48, nI_add] at h8
    have g8 : Ag (fun κ a k => ((κ = 1 ∧ k = 2) ∨ κ = 22) ∧ a = i) M M8 := Ag.rf.wI h8 ⟨by omega, rfl⟩
    refine ⟨(g8.1 1 i).trans e1, fun M10 h10 => ?_⟩
    have e3 : mI M8 1 i 2 = mI M 1 i 2 := by rw [h8, mI_wI, if_neg (by omega)]
    refine hQ M10 (g8.wI h10 ⟨by omega, rfl⟩) ⟨?_, ?_, fun c q hq => ?_⟩
    · rw [h10, mI_wI, if_neg (by omega), h8, mI_wI, if_neg (by omega)]; exact hL.1
    · rw [h10, mI_wI, if_pos ⟨rfl, rfl, rfl⟩, e3, hL.2.1, nI_1, List.length_append]; rfl
    · rw [h10, mI_wI, if_neg (by omega), h8, mI_wI]
      by_cases hcl : c = es.length
      · subst hcl
        rw [List.getElem?_append_right (Nat.le_refl _), Nat.sub_self] at hq
        cases hq
        rw [if_pos ⟨rfl, rfl, rfl⟩]
      · rw [if_neg (by omega)]
        have : c < es.length := by
          have := (List.getElem?_eq_some_iff.mp hq).1
          rw [List.length_append] at this
          simp at this; omega
        rw [List.getElem?_append_left this] at hq
        exact hL.2.2 c q hq
  unfold w_X1_add
  refine ⟨e1, (h.2.2 i hi).1.2.2.2.2, e2, pk_le 1000 es.length (fun q => absurd q (by omega)) (fun _ => ?_) rfl hL.2.1⟩
  exact pk_eq w 0 (fun e => core 0 (by rw [e]; rfl)) (fun e => core 1 (by rw [show w = 1 by omega]; rfl))
theorem p_take {M : Mem} {Q : Int32 → Mem → Prop} {i had wr b w : Nat} {x y : Int32} (hx : x = nI b) (hy : y = nI w) (hw : w ≤ 1) (he : mE M 3 i = true) (hh : mL M 3 i 1 = lN had) (hwr : mL M 3 i 2 = lN wr) (hlt : had < 2 ^ 48) (hb : b < 48)
    (h0 : had.testBit b = true → Q 0 M) (h1 : had.testBit b = false → ∀ M1, Ag (fun κ a k => κ = 3 ∧ a = i ∧ (k = 1 ∨ k = 2)) M M1 → mL M1 3 i 1 = lN (had ||| 2 ^ b) → mL M1 3 i 2 = lN (if w = 1 then wr ||| 2 ^ b else wr) → Q 1 M1) : w_X3_take M i x y Q := by
  subst hx hy
  unfold w_X3_take
  refine ⟨he, p_isIn had b hh rfl (lt48 hlt) (by omega) (fun hbt => t1 (h0 hbt)) (fun hbt => t0 ⟨he, fun M8 h8 => ?_⟩)⟩
  rw [hh, l_one (by omega), l_or] at h8
  have g8 : Ag (fun κ a k => κ = 3 ∧ a = i ∧ (k = 1 ∨ k = 2)) M M8 := Ag.rf.wL h8 ⟨rfl, rfl, by omega⟩
  have v1 : mL M8 3 i 1 = lN (had ||| 2 ^ b) := by rw [h8, mL_wL, if_pos ⟨rfl, rfl, rfl⟩]
  have v2 : mL M8 3 i 2 = lN wr := by rw [h8, mL_wL, if_neg (by omega)]; exact hwr
  refine pk_eq w 0 (fun e => h1 hbt M8 g8 v1 (by rw [if_neg (by omega)]; exact v2)) (fun e M10 h10 => ?_)
  rw [v2, l_one (by omega), l_or] at h10
  refine h1 hbt M10 (g8.wL h10 ⟨rfl, rfl, by omega⟩) ?_ ?_
  · rw [h10, mL_wL, if_neg (by omega)]; exact v1
  · rw [h10, mL_wL, if_pos ⟨rfl, rfl, rfl⟩, if_pos (by omega)]
theorem p_find {S : SS} {M : Mem} {Q : Option Nat → Mem → Prop} {x : Int32} (o : Nat) (hx : x = nI o) (h : RepC S M) (ho : o < 6) (h1 : hr S o = true → Q (some o) M) (h0 : hr S o = false → Q none M) : w_X4_find M x Q := by
  subst hx
  unfold w_X4_find b_X4_find_13
  rw [cl o (by omega), h.pres ho]
  exact pk_lt o 0 (fun z => absurd z (by omega)) (fun _ => ⟨h.e 4, h.f 0, h.e 10, pk_lt o 6 (fun _ => ⟨pk_in o 6 ho, h1, h0⟩) (fun z => absurd z (by omega))⟩)
theorem cf_come {S : SS} {i b o : Nat} (hb : (sHad S i).testBit b = false) (hb48 : b < 48) (c : Nat) : cf (comeOne S i b o) i c = if c = o then cf S i c ||| 2 ^ b else cf S i c := by
  have e9 : sHad (comeOne S i b o) i = sHad S i ||| 2 ^ b := by
    unfold comeOne
    rw [if_neg (by rw [hb]; decide)]
    show sU _ 12 _ _ _ 9 i 0 = _
    rw [sU_f (by decide), sU_f (by decide), sU_f (by decide), sU_at]
  have e11 : ∀ k, sFr (comeOne S i b o) i k = if k = b then o else sFr S i k := fun k => by
    unfold comeOne
    rw [if_neg (by rw [hb]; decide)]
    show sU _ 12 _ _ _ 11 i k = _
    rw [sU_f (by decide)]
    by_cases e : k = b
    · rw [e, sU_at, if_pos rfl]
    · rw [sU_j e, sU_f (by decide), sU_f (by decide), if_neg e]
  apply Nat.eq_of_testBit_eq
  intro k
  rw [cf_bit, e9, e11, Nat.testBit_or, Nat.testBit_two_pow]
  by_cases e : k = b
  · subst e
    by_cases hc : c = o
    · rw [if_pos hc, Nat.testBit_or, Nat.testBit_two_pow]
      simp [hb48, hc]
    · rw [if_neg hc, cf_bit, hb]
      simp [Ne.symm hc]
  · by_cases hc : c = o
    · rw [if_pos hc, Nat.testBit_or, cf_bit, Nat.testBit_two_pow]
      simp [e, Ne.symm e]
    · rw [if_neg hc, cf_bit]
      simp [e, Ne.symm e]
