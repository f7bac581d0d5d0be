theorem pL_doubles {S : SS} {M : Mem} {Q : Int32 → Mem → Prop} {a : Int32} (hb : Both S M) (h1 : ∀ j, j < 6 → a = nI j → hr S j = true → ∀ M1, Both S M1 → mL M1 60 0 0 = (nI (sDb S j)).toInt64 → Q 0 M1) (h0 : ¬ HereX S a → Q 1 M) : w_L_doubles M a Q := by
  have h := hb.2.1.1
  refine ⟨h.e 4, h.e 4, p_known h (fun z => ⟨rfl, h0 z⟩) (fun j hj hx hh => ⟨h.pe hh 2, p_put hb (fun M1 _ b1 v1 => ?_)⟩)⟩
  rw [h.db hh] at v1
  exact h1 j hj hx hh M1 b1 v1
theorem pM_doubles {S : SS} {M : Mem} {Q : Int32 → Mem → Prop} {a : Int32} (hb : Both S M) (h1 : ∀ j, j < 6 → a = nI j → hr S j = true → ∀ M1, M1 = wI M 5 0 0 0 → Both S M1 → mI M1 5 0 0 = nI 0 → Q (nI (sDb S j)) M1) (h0 : ¬ HereX S a → ∀ M1, M1 = wI M 5 0 0 1 → Both S M1 → mI M1 5 0 0 = nI 1 → Q 0 M1) : w_X5_doubles M a Q := by
  have h := hb.2.2
  have ok := hb.1.1
  refine ⟨h.e 5, p_isPeerM h ok (fun z => t0 ⟨h.e 5, p_fits 1 rfl (by omega) h (fun M1 e r1 g1 v1 => ?_)⟩) (fun j hj hx hh => t1 ⟨h.e 5, p_fits 0 rfl (by omega) h (fun M1 e r1 g1 v1 => ?_)⟩)⟩
  · exact t0 (h0 z M1 e (hb.w5 e) v1)
  · subst hx
    rw [cl j (by omega), r1.db hj]
    exact t1 ⟨r1.e 5, r1.f 9, r1.e 39, pk_in j 6 hj, h1 j hj rfl hh M1 e (hb.w5 e) v1⟩
theorem pL_holdsByLog {S : SS} {M : Mem} {Q : Int32 → Mem → Prop} {a : Int32} (hb : Both S M) (h1 : ∀ j, j < 6 → a = nI j → hr S j = true → ∀ M1, Both S M1 → mL M1 60 0 0 = (nI (sHeld S j)).toInt64 → Q 0 M1) (h0 : ¬ HereX S a → Q 1 M) : w_L_holdsByLog M a Q := by
  have h := hb.2.1.1
  have ok := hb.1.1
  refine ⟨h.e 4, h.e 4, p_known h (fun z => ⟨rfl, h0 z⟩) (fun j hj hx hh => ?_)⟩
  obtain ⟨h0', es, hL, v1, v2, v3, v4, v5, v6⟩ := hb.2.1.2.1 j hh
  have r200 := ok.r
  refine ⟨h.pe hh 2, h.pf hh 2, h.pe hh 1, p_replayHeld (h.pe hh 1) (h.2.2 j hh).1.2.2.2.2 (h.pe hh 22) hL hb.2.1.2.2.1 v1 v2 (by omega) (fun M1 g1 => ?_)⟩
  have b1 : Both S M1 := by
    refine ⟨hb.1, ⟨?_, fun i hi => ?_, ⟨fun a => (g1.1 a 6).trans (hb.2.1.2.2.1.1 a), fun k => (g1.2.1 3 6 k).trans (hb.2.1.2.2.1.2 k)⟩, fun κ hκ i hi => (g1.1 κ i).trans (hb.2.1.2.2.2.1 κ hκ i hi), (g1.1 60 0).trans hb.2.1.2.2.2.2⟩, hb.2.2.ag g1 (fun κ a k z => by unfold TrM; omega)⟩
    · refine RepC_upd (i := 6) h g1 (fun κ a k z => Or.inr (by omega)) (fun _ _ _ _ => rfl) (fun z => absurd (ok.h6 z) (by omega))
    · obtain ⟨a1, a2, a3, a4⟩ := hb.2.1.2.1 i hi
      exact ⟨a1, a2, a3.ag g1 (fun κ k z => by omega), a4⟩
  have e : (stTo (rpL h0' es).1 12).1 = sHeld S j := by rw [v6]; rfl
  rw [e]
  exact p_put b1 (fun M2 _ b2 w2 => h1 j hj hx hh M2 b2 w2)
theorem pM_holdsByLog {S : SS} {M : Mem} {Q : Int32 → Mem → Prop} {a : Int32} (hb : Both S M) (h1 : ∀ j, j < 6 → a = nI j → hr S j = true → ∀ M1, M1 = wI M 5 0 0 0 → Both S M1 → mI M1 5 0 0 = nI 0 → Q (nI (sHeld S j)) M1) (h0 : ¬ HereX S a → ∀ M1, M1 = wI M 5 0 0 1 → Both S M1 → mI M1 5 0 0 = nI 1 → Q 0 M1) : w_X5_holdsByLog M a Q := by
  have h := hb.2.2
  have ok := hb.1.1
  refine ⟨h.e 5, p_isPeerM h ok (fun z => t0 ⟨h.e 5, p_fits 1 rfl (by omega) h (fun M1 e r1 g1 v1 => ?_)⟩) (fun j hj hx hh => t1 ⟨h.e 5, p_fits 0 rfl (by omega) h (fun M1 e r1 g1 v1 => ?_)⟩)⟩
  · exact t0 (h0 z M1 e (hb.w5 e) v1)
  · subst hx
    rw [cl j (by omega), r1.held hj]
    exact t1 ⟨r1.e 5, r1.f 5, r1.e 35, pk_in j 6 hj, h1 j hj rfl hh M1 e (hb.w5 e) v1⟩
theorem pL_chosen {S : SS} {M : Mem} {Q : Int32 → Mem → Prop} {a : Int32} (hb : Both S M) (h1 : ∀ j, j < 6 → a = nI j → hr S j = true → ∀ M1, Both S M1 → mL M1 60 0 0 = (nI (chosen S j)).toInt64 → Q 0 M1) (h0 : ¬ HereX S a → Q 1 M) : w_L_chosen M a Q := by
  have h := hb.2.1.1
  refine ⟨h.e 4, h.e 4, p_known h (fun z => ⟨rfl, h0 z⟩) (fun j hj hx hh => ⟨h.e 4, p_findChosen h hb.1.1 hh (p_put hb (fun M1 _ b1 v1 => h1 j hj hx hh M1 b1 v1))⟩)⟩
theorem pM_chosen {S : SS} {M : Mem} {Q : Int32 → Mem → Prop} {a : Int32} (hb : Both S M) (h1 : ∀ j, j < 6 → a = nI j → hr S j = true → ∀ M1, M1 = wI M 5 0 0 0 → Both S M1 → mI M1 5 0 0 = nI 0 → Q (nI (chosen S j)) M1) (h0 : ¬ HereX S a → ∀ M1, M1 = wI M 5 0 0 1 → Both S M1 → mI M1 5 0 0 = nI 1 → Q 0 M1) : w_X5_chosen M a Q := by
  have h := hb.2.2
  have ok := hb.1.1
  refine ⟨h.e 5, p_isPeerM h ok (fun z => t0 ⟨h.e 5, p_fits 1 rfl (by omega) h (fun M1 e r1 g1 v1 => ?_)⟩) (fun j hj hx hh => t1 ⟨h.e 5, p_fits 0 rfl (by omega) h (fun M1 e r1 g1 v1 => ?_)⟩)⟩
  · exact t0 (h0 z M1 e (hb.w5 e) v1)
  · subst hx
    exact t1 ⟨r1.e 5, p_choiceOf j rfl r1 ok hj hh (h1 j hj rfl hh M1 e (hb.w5 e) v1)⟩
theorem pL_holders {S : SS} {M : Mem} {Q : Int32 → Mem → Prop} {a : Int32} (hb : Both S M) (h1 : ∀ p, p < 12 → a = nI p → ∀ M1, Both S M1 → mL M1 60 0 0 = (nI (cH S p 6)).toInt64 → Q 0 M1) (h0 : (∀ p, p < 12 → a ≠ nI p) → Q 1 M) : w_L_holders M a Q := by
  have h := hb.2.1.1
  exact ⟨h.e 4, p_checkPiece (fun z => ⟨rfl, h0 z⟩) (fun p hp hx => ⟨h.e 4, p_countHolders p hx h hb.1.1 hp (p_put hb (fun M1 _ b1 v1 => h1 p hp hx M1 b1 v1))⟩)⟩
theorem pM_holders {S : SS} {M : Mem} {Q : Int32 → Mem → Prop} {a : Int32} (hb : Both S M) (h1 : ∀ p, p < 12 → a = nI p → ∀ M1, M1 = wI M 5 0 0 0 → Both S M1 → mI M1 5 0 0 = nI 0 → Q (nI (cH S p 6)) M1) (h0 : (∀ p, p < 12 → a ≠ nI p) → ∀ M1, M1 = wI M 5 0 0 1 → Both S M1 → mI M1 5 0 0 = nI 1 → Q 0 M1) : w_X5_holders M a Q := by
  have h := hb.2.2
  have ok := hb.1.1
  refine p_isPiece (fun z => t0 ⟨h.e 5, p_fits 1 rfl (by omega) h (fun M1 e r1 g1 v1 => t0 (h0 z M1 e (hb.w5 e) v1))⟩) (fun p hp hx => t1 ⟨h.e 5, p_fits 0 rfl (by omega) h (fun M1 e r1 g1 v1 => t1 ⟨r1.e 5, p_holdersOf p hx r1 ok hp (h1 p hp hx M1 e (hb.w5 e) v1)⟩)⟩)
