theorem settleTo_ok {S : SS} (ok : OKS S) {i : Nat} (hi : i < 6) (hst : ∀ a o, sSt S a o ≤ 99000) : ∀ p, p ≤ 12 → OKS (settleTo S i p)
  | 0, _ => ok
  | p + 1, hp => by
    have ih := settleTo_ok ok hi hst p (by omega)
    have ht := settleTo_tri S i (p + 1)
    have lt := stTo_lt (t := tri S i) (ok.held i) (ok.had i) (ok.wr i) (p + 1) (by omega)
    rw [← ht] at lt
    have low : ∀ f a c, ((f ≠ 4 ∧ f ≠ 9 ∧ f ≠ 10 ∧ f ≠ 13 ∧ f ≠ 14) ∨ a ≠ i) → settleTo S i (p + 1) f a c = S f a c := fun f a c h => settleTo_f h (p + 1)
    have hrr : ∀ a, hr (settleTo S i (p + 1)) a = hr S a := fun a => by unfold hr; rw [low 2 a 0 (by omega)]
    have stle := fun a o => settleTo_stle S (i := i) a o (p + 1) (by omega)
    obtain ⟨h1, h2, h3, h4, h5, h6, h7, h8, h9, h10, h11, h12, h13, h14, h15⟩ := ok
    refine ⟨by rw [sN, low _ _ _ (by omega)]; exact h1, by rw [sR, low _ _ _ (by omega)]; exact h2, fun a => by rw [low _ _ _ (by omega)]; exact h3 a, fun a ha => by rw [hrr] at ha; rw [sN, low _ _ _ (by omega)]; exact h4 a ha, fun a => by rw [sPr, low _ _ _ (by omega)]; exact h5 a, fun a => ?_, fun a => by rw [sCar, low _ _ _ (by omega)]; exact h7 a, fun a => by rw [sSeq, low _ _ _ (by omega)]; exact h8 a, fun a => by rw [sSp, low _ _ _ (by omega)]; exact h9 a, fun a => ?_, fun a => ?_, fun a => ?_, fun a c => by rw [sFr, low _ _ _ (by omega)]; exact h13 a c, fun a c => by rw [sGot, low _ _ _ (by omega)]; exact h14 a c, fun a c => by have := stle a c; have := hst a c; omega⟩
    · by_cases e : a = i
      · subst e; exact lt.1
      · rw [sHeld, low _ _ _ (by omega)]; exact h6 a
    · by_cases e : a = i
      · subst e; exact lt.2.1
      · rw [sHad, low _ _ _ (by omega)]; exact h10 a
    · by_cases e : a = i
      · subst e; exact lt.2.2
      · rw [sWr, low _ _ _ (by omega)]; exact h11 a
    · by_cases e : a = i
      · subst e
        rw [settleTo, settleP_ban _ (by omega)]
        split
        · exact bban_lt _ _ _ (ih.ban a) 6 (Nat.le_refl _)
        · exact ih.ban a
      · rw [sBan, low _ _ _ (by omega)]; exact h12 a
/-- what a settling reaches -/
def PSt (i κ a k : Nat) : Prop := a = i ∧ (κ = 25 ∨ (κ = 2 ∧ k = 10) ∨ κ = 23)
theorem p_settle {S : SS} {M : Mem} {Q : Mem → Prop} {i : Nat} (h : RepC S M) (ok : OKS S) (hi : hr S i = true) (hst : ∀ a o, sSt S a o ≤ 99000)
    (hQ : ∀ M1, Ag (fun κ a k => PSt i κ a k ∨ (κ = 3 ∧ a = i)) M M1 → RepC (settleTo S i 12) M1 → Q M1) : w_X4_settle M i Q := by
  have i6 : i < 6 := ok.h6 hi
  have loop : ∀ d p, p + d = 12 → ∀ M1, Ag (PSt i) M M1 → (∀ o, o < 6 → mI M1 25 i o = nI (sSt (settleTo S i p) i o)) → mI M1 2 i 10 = nI (sBan (settleTo S i p) i) → (∀ o, o < 6 → mL M1 23 i o = lN (cf (settleTo S i p) i o)) → l_X4_settle_2 Q (d + 1) M1 i (nI p) := by
    intro d
    induction d with
    | zero =>
      intro p hp M1 g a1 a2 a3
      have e : p = 12 := by omega
      subst e
      show b_X4_settle_2 Q _ M1 _ _
      unfold b_X4_settle_2
      have n3 : ∀ k, ¬ PSt i 3 i k := fun k => by unfold PSt; omega
      refine pk_le 12 12 (fun _ => ⟨(g.1 2 i).trans (h.pe hi 2), (g.2.1 2 i 1).trans (h.pf hi 1), (g.1 3 i).trans (h.pe hi 3), ?_⟩) (fun z => absurd z (by omega))
      refine p_endPieces (v := tri S i) ((g.1 3 i).trans (h.pe hi 3)) (by rw [g.i (n3 _)]; exact h.held hi) (by rw [g.l (n3 _)]; exact h.had hi) (by rw [g.l (n3 _)]; exact h.wr hi) (ok.held i) (ok.had i) (ok.wr i) (fun M2 g2 b1 b2 b3 => ?_)
      have gg : Ag (fun κ a k => PSt i κ a k ∨ (κ = 3 ∧ a = i)) M M2 := (g.mono (fun _ _ _ z => Or.inl z)).tr (g2.mono (fun _ _ _ z => Or.inr z))
      rw [← settleTo_tri] at b1 b2 b3
      refine hQ M2 gg (RepC_upd (i := i) h gg (fun κ a k z => Or.inr (by unfold PSt at z; omega)) (fun f a c z => settleTo_f (by omega) 12) (fun _ => ?_))
      have s : ∀ f c, (f ≠ 4 ∧ f ≠ 9 ∧ f ≠ 10 ∧ f ≠ 13 ∧ f ≠ 14) → settleTo S i 12 f i c = S f i c := fun f c z => settleTo_f (Or.inl z) 12
      refine ⟨?_, ?_, ?_, ?_, ?_, ?_, b1, b2, b3, fun o ho => ?_, fun o ho => ?_, fun o ho => ?_⟩
      · rw [gg.i (by unfold PSt; omega)]; exact h.num hi
      · rw [gg.i (by unfold PSt; omega), sSp, s _ _ (by decide)]; exact h.sp hi
      · rw [gg.i (by unfold PSt; omega), sSeq, s _ _ (by decide)]; exact h.seq hi
      · rw [gg.i (by unfold PSt; omega), sCar, s _ _ (by decide)]; exact h.car hi
      · rw [g2.i (by omega)]; exact a2
      · rw [gg.i (by unfold PSt; omega), sDb, s _ _ (by decide)]; exact h.db hi
      · rw [gg.i (by unfold PSt; omega), sGot, s _ _ (by decide)]; exact h.got hi ho
      · rw [g2.i (by omega)]; exact a1 o ho
      · rw [g2.l (by omega)]; exact a3 o ho
    | succ d ih =>
      intro p hp M1 g a1 a2 a3
      have nx := ih (p + 1) (by omega)
      have okp := settleTo_ok ok i6 hst p (by omega)
      have n3 : ∀ k, ¬ PSt i 3 i k := fun k => by unfold PSt; omega
      have up := stTo_up (t := tri S i) (p := p) p (Nat.le_refl p)
      rw [← settleTo_tri] at up
      have u1 : sHad (settleTo S i p) i &&& blkP p = sHad S i &&& blkP p := up.1
      have u2 : sWr (settleTo S i p) i &&& blkP p = sWr S i &&& blkP p := up.2
      have hP : ∀ {M2 : Mem}, Ag (PSt i) M M2 → PeerOK M2 i := fun {M2} g2 => ⟨fun κ hκ => (g2.1 κ i).trans (h.pe hi κ hκ), fun k hk => (g2.2.1 2 i k).trans (h.pf hi k hk), (g2.2.1 0 i 0).trans (h.2.2 i hi).1.2.2.1, (g2.2.1 0 i 1).trans (h.2.2 i hi).1.2.2.2.1, (g2.2.1 1 i 1).trans (h.2.2 i hi).1.2.2.2.2⟩
      have e2 := (g.1 2 i).trans (h.pe hi 2)
      have e3 := (g.1 3 i).trans (h.pe hi 3)
      have f1 := (g.2.1 2 i 1).trans (h.pf hi 1)
      rw [settleTo] at nx
      have st' := fun o ho => settleP_st (settleTo S i p) (i := i) (show p < 12 by omega) (o := o) ho
      have bn' := settleP_ban (settleTo S i p) (i := i) (show p < 12 by omega)
      have cf' := fun o => cf_settleP (S := settleTo S i p) (i := i) (p := p) (o := o)
      rw [u1, u2] at bn'
      rw [u1] at cf'
      have st'' : ∀ o, o < 6 → _ := fun o ho => by have := st' o ho; rw [u1, u2] at this; exact this
      show b_X4_settle_2 Q (l_X4_settle_2 Q (d + 1)) M1 _ _
      unfold b_X4_settle_2 b_X4_settle_35 b_X4_settle_40
      refine pk_le 12 p (fun z => absurd z (by omega)) (fun _ => ⟨e2, f1, e3, p_isComplete (had := sHad S i) p rfl e3 (by rw [g.l (n3 _)]; exact h.had hi) (by omega) (fun hf => t1 ⟨e2, f1, e3, ?_⟩) (fun hf => t0 (fun z hz => ?_))⟩)
      · refine p_isSound (wr := sWr S i) p rfl e3 (by rw [g.l (n3 _)]; exact h.wr hi) (ok.wr i) (by omega) (fun hs => t1 ⟨e2, ?_⟩) (fun hs => t0 ⟨e2, ?_⟩)
        · refine p_forget (c := cf (settleTo S i p) i) p rfl (by omega) (hP g) a3 (fun M2 g2 b1 z hz => ?_)
          rw [hz, nI_1]
          refine nx M2 (g.tr (g2.mono (fun κ a k z => by unfold PSt; omega))) (fun o ho => ?_) ?_ (fun o ho => ?_)
          · rw [st'' o ho, if_neg (fun z => z.2 hs), g2.i (by omega)]; exact a1 o ho
          · rw [bn', if_neg (fun z => z.2 hs), g2.i (by omega)]; exact a2
          · rw [cf' o, if_pos hf]; exact b1 o ho
        · refine p_blame (c := cf (settleTo S i p) i) (st := sSt (settleTo S i p) i) (ban := sBan (settleTo S i p) i) p rfl (by omega) (hP g) a3 (fun o => cf_lt _ _ _) a1 (fun o => okp.st i o) a2 (fun M2 g2 b1 b2 => ?_)
          have gg2 : Ag (PSt i) M M2 := g.tr (g2.mono (fun κ a k z => by unfold PBl at z; unfold PSt; omega))
          refine ⟨(gg2.1 2 i).trans (h.pe hi 2), ?_⟩
          refine p_forget (c := cf (settleTo S i p) i) p rfl (by omega) (hP gg2) (fun o ho => by rw [g2.l (by unfold PBl; omega)]; exact a3 o ho) (fun M3 g3 c1 z hz => ?_)
          rw [hz, nI_1]
          refine nx M3 (gg2.tr (g3.mono (fun κ a k z => by unfold PSt; omega))) (fun o ho => ?_) ?_ (fun o ho => ?_)
          · rw [st'' o ho, if_pos ⟨hf, hs⟩, g3.i (by omega)]; exact b1 o ho
          · rw [bn', if_pos ⟨hf, hs⟩, g3.i (by omega)]; exact b2
          · rw [cf' o, if_pos hf]; exact c1 o ho
      · rw [hz, nI_1]
        refine nx M1 g (fun o ho => ?_) ?_ (fun o ho => ?_)
        · rw [st'' o ho, if_neg (fun z => hf z.1)]; exact a1 o ho
        · rw [bn', if_neg (fun z => hf z.1)]; exact a2
        · rw [cf' o, if_neg hf]; exact a3 o ho
  exact ⟨13, loop 12 0 rfl M Ag.rf (fun o ho => h.st hi ho) (h.ban hi) (fun o ho => h.cf hi ho)⟩
