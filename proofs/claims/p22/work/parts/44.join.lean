/-! join; the start -/
def peerM (M : Mem) (t : Nat) (a1 a2 : Int32) : Mem :=
  let A := wL (wI (wF (wN (wF (wN (wN M 0 t) 20 t) 0 t 0 true) 21 t) 0 t 1 true) 0 t 2 0) 0 t 3 0
  let B := wF (wN (wI (wI (wI (wF A 2 t 3 true) 2 t 4 0) 2 t 5 0) 2 t 6 0) 23 t) 2 t 7 true
  let C := wI (wI (wF (wN (wF (wN B 24 t) 2 t 8 true) 25 t) 2 t 9 true) 2 t 10 0) 2 t 11 0
  let D := wI (wI (wF (wN C 26 t) 2 t 12 true) 2 t 13 0) 2 t 0 a1
  let F := wF (wI (wL (wL (wN D 3 t) 3 t 1 0) 3 t 2 0) 3 t 0 a2) 2 t 1 true
  wF (wI (wI (wF (wN (wN F 1 t) 22 t) 1 t 1 true) 1 t 2 0) 1 t 0 a2) 2 t 2 true
theorem p_X2_init {M : Mem} {Q : Mem → Prop} {t : Nat} {a1 a2 : Int32} (h2 : mE M 2 t = true) (hn : ∀ κ ∈ [0, 1, 3, 20, 21, 22, 23, 24, 25, 26], mE M κ t = false) (hQ : Q (peerM M t a1 a2)) : w_X2_init M t a1 a2 Q := by
  have n0 := hn 0 (by decide)
  have n1 := hn 1 (by decide)
  have n3 := hn 3 (by decide)
  have n20 := hn 20 (by decide)
  have n21 := hn 21 (by decide)
  have n22 := hn 22 (by decide)
  have n23 := hn 23 (by decide)
  have n24 := hn 24 (by decide)
  have n25 := hn 25 (by decide)
  have n26 := hn 26 (by decide)
  unfold w_X2_init w_X0_init w_X3_init w_X1_init
  repeat' first | (intro M' h; subst h) | refine And.intro ?_ ?_
  all_goals first | exact hQ | simp [mE_N, mE_wI, mE_wL, mE_wF, h2, n0, n1, n3, n20, n21, n22, n23, n24, n25, n26]
/-- what is not the new peer's is as it was -/
theorem peerM_out {M : Mem} {t : Nat} {a1 a2 : Int32} {κ i : Nat} (h : i ≠ t ∨ (κ ≠ 0 ∧ κ ≠ 1 ∧ κ ≠ 2 ∧ κ ≠ 3 ∧ (κ < 20 ∨ 26 < κ))) : mE (peerM M t a1 a2) κ i = mE M κ i ∧ ∀ k, mF (peerM M t a1 a2) κ i k = mF M κ i k ∧ mI (peerM M t a1 a2) κ i k = mI M κ i k ∧ mL (peerM M t a1 a2) κ i k = mL M κ i k := by
  have q : ∀ k c, (k = 0 ∨ k = 1 ∨ k = 2 ∨ k = 3 ∨ (20 ≤ k ∧ k ≤ 26)) → (κ = k ∧ i = t ↔ False) ∧ ∀ x : Nat, (κ = k ∧ i = t ∧ x = c ↔ False) := fun k c hk => ⟨⟨fun z => by omega, False.elim⟩, fun x => ⟨fun z => by omega, False.elim⟩⟩
  have p0 := fun c => (q 0 c (by omega)).2
  have p1 := fun c => (q 1 c (by omega)).2
  have p2 := fun c => (q 2 c (by omega)).2
  have p3 := fun c => (q 3 c (by omega)).2
  have r0 := (q 0 0 (by omega)).1
  have r1 := (q 1 0 (by omega)).1
  have r3 := (q 3 0 (by omega)).1
  have r20 := (q 20 0 (by omega)).1
  have r21 := (q 21 0 (by omega)).1
  have r22 := (q 22 0 (by omega)).1
  have r23 := (q 23 0 (by omega)).1
  have r24 := (q 24 0 (by omega)).1
  have r25 := (q 25 0 (by omega)).1
  have r26 := (q 26 0 (by omega)).1
  unfold peerM
  refine ⟨?_, fun k => ⟨?_, ?_, ?_⟩⟩
  · simp only [mE_N, mE_wI, mE_wL, mE_wF, r0, r1, r3, r20, r21, r22, r23, r24, r25, r26, if_false]
  · simp only [mF_N, mF_wI, mF_wL, mF_wF, p0, p1, p2, r0, r1, r3, r20, r21, r22, r23, r24, r25, r26, if_false]
  · simp only [mI_N, mI_wI, mI_wL, mI_wF, p0, p1, p2, p3, r0, r1, r3, r20, r21, r22, r23, r24, r25, r26, if_false]
  · simp only [mL_N, mL_wI, mL_wL, mL_wF, p0, p3, r0, r1, r3, r20, r21, r22, r23, r24, r25, r26, if_false]
theorem peerM_e {M : Mem} {t : Nat} {a1 a2 : Int32} (h2 : mE M 2 t = true) : ∀ κ ∈ [0, 1, 2, 3, 20, 21, 22, 23, 24, 25, 26], mE (peerM M t a1 a2) κ t = true := by
  intro κ hκ
  simp only [List.mem_cons, List.not_mem_nil, or_false] at hκ
  unfold peerM
  rcases hκ with rfl | rfl | rfl | rfl | rfl | rfl | rfl | rfl | rfl | rfl | rfl <;> simp [mE_N, mE_wI, mE_wL, mE_wF, h2]
theorem peerM_f {M : Mem} {t : Nat} {a1 a2 : Int32} : (∀ k ∈ [1, 2, 3, 7, 8, 9, 12], mF (peerM M t a1 a2) 2 t k = true) ∧ mF (peerM M t a1 a2) 0 t 0 = true ∧ mF (peerM M t a1 a2) 0 t 1 = true ∧ mF (peerM M t a1 a2) 1 t 1 = true ∧ ∀ k, mF (peerM M t a1 a2) 3 t k = false := by
  refine ⟨fun k hk => ?_, ?_, ?_, ?_, fun k => ?_⟩
  · simp only [List.mem_cons, List.not_mem_nil, or_false] at hk
    unfold peerM
    rcases hk with rfl | rfl | rfl | rfl | rfl | rfl | rfl <;> simp [mF_N, mF_wI, mF_wL, mF_wF]
  · unfold peerM; simp [mF_N, mF_wI, mF_wL, mF_wF]
  · unfold peerM; simp [mF_N, mF_wI, mF_wL, mF_wF]
  · unfold peerM; simp [mF_N, mF_wI, mF_wL, mF_wF]
  · unfold peerM; simp [mF_N, mF_wI, mF_wL, mF_wF]
theorem peerM_i {M : Mem} {t : Nat} {a1 a2 : Int32} : mI (peerM M t a1 a2) 2 t 0 = a1 ∧ mI (peerM M t a1 a2) 2 t 4 = 0 ∧ mI (peerM M t a1 a2) 2 t 5 = 0 ∧ mI (peerM M t a1 a2) 2 t 6 = 0 ∧ mI (peerM M t a1 a2) 2 t 10 = 0 ∧ mI (peerM M t a1 a2) 2 t 11 = 0 ∧ mI (peerM M t a1 a2) 3 t 0 = a2 ∧ mL (peerM M t a1 a2) 3 t 1 = 0 ∧ mL (peerM M t a1 a2) 3 t 2 = 0 ∧ (∀ o, mI (peerM M t a1 a2) 24 t o = 0) ∧ (∀ o, mI (peerM M t a1 a2) 25 t o = 0) ∧ (∀ o, mL (peerM M t a1 a2) 23 t o = 0) ∧ mI (peerM M t a1 a2) 1 t 0 = a2 ∧ mI (peerM M t a1 a2) 1 t 2 = 0 := by
  unfold peerM
  refine ⟨?_, ?_, ?_, ?_, ?_, ?_, ?_, ?_, ?_, fun o => ?_, fun o => ?_, fun o => ?_, ?_, ?_⟩ <;> simp [mI_N, mI_wI, mI_wL, mI_wF, mL_N, mL_wI, mL_wL, mL_wF]
/-- one more is here -/
def jS (S : SS) (hv : Nat) : SS := sU (sU (sU S 2 (sN S) 0 1) 4 (sN S) 0 hv) 0 0 0 (sN S + 1)
theorem jS_e {S : SS} {hv f a c : Nat} (z : (f ≠ 0 ∧ f ≠ 2 ∧ f ≠ 4) ∨ (f ≠ 0 ∧ a ≠ sN S)) : jS S hv f a c = S f a c := by
  unfold jS
  rcases z with z | z
  · rw [sU_f z.1, sU_f z.2.2, sU_f z.2.1]
  · rw [sU_f z.1, sU_i z.2, sU_i z.2]
theorem jS_n (S : SS) (hv : Nat) : sN (jS S hv) = sN S + 1 := by unfold jS sN; rw [sU_at]
theorem jS_h (S : SS) (hv : Nat) : jS S hv 4 (sN S) 0 = hv := by unfold jS; rw [sU_f (by decide), sU_at]
theorem jS_2 (S : SS) (hv : Nat) : jS S hv 2 (sN S) 0 = 1 := by unfold jS; rw [sU_f (by decide), sU_f (by decide), sU_at]
theorem jS_hr (S : SS) (hv i : Nat) : hr (jS S hv) i = if i = sN S then true else hr S i := by
  by_cases e : i = sN S
  · rw [if_pos e, e]; unfold hr; rw [jS_2]; rfl
  · rw [if_neg e]; unfold hr; rw [jS_e (Or.inr ⟨by decide, e⟩)]
theorem Good_join {S : SS} {hv : Nat} (h : Good S) (hn : sN S ≤ 5) (hl : hv < 2 ^ 12) : Good (jS S hv) := by
  obtain ⟨⟨h1, h2, h3, h4, h5, h6, h7, h8, h9, h10, h11, h12, h13, h14, h15⟩, hst, hB, hB1, hS, hN, hz⟩ := h
  have e : ∀ f a c, f ≠ 0 ∧ f ≠ 2 ∧ f ≠ 4 → jS S hv f a c = S f a c := fun f a c z => jS_e (Or.inl z)
  have en : sN (jS S hv) = sN S + 1 := jS_n S hv
  have er : sR (jS S hv) = sR S := e _ _ _ (by decide)
  refine ⟨⟨by rw [en]; omega, by rw [er]; exact h2, fun i => ?_, fun i hi => ?_, fun p => by rw [sPr, e _ _ _ (by decide)]; exact h5 p, fun i => ?_, fun i => by rw [sCar, e _ _ _ (by decide)]; exact h7 i, fun i => by rw [sSeq, e _ _ _ (by decide)]; exact h8 i, fun i => by rw [sSp, e _ _ _ (by decide)]; exact h9 i, fun i => by rw [sHad, e 9 i 0 (by decide)]; exact h10 i, fun i => by rw [sWr, e 10 i 0 (by decide)]; exact h11 i, fun i => by rw [sBan, e 14 i 0 (by decide)]; exact h12 i, fun i b => by rw [sFr, e 11 i b (by decide)]; exact h13 i b, fun i o => by rw [sGot, e 12 i o (by decide)]; exact h14 i o, fun i o => by rw [sSt, e 13 i o (by decide)]; exact h15 i o⟩, fun a o => ?_, fun a o ha ho h3 => ?_, fun a o ha ho hb => ?_, fun a ha => ?_, fun i p hp => ?_, fun f i c hf hi => ?_⟩
  · by_cases z : i = sN S
    · rw [z, jS_2]; omega
    · rw [jS_e (Or.inr ⟨by decide, z⟩)]; exact h3 i
  · rw [jS_hr] at hi
    rw [en]
    by_cases z : i = sN S
    · omega
    · rw [if_neg z] at hi
      have := h4 i hi
      omega
  · unfold sHeld
    by_cases z : i = sN S
    · rw [z, jS_h]; exact hl
    · rw [jS_e (Or.inr ⟨by decide, z⟩)]; exact h6 i
  · have e1 : sSt (jS S hv) a o = sSt S a o := e _ _ _ (by decide)
    rw [e1, er]; exact hst a o
  · have e1 : sSt (jS S hv) a o = sSt S a o := e _ _ _ (by decide)
    have e2 : sBan (jS S hv) a = sBan S a := e _ _ _ (by decide)
    rw [e1] at h3; rw [e2]; exact hB a o ha ho h3
  · have e1 : sSt (jS S hv) a o = sSt S a o := e _ _ _ (by decide)
    have e2 : sBan (jS S hv) a = sBan S a := e _ _ _ (by decide)
    rw [e2] at hb; rw [e1]; exact hB1 a o ha ho hb
  · have e1 : sSt (jS S hv) a a = sSt S a a := e _ _ _ (by decide)
    have e2 : sHad (jS S hv) a = sHad S a := e _ _ _ (by decide)
    rw [e1, e2]
    refine ⟨(hS a ha).1, fun b hb => ?_⟩
    have e3 : sFr (jS S hv) a b = sFr S a b := e _ _ _ (by decide)
    rw [e3]; exact (hS a ha).2 b hb
  · have e2 : sHad (jS S hv) i = sHad S i := e _ _ _ (by decide)
    rw [e2]; exact hN i p hp
  · rw [en] at hi
    rw [jS_e (Or.inr ⟨by omega, by omega⟩)]; exact hz f i c hf (by omega)
theorem stTo_0 (h0 : Nat) : stTo (h0, 0, 0) 12 = (h0, 0, 0) := stTo_id (fun p _ => by
  show 0 &&& blkP p ≠ blkP p
  rw [Nat.zero_and]
  exact fun z => blkP_pos p z.symm) 12 (Nat.le_refl _)
/-- what the class's memory is behind a joining -/
theorem CB_join {S : SS} {M M2 M3 M4 M5 : Mem} {hv : Nat} (hg : Good S) (h : CB S M) (hn : sN S ≤ 5) (hl : hv < 2 ^ 12) (e2 : M2 = wN M 2 (sN S)) (e3 : M3 = peerM M2 (sN S) (nI (sN S)) (nI hv)) (e4 : M4 = wF M3 10 0 (sN S) true) (e5 : M5 = wI M4 4 0 3 (nI (sN S + 1))) : CB (jS S hv) M5 := by
  obtain ⟨hc, hlg, h6, hf⟩ := h
  have ok := hg.1
  generalize ht : sN S = t at *
  have o3 : ∀ κ i, (i ≠ t ∨ (κ ≠ 0 ∧ κ ≠ 1 ∧ κ ≠ 2 ∧ κ ≠ 3 ∧ (κ < 20 ∨ 26 < κ))) → mE M3 κ i = mE M κ i ∧ ∀ k, mF M3 κ i k = mF M κ i k ∧ mI M3 κ i k = mI M κ i k ∧ mL M3 κ i k = mL M κ i k := fun κ i z => by
    have c : ¬ (κ = 2 ∧ i = t) := by omega
    obtain ⟨r1, r2⟩ := peerM_out (M := M2) (t := t) (a1 := nI t) (a2 := nI hv) z
    rw [← e3] at r1 r2
    refine ⟨r1.trans (by rw [e2, mE_N, if_neg c]), fun k => ⟨(r2 k).1.trans (by rw [e2, mF_N, if_neg c]), (r2 k).2.1.trans (by rw [e2, mI_N, if_neg c]), (r2 k).2.2.trans (by rw [e2, mL_N, if_neg c])⟩⟩
  have xE : ∀ κ i, mE M5 κ i = mE M3 κ i := fun κ i => by rw [e5, mE_wI, e4, mE_wF]
  have xF : ∀ κ i k, κ ≠ 10 → mF M5 κ i k = mF M3 κ i k := fun κ i k z => by rw [e5, mF_wI, e4, mF_wF, if_neg (by omega)]
  have xI : ∀ κ i k, κ ≠ 4 ∨ k ≠ 3 → mI M5 κ i k = mI M3 κ i k := fun κ i k z => by rw [e5, mI_wI, if_neg (by omega), e4, mI_wF]
  have xL : ∀ κ i k, mL M5 κ i k = mL M3 κ i k := fun κ i k => by rw [e5, mL_wI, e4, mL_wF]
  have pe := peerM_e (M := M2) (t := t) (a1 := nI t) (a2 := nI hv) (by rw [e2, mE_N, if_pos ⟨rfl, rfl⟩])
  have pf := peerM_f (M := M2) (t := t) (a1 := nI t) (a2 := nI hv)
  have pi := peerM_i (M := M2) (t := t) (a1 := nI t) (a2 := nI hv)
  rw [← e3] at pe pf pi
  have s : ∀ f a c, f ≠ 0 ∧ f ≠ 2 ∧ f ≠ 4 → jS S hv f a c = S f a c := fun f a c z => jS_e (Or.inl z)
  have hz : ∀ f c, 4 ≤ f → S f t c = 0 := fun f c z => hg.z f t c z (by omega)
  have er : sR (jS S hv) = sR S := s _ _ _ (by decide)
  refine ⟨⟨⟨fun κ hκ => ?_, fun k hk => ?_⟩, ⟨?_, ?_, fun p hp => ?_, fun i hi => ?_⟩, fun i hi => ?_⟩, fun i hi => ?_, ⟨fun a => ?_, fun k => ?_⟩, fun κ hκ i hi => ?_⟩
  · have z : κ = 4 ∨ κ = 10 ∨ κ = 11 ∨ κ = 12 := by simpa using hκ
    rw [xE, (o3 κ 0 (by omega)).1]; exact hc.1.1 κ hκ
  · rw [xF _ _ _ (by decide), ((o3 4 0 (by omega)).2 k).1]; exact hc.1.2 k hk
  · rw [jS_n, ht, e5, mI_wI, if_pos ⟨rfl, rfl, rfl⟩]
  · rw [xI _ _ _ (by omega), ((o3 4 0 (by omega)).2 4).2.1, er]; exact hc.r
  · rw [xI _ _ _ (by omega), ((o3 11 0 (by omega)).2 p).2.1, sPr, s _ _ _ (by decide)]; exact hc.pr hp
  · rw [e5, mF_wI, e4, mF_wF, jS_hr, ht]
    by_cases z : i = t
    · rw [if_pos ⟨rfl, rfl, z⟩, if_pos z]
    · rw [if_neg (by omega), if_neg z, ((o3 10 0 (by omega)).2 i).1]; exact hc.pres hi
  · rw [jS_hr, ht] at hi
    by_cases z : i = t
    · subst z
      have h4 : sHeld (jS S hv) i = hv := by unfold sHeld; rw [← ht, jS_h]
      have zz : ∀ f c, 5 ≤ f → jS S hv f i c = 0 := fun f c y => (s f i c (by omega)).trans (hz f c (by omega))
      have c0 : ∀ o, cf (jS S hv) i o = 0 := fun o => by
        apply Nat.eq_of_testBit_eq
        intro k
        unfold cf
        rw [bs_bit, sHad, zz 9 0 (by omega)]
        simp
      refine ⟨⟨fun κ hκ => (xE κ i).trans (pe κ hκ), fun k hk => (xF 2 i k (by decide)).trans (pf.1 k hk), (xF 0 i 0 (by decide)).trans pf.2.1, (xF 0 i 1 (by decide)).trans pf.2.2.1, (xF 1 i 1 (by decide)).trans pf.2.2.2.1⟩, ?_, ?_, ?_, ?_, ?_, ?_, ?_, ?_, ?_, fun o ho => ?_, fun o ho => ?_, fun o ho => ?_⟩
      · rw [xI _ _ _ (by omega)]; exact pi.1
      · rw [xI _ _ _ (by omega), sSp, zz 7 0 (by omega)]; exact pi.2.1
      · rw [xI _ _ _ (by omega), sSeq, zz 6 0 (by omega)]; exact pi.2.2.1
      · rw [xI _ _ _ (by omega), sCar, zz 5 0 (by omega)]; exact pi.2.2.2.1
      · rw [xI _ _ _ (by omega), sBan, zz 14 0 (by omega)]; exact pi.2.2.2.2.1
      · rw [xI _ _ _ (by omega), sDb, zz 8 0 (by omega)]; exact pi.2.2.2.2.2.1
      · rw [xI _ _ _ (by omega), h4]; exact pi.2.2.2.2.2.2.1
      · rw [xL, sHad, zz 9 0 (by omega)]; exact pi.2.2.2.2.2.2.2.1
      · rw [xL, sWr, zz 10 0 (by omega)]; exact pi.2.2.2.2.2.2.2.2.1
      · rw [xI _ _ _ (by omega), sGot, zz 12 o (by omega)]; exact pi.2.2.2.2.2.2.2.2.2.1 o
      · rw [xI _ _ _ (by omega), sSt, zz 13 o (by omega)]; exact pi.2.2.2.2.2.2.2.2.2.2.1 o
      · rw [xL, c0]; exact pi.2.2.2.2.2.2.2.2.2.2.2.1 o
    · rw [if_neg z] at hi
      refine peer_keep hc hi (fun κ k y => ?_) (fun f c y => jS_e (Or.inr ⟨by omega, by omega⟩))
      obtain ⟨r1, r2⟩ := o3 κ i (Or.inl z)
      exact ⟨(xE κ i).trans r1, (xF κ i k (by omega)).trans (r2 k).1, (xI κ i k (by omega)).trans (r2 k).2.1, (xL κ i k).trans (r2 k).2.2⟩
  · rw [jS_hr, ht] at hi
    by_cases z : i = t
    · subst z
      have et : tri (jS S hv) i = (hv, 0, 0) := by
        unfold tri sHeld sHad sWr
        rw [← ht, jS_h, ht, (s 9 i 0 (by decide)).trans (hz 9 0 (by omega)), (s 10 i 0 (by decide)).trans (hz 10 0 (by omega))]
      refine ⟨hv, [], ⟨(xI 1 i 0 (by omega)).trans pi.2.2.2.2.2.2.2.2.2.2.2.2.1, (xI 1 i 2 (by omega)).trans pi.2.2.2.2.2.2.2.2.2.2.2.2.2, fun c q hq => by simp at hq⟩, hl, fun e he => (by cases he), Nat.zero_le _, Nat.zero_le _, fun _ => et.symm, ?_⟩
      rw [et]; exact stTo_0 hv
    · rw [if_neg z] at hi
      obtain ⟨h0, es, l1, l2⟩ := hlg i hi
      have et : tri (jS S hv) i = tri S i := by
        unfold tri sHeld sHad sWr
        rw [jS_e (Or.inr ⟨by decide, by omega⟩), jS_e (Or.inr ⟨by decide, by omega⟩), jS_e (Or.inr ⟨by decide, by omega⟩)]
      refine ⟨h0, es, ⟨((xI 1 i 0 (by omega)).trans ((o3 1 i (Or.inl z)).2 0).2.1).trans l1.1, ((xI 1 i 2 (by omega)).trans ((o3 1 i (Or.inl z)).2 2).2.1).trans l1.2.1, fun c q hq => ((xI 22 i c (by omega)).trans ((o3 22 i (Or.inl z)).2 c).2.1).trans (l1.2.2 c q hq)⟩, ?_⟩
      unfold LogV
      rw [er, et]; exact l2
  · rw [xE, (o3 a 6 (by omega)).1]; exact h6.1 a
  · rw [xF _ _ _ (by decide), ((o3 3 6 (by omega)).2 k).1]; exact h6.2 k
  · rw [jS_n, ht] at hi
    rw [xE, (o3 κ i (by omega)).1]; exact hf κ hκ i (by omega)
/-- what one holds that joins -/
def hvJ (v : Nat) : Nat := if v = 0 then 0 else 4095
theorem hvJ_lt (v : Nat) : hvJ v < 2 ^ 12 := by unfold hvJ; split <;> decide
/-- nothing is there yet -/
def M00 : Mem := (fun _ _ => false, fun _ _ _ => false, fun _ _ _ => 0, fun _ _ _ => 0)
theorem m00_e (κ i : Nat) : mE M00 κ i = false := rfl
theorem m00_f (κ i k : Nat) : mF M00 κ i k = false := rfl
theorem m00_i (κ i k : Nat) : mI M00 κ i k = 0 := rfl
theorem p_fill {M : Mem} {Q : Mem → Prop} (he : mE M 11 0 = true) (hQ : ∀ M1, Ag (fun κ a _ => κ = 11 ∧ a = 0) M M1 → (∀ p, p < 12 → mI M1 11 0 p = 1) → Q M1) : w_J7_fill_53178_11 M 1 Q := by
  have loop : ∀ d i, i + d = 12 → ∀ M1, Ag (fun κ a _ => κ = 11 ∧ a = 0) M M1 → (∀ p, p < i → mI M1 11 0 p = 1) → l_J7_fill_53178_11_5 Q (d + 1) M1 1 (nI i) 12 := by
    intro d
    induction d with
    | zero =>
      intro i hi M1 g1 h1
      have e : i = 12 := by omega
      subst e
      show b_J7_fill_53178_11_5 Q _ M1 _ _ _
      unfold b_J7_fill_53178_11_5
      exact pk_le 12 12 (fun _ => hQ M1 g1 h1) (fun z => absurd z (by omega))
    | succ d ih =>
      intro i hi M1 g1 h1
      show b_J7_fill_53178_11_5 Q (l_J7_fill_53178_11_5 Q (d + 1)) M1 _ _ _
      unfold b_J7_fill_53178_11_5
      refine pk_le 12 i (fun z => absurd z (by omega)) (fun _ => ⟨(g1.1 11 0).trans he, pk_in i 12 (by omega), fun M2 e2 v hv => ?_⟩)
      rw [cl i (by omega)] at e2
      rw [hv, nI_1]
      refine ih (i + 1) (by omega) M2 (g1.wI e2 ⟨rfl, rfl⟩) (fun p hp => ?_)
      rw [e2, mI_wI]
      by_cases z : p = i
      · rw [if_pos ⟨rfl, rfl, z⟩]
      · rw [if_neg (by omega)]; exact h1 p (by omega)
  exact ⟨he, 13, loop 12 0 rfl M Ag.rf (fun p hp => absurd hp (by omega))⟩
def hallM : Mem := wI (wI (wF (wN (wF (wN (wF (wN (wN M00 4 0) 10 0) 4 0 0 true) 11 0) 4 0 1 true) 12 0) 4 0 2 true) 4 0 3 0) 4 0 4 0
theorem p_X4_init {Q : Mem → Prop} (hQ : ∀ M1, Ag (fun κ a _ => κ = 11 ∧ a = 0) hallM M1 → (∀ p, p < 12 → mI M1 11 0 p = 1) → Q M1) : w_X4_init (wN M00 4 0) Q := by
  unfold w_X4_init
  refine ⟨by simp [mE_N, m00_e], fun M3 e3 => ⟨by subst e3; simp [mE_N], fun M7 e7 => ⟨by subst e7 e3; simp [mE_N, mE_wF, m00_e], fun M10 e10 M15 e15 => ⟨by subst e15 e10 e7 e3; simp [mE_N, mE_wF, m00_e], fun M18 e18 M24 e24 M25 e25 M26 e26 => ?_⟩⟩⟩⟩
  have e : M26 = hallM := by
    subst e26 e25 e24 e18 e15 e10 e7 e3
    rfl
  rw [e]
  exact ⟨by unfold hallM; simp [mF_N, mF_wF, mF_wI], p_fill (by unfold hallM; simp [mE_N, mE_wF, mE_wI]) hQ⟩
