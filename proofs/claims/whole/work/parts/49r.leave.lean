/-! leave -/
def pcT (x : Nat) : Nat → Nat
  | 0 => 0
  | k + 1 => pcT x k + (if x.testBit k then 1 else 0)
def bc1 (a : Int32) : Int32 := a - (((a.toUInt32 >>> ((1 : Int32).toUInt32 &&& Int32.toUInt32 31)).toInt32) &&& 1431655765)
def bc2 (v : Int32) : Int32 := (v &&& 858993459) + (((v.toUInt32 >>> ((2 : Int32).toUInt32 &&& Int32.toUInt32 31)).toInt32) &&& 858993459)
def bc3 (v : Int32) : Int32 := (v + ((v.toUInt32 >>> ((4 : Int32).toUInt32 &&& Int32.toUInt32 31)).toInt32)) &&& 252645135
def bc4 (v : Int32) : Int32 := v + ((v.toUInt32 >>> ((8 : Int32).toUInt32 &&& Int32.toUInt32 31)).toInt32)
def bc5 (v : Int32) : Int32 := v + ((v.toUInt32 >>> ((16 : Int32).toUInt32 &&& Int32.toUInt32 31)).toInt32)
def bcF (a : Int32) : Int32 := bc5 (bc4 (bc3 (bc2 (bc1 a)))) &&& 63
theorem bc_all : ∀ a, a < 64 → ∀ b, b < 64 → bcF (nI (64 * a + b)) = nI (pcT (64 * a + b) 12) := by decide +kernel
theorem bc_n {x : Nat} (h : x < 2 ^ 12) : bcF (nI x) = nI (pcT x 12) := by
  have e : 64 * (x / 64) + x % 64 = x := Nat.div_add_mod x 64
  have r := bc_all (x / 64) (by omega) (x % 64) (by omega)
  rw [e] at r; exact r
theorem p_bitCount {M : Mem} {Q : Int32 → Mem → Prop} {y : Int32} (x : Nat) (hy : y = nI x) (hx : x < 2 ^ 12) (hQ : Q (nI (pcT x 12)) M) : w_J6_bitCount_0f7a4 M y Q := by
  subst hy
  intro v1 h1 v2 h2 v3 h3 v4 h4 v5 h5
  have e : v5 &&& 63 = nI (pcT x 12) := by
    rw [← bc_n hx]
    unfold bcF
    rw [show v5 = bc5 v4 from h5, show v4 = bc4 v3 from h4, show v3 = bc3 v2 from h3, show v2 = bc2 v1 from h2, show v1 = bc1 (nI x) from h1]
  rw [e]; exact hQ
theorem p_countM {M : Mem} {Q : Int32 → Mem → Prop} {y : Int32} (x : Nat) (hy : y = nI x) (hx : x < 2 ^ 31) (hQ : Q (nI (pcT x 12)) M) : w_X5_count M y Q := by
  subst hy
  have loop : ∀ d i, i + d = 12 → l_X5_count_4 Q (d + 1) M (nI x) (nI (pcT x i)) (nI i) := by
    intro d
    induction d with
    | zero =>
      intro i hi
      have e : i = 12 := by omega
      subst e
      show b_X5_count_4 Q _ M _ _ _
      unfold b_X5_count_4
      exact pk_le 12 12 (fun _ => hQ) (fun z => absurd z (by omega))
    | succ d ih =>
      intro i hi
      have nx := ih (i + 1) (by omega)
      rw [pcT] at nx
      show b_X5_count_4 Q (l_X5_count_4 Q (d + 1)) M _ _ _
      unfold b_X5_count_4
      refine pk_le 12 i (fun z => absurd z (by omega)) (fun _ v hv w hw => ?_)
      rw [hv, hw, i_has hx (by omega), nI_add, nI_1]
      exact nx
  exact ⟨13, loop 12 0 rfl⟩
theorem mE_wF (M : Mem) (κ i k a b : Nat) (v : Bool) : mE (wF M κ i k v) a b = mE M a b := rfl
theorem mI_wF (M : Mem) (κ i k a b c : Nat) (v : Bool) : mI (wF M κ i k v) a b c = mI M a b c := rfl
theorem mL_wF (M : Mem) (κ i k a b c : Nat) (v : Bool) : mL (wF M κ i k v) a b c = mL M a b c := rfl
/-- a peer stays as it was -/
theorem peer_keep {S S1 : SS} {M M1 : Mem} {i : Nat} (h : RepC S M) (hi : hr S i = true) (hm : ∀ κ k, κ ≤ 3 ∨ (20 ≤ κ ∧ κ ≤ 26) → mE M1 κ i = mE M κ i ∧ mF M1 κ i k = mF M κ i k ∧ mI M1 κ i k = mI M κ i k ∧ mL M1 κ i k = mL M κ i k) (hS : ∀ f c, 4 ≤ f → S1 f i c = S f i c) : PeerOK M1 i ∧ PeerV S1 M1 i := by
  have c1 : ∀ o, cf S1 i o = cf S i o := fun o => by
    unfold cf; congr 1; funext b
    rw [sHad, sFr, hS 9 0 (by omega), hS 11 b (by omega)]
  refine ⟨⟨fun κ hκ => ?_, fun k hk => ?_, ?_, ?_, ?_⟩, ?_, ?_, ?_, ?_, ?_, ?_, ?_, ?_, ?_, fun o ho => ?_, fun o ho => ?_, fun o ho => ?_⟩
  · have z : κ ≤ 3 ∨ (20 ≤ κ ∧ κ ≤ 26) := by
      simp only [List.mem_cons, List.not_mem_nil, or_false] at hκ
      omega
    rw [(hm κ 0 z).1]; exact h.pe hi κ hκ
  · rw [(hm 2 k (by omega)).2.1]; exact h.pf hi k hk
  · rw [(hm 0 0 (by omega)).2.1]; exact (h.2.2 i hi).1.2.2.1
  · rw [(hm 0 1 (by omega)).2.1]; exact (h.2.2 i hi).1.2.2.2.1
  · rw [(hm 1 1 (by omega)).2.1]; exact (h.2.2 i hi).1.2.2.2.2
  · rw [(hm 2 0 (by omega)).2.2.1]; exact h.num hi
  · rw [(hm 2 4 (by omega)).2.2.1, sSp, hS 7 0 (by omega)]; exact h.sp hi
  · rw [(hm 2 5 (by omega)).2.2.1, sSeq, hS 6 0 (by omega)]; exact h.seq hi
  · rw [(hm 2 6 (by omega)).2.2.1, sCar, hS 5 0 (by omega)]; exact h.car hi
  · rw [(hm 2 10 (by omega)).2.2.1, sBan, hS 14 0 (by omega)]; exact h.ban hi
  · rw [(hm 2 11 (by omega)).2.2.1, sDb, hS 8 0 (by omega)]; exact h.db hi
  · rw [(hm 3 0 (by omega)).2.2.1, sHeld, hS 4 0 (by omega)]; exact h.held hi
  · rw [(hm 3 1 (by omega)).2.2.2, sHad, hS 9 0 (by omega)]; exact h.had hi
  · rw [(hm 3 2 (by omega)).2.2.2, sWr, hS 10 0 (by omega)]; exact h.wr hi
  · rw [(hm 24 o (by omega)).2.2.1, sGot, hS 12 o (by omega)]; exact h.got hi ho
  · rw [(hm 25 o (by omega)).2.2.1, sSt, hS 13 o (by omega)]; exact h.st hi ho
  · rw [(hm 23 o (by omega)).2.2.2, c1]; exact h.cf hi ho
theorem leave_hr {S : SS} {j i : Nat} (h : hr (sU S 2 j 0 0) i = true) : hr S i = true ∧ i ≠ j := by
  by_cases e : i = j
  · subst e; unfold hr at h; rw [sU_at] at h; cases h
  · unfold hr at h ⊢; rw [sU_i e] at h; exact ⟨h, e⟩
theorem leave_hr1 {S : SS} {j i : Nat} : hr (sU S 2 j 0 0) i = if i = j then false else hr S i := by
  by_cases e : i = j
  · subst e; unfold hr; rw [sU_at, if_pos rfl]; rfl
  · unfold hr; rw [sU_i e, if_neg e]
theorem Good_leave {S : SS} {j : Nat} (h : Good S) : Good (sU S 2 j 0 0) := by
  obtain ⟨⟨h1, h2, h3, h4, h5, h6, h7, h8, h9, h10, h11, h12, h13, h14, h15⟩, hst, hB, hF, hz⟩ := h
  have e : ∀ f a c, f ≠ 2 → sU S 2 j 0 0 f a c = S f a c := fun f a c z => sU_f z
  have en : sN (sU S 2 j 0 0) = sN S := e _ _ _ (by decide)
  have er : sR (sU S 2 j 0 0) = sR S := e _ _ _ (by decide)
  refine ⟨⟨by rw [en]; exact h1, by rw [er]; exact h2, fun i => ?_, fun i hi => by rw [en]; exact h4 i (leave_hr hi).1, fun p => by rw [sPr, e _ _ _ (by decide)]; exact h5 p, fun i => by rw [sHeld, e 4 i 0 (by decide)]; exact h6 i, fun i => by rw [sCar, e _ _ _ (by decide)]; exact h7 i, fun i => by rw [sSeq, e _ _ _ (by decide)]; exact h8 i, fun i => by rw [sSp, e _ _ _ (by decide)]; exact h9 i, fun i => by rw [sHad, e 9 i 0 (by decide)]; exact h10 i, fun i => by rw [sWr, e 10 i 0 (by decide)]; exact h11 i, fun i => by rw [sBan, e 14 i 0 (by decide)]; exact h12 i, fun i b => by rw [sFr, e 11 i b (by decide)]; exact h13 i b, fun i o => by rw [sGot, e 12 i o (by decide)]; exact h14 i o, fun i o => by rw [sSt, e 13 i o (by decide)]; exact h15 i o⟩, fun a o => ?_, fun a o ha ho h3 => ?_, fun a b ha hb => ?_, fun f i c hf hi => ?_⟩
  · by_cases z : i = j
    · subst z; rw [sU_at]; omega
    · rw [sU_i z]; exact h3 i
  · have e1 : sSt (sU S 2 j 0 0) a o = sSt S a o := e _ _ _ (by decide)
    rw [e1, er]; exact hst a o
  · have e1 : sSt (sU S 2 j 0 0) a o = sSt S a o := e _ _ _ (by decide)
    have e2 : sBan (sU S 2 j 0 0) a = sBan S a := e _ _ _ (by decide)
    rw [e1] at h3; rw [e2]; exact hB a o ha ho h3
  · have e1 : sFr (sU S 2 j 0 0) a b = sFr S a b := e _ _ _ (by decide)
    rw [e1, en]; exact hF a b ha hb
  · rw [en] at hi
    rw [e f i c (by omega)]; exact hz f i c hf hi
theorem CB_leave {S : SS} {M M1 : Mem} {j : Nat} (h : CB S M) (e : M1 = wF M 10 0 j false) : CB (sU S 2 j 0 0) M1 := by
  have s : ∀ f a c, f ≠ 2 → sU S 2 j 0 0 f a c = S f a c := fun f a c z => sU_f z
  have xE : ∀ κ a, mE M1 κ a = mE M κ a := fun κ a => by rw [e, mE_wF]
  have xF : ∀ κ a k, κ ≠ 10 → mF M1 κ a k = mF M κ a k := fun κ a k z => by rw [e, mF_wF, if_neg (by omega)]
  have xI : ∀ κ a k, mI M1 κ a k = mI M κ a k := fun κ a k => by rw [e, mI_wF]
  have xL : ∀ κ a k, mL M1 κ a k = mL M κ a k := fun κ a k => by rw [e, mL_wF]
  obtain ⟨hc, hl, h6, hf, h60⟩ := h
  refine ⟨⟨⟨fun κ hκ => (xE κ 0).trans (hc.1.1 κ hκ), fun k hk => (xF 4 0 k (by decide)).trans (hc.1.2 k hk)⟩, ⟨?_, ?_, fun p hp => ?_, fun i hi => ?_⟩, fun i hi => ?_⟩, fun i hi => ?_, ⟨fun a => (xE a 6).trans (h6.1 a), fun k => (xF 3 6 k (by decide)).trans (h6.2 k)⟩, fun κ hκ i hi => ?_, (xE 60 0).trans h60⟩
  · rw [xI, sN, s _ _ _ (by decide)]; exact hc.n
  · rw [xI, sR, s _ _ _ (by decide)]; exact hc.r
  · rw [xI, sPr, s _ _ _ (by decide)]; exact hc.pr hp
  · rw [e, mF_wF, leave_hr1]
    by_cases z : i = j
    · rw [if_pos ⟨rfl, rfl, z⟩, if_pos z]
    · rw [if_neg (by omega), if_neg z]; exact hc.pres hi
  · exact peer_keep hc (leave_hr hi).1 (fun κ k z => ⟨xE κ i, xF κ i k (by omega), xI κ i k, xL κ i k⟩) (fun f c z => s f i c (by omega))
  · obtain ⟨h0, es, l1, l2⟩ := hl i (leave_hr hi).1
    have er : sR (sU S 2 j 0 0) = sR S := s _ _ _ (by decide)
    have et : tri (sU S 2 j 0 0) i = tri S i := by unfold tri sHeld sHad sWr; rw [s 4 i 0 (by decide), s 9 i 0 (by decide), s 10 i 0 (by decide)]
    refine ⟨h0, es, ⟨(xI 1 i 0).trans l1.1, (xI 1 i 2).trans l1.2.1, fun c q hq => (xI 22 i c).trans (l1.2.2 c q hq)⟩, ?_⟩
    unfold LogV
    rw [er, et]; exact l2
  · have en : sN (sU S 2 j 0 0) = sN S := s _ _ _ (by decide)
    rw [en] at hi
    exact (xE κ i).trans (hf κ hκ i hi)
theorem RepM_leave {S : SS} {M M1 : Mem} {j : Nat} (h : RepM S M) (e : M1 = wI M 34 0 j 0) : RepM (sU S 2 j 0 0) M1 := by
  have x : ∀ κ a k, κ ≠ 34 → mI M1 κ a k = mI M κ a k := fun κ a k z => by rw [e, mI_wI, if_neg (by omega)]
  have s : ∀ f a c, f ≠ 2 → sU S 2 j 0 0 f a c = S f a c := fun f a c z => sU_f z
  refine ⟨⟨fun κ hκ => by rw [e]; exact h.1.1 κ hκ, fun k hk => by rw [e]; exact h.1.2 k hk⟩, ?_, ?_, fun p hp' => ?_, fun i hi => ⟨?_, ?_, ?_, ?_, ?_, ?_⟩, fun i p hi hp2 => ⟨?_, ?_⟩, fun i b hi hb => ?_, fun i o hi ho => ⟨?_, ?_, ?_⟩⟩
  · rw [x _ _ _ (by decide), sR, s _ _ _ (by decide)]; exact h.r
  · rw [x _ _ _ (by decide), sN, s _ _ _ (by decide)]; exact h.n
  · rw [x _ _ _ (by decide), sPr, s _ _ _ (by decide)]; exact h.pr hp'
  · rw [e, mI_wI]
    by_cases z : i = j
    · subst z; rw [if_pos ⟨rfl, rfl, rfl⟩, sU_at]; rfl
    · rw [if_neg (by omega), sU_i z]; exact h.he hi
  · rw [x _ _ _ (by decide), sHeld, s _ _ _ (by decide)]; exact h.held hi
  · rw [x _ _ _ (by decide), sCar, s _ _ _ (by decide)]; exact h.car hi
  · rw [x _ _ _ (by decide), sSeq, s _ _ _ (by decide)]; exact h.seq hi
  · rw [x _ _ _ (by decide), sSp, s _ _ _ (by decide)]; exact h.sp hi
  · rw [x _ _ _ (by decide), sDb, s _ _ _ (by decide)]; exact h.db hi
  · rw [x _ _ _ (by decide), sHad, s _ _ _ (by decide)]; exact h.had hi hp2
  · rw [x _ _ _ (by decide), sWr, s _ _ _ (by decide)]; exact h.wr hi hp2
  · rw [x _ _ _ (by decide), sFr, s _ _ _ (by decide)]; exact h.fr hi hb
  · rw [x _ _ _ (by decide), sGot, s _ _ _ (by decide)]; exact h.got hi ho
  · rw [x _ _ _ (by decide), sSt, s _ _ _ (by decide)]; exact h.st hi ho
  · rw [x _ _ _ (by decide), sBan, s _ _ _ (by decide)]; exact h.ban hi ho
theorem pL_leave {S : SS} {M : Mem} {Q : Int32 → Mem → Prop} {a : Int32} (hb : Both S M) (h1 : ∀ j, j < 6 → a = nI j → hr S j = true → ∀ M1, Half (sU S 2 j 0 0) S M1 → mL M1 60 0 0 = (nI (pcT (sHeld S j) 12)).toInt64 → Q 0 M1) (h0 : ¬ HereX S a → Q 1 M) : w_L_leave M a Q := by
  have h := hb.2.1.1
  have ok := hb.1.1
  refine ⟨h.e 4, h.e 4, p_known h (fun z => ⟨rfl, h0 z⟩) (fun j hj hx hh => ⟨h.e 4, h.f 0, h.pe hh 2, h.e 10, ?_⟩)⟩
  rw [h.num hh, cl j (by omega)]
  refine ⟨pk_in j 6 hj, fun M1 e => ?_⟩
  have hf : Half (sU S 2 j 0 0) S M1 := ⟨Good_leave hb.1, hb.1, CB_leave hb.2.1 e, by
    refine ⟨⟨fun κ hκ => by rw [e]; exact hb.2.2.1.1 κ hκ, fun k hk => by rw [e, mF_wF, if_neg (by omega)]; exact hb.2.2.1.2 k hk⟩, ?_⟩
    subst e
    exact hb.2.2.2⟩
  refine ⟨by rw [e, mF_wF, if_neg (by omega)]; exact h.pf hh 1, by rw [e]; exact h.pe hh 3, p_bitCount (sHeld S j) (by rw [e, mI_wF]; exact h.held hh) (ok.held j) ?_⟩
  exact p_put2 hf (fun M2 _ h3 v3 => h1 j hj hx hh M2 h3 v3)
theorem pM_leave {S : SS} {M : Mem} {Q : Int32 → Mem → Prop} {a : Int32} (hr' : RepM S M) (ok : OKS S)
    (h1 : ∀ j, j < 6 → a = nI j → hr S j = true → Half (sU S 2 j 0 0) S M ∧ ∀ M1, Both (sU S 2 j 0 0) M1 → mI M1 5 0 0 = nI 0 → mL M1 60 0 0 = mL M 60 0 0 → Q (nI (pcT (sHeld S j) 12)) M1)
    (h0 : ¬ HereX S a → ∀ M1, M1 = wI M 5 0 0 1 → mI M1 5 0 0 = nI 1 → Q 0 M1) : w_X5_leave M a Q := by
  have h := hr'
  refine ⟨h.e 5, p_isPeerM h ok (fun z => t0 ⟨h.e 5, p_fits 1 rfl (by omega) h (fun M1 e r1 g1 v1 => t0 (h0 z M1 e v1))⟩) (fun j hj hx hh => t1 ⟨h.e 5, p_fits 0 rfl (by omega) h (fun M1 e r1 g1 v1 => t1 ?_)⟩)⟩
  obtain ⟨hf, hq⟩ := h1 j hj hx hh
  subst hx
  rw [cl j (by omega)]
  refine ⟨r1.e 5, r1.f 4, r1.e 34, pk_in j 6 hj, fun M2 e2 => ?_⟩
  have r2 : RepM (sU S 2 j 0 0) M2 := RepM_leave r1 e2
  have g2 : Ag (fun κ a _ => κ = 34 ∧ a = 0) M1 M2 := Ag.rf.wI e2 ⟨rfl, rfl⟩
  refine ⟨r2.f 5, r2.e 35, pk_in j 6 hj, p_countM (sHeld S j) (by rw [g2.i (by omega)]; exact r1.held hj) (lt12 (ok.held j)) ?_⟩
  refine hq M2 ⟨hf.1, (hf.w5 e).2.2.1.far g2 (fun κ a k z => by unfold PF; omega), r2⟩ ?_ ?_
  · rw [g2.i (by omega)]; exact v1
  · rw [g2.l (by omega), e]; rfl
