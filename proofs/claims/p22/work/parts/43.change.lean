/-! what changes something -/
/-- wishes and rules change, all else stays -/
theorem Good_set {S S1 : SS} (h : Good S) (e : ∀ f a c, f ≠ 3 ∧ f ≠ 5 ∧ f ≠ 6 ∧ f ≠ 7 → S1 f a c = S f a c) (b3 : ∀ p, sPr S1 p ≤ 3) (b5 : ∀ i, sCar S1 i ≤ 1) (b6 : ∀ i, sSeq S1 i ≤ 1) (b7 : ∀ i, sSp S1 i < 2 ^ 12) (z : ∀ f i c, f = 5 ∨ f = 6 ∨ f = 7 → sN S ≤ i → S1 f i c = 0) : Good S1 := by
  obtain ⟨⟨h1, h2, h3, h4, h5, h6, h7, h8, h9, h10, h11, h12, h13, h14, h15⟩, hst, hB, hB1, hS, hN, hz⟩ := h
  have en : sN S1 = sN S := e _ _ _ (by decide)
  have er : sR S1 = sR S := e _ _ _ (by decide)
  have eh : ∀ a, hr S1 a = hr S a := fun a => by unfold hr; rw [e 2 a 0 (by decide)]
  refine ⟨⟨by rw [en]; exact h1, by rw [er]; exact h2, fun i => by rw [e 2 i 0 (by decide)]; exact h3 i, fun i hi => by rw [eh] at hi; rw [en]; exact h4 i hi, b3, fun i => by rw [sHeld, e 4 i 0 (by decide)]; exact h6 i, b5, b6, b7, fun i => by rw [sHad, e 9 i 0 (by decide)]; exact h10 i, fun i => by rw [sWr, e 10 i 0 (by decide)]; exact h11 i, fun i => by rw [sBan, e 14 i 0 (by decide)]; exact h12 i, fun i b => by rw [sFr, e 11 i b (by decide)]; exact h13 i b, fun i o => by rw [sGot, e 12 i o (by decide)]; exact h14 i o, fun i o => by rw [sSt, e 13 i o (by decide)]; exact h15 i o⟩, fun a o => ?_, fun a o ha ho h3 => ?_, fun a o ha ho hb => ?_, fun a ha => ?_, fun i p hp => ?_, fun f i c hf hi => ?_⟩
  · have e1 : sSt S1 a o = sSt S a o := e _ _ _ (by decide)
    rw [e1, er]; exact hst a o
  · have e1 : sSt S1 a o = sSt S a o := e _ _ _ (by decide)
    have e2 : sBan S1 a = sBan S a := e _ _ _ (by decide)
    rw [e1] at h3; rw [e2]; exact hB a o ha ho h3
  · have e1 : sSt S1 a o = sSt S a o := e _ _ _ (by decide)
    have e2 : sBan S1 a = sBan S a := e _ _ _ (by decide)
    rw [e2] at hb; rw [e1]; exact hB1 a o ha ho hb
  · have e1 : sSt S1 a a = sSt S a a := e _ _ _ (by decide)
    have e2 : sHad S1 a = sHad S a := e _ _ _ (by decide)
    rw [e1, e2]
    refine ⟨(hS a ha).1, fun b hb => ?_⟩
    have e3 : sFr S1 a b = sFr S a b := e _ _ _ (by decide)
    rw [e3]; exact (hS a ha).2 b hb
  · have e2 : sHad S1 i = sHad S i := e _ _ _ (by decide)
    rw [e2]; exact hN i p hp
  · rw [en] at hi
    by_cases y : f = 5 ∨ f = 6 ∨ f = 7
    · exact z f i c y hi
    · rw [e f i c (by omega)]; exact hz f i c hf hi
theorem setP_good {S : SS} (h : Good S) {p v : Nat} (hv : v ≤ 3) : Good (sU S 3 p 0 v) := by
  refine Good_set h (fun f a c z => sU_f z.1) (fun q => ?_) (fun i => ?_) (fun i => ?_) (fun i => ?_) (fun f i c z hi => ?_)
  · unfold sPr
    by_cases e : q = p
    · subst e; rw [sU_at]; exact hv
    · rw [sU_i e]; exact h.1.pr q
  · unfold sCar; rw [sU_f (by decide)]; exact h.1.car i
  · unfold sSeq; rw [sU_f (by decide)]; exact h.1.seq i
  · unfold sSp; rw [sU_f (by decide)]; exact h.1.sp i
  · rw [sU_f (by omega)]; exact h.z f i c (by omega) hi
/-- a field of one -/
theorem setF_good {S : SS} (h : Good S) {f i v : Nat} (hf : (f = 5 ∧ v ≤ 1) ∨ (f = 6 ∧ v ≤ 1) ∨ (f = 7 ∧ v < 2 ^ 12)) (hi : i < sN S) : Good (sU S f i 0 v) := by
  have at0 : ∀ q, sU S f i 0 v f q 0 = if q = i then v else S f q 0 := fun q => by
    by_cases e : q = i
    · subst e; rw [sU_at, if_pos rfl]
    · rw [sU_i e, if_neg e]
  refine Good_set h (fun g a c z => sU_f (by omega)) (fun q => ?_) (fun q => ?_) (fun q => ?_) (fun q => ?_) (fun g q c z hq => ?_)
  · unfold sPr; rw [sU_f (by omega)]; exact h.1.pr q
  · unfold sCar
    by_cases e : f = 5
    · subst e; rw [at0]; split
      · omega
      · exact h.1.car q
    · rw [sU_f (by omega)]; exact h.1.car q
  · unfold sSeq
    by_cases e : f = 6
    · subst e; rw [at0]; split
      · omega
      · exact h.1.seq q
    · rw [sU_f (by omega)]; exact h.1.seq q
  · unfold sSp
    by_cases e : f = 7
    · subst e; rw [at0]; split
      · omega
      · exact h.1.sp q
    · rw [sU_f (by omega)]; exact h.1.sp q
  · rw [sU_i (by omega)]; exact h.z g q c (by omega) hq
theorem lt1_neg {x : Int32} (h : ¬ x < 1) : ¬ x < 0 := fun z => h (Int32.lt_trans z (by decide))
/-- the rounds that a call of run may ask for -/
theorem run_no {x : Int32} (h : x < 1 ∨ ¬ x ≤ 20) : ∀ n, 1 ≤ n → n ≤ 20 → x ≠ nI n := fun n h1 h2 e => by
  subst e
  rcases h with h | h
  · exact absurd ((nI_ltI (a := n) (b := 1) (by omega) (by omega)).mp h) (by omega)
  · exact h (nI_le (a := n) (b := 20) h2 (by omega))
theorem run_yes {x : Int32} (h : ¬ x < 1) (h2 : x ≤ 20) : ∃ n, 1 ≤ n ∧ n ≤ 20 ∧ x = nI n := by
  obtain ⟨n, hn, e⟩ := nI_of2 (n := 20) (M := 20) (by decide) (lt1_neg h) h2
  refine ⟨n, ?_, hn, e⟩
  rcases Nat.lt_or_ge n 1 with z | z
  · subst e
    exact absurd ((nI_ltI (a := n) (b := 1) (by omega) (by omega)).mpr z) h
  · exact z
def bc1 (a : Int32) : Int32 := a - (((a.toUInt32 >>> ((1 : Int32).toUInt32 &&& Int32.toUInt32 31)).toInt32) &&& 1431655765)
def bc2 (v : Int32) : Int32 := (v &&& 858993459) + (((v.toUInt32 >>> ((2 : Int32).toUInt32 &&& Int32.toUInt32 31)).toInt32) &&& 858993459)
def bc3 (v : Int32) : Int32 := (v + ((v.toUInt32 >>> ((4 : Int32).toUInt32 &&& Int32.toUInt32 31)).toInt32)) &&& 252645135
def bc4 (v : Int32) : Int32 := v + ((v.toUInt32 >>> ((8 : Int32).toUInt32 &&& Int32.toUInt32 31)).toInt32)
def bc5 (v : Int32) : Int32 := v + ((v.toUInt32 >>> ((16 : Int32).toUInt32 &&& Int32.toUInt32 31)).toInt32)
def bcF (a : Int32) : Int32 := bc5 (bc4 (bc3 (bc2 (bc1 a)))) &&& 63
theorem bc_all : ∀ a, a < 64 → ∀ b, b < 64 → bcF (nI (64 * a + b)) = nI (pcT (64 * a + b) 12) := by decide +kernel
theorem bc_n {x : Nat} (h : x < 2 ^ 12) : bcF (nI x) = nI (pcT x 12) := by
  have e : 64 * (x / 64) + x % 64 = x := Nat.div_add_mod x 64
  have r := bc_all (x / 64) (by omega) (x % 64) (by omega)
  rw [e] at r; exact r
theorem p_bitCount {M : Mem} {Q : Int32 → Mem → Prop} {y : Int32} (x : Nat) (hy : y = nI x) (hx : x < 2 ^ 12) (hQ : Q (nI (pcT x 12)) M) : w_J6_bitCount_0f7a4 M y Q := by
  subst hy
  intro v1 h1 v2 h2 v3 h3 v4 h4 v5 h5
  have e : v5 &&& 63 = nI (pcT x 12) := by
    rw [← bc_n hx]
    unfold bcF
    rw [show v5 = bc5 v4 from h5, show v4 = bc4 v3 from h4, show v3 = bc3 v2 from h3, show v2 = bc2 v1 from h2, show v1 = bc1 (nI x) from h1]
  rw [e]; exact hQ
theorem mE_wF (M : Mem) (κ i k a b : Nat) (v : Bool) : mE (wF M κ i k v) a b = mE M a b := rfl
theorem mI_wF (M : Mem) (κ i k a b c : Nat) (v : Bool) : mI (wF M κ i k v) a b c = mI M a b c := rfl
theorem mL_wF (M : Mem) (κ i k a b c : Nat) (v : Bool) : mL (wF M κ i k v) a b c = mL M a b c := rfl
/-- a peer stays as it was -/
theorem peer_keep {S S1 : SS} {M M1 : Mem} {i : Nat} (h : RepC S M) (hi : hr S i = true) (hm : ∀ κ k, κ ≤ 3 ∨ (20 ≤ κ ∧ κ ≤ 26) → mE M1 κ i = mE M κ i ∧ mF M1 κ i k = mF M κ i k ∧ mI M1 κ i k = mI M κ i k ∧ mL M1 κ i k = mL M κ i k) (hS : ∀ f c, 4 ≤ f → S1 f i c = S f i c) : PeerOK M1 i ∧ PeerV S1 M1 i := by
  have c1 : ∀ o, cf S1 i o = cf S i o := fun o => by
    unfold cf; congr 1; funext b
    rw [sHad, sFr, hS 9 0 (by omega), hS 11 b (by omega)]
  refine ⟨⟨fun κ hκ => ?_, fun k hk => ?_, ?_, ?_, ?_⟩, ?_, ?_, ?_, ?_, ?_, ?_, ?_, ?_, ?_, fun o ho => ?_, fun o ho => ?_, fun o ho => ?_⟩
  · have z : κ ≤ 3 ∨ (20 ≤ κ ∧ κ ≤ 26) := by
      simp only [List.mem_cons, List.not_mem_nil, or_false] at hκ
      omega
    rw [(hm κ 0 z).1]; exact h.pe hi κ hκ
  · rw [(hm 2 k (by omega)).2.1]; exact h.pf hi k hk
  · rw [(hm 0 0 (by omega)).2.1]; exact (h.2.2 i hi).1.2.2.1
  · rw [(hm 0 1 (by omega)).2.1]; exact (h.2.2 i hi).1.2.2.2.1
  · rw [(hm 1 1 (by omega)).2.1]; exact (h.2.2 i hi).1.2.2.2.2
  · rw [(hm 2 0 (by omega)).2.2.1]; exact h.num hi
  · rw [(hm 2 4 (by omega)).2.2.1, sSp, hS 7 0 (by omega)]; exact h.sp hi
  · rw [(hm 2 5 (by omega)).2.2.1, sSeq, hS 6 0 (by omega)]; exact h.seq hi
  · rw [(hm 2 6 (by omega)).2.2.1, sCar, hS 5 0 (by omega)]; exact h.car hi
  · rw [(hm 2 10 (by omega)).2.2.1, sBan, hS 14 0 (by omega)]; exact h.ban hi
  · rw [(hm 2 11 (by omega)).2.2.1, sDb, hS 8 0 (by omega)]; exact h.db hi
  · rw [(hm 3 0 (by omega)).2.2.1, sHeld, hS 4 0 (by omega)]; exact h.held hi
  · rw [(hm 3 1 (by omega)).2.2.2, sHad, hS 9 0 (by omega)]; exact h.had hi
  · rw [(hm 3 2 (by omega)).2.2.2, sWr, hS 10 0 (by omega)]; exact h.wr hi
  · rw [(hm 24 o (by omega)).2.2.1, sGot, hS 12 o (by omega)]; exact h.got hi ho
  · rw [(hm 25 o (by omega)).2.2.1, sSt, hS 13 o (by omega)]; exact h.st hi ho
  · rw [(hm 23 o (by omega)).2.2.2, c1]; exact h.cf hi ho
theorem leave_hr {S : SS} {j i : Nat} (h : hr (sU S 2 j 0 0) i = true) : hr S i = true ∧ i ≠ j := by
  by_cases e : i = j
  · subst e; unfold hr at h; rw [sU_at] at h; cases h
  · unfold hr at h ⊢; rw [sU_i e] at h; exact ⟨h, e⟩
theorem leave_hr1 {S : SS} {j i : Nat} : hr (sU S 2 j 0 0) i = if i = j then false else hr S i := by
  by_cases e : i = j
  · subst e; unfold hr; rw [sU_at, if_pos rfl]; rfl
  · unfold hr; rw [sU_i e, if_neg e]
theorem Good_leave {S : SS} {j : Nat} (h : Good S) : Good (sU S 2 j 0 0) := by
  obtain ⟨⟨h1, h2, h3, h4, h5, h6, h7, h8, h9, h10, h11, h12, h13, h14, h15⟩, hst, hB, hB1, hS, hN, hz⟩ := h
  have e : ∀ f a c, f ≠ 2 → sU S 2 j 0 0 f a c = S f a c := fun f a c z => sU_f z
  have en : sN (sU S 2 j 0 0) = sN S := e _ _ _ (by decide)
  have er : sR (sU S 2 j 0 0) = sR S := e _ _ _ (by decide)
  refine ⟨⟨by rw [en]; exact h1, by rw [er]; exact h2, fun i => ?_, fun i hi => by rw [en]; exact h4 i (leave_hr hi).1, fun p => by rw [sPr, e _ _ _ (by decide)]; exact h5 p, fun i => by rw [sHeld, e 4 i 0 (by decide)]; exact h6 i, fun i => by rw [sCar, e _ _ _ (by decide)]; exact h7 i, fun i => by rw [sSeq, e _ _ _ (by decide)]; exact h8 i, fun i => by rw [sSp, e _ _ _ (by decide)]; exact h9 i, fun i => by rw [sHad, e 9 i 0 (by decide)]; exact h10 i, fun i => by rw [sWr, e 10 i 0 (by decide)]; exact h11 i, fun i => by rw [sBan, e 14 i 0 (by decide)]; exact h12 i, fun i b => by rw [sFr, e 11 i b (by decide)]; exact h13 i b, fun i o => by rw [sGot, e 12 i o (by decide)]; exact h14 i o, fun i o => by rw [sSt, e 13 i o (by decide)]; exact h15 i o⟩, fun a o => ?_, fun a o ha ho h3 => ?_, fun a o ha ho hb => ?_, fun a ha => ?_, fun i p hp => ?_, fun f i c hf hi => ?_⟩
  · by_cases z : i = j
    · subst z; rw [sU_at]; omega
    · rw [sU_i z]; exact h3 i
  · have e1 : sSt (sU S 2 j 0 0) a o = sSt S a o := e _ _ _ (by decide)
    rw [e1, er]; exact hst a o
  · have e1 : sSt (sU S 2 j 0 0) a o = sSt S a o := e _ _ _ (by decide)
    have e2 : sBan (sU S 2 j 0 0) a = sBan S a := e _ _ _ (by decide)
    rw [e1] at h3; rw [e2]; exact hB a o ha ho h3
  · have e1 : sSt (sU S 2 j 0 0) a o = sSt S a o := e _ _ _ (by decide)
    have e2 : sBan (sU S 2 j 0 0) a = sBan S a := e _ _ _ (by decide)
    rw [e2] at hb; rw [e1]; exact hB1 a o ha ho hb
  · have e1 : sSt (sU S 2 j 0 0) a a = sSt S a a := e _ _ _ (by decide)
    have e2 : sHad (sU S 2 j 0 0) a = sHad S a := e _ _ _ (by decide)
    rw [e1, e2]
    refine ⟨(hS a ha).1, fun b hb => ?_⟩
    have e3 : sFr (sU S 2 j 0 0) a b = sFr S a b := e _ _ _ (by decide)
    rw [e3]; exact (hS a ha).2 b hb
  · have e2 : sHad (sU S 2 j 0 0) i = sHad S i := e _ _ _ (by decide)
    rw [e2]; exact hN i p hp
  · rw [en] at hi
    rw [e f i c (by omega)]; exact hz f i c hf hi
theorem CB_leave {S : SS} {M M1 : Mem} {j : Nat} (h : CB S M) (e : M1 = wF M 10 0 j false) : CB (sU S 2 j 0 0) M1 := by
  have s : ∀ f a c, f ≠ 2 → sU S 2 j 0 0 f a c = S f a c := fun f a c z => sU_f z
  have xE : ∀ κ a, mE M1 κ a = mE M κ a := fun κ a => by rw [e, mE_wF]
  have xF : ∀ κ a k, κ ≠ 10 → mF M1 κ a k = mF M κ a k := fun κ a k z => by rw [e, mF_wF, if_neg (by omega)]
  have xI : ∀ κ a k, mI M1 κ a k = mI M κ a k := fun κ a k => by rw [e, mI_wF]
  have xL : ∀ κ a k, mL M1 κ a k = mL M κ a k := fun κ a k => by rw [e, mL_wF]
  obtain ⟨hc, hl, h6, hf⟩ := h
  refine ⟨⟨⟨fun κ hκ => (xE κ 0).trans (hc.1.1 κ hκ), fun k hk => (xF 4 0 k (by decide)).trans (hc.1.2 k hk)⟩, ⟨?_, ?_, fun p hp => ?_, fun i hi => ?_⟩, fun i hi => ?_⟩, fun i hi => ?_, ⟨fun a => (xE a 6).trans (h6.1 a), fun k => (xF 3 6 k (by decide)).trans (h6.2 k)⟩, fun κ hκ i hi => ?_⟩
  · rw [xI, sN, s _ _ _ (by decide)]; exact hc.n
  · rw [xI, sR, s _ _ _ (by decide)]; exact hc.r
  · rw [xI, sPr, s _ _ _ (by decide)]; exact hc.pr hp
  · rw [e, mF_wF, leave_hr1]
    by_cases z : i = j
    · rw [if_pos ⟨rfl, rfl, z⟩, if_pos z]
    · rw [if_neg (by omega), if_neg z]; exact hc.pres hi
  · exact peer_keep hc (leave_hr hi).1 (fun κ k z => ⟨xE κ i, xF κ i k (by omega), xI κ i k, xL κ i k⟩) (fun f c z => s f i c (by omega))
  · obtain ⟨h0, es, l1, l2⟩ := hl i (leave_hr hi).1
    have er : sR (sU S 2 j 0 0) = sR S := s _ _ _ (by decide)
    have et : tri (sU S 2 j 0 0) i = tri S i := by unfold tri sHeld sHad sWr; rw [s 4 i 0 (by decide), s 9 i 0 (by decide), s 10 i 0 (by decide)]
    refine ⟨h0, es, ⟨(xI 1 i 0).trans l1.1, (xI 1 i 2).trans l1.2.1, fun c q hq => (xI 22 i c).trans (l1.2.2 c q hq)⟩, ?_⟩
    unfold LogV
    rw [er, et]; exact l2
  · have en : sN (sU S 2 j 0 0) = sN S := s _ _ _ (by decide)
    rw [en] at hi
    exact (xE κ i).trans (hf κ hκ i hi)
