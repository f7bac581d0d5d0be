theorem Half.w5 {S1 S : SS} {M M1 : Mem} {v : Int32} (h : Half S1 S M) (e : M1 = wI M 5 0 0 v) : Half S1 S M1 :=
  ⟨h.1, h.2.1, h.2.2.1.far (ag5 e) (fun κ a k z => by unfold PF; omega), h.2.2.2.ag (ag5 e) (fun κ a k z => by unfold TrM; omega)⟩
theorem Half.same {S : SS} {M : Mem} (h : Both S M) : Half S S M := ⟨h.1, h.1, h.2.1, h.2.2⟩
/-- the reference follows -/
theorem pM_setPriority {S : SS} {M : Mem} {Q : Int32 → Mem → Prop} {a b : Int32} (hr' : RepM S M)
    (h1 : ∀ p v, p < 12 → v ≤ 3 → a = nI p → b = nI v → Half (sU S 3 p 0 v) S M → ∀ M1, Both (sU S 3 p 0 v) M1 → mI M1 5 0 0 = nI 0 → mL M1 60 0 0 = mL M 60 0 0 → Q (nI (sPr S p)) M1)
    (hh : ∀ p v, p < 12 → v ≤ 3 → a = nI p → b = nI v → Half (sU S 3 p 0 v) S M)
    (h0 : (∀ p, p < 12 → a ≠ nI p) → ∀ M1, M1 = wI M 5 0 0 1 → mI M1 5 0 0 = nI 1 → Q 0 M1) (h2 : ∀ p, p < 12 → a = nI p → (∀ v, v ≤ 3 → b ≠ nI v) → ∀ M1, M1 = wI M 5 0 0 2 → mI M1 5 0 0 = nI 2 → Q 0 M1) : w_X5_setPriority M a b Q := by
  have h := hr'
  refine p_isPiece (fun z => t0 ⟨h.e 5, p_fits 1 rfl (by omega) h (fun M1 e r1 g1 v1 => t0 (h0 z M1 e v1))⟩) (fun p hp hx => t1 ?_)
  have no : (∀ v, v ≤ 3 → b ≠ nI v) → b_X5_setPriority_21 Q M a b := fun z => ⟨h.e 5, p_fits 2 rfl (by omega) h (fun M1 e r1 g1 v1 => t0 (h2 p hp hx z M1 e v1))⟩
  refine ⟨fun hneg => no (fun v hv e => by subst e; exact nI_pos (n := v) (by omega) hneg), fun hpos => ⟨fun hle => ?_, fun hgt => no (fun v hv e => by subst e; exact hgt (nI_le (a := v) (b := 3) hv (by omega)))⟩⟩
  obtain ⟨v, hv, hy⟩ := nI_of2 (n := 3) (M := 3) (by decide) hpos hle
  have hf := hh p v hp hv hx hy
  subst hx hy
  refine ⟨h.e 5, p_fits 0 rfl (by omega) h (fun M1 e r1 g1 v1 => t1 ?_)⟩
  rw [cl p (by omega), r1.pr hp]
  refine ⟨r1.e 5, r1.f 2, r1.e 32, pk_in p 12 hp, fun w hw => ⟨pk_in p 12 hp, fun M2 e2 => ?_⟩⟩
  subst hw
  have g2 : Ag (fun κ a _ => a = 0 ∧ (κ = 32 ∨ κ = 36 ∨ κ = 37 ∨ κ = 38)) M1 M2 := Ag.rf.wI e2 ⟨rfl, Or.inl rfl⟩
  have hf1 := hf.w5 e
  refine h1 p v hp hv rfl rfl hf M2 ⟨hf.1, hf1.2.2.1.far g2 (fun κ a k z => by unfold PF; omega), RepM_set r1 g2 (fun f a c z => sU_f z.1) (fun q hq => ?_) (fun i hi => ⟨?_, ?_, ?_⟩)⟩ ?_ ?_
  · rw [e2, mI_wI]
    unfold sPr
    by_cases z : q = p
    · subst z; rw [if_pos ⟨rfl, rfl, rfl⟩, sU_at]
    · rw [if_neg (by omega), sU_i z]; exact r1.pr hq
  · rw [e2, mI_wI, if_neg (by omega), sCar, sU_f (by decide)]; exact r1.car hi
  · rw [e2, mI_wI, if_neg (by omega), sSeq, sU_f (by decide)]; exact r1.seq hi
  · rw [e2, mI_wI, if_neg (by omega), sSp, sU_f (by decide)]; exact r1.sp hi
  · rw [e2, mI_wI, if_neg (by omega)]; exact v1
  · rw [e2, e]; rfl
/-- a field of one -/
theorem setF_good {S : SS} (h : Good S) {f i v : Nat} (hf : (f = 5 ∧ v ≤ 1) ∨ (f = 6 ∧ v ≤ 1) ∨ (f = 7 ∧ v < 2 ^ 12)) (hi : i < sN S) : Good (sU S f i 0 v) := by
  have at0 : ∀ q, sU S f i 0 v f q 0 = if q = i then v else S f q 0 := fun q => by
    by_cases e : q = i
    · subst e; rw [sU_at, if_pos rfl]
    · rw [sU_i e, if_neg e]
  refine Good_set h (fun g a c z => sU_f (by omega)) (fun q => ?_) (fun q => ?_) (fun q => ?_) (fun q => ?_) (fun g q c z hq => ?_)
  · unfold sPr; rw [sU_f (by omega)]; exact h.1.pr q
  · unfold sCar
    by_cases e : f = 5
    · subst e; rw [at0]; split
      · omega
      · exact h.1.car q
    · rw [sU_f (by omega)]; exact h.1.car q
  · unfold sSeq
    by_cases e : f = 6
    · subst e; rw [at0]; split
      · omega
      · exact h.1.seq q
    · rw [sU_f (by omega)]; exact h.1.seq q
  · unfold sSp
    by_cases e : f = 7
    · subst e; rw [at0]; split
      · omega
      · exact h.1.sp q
    · rw [sU_f (by omega)]; exact h.1.sp q
  · rw [sU_i (by omega)]; exact h.2.2.2.2 g q c (by omega) hq
/-- a field of one, the class's memory: place 6 careful, 5 in sequence, 4 spoilt -/
theorem RepC_setF {S : SS} {M M1 : Mem} {f i v k : Nat} (h : RepC S M) (hf : (f = 5 ∧ k = 6) ∨ (f = 6 ∧ k = 5) ∨ (f = 7 ∧ k = 4)) (e : M1 = wI M 2 i k (nI v)) : RepC (sU S f i 0 v) M1 := by
  have g : Ag (fun κ a k2 => κ = 2 ∧ a = i ∧ k2 = k) M M1 := Ag.rf.wI e ⟨rfl, rfl, rfl⟩
  refine RepC_upd (i := i) h g (fun κ a k2 z => Or.inr (by omega)) (fun f2 a c z => ?_) (fun hi => ?_)
  · rcases z with z | z
    · exact sU_f (by omega)
    · exact sU_i z
  · have hi : hr S i = true := by
      have : hr (sU S f i 0 v) i = hr S i := by unfold hr; rw [sU_f (by omega)]
      first | exact hi | (rw [this] at hi; exact hi)
    have cc : ∀ o, cf (sU S f i 0 v) i o = cf S i o := fun o => by
      unfold cf; congr 1; funext b
      rw [sHad, sFr, sU_f (by omega), sU_f (by omega)]
    refine ⟨?_, ?_, ?_, ?_, ?_, ?_, ?_, ?_, ?_, fun o ho => ?_, fun o ho => ?_, fun o ho => ?_⟩
    · rw [g.i (by omega)]; exact h.num hi
    · unfold sSp
      by_cases z : f = 7
      · obtain rfl : k = 4 := by omega
        subst z
        rw [e, mI_wI, if_pos ⟨rfl, rfl, rfl⟩, sU_at]
      · rw [sU_f (by omega), g.i (by omega)]; exact h.sp hi
    · unfold sSeq
      by_cases z : f = 6
      · obtain rfl : k = 5 := by omega
        subst z
        rw [e, mI_wI, if_pos ⟨rfl, rfl, rfl⟩, sU_at]
      · rw [sU_f (by omega), g.i (by omega)]; exact h.seq hi
    · unfold sCar
      by_cases z : f = 5
      · obtain rfl : k = 6 := by omega
        subst z
        rw [e, mI_wI, if_pos ⟨rfl, rfl, rfl⟩, sU_at]
      · rw [sU_f (by omega), g.i (by omega)]; exact h.car hi
    · rw [g.i (by omega), sBan, sU_f (by omega)]; exact h.ban hi
    · rw [g.i (by omega), sDb, sU_f (by omega)]; exact h.db hi
    · rw [g.i (by omega), sHeld, sU_f (by omega)]; exact h.held hi
    · rw [g.l (by omega), sHad, sU_f (by omega)]; exact h.had hi
    · rw [g.l (by omega), sWr, sU_f (by omega)]; exact h.wr hi
    · rw [g.i (by omega), sGot, sU_f (by omega)]; exact h.got hi ho
    · rw [g.i (by omega), sSt, sU_f (by omega)]; exact h.st hi ho
    · rw [g.l (by omega), cc]; exact h.cf hi ho
theorem half_setF {S : SS} {M M1 : Mem} {f i v k : Nat} (hb : Both S M) (hf : (f = 5 ∧ k = 6 ∧ v ≤ 1) ∨ (f = 6 ∧ k = 5 ∧ v ≤ 1) ∨ (f = 7 ∧ k = 4 ∧ v < 2 ^ 12)) (hi : i < sN S) (e : M1 = wI M 2 i k (nI v)) : Half (sU S f i 0 v) S M1 := by
  have g : Ag (fun κ a k2 => κ = 2 ∧ a = i ∧ k2 = k) M M1 := Ag.rf.wI e ⟨rfl, rfl, rfl⟩
  exact ⟨setF_good hb.1 (by omega) hi, hb.1, CB_set hb.2.1 (fun f2 a c z => sU_f (by omega)) g (fun κ a k z => by omega) (RepC_setF hb.2.1.1 (by omega) e), hb.2.2.ag g (fun κ a k z => by unfold TrM; omega)⟩
theorem bothM_setF {S : SS} {M M1 : Mem} {f i v k : Nat} (hb : Half (sU S f i 0 v) S M) (hf : (f = 5 ∧ k = 36) ∨ (f = 6 ∧ k = 37) ∨ (f = 7 ∧ k = 38)) (hi : i < 6) (e : M1 = wI M k 0 i (nI v)) : Both (sU S f i 0 v) M1 := by
  have g : Ag (fun κ a _ => a = 0 ∧ (κ = 32 ∨ κ = 36 ∨ κ = 37 ∨ κ = 38)) M M1 := Ag.rf.wI e ⟨rfl, by omega⟩
  have h := hb.2.2.2
  refine ⟨hb.1, hb.2.2.1.far g (fun κ a k z => by unfold PF; omega), RepM_set h g (fun f2 a c z => sU_f (by omega)) (fun q hq => ?_) (fun j hj => ⟨?_, ?_, ?_⟩)⟩
  · rw [e, mI_wI, if_neg (by omega), sPr, sU_f (by omega)]; exact h.pr hq
  · rw [e, mI_wI]
    unfold sCar
    by_cases z : f = 5 ∧ j = i
    · obtain ⟨rfl, rfl⟩ := z
      rw [if_pos ⟨by omega, rfl, rfl⟩, sU_at]
    · rw [if_neg (by omega)]
      by_cases y : f = 5
      · rw [sU_i (by omega)]; exact h.car hj
      · rw [sU_f (by omega)]; exact h.car hj
  · rw [e, mI_wI]
    unfold sSeq
    by_cases z : f = 6 ∧ j = i
    · obtain ⟨rfl, rfl⟩ := z
      rw [if_pos ⟨by omega, rfl, rfl⟩, sU_at]
    · rw [if_neg (by omega)]
      by_cases y : f = 6
      · rw [sU_i (by omega)]; exact h.seq hj
      · rw [sU_f (by omega)]; exact h.seq hj
  · rw [e, mI_wI]
    unfold sSp
    by_cases z : f = 7 ∧ j = i
    · obtain ⟨rfl, rfl⟩ := z
      rw [if_pos ⟨by omega, rfl, rfl⟩, sU_at]
    · rw [if_neg (by omega)]
      by_cases y : f = 7
      · rw [sU_i (by omega)]; exact h.sp hj
      · rw [sU_f (by omega)]; exact h.sp hj
