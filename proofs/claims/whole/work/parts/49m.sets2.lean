theorem RepM_set {S S1 : SS} {M M1 : Mem} (h : RepM S M) (g : Ag (fun κ a _ => a = 0 ∧ (κ = 32 ∨ κ = 36 ∨ κ = 37 ∨ κ = 38)) M M1) (e : ∀ f a c, f ≠ 3 ∧ f ≠ 5 ∧ f ≠ 6 ∧ f ≠ 7 → S1 f a c = S f a c)
    (v32 : ∀ p, p < 12 → mI M1 32 0 p = nI (sPr S1 p)) (v : ∀ i, i < 6 → mI M1 36 0 i = nI (sCar S1 i) ∧ mI M1 37 0 i = nI (sSeq S1 i) ∧ mI M1 38 0 i = nI (sSp S1 i)) : RepM S1 M1 := by
  refine ⟨⟨fun κ hκ => (g.1 κ 0).trans (h.1.1 κ hκ), fun k hk => (g.2.1 5 0 k).trans (h.1.2 k hk)⟩, ?_, ?_, v32, fun i hi => ⟨?_, ?_, (v i hi).1, (v i hi).2.1, (v i hi).2.2, ?_⟩, fun i p hi hp' => ⟨?_, ?_⟩, fun i b hi hb => ?_, fun i o hi ho => ⟨?_, ?_, ?_⟩⟩
  · rw [g.i (by omega), sR, e _ _ _ (by decide)]; exact h.r
  · rw [g.i (by omega), sN, e _ _ _ (by decide)]; exact h.n
  · rw [g.i (by omega), e _ _ _ (by decide)]; exact h.he hi
  · rw [g.i (by omega), sHeld, e _ _ _ (by decide)]; exact h.held hi
  · rw [g.i (by omega), sDb, e _ _ _ (by decide)]; exact h.db hi
  · rw [g.i (by omega), sHad, e _ _ _ (by decide)]; exact h.had hi hp'
  · rw [g.i (by omega), sWr, e _ _ _ (by decide)]; exact h.wr hi hp'
  · rw [g.i (by omega), sFr, e _ _ _ (by decide)]; exact h.fr hi hb
  · rw [g.i (by omega), sGot, e _ _ _ (by decide)]; exact h.got hi ho
  · rw [g.i (by omega), sSt, e _ _ _ (by decide)]; exact h.st hi ho
  · rw [g.i (by omega), sBan, e _ _ _ (by decide)]; exact h.ban hi ho
/-- between the class's answer and the reference's: the class is ahead -/
def Half (S1 S : SS) (M : Mem) : Prop := Good S1 ∧ Good S ∧ CB S1 M ∧ RepM S M
theorem Half.w60 {S1 S : SS} {M M1 : Mem} {v : Int64} (h : Half S1 S M) (e : M1 = wL M 60 0 0 v) : Half S1 S M1 :=
  ⟨h.1, h.2.1, h.2.2.1.far (ag60 e) (fun κ a k z => by unfold PF; omega), h.2.2.2.ag (ag60 e) (fun κ a k z => by unfold TrM; omega)⟩
theorem p_put2 {S1 S : SS} {M : Mem} {Q : Int32 → Mem → Prop} {r : Int32} (hb : Half S1 S M) (hQ : ∀ M1, M1 = wL M 60 0 0 r.toInt64 → Half S1 S M1 → mL M1 60 0 0 = r.toInt64 → Q 0 M1) : mE M 60 0 = true ∧ (vp_in 0 1 ∧ ∀ M_8 : Mem, M_8 = wL M 60 0 ((0 : Int32).toNatClampNeg) r.toInt64 → Q 0 M_8) :=
  ⟨hb.2.2.1.2.2.2.2, pk_in 0 1 (by omega), fun M1 h1 => hQ M1 h1 (hb.w60 h1) (by rw [h1, mL_wL]; exact if_pos ⟨rfl, rfl, rfl⟩)⟩
theorem setP_e {S : SS} {p v f a c : Nat} (z : f ≠ 3) : sU S 3 p 0 v f a c = S f a c := sU_f z
theorem setP_good {S : SS} (h : Good S) {p v : Nat} (hv : v ≤ 3) : Good (sU S 3 p 0 v) := by
  refine Good_set h (fun f a c z => sU_f z.1) (fun q => ?_) (fun i => ?_) (fun i => ?_) (fun i => ?_) (fun f i c z hi => ?_)
  · unfold sPr
    by_cases e : q = p
    · subst e; rw [sU_at]; exact hv
    · rw [sU_i e]; exact h.1.pr q
  · unfold sCar; rw [sU_f (by decide)]; exact h.1.car i
  · unfold sSeq; rw [sU_f (by decide)]; exact h.1.seq i
  · unfold sSp; rw [sU_f (by decide)]; exact h.1.sp i
  · rw [sU_f (by omega)]; exact h.2.2.2.2 f i c (by omega) hi
theorem pL_setPriority {S : SS} {M : Mem} {Q : Int32 → Mem → Prop} {a b : Int32} (hb : Both S M) (h1 : ∀ p v, p < 12 → v ≤ 3 → a = nI p → b = nI v → ∀ M1, Half (sU S 3 p 0 v) S M1 → mL M1 60 0 0 = (nI (sPr S p)).toInt64 → Q 0 M1) (h0 : (∀ p, p < 12 → a ≠ nI p) → Q 1 M) (h2 : ∀ p, p < 12 → a = nI p → (∀ v, v ≤ 3 → b ≠ nI v) → Q 2 M) : w_L_setPriority M a b Q := by
  have h := hb.2.1.1
  refine ⟨h.e 4, p_checkPiece (fun z => Or.inl ⟨rfl, h0 z⟩) (fun p hp hx => ?_)⟩
  unfold b_X4_setPriority_13
  refine ⟨fun hneg => Or.inr ⟨rfl, h2 p hp hx (fun v hv e => by subst e; exact nI_pos (n := v) (by omega) hneg)⟩, fun hpos => ⟨fun hle => ?_, fun hgt => Or.inr ⟨rfl, h2 p hp hx (fun v hv e => by subst e; exact hgt (nI_le (a := v) (b := 3) hv (by omega)))⟩⟩⟩
  obtain ⟨v, hv, hy⟩ := nI_of2 (n := 3) (M := 3) (by decide) hpos hle
  subst hx hy
  rw [cl p (by omega), h.pr hp]
  refine ⟨h.e 4, h.f 1, h.e 11, pk_in p 12 hp, fun w hw => ⟨pk_in p 12 hp, fun M1 e => ?_⟩⟩
  subst hw
  have g : Ag (fun κ a k => κ = 11 ∧ a = 0 ∧ k = p) M M1 := Ag.rf.wI e ⟨rfl, rfl, rfl⟩
  have hf : Half (sU S 3 p 0 v) S M1 := ⟨setP_good hb.1 hv, hb.1, CB_set hb.2.1 (fun f a c z => sU_f z.1) g (fun κ a k z => by omega) (RepC_pr h e), hb.2.2.ag g (fun κ a k z => by unfold TrM; omega)⟩
  exact p_put2 hf (fun M2 _ h3 v3 => h1 p v hp hv rfl rfl M2 h3 v3)
