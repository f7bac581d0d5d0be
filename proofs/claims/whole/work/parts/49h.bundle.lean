def PF (κ _a _k : Nat) : Prop := κ = 5 ∨ 30 ≤ κ
theorem RepC.far {S : SS} {P : Nat → Nat → Nat → Prop} {M M1 : Mem} (h : RepC S M) (g : Ag P M M1) (hp : ∀ κ i k, P κ i k → PF κ i k) : RepC S M1 := by
  have n : ∀ κ i k, ¬ PF κ i k → ¬ P κ i k := fun κ i k h1 h2 => h1 (hp κ i k h2)
  refine ⟨⟨fun κ hκ => (g.1 κ 0).trans (h.1.1 κ hκ), fun k hk => (g.2.1 4 0 k).trans (h.1.2 k hk)⟩, ⟨?_, ?_, fun p hp' => ?_, fun j hj => (g.2.1 10 0 j).trans (h.pres hj)⟩, fun i hi => ⟨⟨fun κ hκ => (g.1 κ i).trans (h.pe hi κ hκ), fun k hk => (g.2.1 2 i k).trans (h.pf hi k hk), (g.2.1 0 i 0).trans (h.2.2 i hi).1.2.2.1, (g.2.1 0 i 1).trans (h.2.2 i hi).1.2.2.2.1, (g.2.1 1 i 1).trans (h.2.2 i hi).1.2.2.2.2⟩, ?_⟩⟩
  · rw [g.i (n _ _ _ (by unfold PF; omega))]; exact h.n
  · rw [g.i (n _ _ _ (by unfold PF; omega))]; exact h.r
  · rw [g.i (n _ _ _ (by unfold PF; omega))]; exact h.pr hp'
  · refine ⟨?_, ?_, ?_, ?_, ?_, ?_, ?_, ?_, ?_, fun o ho => ?_, fun o ho => ?_, fun o ho => ?_⟩
    · rw [g.i (n _ _ _ (by unfold PF; omega))]; exact h.num hi
    · rw [g.i (n _ _ _ (by unfold PF; omega))]; exact h.sp hi
    · rw [g.i (n _ _ _ (by unfold PF; omega))]; exact h.seq hi
    · rw [g.i (n _ _ _ (by unfold PF; omega))]; exact h.car hi
    · rw [g.i (n _ _ _ (by unfold PF; omega))]; exact h.ban hi
    · rw [g.i (n _ _ _ (by unfold PF; omega))]; exact h.db hi
    · rw [g.i (n _ _ _ (by unfold PF; omega))]; exact h.held hi
    · rw [g.l (n _ _ _ (by unfold PF; omega))]; exact h.had hi
    · rw [g.l (n _ _ _ (by unfold PF; omega))]; exact h.wr hi
    · rw [g.i (n _ _ _ (by unfold PF; omega))]; exact h.got hi ho
    · rw [g.i (n _ _ _ (by unfold PF; omega))]; exact h.st hi ho
    · rw [g.l (n _ _ _ (by unfold PF; omega))]; exact h.cf hi ho
/-- nobody has the numbers to come -/
def Fresh (S : SS) (M : Mem) : Prop := ∀ κ ∈ [0, 1, 2, 3, 20, 21, 22, 23, 24, 25, 26], ∀ i, sN S ≤ i → mE M κ i = false
/-- all of the class's side -/
def CB (S : SS) (M : Mem) : Prop := RepC S M ∧ LogsV S M ∧ N6 M ∧ Fresh S M ∧ mE M 60 0 = true
theorem CB.far {S : SS} {P : Nat → Nat → Nat → Prop} {M M1 : Mem} (h : CB S M) (g : Ag P M M1) (hp : ∀ κ i k, P κ i k → PF κ i k) : CB S M1 := by
  have n : ∀ κ i k, ¬ PF κ i k → ¬ P κ i k := fun κ i k h1 h2 => h1 (hp κ i k h2)
  refine ⟨h.1.far g hp, fun i hi => ?_, ⟨fun a => (g.1 a 6).trans (h.2.2.1.1 a), fun k => (g.2.1 3 6 k).trans (h.2.2.1.2 k)⟩, fun κ hκ i hi => (g.1 κ i).trans (h.2.2.2.1 κ hκ i hi), (g.1 60 0).trans h.2.2.2.2⟩
  obtain ⟨h0, es, h1, h2⟩ := h.2.1 i hi
  exact ⟨h0, es, h1.ag g (fun κ k z => n _ _ _ (by unfold PF; omega)), h2⟩
/-- both sides -/
def Both (S : SS) (M : Mem) : Prop := Good S ∧ CB S M ∧ RepM S M
theorem ag60 {M M1 : Mem} {v : Int64} (e : M1 = wL M 60 0 0 v) : Ag (fun κ a k => κ = 60 ∧ a = 0 ∧ k = 0) M M1 := Ag.rf.wL e ⟨rfl, rfl, rfl⟩
theorem Both.w60 {S : SS} {M M1 : Mem} {v : Int64} (h : Both S M) (e : M1 = wL M 60 0 0 v) : Both S M1 :=
  ⟨h.1, h.2.1.far (ag60 e) (fun κ a k z => by unfold PF; omega), h.2.2.ag (ag60 e) (fun κ a k z => by unfold TrM; omega)⟩
theorem ag5 {M M1 : Mem} {v : Int32} (e : M1 = wI M 5 0 0 v) : Ag (fun κ a k => κ = 5 ∧ a = 0 ∧ k = 0) M M1 := Ag.rf.wI e ⟨rfl, rfl, rfl⟩
theorem Both.w5 {S : SS} {M M1 : Mem} {v : Int32} (h : Both S M) (e : M1 = wI M 5 0 0 v) : Both S M1 :=
  ⟨h.1, h.2.1.far (ag5 e) (fun κ a k z => by unfold PF; omega), h.2.2.ag (ag5 e) (fun κ a k z => by unfold TrM; omega)⟩
/-- the law's comparison of an answer -/
theorem p_cmp {A B : Prop} {x y : Int64} (h : x = y) (hA : A) : (lg_cmp x y = 0 → A) ∧ (¬ lg_cmp x y = 0 → B) := ⟨fun _ => hA, fun z => absurd ((q_lcmp x y).mpr h) z⟩
/-- the end of a question in the law: both answered alike -/
theorem p_end {S : SS} {M : Mem} {A B B2 : Mem → Prop} {c : Nat} {r q : Int32} (hb : Both S M) (hc : mI M 5 0 0 = nI c) (hr : r = nI c) (hc2 : c ≤ 2) (hv : c = 0 → mL M 60 0 0 = q.toInt64) (hA : A M) :
    mE M 5 0 = true ∧ w_X5_thrown M (fun t M3 => (t = r → ((r = 0 → (mE M3 60 0 = true ∧ (vp_in 0 1 ∧ ((lg_cmp (mL M3 60 0 ((0 : Int32).toNatClampNeg)) q.toInt64 = 0 → A M3) ∧ (¬ lg_cmp (mL M3 60 0 ((0 : Int32).toNatClampNeg)) q.toInt64 = 0 → B M3))))) ∧ (¬ r = 0 → A M3))) ∧ (¬ t = r → B2 M3)) := by
  have e5 := hb.2.2.e 5
  refine ⟨e5, e5, fun _ => ⟨fun hr0 => ⟨hb.2.1.2.2.2.2, pk_in 0 1 (by omega), p_cmp (hv ?_) hA⟩, fun _ => hA⟩, fun z => absurd (hc.trans hr.symm) z⟩
  rw [hr] at hr0
  exact (nI_eq (a := c) (b := 0) (by omega) (by omega)).mp hr0
/-- the class's answer is put down -/
theorem p_put {S : SS} {M : Mem} {Q : Int32 → Mem → Prop} {r : Int32} (hb : Both S M) (hQ : ∀ M1, M1 = wL M 60 0 0 r.toInt64 → Both S M1 → mL M1 60 0 0 = r.toInt64 → Q 0 M1) : mE M 60 0 = true ∧ (vp_in 0 1 ∧ ∀ M_8 : Mem, M_8 = wL M 60 0 ((0 : Int32).toNatClampNeg) r.toInt64 → Q 0 M_8) :=
  ⟨hb.2.1.2.2.2.2, pk_in 0 1 (by omega), fun M1 h1 => hQ M1 h1 (hb.w60 h1) (by rw [h1, mL_wL]; exact if_pos ⟨rfl, rfl, rfl⟩)⟩
theorem pL_holds {S : SS} {M : Mem} {Q : Int32 → Mem → Prop} {a : Int32} (hb : Both S M) (h1 : ∀ j, j < 6 → a = nI j → hr S j = true → ∀ M1, Both S M1 → mL M1 60 0 0 = (nI (sHeld S j)).toInt64 → Q 0 M1) (h0 : ¬ HereX S a → Q 1 M) : w_L_holds M a Q := by
  have h := hb.2.1.1
  refine ⟨h.e 4, h.e 4, p_known h (fun z => ⟨rfl, h0 z⟩) (fun j hj hx hh => ⟨h.pe hh 2, h.pf hh 1, h.pe hh 3, p_put hb (fun M1 _ b1 v1 => ?_)⟩)⟩
  rw [h.held hh] at v1
  exact h1 j hj hx hh M1 b1 v1
theorem pM_holds {S : SS} {M : Mem} {Q : Int32 → Mem → Prop} {a : Int32} (hb : Both S M) (h1 : ∀ j, j < 6 → a = nI j → hr S j = true → ∀ M1, M1 = wI M 5 0 0 0 → Both S M1 → mI M1 5 0 0 = nI 0 → Q (nI (sHeld S j)) M1) (h0 : ¬ HereX S a → ∀ M1, M1 = wI M 5 0 0 1 → Both S M1 → mI M1 5 0 0 = nI 1 → Q 0 M1) : w_X5_holds M a Q := by
  have h := hb.2.2
  have ok := hb.1.1
  refine ⟨h.e 5, p_isPeerM h ok (fun z => t0 ⟨h.e 5, p_fits 1 rfl (by omega) h (fun M1 e r1 g1 v1 => ?_)⟩) (fun j hj hx hh => t1 ⟨h.e 5, p_fits 0 rfl (by omega) h (fun M1 e r1 g1 v1 => ?_)⟩)⟩
  · exact t0 (h0 z M1 e (hb.w5 e) v1)
  · subst hx
    rw [cl j (by omega), r1.held hj]
    exact t1 ⟨r1.e 5, r1.f 5, r1.e 35, pk_in j 6 hj, h1 j hj rfl hh M1 e (hb.w5 e) v1⟩
