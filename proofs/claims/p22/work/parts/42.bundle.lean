/-! the face: who is meant; all of the class's side -/
def HereX (S : SS) (x : Int32) : Prop := ∃ j, j < 6 ∧ x = nI j ∧ hr S j = true
theorem not_hereX {S : SS} {x : Int32} {j : Nat} (hj : j < 6) (hx : x = nI j) (hf : hr S j = false) : ¬ HereX S x := by
  rintro ⟨k, hk, e, hh⟩
  rw [hx] at e
  have := (nI_eq (a := j) (b := k) (by omega) (by omega)).mp e
  subst this
  rw [hf] at hh; cases hh
theorem out_hereX {S : SS} {x : Int32} (h : x < 0 ∨ nI 6 ≤ x) : ¬ HereX S x := by
  rintro ⟨k, hk, e, -⟩
  subst e
  rcases h with h | h
  · exact nI_pos (n := k) (by omega) h
  · exact absurd ((nI_leI (by omega) (by omega)).mp h) (by omega)
theorem p_known {S : SS} {M : Mem} {Q : Nat → Mem → Prop} {X : Nat → Mem → Prop} {x : Int32} (h : RepC S M) (hX : ¬ HereX S x → X 1 M) (hQ : ∀ j, j < 6 → x = nI j → hr S j = true → Q j M) : w_X4_known M x Q X := by
  refine ⟨h.e 4, ?_⟩
  unfold w_X4_find b_X4_find_13
  refine ⟨fun hneg => ⟨fun _ => hX (out_hereX (Or.inl hneg)), fun r hr => (by cases hr)⟩, fun hpos => ⟨h.e 4, h.f 0, h.e 10, fun hlt => ?_, fun hge => ⟨fun _ => hX (out_hereX (Or.inr ?_)), fun r hr => (by cases hr)⟩⟩⟩
  · rcases pk_ix x (n := 6) (by decide) with z | z | ⟨j, hj, hx⟩
    · exact absurd z hpos
    · exact absurd (show x < nI 6 from hlt) (by rw [Int32.not_lt]; exact z)
    · subst hx
      rw [cl j (by omega), h.pres hj]
      refine ⟨pk_in j 6 hj, fun hf => ⟨fun e => (by cases e), fun r hr => (by cases hr; exact hQ j hj rfl hf)⟩, fun hf => ⟨fun _ => hX (not_hereX hj rfl hf), fun r hr => (by cases hr)⟩⟩
  · exact Int32.not_lt.mp hge
theorem p_checkPiece {M : Mem} {Q : Mem → Prop} {X : Nat → Mem → Prop} {x : Int32} (hX : (∀ p, p < 12 → x ≠ nI p) → X 1 M) (hQ : ∀ p, p < 12 → x = nI p → Q M) : w_X4_checkPiece M x Q X := by
  unfold w_X4_checkPiece b_X4_checkPiece_10
  refine ⟨fun hneg => hX (fun p hp e => by subst e; exact nI_pos (n := p) (by omega) hneg), fun hpos => ⟨fun hlt => ?_, fun hge => hX (fun p hp e => by subst e; exact hge ((nI_ltI (a := p) (b := 12) (by omega) (by omega)).mpr hp))⟩⟩
  rcases pk_ix x (n := 12) (by decide) with z | z | ⟨j, hj, hx⟩
  · exact absurd z hpos
  · exact absurd (show x < nI 12 from hlt) (by rw [Int32.not_lt]; exact z)
  · exact hQ j hj hx
/-- the logs of those who are here -/
def LogsV (S : SS) (M : Mem) : Prop := ∀ i, hr S i = true → ∃ h0 es, LogM M i h0 es ∧ LogV S i h0 es
theorem p_runC {S : SS} {M : Mem} {Q : Int32 → Mem → Prop} {X : Nat → Mem → Prop} {n : Nat} (h : RepC S M) (hl : LogsV S M) (hg : Good S) (hn : sR S + n ≤ 200) (hQ : ∀ M1, Ag PC M M1 → RepC (runS S n).1 M1 → LogsV (runS S n).1 M1 → Q (nI (runS S n).2) M1) : ∃ m, l_X4_run_47 Q X m M (nI n) 0 0 := by
  have main : ∀ d j, j + d = n → ∀ M1, Ag PC M M1 → RepC (runS S j).1 M1 → LogsV (runS S j).1 M1 → l_X4_run_47 Q X (d + 1) M1 (nI n) (nI (runS S j).2) (nI j) := by
    intro d
    induction d with
    | zero =>
      intro j hj M1 g h1 l1
      have e : j = n := by omega
      subst e
      show b_X4_run_47 Q X _ M1 _ _ _
      unfold b_X4_run_47
      exact pk_le j j (fun _ => hQ M1 g h1 l1) (fun z => absurd z (by omega))
    | succ d ih =>
      intro j hj M1 g h1 l1
      have nx := ih (j + 1) (by omega)
      have gd := runS_good hg j (by omega)
      have rr := runS_r S j
      have nx : ∀ M1, Ag PC M M1 → RepC (roundS (runS S j).1).1 M1 → LogsV (roundS (runS S j).1).1 M1 → l_X4_run_47 Q X (d + 1) M1 (nI n) (nI ((runS S j).2 + (roundS (runS S j).1).2)) (nI (j + 1)) := nx
      show b_X4_run_47 Q X (l_X4_run_47 Q X (d + 1)) M1 _ _ _
      unfold b_X4_run_47
      generalize runS S j = A at h1 l1 gd rr nx ⊢
      obtain ⟨ok, hst, hB, hF, hz⟩ := gd
      have ch : ∃ H0 : Nat → Nat, ∃ ES : Nat → List Nat, ∀ i, hr A.1 i = true → LogM M1 i (H0 i) (ES i) ∧ LogV A.1 i (H0 i) (ES i) := by
        refine ⟨fun i => if q : hr A.1 i = true then (l1 i q).choose else 0, fun i => if q : hr A.1 i = true then (l1 i q).choose_spec.choose else [], fun i hi => ?_⟩
        simp only [hi, dif_pos]
        exact (l1 i hi).choose_spec.choose_spec
      obtain ⟨H0, ES, hLE⟩ := ch
      refine pk_le n j (fun z => absurd z (by omega)) (fun _ => ⟨h1.e 4, p_runRound (Q := fun v M28 => ∀ w : Int32, w = nI j + 1 → l_X4_run_47 Q X (d + 1) M28 (nI n) v w) (H0 := H0) (ES := ES) h1 ok (by omega) hst (fun i hi => ⟨(hLE i hi).1, (hLE i hi).2.2.2.1⟩) (fun M2 g2 h2 l2 w hw => ?_)⟩)
      rw [hw, nI_add, nI_1]
      refine nx M2 (g.tr g2) h2 (fun i hi => ?_)
      have hi' : hr A.1 i = true := by
        have : hr (roundS A.1).1 i = hr A.1 i := by
          unfold hr
          have e : (roundS A.1).1 2 i 0 = A.1 2 i 0 := by
            rw [roundS_e, sU_f (by decide), endsTo_f (by decide)]; exact comesTo_low (by omega) 6
          rw [e]
        rw [this] at hi; exact hi
      exact ⟨H0 i, _, l2 i hi', LogV_round hi' (ok.h6 hi') (by omega) (hLE i hi').2⟩
  exact ⟨n + 1, main n 0 (by omega) M Ag.rf h hl⟩
def PF (κ _a _k : Nat) : Prop := κ = 5 ∨ 30 ≤ κ
theorem RepC.far {S : SS} {P : Nat → Nat → Nat → Prop} {M M1 : Mem} (h : RepC S M) (g : Ag P M M1) (hp : ∀ κ i k, P κ i k → PF κ i k) : RepC S M1 := by
  have n : ∀ κ i k, ¬ PF κ i k → ¬ P κ i k := fun κ i k h1 h2 => h1 (hp κ i k h2)
  refine ⟨⟨fun κ hκ => (g.1 κ 0).trans (h.1.1 κ hκ), fun k hk => (g.2.1 4 0 k).trans (h.1.2 k hk)⟩, ⟨?_, ?_, fun p hp' => ?_, fun j hj => (g.2.1 10 0 j).trans (h.pres hj)⟩, fun i hi => ⟨⟨fun κ hκ => (g.1 κ i).trans (h.pe hi κ hκ), fun k hk => (g.2.1 2 i k).trans (h.pf hi k hk), (g.2.1 0 i 0).trans (h.2.2 i hi).1.2.2.1, (g.2.1 0 i 1).trans (h.2.2 i hi).1.2.2.2.1, (g.2.1 1 i 1).trans (h.2.2 i hi).1.2.2.2.2⟩, ?_⟩⟩
  · rw [g.i (n _ _ _ (by unfold PF; omega))]; exact h.n
  · rw [g.i (n _ _ _ (by unfold PF; omega))]; exact h.r
  · rw [g.i (n _ _ _ (by unfold PF; omega))]; exact h.pr hp'
  · refine ⟨?_, ?_, ?_, ?_, ?_, ?_, ?_, ?_, ?_, fun o ho => ?_, fun o ho => ?_, fun o ho => ?_⟩
    · rw [g.i (n _ _ _ (by unfold PF; omega))]; exact h.num hi
    · rw [g.i (n _ _ _ (by unfold PF; omega))]; exact h.sp hi
    · rw [g.i (n _ _ _ (by unfold PF; omega))]; exact h.seq hi
    · rw [g.i (n _ _ _ (by unfold PF; omega))]; exact h.car hi
    · rw [g.i (n _ _ _ (by unfold PF; omega))]; exact h.ban hi
    · rw [g.i (n _ _ _ (by unfold PF; omega))]; exact h.db hi
    · rw [g.i (n _ _ _ (by unfold PF; omega))]; exact h.held hi
    · rw [g.l (n _ _ _ (by unfold PF; omega))]; exact h.had hi
    · rw [g.l (n _ _ _ (by unfold PF; omega))]; exact h.wr hi
    · rw [g.i (n _ _ _ (by unfold PF; omega))]; exact h.got hi ho
    · rw [g.i (n _ _ _ (by unfold PF; omega))]; exact h.st hi ho
    · rw [g.l (n _ _ _ (by unfold PF; omega))]; exact h.cf hi ho
/-- nobody has the numbers to come -/
def Fresh (S : SS) (M : Mem) : Prop := ∀ κ ∈ [0, 1, 2, 3, 20, 21, 22, 23, 24, 25, 26], ∀ i, sN S ≤ i → mE M κ i = false
/-- all of the class's side -/
def CB (S : SS) (M : Mem) : Prop := RepC S M ∧ LogsV S M ∧ N6 M ∧ Fresh S M
theorem CB.far {S : SS} {P : Nat → Nat → Nat → Prop} {M M1 : Mem} (h : CB S M) (g : Ag P M M1) (hp : ∀ κ i k, P κ i k → PF κ i k) : CB S M1 := by
  have n : ∀ κ i k, ¬ PF κ i k → ¬ P κ i k := fun κ i k h1 h2 => h1 (hp κ i k h2)
  refine ⟨h.1.far g hp, fun i hi => ?_, ⟨fun a => (g.1 a 6).trans (h.2.2.1.1 a), fun k => (g.2.1 3 6 k).trans (h.2.2.1.2 k)⟩, fun κ hκ i hi => (g.1 κ i).trans (h.2.2.2 κ hκ i hi)⟩
  obtain ⟨h0, es, h1, h2⟩ := h.2.1 i hi
  exact ⟨h0, es, h1.ag g (fun κ k z => n _ _ _ (by unfold PF; omega)), h2⟩
/-- the class's side, wishes and rules changed -/
theorem CB_set {S S1 : SS} {P : Nat → Nat → Nat → Prop} {M M1 : Mem} (h : CB S M) (e : ∀ f a c, f ≠ 3 ∧ f ≠ 5 ∧ f ≠ 6 ∧ f ≠ 7 → S1 f a c = S f a c) (g : Ag P M M1) (hp : ∀ κ a k, P κ a k → ¬ (κ = 1 ∨ κ = 22)) (hc : RepC S1 M1) : CB S1 M1 := by
  have en : sN S1 = sN S := e _ _ _ (by decide)
  have eh : ∀ a, hr S1 a = hr S a := fun a => by unfold hr; rw [e 2 a 0 (by decide)]
  refine ⟨hc, fun i hi => ?_, ⟨fun a => (g.1 a 6).trans (h.2.2.1.1 a), fun k => (g.2.1 3 6 k).trans (h.2.2.1.2 k)⟩, fun κ hκ i hi => (g.1 κ i).trans (h.2.2.2 κ hκ i (by rw [en] at hi; exact hi))⟩
  rw [eh] at hi
  obtain ⟨h0, es, h1, h2⟩ := h.2.1 i hi
  refine ⟨h0, es, h1.ag g (fun κ k z z2 => hp _ _ _ z2 z), ?_⟩
  have er : sR S1 = sR S := e _ _ _ (by decide)
  have et : tri S1 i = tri S i := by unfold tri sHeld sHad sWr; rw [e 4 i 0 (by decide), e 9 i 0 (by decide), e 10 i 0 (by decide)]
  unfold LogV
  rw [er, et]; exact h2
theorem RepC_pr {S : SS} {M M1 : Mem} {p v : Nat} (h : RepC S M) (e : M1 = wI M 11 0 p (nI v)) : RepC (sU S 3 p 0 v) M1 := by
  have g : Ag (fun κ a k => κ = 11 ∧ a = 0 ∧ k = p) M M1 := Ag.rf.wI e ⟨rfl, rfl, rfl⟩
  refine ⟨⟨fun κ hκ => (g.1 κ 0).trans (h.1.1 κ hκ), fun k hk => (g.2.1 4 0 k).trans (h.1.2 k hk)⟩, ⟨?_, ?_, fun q hq => ?_, fun j hj => (g.2.1 10 0 j).trans (h.pres hj)⟩, fun i hi => ⟨⟨fun κ hκ => (g.1 κ i).trans (h.pe hi κ hκ), fun k hk => (g.2.1 2 i k).trans (h.pf hi k hk), (g.2.1 0 i 0).trans (h.2.2 i hi).1.2.2.1, (g.2.1 0 i 1).trans (h.2.2 i hi).1.2.2.2.1, (g.2.1 1 i 1).trans (h.2.2 i hi).1.2.2.2.2⟩, ?_⟩⟩
  · rw [g.i (by omega)]; exact h.n
  · rw [g.i (by omega)]; exact h.r
  · rw [e, mI_wI]
    unfold sPr
    by_cases z : q = p
    · subst z; rw [if_pos ⟨rfl, rfl, rfl⟩, sU_at]
    · rw [if_neg (by omega), sU_i z]; exact h.pr hq
  · refine ⟨?_, ?_, ?_, ?_, ?_, ?_, ?_, ?_, ?_, fun o ho => ?_, fun o ho => ?_, fun o ho => ?_⟩
    · rw [g.i (by omega)]; exact h.num hi
    · rw [g.i (by omega)]; exact h.sp hi
    · rw [g.i (by omega)]; exact h.seq hi
    · rw [g.i (by omega)]; exact h.car hi
    · rw [g.i (by omega)]; exact h.ban hi
    · rw [g.i (by omega)]; exact h.db hi
    · rw [g.i (by omega)]; exact h.held hi
    · rw [g.l (by omega)]; exact h.had hi
    · rw [g.l (by omega)]; exact h.wr hi
    · rw [g.i (by omega)]; exact h.got hi ho
    · rw [g.i (by omega)]; exact h.st hi ho
    · rw [g.l (by omega)]; exact h.cf hi ho
/-- a field of one, the class's memory: place 6 careful, 5 in sequence, 4 spoilt -/
theorem RepC_setF {S : SS} {M M1 : Mem} {f i v k : Nat} (h : RepC S M) (hf : (f = 5 ∧ k = 6) ∨ (f = 6 ∧ k = 5) ∨ (f = 7 ∧ k = 4)) (e : M1 = wI M 2 i k (nI v)) : RepC (sU S f i 0 v) M1 := by
  have g : Ag (fun κ a k2 => κ = 2 ∧ a = i ∧ k2 = k) M M1 := Ag.rf.wI e ⟨rfl, rfl, rfl⟩
  refine RepC_upd (i := i) h g (fun κ a k2 z => Or.inr (by omega)) (fun f2 a c z => ?_) (fun hi => ?_)
  · rcases z with z | z
    · exact sU_f (by omega)
    · exact sU_i z
  · have hi : hr S i = true := by
      have : hr (sU S f i 0 v) i = hr S i := by unfold hr; rw [sU_f (by omega)]
      first | exact hi | (rw [this] at hi; exact hi)
    have cc : ∀ o, cf (sU S f i 0 v) i o = cf S i o := fun o => by
      unfold cf; congr 1; funext b
      rw [sHad, sFr, sU_f (by omega), sU_f (by omega)]
    refine ⟨?_, ?_, ?_, ?_, ?_, ?_, ?_, ?_, ?_, fun o ho => ?_, fun o ho => ?_, fun o ho => ?_⟩
    · rw [g.i (by omega)]; exact h.num hi
    · unfold sSp
      by_cases z : f = 7
      · obtain rfl : k = 4 := by omega
        subst z
        rw [e, mI_wI, if_pos ⟨rfl, rfl, rfl⟩, sU_at]
      · rw [sU_f (by omega), g.i (by omega)]; exact h.sp hi
    · unfold sSeq
      by_cases z : f = 6
      · obtain rfl : k = 5 := by omega
        subst z
        rw [e, mI_wI, if_pos ⟨rfl, rfl, rfl⟩, sU_at]
      · rw [sU_f (by omega), g.i (by omega)]; exact h.seq hi
    · unfold sCar
      by_cases z : f = 5
      · obtain rfl : k = 6 := by omega
        subst z
        rw [e, mI_wI, if_pos ⟨rfl, rfl, rfl⟩, sU_at]
      · rw [sU_f (by omega), g.i (by omega)]; exact h.car hi
    · rw [g.i (by omega), sBan, sU_f (by omega)]; exact h.ban hi
    · rw [g.i (by omega), sDb, sU_f (by omega)]; exact h.db hi
    · rw [g.i (by omega), sHeld, sU_f (by omega)]; exact h.held hi
    · rw [g.l (by omega), sHad, sU_f (by omega)]; exact h.had hi
    · rw [g.l (by omega), sWr, sU_f (by omega)]; exact h.wr hi
    · rw [g.i (by omega), sGot, sU_f (by omega)]; exact h.got hi ho
    · rw [g.i (by omega), sSt, sU_f (by omega)]; exact h.st hi ho
    · rw [g.l (by omega), cc]; exact h.cf hi ho
def spN (x p v : Nat) : Nat := if v = 1 then nd x (2 ^ p) ||| 2 ^ p else nd x (2 ^ p)
theorem spN_bit (x p v k : Nat) : (spN x p v).testBit k = if k = p then decide (v = 1) else x.testBit k := by
  unfold spN
  by_cases e : k = p
  · subst e
    by_cases z : v = 1
    · rw [if_pos z, Nat.testBit_or, nd_bit, Nat.testBit_two_pow_self]; simp [z]
    · rw [if_neg z, nd_bit, Nat.testBit_two_pow_self]; simp [z]
  · have t : (2 ^ p).testBit k = false := by rw [Nat.testBit_two_pow]; simp; omega
    rw [if_neg e]
    split
    · rw [Nat.testBit_or, nd_bit, t]; simp
    · rw [nd_bit, t]; simp
theorem spN_lt {x p v : Nat} (hx : x < 2 ^ 12) (hp : p < 12) : spN x p v < 2 ^ 12 := by
  have pw : 2 ^ p < 2 ^ 12 := Nat.pow_lt_pow_right (by omega) hp
  unfold spN
  split
  · exact Nat.or_lt_two_pow (nd_lt hx) pw
  · exact nd_lt hx
theorem spN_same {x p v : Nat} (hv : v ≤ 1) (h : b2 (x.testBit p) = v) : spN x p v = x := by
  apply Nat.eq_of_testBit_eq; intro k
  rw [spN_bit]
  split
  · rename_i e
    subst e
    cases hb : x.testBit k
    · rw [hb] at h; rw [← h]; rfl
    · rw [hb] at h; rw [← h]; rfl
  · rfl
theorem spN_xor {x p v : Nat} (hv : v ≤ 1) (h : b2 (x.testBit p) ≠ v) : spN x p v = x ^^^ 2 ^ p := by
  apply Nat.eq_of_testBit_eq; intro k
  rw [spN_bit, Nat.testBit_xor, Nat.testBit_two_pow]
  by_cases e : k = p
  · subst e
    rw [if_pos rfl]
    cases hb : x.testBit k
    · rw [hb] at h
      have : v = 1 := by unfold b2 at h; simp at h; omega
      simp [this]
    · rw [hb] at h
      have : v = 0 := by unfold b2 at h; simp at h; omega
      simp [this]
  · rw [if_neg e]
    have : ¬ p = k := fun z => e z.symm
    simp [this]
theorem sU_self (S : SS) (f i j : Nat) : sU S f i j (S f i j) = S := by
  funext a b c
  unfold sU
  split
  · rename_i z; rw [z.1, z.2.1, z.2.2]
  · rfl
theorem i_xor (a b : Nat) : nI a ^^^ nI b = nI (a ^^^ b) := by
  apply Int32.toBitVec_inj.mp
  apply BitVec.eq_of_getLsbD_eq
  intro i hi
  show (BitVec.ofNat 32 a ^^^ BitVec.ofNat 32 b).getLsbD i = (BitVec.ofNat 32 (a ^^^ b)).getLsbD i
  simp only [BitVec.getLsbD_xor, BitVec.getLsbD_ofNat, hi, decide_true, Bool.true_and, Nat.testBit_xor]
theorem b2_le (b : Bool) : b2 b ≤ 1 := by cases b <;> decide
