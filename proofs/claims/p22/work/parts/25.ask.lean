/-! what stays -/
def Ag (P : Nat → Nat → Nat → Prop) (M M1 : Mem) : Prop := (∀ κ i, mE M1 κ i = mE M κ i) ∧ (∀ κ i k, mF M1 κ i k = mF M κ i k) ∧ (∀ κ i k, ¬ P κ i k → mI M1 κ i k = mI M κ i k ∧ mL M1 κ i k = mL M κ i k)
theorem Ag.rf {P : Nat → Nat → Nat → Prop} {M : Mem} : Ag P M M := ⟨fun _ _ => rfl, fun _ _ _ => rfl, fun _ _ _ _ => ⟨rfl, rfl⟩⟩
theorem Ag.tr {P : Nat → Nat → Nat → Prop} {M M1 M2 : Mem} (h : Ag P M M1) (h2 : Ag P M1 M2) : Ag P M M2 := ⟨fun κ i => (h2.1 κ i).trans (h.1 κ i), fun κ i k => (h2.2.1 κ i k).trans (h.2.1 κ i k), fun κ i k hn => ⟨(h2.2.2 κ i k hn).1.trans (h.2.2 κ i k hn).1, (h2.2.2 κ i k hn).2.trans (h.2.2 κ i k hn).2⟩⟩
theorem Ag.mono {P P2 : Nat → Nat → Nat → Prop} {M M1 : Mem} (h : Ag P M M1) (hp : ∀ κ i k, P κ i k → P2 κ i k) : Ag P2 M M1 := ⟨h.1, h.2.1, fun κ i k hn => h.2.2 κ i k (fun z => hn (hp κ i k z))⟩
theorem Ag.wI {P : Nat → Nat → Nat → Prop} {M M1 M2 : Mem} {κ i k : Nat} {v : Int32} (h : Ag P M M1) (e : M2 = wI M1 κ i k v) (hp : P κ i k) : Ag P M M2 := by
  subst e
  refine h.tr ⟨fun _ _ => rfl, fun _ _ _ => rfl, fun a b c hn => ⟨?_, rfl⟩⟩
  rw [mI_wI, if_neg (fun z => hn (by rw [z.1, z.2.1, z.2.2]; exact hp))]
theorem Ag.wL {P : Nat → Nat → Nat → Prop} {M M1 M2 : Mem} {κ i k : Nat} {v : Int64} (h : Ag P M M1) (e : M2 = wL M1 κ i k v) (hp : P κ i k) : Ag P M M2 := by
  subst e
  refine h.tr ⟨fun _ _ => rfl, fun _ _ _ => rfl, fun a b c hn => ⟨rfl, ?_⟩⟩
  rw [mL_wL, if_neg (fun z => hn (by rw [z.1, z.2.1, z.2.2]; exact hp))]
theorem Ag.i {P : Nat → Nat → Nat → Prop} {M M1 : Mem} (h : Ag P M M1) {κ i k : Nat} (hn : ¬ P κ i k) : mI M1 κ i k = mI M κ i k := (h.2.2 κ i k hn).1
theorem Ag.l {P : Nat → Nat → Nat → Prop} {M M1 : Mem} (h : Ag P M M1) {κ i k : Nat} (hn : ¬ P κ i k) : mL M1 κ i k = mL M κ i k := (h.2.2 κ i k hn).2
/-- the class's places that a round alone uses -/
def Tr (κ i k : Nat) : Prop := κ = 0 ∨ κ = 12 ∨ κ = 20 ∨ κ = 21 ∨ κ = 26 ∨ (κ = 2 ∧ k = 13)
theorem RepC.ag {S : SS} {P : Nat → Nat → Nat → Prop} {M M1 : Mem} (h : RepC S M) (g : Ag P M M1) (hp : ∀ κ i k, P κ i k → Tr κ i k) : RepC S M1 := by
  have n : ∀ κ i k, ¬ Tr κ i k → ¬ P κ i k := fun κ i k h1 h2 => h1 (hp κ i k h2)
  refine ⟨⟨fun κ hκ => (g.1 κ 0).trans (h.1.1 κ hκ), fun k hk => (g.2.1 4 0 k).trans (h.1.2 k hk)⟩, ⟨?_, ?_, fun p hp' => ?_, fun j hj => (g.2.1 10 0 j).trans (h.pres hj)⟩, fun i hi => ⟨⟨fun κ hκ => (g.1 κ i).trans (h.pe hi κ hκ), fun k hk => (g.2.1 2 i k).trans (h.pf hi k hk), (g.2.1 0 i 0).trans (h.2.2 i hi).1.2.2.1, (g.2.1 0 i 1).trans (h.2.2 i hi).1.2.2.2.1, (g.2.1 1 i 1).trans (h.2.2 i hi).1.2.2.2.2⟩, ?_⟩⟩
  · rw [g.i (n _ _ _ (by unfold Tr; omega))]; exact h.n
  · rw [g.i (n _ _ _ (by unfold Tr; omega))]; exact h.r
  · rw [g.i (n _ _ _ (by unfold Tr; omega))]; exact h.pr hp'
  · refine ⟨?_, ?_, ?_, ?_, ?_, ?_, ?_, ?_, ?_, fun o ho => ?_, fun o ho => ?_, fun o ho => ?_⟩
    · rw [g.i (n _ _ _ (by unfold Tr; omega))]; exact h.num hi
    · rw [g.i (n _ _ _ (by unfold Tr; omega))]; exact h.sp hi
    · rw [g.i (n _ _ _ (by unfold Tr; omega))]; exact h.seq hi
    · rw [g.i (n _ _ _ (by unfold Tr; omega))]; exact h.car hi
    · rw [g.i (n _ _ _ (by unfold Tr; omega))]; exact h.ban hi
    · rw [g.i (n _ _ _ (by unfold Tr; omega))]; exact h.db hi
    · rw [g.i (n _ _ _ (by unfold Tr; omega))]; exact h.held hi
    · rw [g.l (n _ _ _ (by unfold Tr; omega))]; exact h.had hi
    · rw [g.l (n _ _ _ (by unfold Tr; omega))]; exact h.wr hi
    · rw [g.i (n _ _ _ (by unfold Tr; omega))]; exact h.got hi ho
    · rw [g.i (n _ _ _ (by unfold Tr; omega))]; exact h.st hi ho
    · rw [g.l (n _ _ _ (by unfold Tr; omega))]; exact h.cf hi ho
/-- what a round found at its beginning -/
def RoundV (S : SS) (M : Mem) : Prop := (∀ p, p < 12 → mI M 12 0 p = nI (cH S p 6)) ∧ (∀ i o, hr S i = true → hr S o = true → mI M 26 i o = nI (shown S i o)) ∧ (∀ i, hr S i = true → mI M 2 i 13 = nI (chosen S i))
/-- what one has asked for -/
def AskV (M : Mem) (i asked : Nat) (l : List (Nat × Nat)) : Prop := mL M 0 i 3 = lN asked ∧ mI M 0 i 2 = nI l.length ∧ ∀ c q, l[c]? = some q → mI M 20 i c = nI q.1 ∧ mI M 21 i c = nI q.2
def PAsk (i : Nat) (κ a _k : Nat) : Prop := (κ = 0 ∨ κ = 20 ∨ κ = 21) ∧ a = i
theorem PAsk_tr {i κ a k : Nat} (h : PAsk i κ a k) : Tr κ a k := by
  obtain ⟨h, -⟩ := h
  unfold Tr; omega
theorem RoundV.ag {S : SS} {P : Nat → Nat → Nat → Prop} {M M1 : Mem} (h : RoundV S M) (g : Ag P M M1) (hp : ∀ κ a k, P κ a k → κ = 0 ∨ κ = 20 ∨ κ = 21) : RoundV S M1 := by
  refine ⟨fun p hp' => ?_, fun i o hi ho => ?_, fun i hi => ?_⟩
  · rw [g.i (fun z => by have := hp _ _ _ z; omega)]; exact h.1 p hp'
  · rw [g.i (fun z => by have := hp _ _ _ z; omega)]; exact h.2.1 i o hi ho
  · rw [g.i (fun z => by have := hp _ _ _ z; omega)]; exact h.2.2 i hi
theorem p_isBegun {S : SS} {M : Mem} {Q : Int32 → Mem → Prop} {i asked : Nat} {x : Int32} (p : Nat) (hx : x = nI p) (h : RepC S M) (ok : OKS S) (hi : hr S i = true) (hA : mL M 0 i 3 = lN asked) (ha : asked < 2 ^ 48) (hp : p < 12) (h1 : begun S i asked p = true → Q 1 M) (h0 : begun S i asked p = false → Q 0 M) : w_X4_isBegun M i x Q := by
  refine ⟨h.pe hi 2, h.pf hi 1, h.pe hi 3, h.pf hi 3, h.pe hi 0, p_blocksOfPiece p hx hp ?_⟩
  rw [h.had hi, hA, l_or, l_and, q_lcmp, l_eq0 (Nat.lt_trans (and_lt (Nat.or_lt_two_pow (ok.had i) ha)) (by decide))]
  unfold begun at h1 h0
  refine ⟨fun z => h0 (by simp [z]), fun z => h1 (by simp [z])⟩
theorem p_isBetter {S : SS} {M : Mem} {Q : Int32 → Mem → Prop} {i asked : Nat} {x y : Int32} (p q : Nat) (hx : x = nI p) (hy : y = nI q) (h : RepC S M) (hR : RoundV S M) (ok : OKS S) (hi : hr S i = true) (hA : mL M 0 i 3 = lN asked) (ha : asked < 2 ^ 48) (hp : p < 12) (hq : q < 12) (h1 : better S i asked p q = true → Q 1 M) (h0 : better S i asked p q = false → Q 0 M) : w_X4_isBetter M i x y Q := by
  subst hx hy
  have c1 := cH_le S p 6
  have c2 := cH_le S q 6
  have p1 := ok.pr p
  have p2 := ok.pr q
  have sq := ok.seq i
  have rest : begun S i asked p = begun S i asked q → (mE M 4 0 = true ∧ (mF M 4 0 1 = true ∧ (mE M 11 0 = true ∧ ((vp_in (nI p) 12) ∧ ((vp_in (nI q) 12) ∧ (((mI M 11 0 (nI p).toNatClampNeg) = (mI M 11 0 (nI q).toNatClampNeg) → (mE M 2 i = true ∧ (((mI M 2 i 5) = 0 → (mF M 4 0 2 = true ∧ (mE M 12 0 = true ∧ ((vp_in (nI p) 12) ∧ ((vp_in (nI q) 12) ∧ (((mI M 12 0 (nI p).toNatClampNeg) = (mI M 12 0 (nI q).toNatClampNeg) → (b_X4_isBetter_99 Q M (nI p) (nI q))) ∧ (¬ (mI M 12 0 (nI p).toNatClampNeg) = (mI M 12 0 (nI q).toNatClampNeg) → ((vp_in (nI p) 12) ∧ ((vp_in (nI q) 12) ∧ (((mI M 12 0 (nI q).toNatClampNeg) ≤ (mI M 12 0 (nI p).toNatClampNeg) → (Q 0 M)) ∧ (¬ (mI M 12 0 (nI q).toNatClampNeg) ≤ (mI M 12 0 (nI p).toNatClampNeg) → (Q 1 M)))))))))))) ∧ (¬ (mI M 2 i 5) = 0 → (b_X4_isBetter_99 Q M (nI p) (nI q)))))) ∧ (¬ (mI M 11 0 (nI p).toNatClampNeg) = (mI M 11 0 (nI q).toNatClampNeg) → ((vp_in (nI p) 12) ∧ ((vp_in (nI q) 12) ∧ (((mI M 11 0 (nI p).toNatClampNeg) ≤ (mI M 11 0 (nI q).toNatClampNeg) → (Q 0 M)) ∧ (¬ (mI M 11 0 (nI p).toNatClampNeg) ≤ (mI M 11 0 (nI q).toNatClampNeg) → (Q 1 M)))))))))))) := by
    intro hb
    unfold better at h1 h0
    rw [hb] at h1 h0
    simp only [bne_self_eq_false, Bool.false_eq_true, if_false] at h1 h0
    rw [cl p (by omega), cl q (by omega), h.pr hp, h.pr hq, hR.1 p hp, hR.1 q hq, h.seq hi]
    have last : (sSeq S i = 0 ∧ cH S p 6 ≠ cH S q 6 → False) → sPr S p = sPr S q → b_X4_isBetter_99 Q M (nI p) (nI q) := by
      intro hn hpr
      rw [if_neg (by omega), if_neg hn] at h1 h0
      unfold b_X4_isBetter_99
      exact pk_le q p (fun z => h0 (by simp; omega)) (fun z => h1 (by simp; omega))
    refine ⟨h.e 4, h.f 1, h.e 11, pk_in p 12 hp, pk_in q 12 hq, pk_eq (sPr S p) (sPr S q) (fun hpr => ⟨h.pe hi 2, pk_eq (sSeq S i) 0 (fun hs => ⟨h.f 2, h.e 12, pk_in p 12 hp, pk_in q 12 hq, pk_eq (cH S p 6) (cH S q 6) (fun hc => last (fun z => z.2 hc) hpr) (fun hc => ⟨pk_in p 12 hp, pk_in q 12 hq, ?_⟩)⟩) (fun hs => last (fun z => hs z.1) hpr)⟩) (fun hpr => ⟨pk_in p 12 hp, pk_in q 12 hq, ?_⟩)⟩
    · rw [if_neg (by omega), if_pos ⟨hs, hc⟩] at h1 h0
      exact pk_le (cH S q 6) (cH S p 6) (fun z => h0 (by simp; omega)) (fun z => h1 (by simp; omega))
    · rw [if_pos (by omega)] at h1 h0
      exact pk_le (sPr S p) (sPr S q) (fun z => h0 (by simp; omega)) (fun z => h1 (by simp; omega))
  refine p_isBegun p rfl h ok hi hA ha hp (fun e1 => ?_) (fun e1 => ?_)
  · refine p_isBegun q rfl h ok hi hA ha hq (fun e2 => ?_) (fun e2 => ?_)
    · exact ⟨fun _ => rest (e1.trans e2.symm), fun z => absurd rfl z⟩
    · refine ⟨fun z => absurd z (by decide), fun _ => ⟨Or.inr rfl, h1 ?_⟩⟩
      unfold better; simp [e1, e2]
  · refine p_isBegun q rfl h ok hi hA ha hq (fun e2 => ?_) (fun e2 => ?_)
    · refine ⟨fun z => absurd z (by decide), fun _ => ⟨Or.inl rfl, h0 ?_⟩⟩
      unfold better; simp [e1, e2]
    · exact ⟨fun _ => rest (e1.trans e2.symm), fun z => absurd rfl z⟩
theorem bestP_lt {S : SS} {i asked fresh : Nat} : ∀ {k q : Nat}, bestP S i asked fresh k = some q → q < k ∧ fresh &&& blkP q ≠ 0
  | 0, q, h => by cases h
  | k + 1, q, h => by
    rw [bestP] at h
    split at h
    · split at h
      · rename_i hb; cases h; exact ⟨by omega, hb⟩
      · cases h
    · rename_i q2 h2
      split at h
      · rename_i hb; cases h; exact ⟨by omega, hb.1⟩
      · cases h
        have := bestP_lt h2
        exact ⟨by omega, this.2⟩
theorem p_findBestPiece {S : SS} {M : Mem} {Q : Int32 → Mem → Prop} {i asked : Nat} {x : Int64} (fresh : Nat) (hx : x = lN fresh) (hf : fresh < 2 ^ 48) (h : RepC S M) (hR : RoundV S M) (ok : OKS S) (hi : hr S i = true) (hA : mL M 0 i 3 = lN asked) (ha : asked < 2 ^ 48) (hQ : Q (oI (bestP S i asked fresh 12)) M) : w_X4_findBestPiece M i x Q := by
  subst hx
  have loop : ∀ d j, j + d = 12 → ∀ x4 : Int32, x4 = oI (bestP S i asked fresh j) → l_X4_findBestPiece_6 Q (d + 1) M i (lN fresh) x4 (nI j) := by
    intro d
    induction d with
    | zero =>
      intro j hj x4 h4
      have e : j = 12 := by omega
      subst e
      show b_X4_findBestPiece_6 Q _ M _ _ _ _
      unfold b_X4_findBestPiece_6
      exact pk_le 12 12 (fun _ => by rw [h4]; exact hQ) (fun z => absurd z (by omega))
    | succ d ih =>
      intro j hj x4 h4
      show b_X4_findBestPiece_6 Q (l_X4_findBestPiece_6 Q (d + 1)) M _ _ _ _
      unfold b_X4_findBestPiece_6 b_X4_findBestPiece_43 b_X4_findBestPiece_47
      have nx := ih (j + 1) (by omega)
      refine pk_le 12 j (fun z => absurd z (by omega)) (fun _ => p_blocksOfPiece j rfl (by omega) ?_)
      rw [l_and, q_lcmp, l_eq0 (Nat.lt_trans (and_lt hf) (by decide))]
      refine ⟨fun hz v hv => ?_, fun hz => ?_⟩
      · rw [hv, nI_1]
        refine nx _ ?_
        rw [bestP]
        cases hb : bestP S i asked fresh j with
        | none => simp only; rw [if_neg (by omega), h4, hb]
        | some q => simp only; rw [if_neg (by omega), h4, hb]
      · cases hb : bestP S i asked fresh j with
        | none =>
          rw [hb] at h4
          refine ⟨fun _ v hv => ?_, fun z => absurd h4 z⟩
          rw [hv, nI_1]
          exact nx _ (by rw [bestP, hb]; simp only; rw [if_pos hz]; rfl)
        | some q =>
          rw [hb] at h4
          have hq := bestP_lt hb
          refine ⟨fun z => absurd (h4.symm.trans z) (oI_n1 (by omega)), fun _ => ⟨h.e 4, p_isBetter j q rfl h4 h hR ok hi hA ha (by omega) (by omega) (fun hbt => t1 (fun v hv => ?_)) (fun hbt => t0 (fun v hv => ?_))⟩⟩
          · rw [hv, nI_1]
            exact nx _ (by rw [bestP, hb]; simp only; rw [if_pos ⟨hz, hbt⟩]; rfl)
          · rw [hv, nI_1]
            exact nx _ (by rw [bestP, hb]; simp only; rw [if_neg (by rw [hbt]; simp), h4])
  exact ⟨13, loop 12 0 rfl _ rfl⟩
