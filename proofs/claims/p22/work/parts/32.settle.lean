theorem full_iff {had p : Nat} : nd (blkP p) had = 0 ↔ had &&& blkP p = blkP p := by
  constructor
  · intro h
    apply Nat.eq_of_testBit_eq
    intro k
    have : (nd (blkP p) had).testBit k = false := by rw [h, Nat.zero_testBit]
    rw [nd_bit] at this
    rw [Nat.testBit_and]
    cases hk : (blkP p).testBit k
    · simp
    · rw [hk] at this; simp at this; simp [this]
  · intro h
    apply Nat.eq_of_testBit_eq
    intro k
    rw [nd_bit, Nat.zero_testBit]
    have : (had &&& blkP p).testBit k = (blkP p).testBit k := by rw [h]
    rw [Nat.testBit_and] at this
    cases hk : (blkP p).testBit k
    · rfl
    · rw [hk] at this; simp at this; simp [this]
theorem p_isComplete {M : Mem} {Q : Int32 → Mem → Prop} {t had : Nat} {x : Int32} (p : Nat) (hx : x = nI p) (he : mE M 3 t = true) (hh : mL M 3 t 1 = lN had) (hp : p < 12) (h1 : had &&& blkP p = blkP p → Q 1 M) (h0 : ¬ had &&& blkP p = blkP p → Q 0 M) : w_X3_isComplete M t x Q := by
  refine ⟨he, p_blocksOfPiece p hx hp ?_⟩
  have e : ((mL M 3 t 1) ^^^ (-1)) &&& lN (blkP p) = lN (nd (blkP p) had) := by
    rw [hh, Int64.and_comm, l_nd]
  rw [e, q_lcmp, l_eq0 (Nat.lt_trans (nd_lt (blkP_lt hp)) (by decide)), full_iff]
  exact ⟨h1, h0⟩
theorem p_isSound {M : Mem} {Q : Int32 → Mem → Prop} {t wr : Nat} {x : Int32} (p : Nat) (hx : x = nI p) (he : mE M 3 t = true) (hh : mL M 3 t 2 = lN wr) (hw : wr < 2 ^ 48) (hp : p < 12) (h1 : wr &&& blkP p = 0 → Q 1 M) (h0 : ¬ wr &&& blkP p = 0 → Q 0 M) : w_X3_isSound M t x Q := by
  refine ⟨he, p_blocksOfPiece p hx hp ?_⟩
  rw [hh, l_and, q_lcmp, l_eq0 (Nat.lt_trans (and_lt hw) (by decide))]
  exact ⟨h1, h0⟩
def bst (c st : Nat → Nat) (p o : Nat) : Nat := if c o &&& blkP p = 0 then st o else st o + 1
def bban (c st : Nat → Nat) (p ban : Nat) : Nat → Nat
  | 0 => ban
  | k + 1 => if c k &&& blkP p = 0 then bban c st p ban k else if c k &&& blkP p = blkP p ∨ 3 ≤ st k + 1 then bban c st p ban k ||| 2 ^ k else bban c st p ban k
def PBl (i κ a k : Nat) : Prop := a = i ∧ (κ = 25 ∨ (κ = 2 ∧ k = 10))
theorem p_blame {M : Mem} {Q : Mem → Prop} {i ban : Nat} {c st : Nat → Nat} {x : Int32} (p : Nat) (hx : x = nI p) (hp : p < 12) (hP : PeerOK M i) (hc : ∀ o, o < 6 → mL M 23 i o = lN (c o)) (hcl : ∀ o, c o < 2 ^ 48) (hs : ∀ o, o < 6 → mI M 25 i o = nI (st o)) (hsl : ∀ o, st o ≤ 100000) (hb : mI M 2 i 10 = nI ban)
    (hQ : ∀ M1, Ag (PBl i) M M1 → (∀ o, o < 6 → mI M1 25 i o = nI (bst c st p o)) → mI M1 2 i 10 = nI (bban c st p ban 6) → Q M1) : w_X2_blame M i x Q := by
  have loop : ∀ d k, k + d = 6 → ∀ M1, Ag (PBl i) M M1 → (∀ o, o < 6 → mI M1 25 i o = nI (if o < k then bst c st p o else st o)) → mI M1 2 i 10 = nI (bban c st p ban k) → l_X2_blame_8 Q (d + 1) M1 i (lN (blkP p)) (nI k) := by
    intro d
    induction d with
    | zero =>
      intro k hk M1 g h1 h2
      have e : k = 6 := by omega
      subst e
      show b_X2_blame_8 Q _ M1 _ _ _
      unfold b_X2_blame_8
      refine ⟨(g.1 2 i).trans (hP.1 2 (by decide)), (g.2.1 2 i 7).trans (hP.2.1 7 (by decide)), (g.1 23 i).trans (hP.1 23 (by decide)), pk_le 6 6 (fun _ => hQ M1 g (fun o ho => by have := h1 o ho; rw [if_pos ho] at this; exact this) h2) (fun z => absurd z (by omega))⟩
    | succ d ih =>
      intro k hk M1 g h1 h2
      have hst := hsl k
      show b_X2_blame_8 Q (l_X2_blame_8 Q (d + 1)) M1 _ _ _
      unfold b_X2_blame_8 b_X2_blame_65 b_X2_blame_78
      rw [cl k (by omega)]
      have nx := ih (k + 1) (by omega)
      have hck : mL M1 23 i k = lN (c k) := by rw [g.l (by unfold PBl; omega)]; exact hc k (by omega)
      have h1k := h1 k (by omega)
      rw [if_neg (by omega)] at h1k
      have upd : ∀ M2 : Mem, M2 = wI M1 25 i k (nI (st k) + 1) → (c k &&& blkP p ≠ 0) → ∀ o, o < 6 → mI M2 25 i o = nI (if o < k + 1 then bst c st p o else st o) := by
        intro M2 e hne o ho
        rw [e, mI_wI]
        by_cases eo : o = k
        · subst eo
          rw [if_pos ⟨rfl, rfl, rfl⟩, if_pos (by omega), nI_1]
          unfold bst; rw [if_neg hne]
        · rw [if_neg (by omega), h1 o ho]
          by_cases h : o < k
          · rw [if_pos h, if_pos (by omega)]
          · rw [if_neg h, if_neg (by omega)]
      have ex : ∀ κ, mE M i = mE M i → κ ∈ [0, 1, 2, 3, 20, 21, 22, 23, 24, 25, 26] → mE M1 κ i = true := fun κ _ hκ => (g.1 κ i).trans (hP.1 κ hκ)
      refine ⟨ex 2 rfl (by decide), (g.2.1 2 i 7).trans (hP.2.1 7 (by decide)), ex 23 rfl (by decide), pk_le 6 k (fun z => absurd z (by omega)) (fun _ => ⟨pk_in k 6 (by omega), fun v hv => ?_⟩)⟩
      rw [hck, l_and] at hv
      subst hv
      rw [q_lcmp, l_eq0 (Nat.lt_trans (and_lt (hcl k)) (by decide))]
      refine ⟨fun hz v hv => ?_, fun hz => ⟨(g.2.1 2 i 9).trans (hP.2.1 9 (by decide)), ex 25 rfl (by decide), pk_in k 6 (by omega), pk_in k 6 (by omega), fun M17 h17 => ?_⟩⟩
      · rw [hv, nI_1]
        refine nx M1 g (fun o ho => ?_) (by rw [bban, if_pos hz]; exact h2)
        rw [h1 o ho]
        by_cases eo : o = k
        · subst eo; rw [if_neg (by omega), if_pos (by omega)]; unfold bst; rw [if_pos hz]
        · by_cases h : o < k
          · rw [if_pos h, if_pos (by omega)]
          · rw [if_neg h, if_neg (by omega)]
      · rw [h1k] at h17
        have g17 : Ag (PBl i) M M17 := g.wI h17 ⟨rfl, by omega⟩
        have u := upd M17 h17 hz
        have b17 : mI M17 2 i 10 = nI (bban c st p ban k) := by rw [h17, mI_wI, if_neg (by omega)]; exact h2
        have s17 : mI M17 25 i k = nI (st k + 1) := by rw [h17, mI_wI, if_pos ⟨rfl, rfl, rfl⟩, nI_1]
        have yes : (c k &&& blkP p = blkP p ∨ 3 ≤ st k + 1) → (mE M17 2 i = true ∧ (∀ M_20 : Mem, M_20 = wI M17 2 i 10 ((mI M17 2 i 10) ||| (1 <<< (nI k &&& 31))) → (∀ v_12 : Int32, v_12 = nI k + 1 → l_X2_blame_8 Q (d + 1) M_20 i (lN (blkP p)) v_12))) := by
          intro hy
          refine ⟨(g17.1 2 i).trans (hP.1 2 (by decide)), fun M20 h20 v hv => ?_⟩
          rw [b17, i_one k (by omega), fa_or] at h20
          rw [hv, nI_1]
          refine nx M20 (g17.wI h20 ⟨rfl, by omega⟩) (fun o ho => by rw [h20, mI_wI, if_neg (by omega)]; exact u o ho) ?_
          rw [h20, mI_wI, if_pos ⟨rfl, rfl, rfl⟩, bban, if_neg hz, if_pos hy]
        rw [q_lcmp, pk_lEQ (Nat.lt_trans (and_lt (hcl k)) (by decide)) (Nat.lt_trans (blkP_lt hp) (by decide))]
        refine ⟨fun ha => yes (Or.inl ha), fun ha => ⟨pk_in k 6 (by omega), ?_⟩⟩
        rw [s17]
        refine pk_lt (st k + 1) 3 (fun hlt v hv => ?_) (fun hge => yes (Or.inr hge))
        rw [hv, nI_1]
        exact nx M17 g17 u (by rw [bban, if_neg hz, if_neg (by omega)]; exact b17)
  refine p_blocksOfPiece p hx hp ⟨7, loop 6 0 rfl M Ag.rf (fun o ho => by rw [if_neg (by omega)]; exact hs o ho) hb⟩
theorem p_forget {M : Mem} {Q : Mem → Prop} {i : Nat} {c : Nat → Nat} {x : Int32} (p : Nat) (hx : x = nI p) (hp : p < 12) (hP : PeerOK M i) (hc : ∀ o, o < 6 → mL M 23 i o = lN (c o))
    (hQ : ∀ M1, Ag (fun κ a _ => κ = 23 ∧ a = i) M M1 → (∀ o, o < 6 → mL M1 23 i o = lN (nd (c o) (blkP p))) → Q M1) : w_X2_forgetSenders M i x Q := by
  subst hx
  have loop : ∀ d k, k + d = 6 → ∀ M1, Ag (fun κ a _ => κ = 23 ∧ a = i) M M1 → (∀ o, o < 6 → mL M1 23 i o = lN (if o < k then nd (c o) (blkP p) else c o)) → l_X2_forgetSenders_2 Q (d + 1) M1 i (nI p) (nI k) := by
    intro d
    induction d with
    | zero =>
      intro k hk M1 g h1
      have e : k = 6 := by omega
      subst e
      show b_X2_forgetSenders_2 Q _ M1 _ _ _
      unfold b_X2_forgetSenders_2
      exact ⟨(g.1 2 i).trans (hP.1 2 (by decide)), (g.2.1 2 i 7).trans (hP.2.1 7 (by decide)), (g.1 23 i).trans (hP.1 23 (by decide)), pk_le 6 6 (fun _ => hQ M1 g (fun o ho => by have := h1 o ho; rw [if_pos ho] at this; exact this)) (fun z => absurd z (by omega))⟩
    | succ d ih =>
      intro k hk M1 g h1
      show b_X2_forgetSenders_2 Q (l_X2_forgetSenders_2 Q (d + 1)) M1 _ _ _
      unfold b_X2_forgetSenders_2
      rw [cl k (by omega)]
      have e23 := (g.1 23 i).trans (hP.1 23 (by decide))
      have h1k := h1 k (by omega)
      rw [if_neg (by omega)] at h1k
      refine ⟨(g.1 2 i).trans (hP.1 2 (by decide)), (g.2.1 2 i 7).trans (hP.2.1 7 (by decide)), e23, pk_le 6 k (fun z => absurd z (by omega)) (fun _ => ⟨pk_in k 6 (by omega), p_blocksOfPiece p rfl hp ⟨e23, pk_in k 6 (by omega), fun M2 h2 v hv => ?_⟩⟩)⟩
      rw [h1k, l_nd] at h2
      rw [hv, nI_1]
      refine ih (k + 1) (by omega) M2 (g.wL h2 ⟨rfl, rfl⟩) (fun o ho => ?_)
      rw [h2, mL_wL]
      by_cases eo : o = k
      · subst eo; rw [if_pos ⟨rfl, rfl, rfl⟩, if_pos (by omega)]
      · rw [if_neg (by omega), h1 o ho]
        by_cases h : o < k
        · rw [if_pos h, if_pos (by omega)]
        · rw [if_neg h, if_neg (by omega)]
  exact ⟨7, loop 6 0 rfl M Ag.rf (fun o ho => by rw [if_neg (by omega)]; exact hc o ho)⟩
/-- what is held, had and wrong, a piece settled -/
def stP (t : Nat × Nat × Nat) (p : Nat) : Nat × Nat × Nat :=
  if t.2.1 &&& blkP p = blkP p then ((if t.2.2 &&& blkP p = 0 then t.1 ||| 2 ^ p else t.1), nd t.2.1 (blkP p), nd t.2.2 (blkP p)) else t
def stTo (t : Nat × Nat × Nat) : Nat → Nat × Nat × Nat
  | 0 => t
  | k + 1 => stP (stTo t k) k
theorem stTo_lt {t : Nat × Nat × Nat} (h1 : t.1 < 2 ^ 12) (h2 : t.2.1 < 2 ^ 48) (h3 : t.2.2 < 2 ^ 48) : ∀ k, k ≤ 12 → (stTo t k).1 < 2 ^ 12 ∧ (stTo t k).2.1 < 2 ^ 48 ∧ (stTo t k).2.2 < 2 ^ 48
  | 0, _ => ⟨h1, h2, h3⟩
  | k + 1, hk => by
    obtain ⟨a, b, c⟩ := stTo_lt h1 h2 h3 k (by omega)
    rw [stTo]
    unfold stP
    split
    · refine ⟨?_, nd_lt b, nd_lt c⟩
      show (if _ then _ else _) < _
      split
      · exact Nat.or_lt_two_pow a (Nat.pow_lt_pow_right (by omega) (by omega))
      · exact a
    · exact ⟨a, b, c⟩
theorem p_endPieces {M : Mem} {Q : Mem → Prop} {t : Nat} {v : Nat × Nat × Nat} (he : mE M 3 t = true) (e1 : mI M 3 t 0 = nI v.1) (e2 : mL M 3 t 1 = lN v.2.1) (e3 : mL M 3 t 2 = lN v.2.2) (h1 : v.1 < 2 ^ 12) (h2 : v.2.1 < 2 ^ 48) (h3 : v.2.2 < 2 ^ 48)
    (hQ : ∀ M1, Ag (fun κ a _ => κ = 3 ∧ a = t) M M1 → mI M1 3 t 0 = nI (stTo v 12).1 → mL M1 3 t 1 = lN (stTo v 12).2.1 → mL M1 3 t 2 = lN (stTo v 12).2.2 → Q M1) : w_X3_endPieces M t Q := by
  have loop : ∀ d k, k + d = 12 → ∀ M1, Ag (fun κ a _ => κ = 3 ∧ a = t) M M1 → mI M1 3 t 0 = nI (stTo v k).1 → mL M1 3 t 1 = lN (stTo v k).2.1 → mL M1 3 t 2 = lN (stTo v k).2.2 → l_X3_endPieces_2 Q (d + 1) M1 t (nI k) := by
    intro d
    induction d with
    | zero =>
      intro k hk M1 g a1 a2 a3
      have e : k = 12 := by omega
      subst e
      show b_X3_endPieces_2 Q _ M1 _ _
      unfold b_X3_endPieces_2
      exact pk_le 12 12 (fun _ => hQ M1 g a1 a2 a3) (fun z => absurd z (by omega))
    | succ d ih =>
      intro k hk M1 g a1 a2 a3
      have nx := ih (k + 1) (by omega)
      obtain ⟨l1, l2, l3⟩ := stTo_lt h1 h2 h3 k (by omega)
      have he1 : mE M1 3 t = true := (g.1 3 t).trans he
      show b_X3_endPieces_2 Q (l_X3_endPieces_2 Q (d + 1)) M1 _ _
      unfold b_X3_endPieces_2 b_X3_endPieces_36 b_X3_endPieces_70
      rw [stTo] at nx
      refine pk_le 12 k (fun z => absurd z (by omega)) (fun _ => ⟨he1, p_isComplete k rfl he1 a2 (by omega) (fun hf => t1 ⟨he1, ?_⟩) (fun hf => t0 (fun z hz => ?_))⟩)
      · have fin : ∀ (M2 : Mem) (hd : Nat), Ag (fun κ a _ => κ = 3 ∧ a = t) M M2 → mI M2 3 t 0 = nI hd → hd = (stP (stTo v k) k).1 → mL M2 3 t 1 = lN (stTo v k).2.1 → mL M2 3 t 2 = lN (stTo v k).2.2 → (mE M2 3 t = true ∧ (w_X4_blocksOfPiece M2 (nI k) (fun (r_19 : Int64) (M_17 : Mem) => (mE M_17 3 t = true ∧ (∀ M_21 : Mem, M_21 = wL M_17 3 t 1 ((mL M2 3 t 1) &&& (r_19 ^^^ (-1))) → (w_X4_blocksOfPiece M_21 (nI k) (fun (r_25 : Int64) (M_23 : Mem) => (mE M_23 3 t = true ∧ (∀ M_27 : Mem, M_27 = wL M_23 3 t 2 ((mL M_21 3 t 2) &&& (r_25 ^^^ (-1))) → (∀ v_8 : Int32, v_8 = nI k + 1 → l_X3_endPieces_2 Q (d + 1) M_27 t v_8)))))))))) := by
          intro M2 hd g2 b1 hhd b2 b3
          have he2 : mE M2 3 t = true := (g2.1 3 t).trans he
          refine ⟨he2, p_blocksOfPiece k rfl (by omega) ⟨he2, fun M21 h21 => ?_⟩⟩
          rw [b2, l_nd] at h21
          have g21 := g2.wL h21 (κ := 3) (i := t) (k := 1) ⟨rfl, rfl⟩
          refine p_blocksOfPiece k rfl (by omega) ⟨(g21.1 3 t).trans he, fun M27 h27 z hz => ?_⟩
          have c3 : mL M21 3 t 2 = lN (stTo v k).2.2 := by rw [h21, mL_wL, if_neg (by omega)]; exact b3
          rw [c3, l_nd] at h27
          rw [hz, nI_1]
          refine nx M27 (g21.wL h27 ⟨rfl, rfl⟩) ?_ ?_ ?_
          · rw [h27, mI_wL, h21, mI_wL, b1, hhd]
          · rw [h27, mL_wL, if_neg (by omega), h21, mL_wL, if_pos ⟨rfl, rfl, rfl⟩]
            unfold stP; rw [if_pos hf]
          · rw [h27, mL_wL, if_pos ⟨rfl, rfl, rfl⟩]
            unfold stP; rw [if_pos hf]
        refine p_isSound k rfl he1 a3 l3 (by omega) (fun hs => t1 ⟨he1, fun M29 h29 => ?_⟩) (fun hs => t0 ?_)
        · rw [a1, i_one k (by omega), fa_or] at h29
          refine fin M29 ((stTo v k).1 ||| 2 ^ k) (g.wI h29 ⟨rfl, rfl⟩) (by rw [h29, mI_wI, if_pos ⟨rfl, rfl, rfl⟩]) (by unfold stP; rw [if_pos hf]; show _ = (if _ then _ else _); rw [if_pos hs]) (by rw [h29, mL_wI]; exact a2) (by rw [h29, mL_wI]; exact a3)
        · exact fin M1 (stTo v k).1 g a1 (by unfold stP; rw [if_pos hf]; show _ = (if _ then _ else _); rw [if_neg hs]) a2 a3
      · rw [hz, nI_1]
        have e : stP (stTo v k) k = stTo v k := by unfold stP; rw [if_neg hf]
        rw [e] at nx
        exact nx M1 g a1 a2 a3
  exact ⟨13, loop 12 0 rfl M Ag.rf e1 e2 e3⟩
