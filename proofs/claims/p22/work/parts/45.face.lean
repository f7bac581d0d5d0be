/-! the law's cells -/
def pS (S : SS) : Nat := bs (hr S) 6
def carS (S : SS) : Nat := bs (fun i => sCar S i == 1) 6
def seqS (S : SS) : Nat := bs (fun i => sSeq S i == 1) 6
def cell (S : SS) (h : Nat → Nat) (k : Nat) : Nat :=
  if k = 0 then sN S else if k = 1 then pS S else if k = 2 then sR S else if k < 15 then sPr S (k - 3) else if k = 15 then carS S else if k = 16 then seqS S else if k < 23 then sSp S (k - 17) else h (k - 23)
def CV (S : SS) (h : Nat → Nat) (M : Mem) : Prop := mE M 61 0 = true ∧ ∀ k, k < 29 → mI M 61 0 k = nI (cell S h k)
theorem cell_pr (S : SS) (h : Nat → Nat) {p : Nat} (hp : p < 12) : cell S h (3 + p) = sPr S p := by
  unfold cell
  rw [if_neg (by omega), if_neg (by omega), if_neg (by omega), if_pos (by omega), show 3 + p - 3 = p by omega]
theorem cell_sp (S : SS) (h : Nat → Nat) {i : Nat} (hi : i < 6) : cell S h (17 + i) = sSp S i := by
  unfold cell
  rw [if_neg (by omega), if_neg (by omega), if_neg (by omega), if_neg (by omega), if_neg (by omega), if_neg (by omega), if_pos (by omega), show 17 + i - 17 = i by omega]
theorem cell_h (S : SS) (h : Nat → Nat) (i : Nat) : cell S h (23 + i) = h i := by
  unfold cell
  rw [if_neg (by omega), if_neg (by omega), if_neg (by omega), if_neg (by omega), if_neg (by omega), if_neg (by omega), if_neg (by omega), show 23 + i - 23 = i by omega]
theorem k0 : ((0 : Int32).toNatClampNeg) = 0 := by decide
theorem k1 : ((1 : Int32).toNatClampNeg) = 1 := by decide
theorem k2 : ((2 : Int32).toNatClampNeg) = 2 := by decide
theorem k15 : ((15 : Int32).toNatClampNeg) = 15 := by decide
theorem k16 : ((16 : Int32).toNatClampNeg) = 16 := by decide
theorem k3p {p : Nat} (hp : p < 12) : ((3 + nI p : Int32).toNatClampNeg) = 3 + p := by
  rw [show (3 : Int32) = nI 3 from rfl, nI_add]; exact cl _ (by omega)
theorem k17p {p : Nat} (hp : p < 6) : ((17 + nI p : Int32).toNatClampNeg) = 17 + p := by
  rw [show (17 : Int32) = nI 17 from rfl, nI_add]; exact cl _ (by omega)
theorem k23p {p : Nat} (hp : p < 6) : ((23 + nI p : Int32).toNatClampNeg) = 23 + p := by
  rw [show (23 : Int32) = nI 23 from rfl, nI_add]; exact cl _ (by omega)
theorem in3 {p : Nat} (hp : p < 12) : vp_in (3 + nI p) 29 := pk_in (3 + p) 29 (by omega) (nI_add 3 p)
theorem in17 {p : Nat} (hp : p < 6) : vp_in (17 + nI p) 29 := pk_in (17 + p) 29 (by omega) (nI_add 17 p)
theorem in23 {p : Nat} (hp : p < 6) : vp_in (23 + nI p) 29 := pk_in (23 + p) 29 (by omega) (nI_add 23 p)
theorem in0 : vp_in 0 29 := pk_in 0 29 (by omega)
theorem in1 : vp_in 1 29 := pk_in 1 29 (by omega)
theorem in2 : vp_in 2 29 := pk_in 2 29 (by omega)
theorem in15 : vp_in 15 29 := pk_in 15 29 (by omega)
theorem in16 : vp_in 16 29 := pk_in 16 29 (by omega)
section CELLS
variable {S : SS} {hh : Nat → Nat} {M : Mem}
theorem CV.n (h : CV S hh M) : mI M 61 0 ((0 : Int32).toNatClampNeg) = nI (sN S) := by rw [k0]; exact h.2 0 (by omega)
theorem CV.p (h : CV S hh M) : mI M 61 0 ((1 : Int32).toNatClampNeg) = nI (pS S) := by rw [k1]; exact h.2 1 (by omega)
theorem CV.r (h : CV S hh M) : mI M 61 0 ((2 : Int32).toNatClampNeg) = nI (sR S) := by rw [k2]; exact h.2 2 (by omega)
theorem CV.car (h : CV S hh M) : mI M 61 0 ((15 : Int32).toNatClampNeg) = nI (carS S) := by rw [k15]; exact h.2 15 (by omega)
theorem CV.seq (h : CV S hh M) : mI M 61 0 ((16 : Int32).toNatClampNeg) = nI (seqS S) := by rw [k16]; exact h.2 16 (by omega)
theorem CV.pr (h : CV S hh M) {p : Nat} (hp : p < 12) : mI M 61 0 ((3 + nI p : Int32).toNatClampNeg) = nI (sPr S p) := by rw [k3p hp, h.2 _ (by omega), cell_pr _ _ hp]
theorem CV.sp (h : CV S hh M) {p : Nat} (hp : p < 6) : mI M 61 0 ((17 + nI p : Int32).toNatClampNeg) = nI (sSp S p) := by rw [k17p hp, h.2 _ (by omega), cell_sp _ _ hp]
theorem CV.hd (h : CV S hh M) {p : Nat} (hp : p < 6) : mI M 61 0 ((23 + nI p : Int32).toNatClampNeg) = nI (hh p) := by rw [k23p hp, h.2 _ (by omega), cell_h]
theorem CV.e (h : CV S hh M) : mE M 61 0 = true := h.1
theorem CV.put {S1 : SS} {h1 : Nat → Nat} {M1 : Mem} {k v : Nat} (h : CV S hh M) (e : M1 = wI M 61 0 k (nI v)) (hc : ∀ j, j < 29 → cell S1 h1 j = if j = k then v else cell S hh j) : CV S1 h1 M1 := by
  refine ⟨by rw [e]; exact h.1, fun j hj => ?_⟩
  rw [e, mI_wI, hc j hj]
  by_cases z : j = k
  · rw [if_pos ⟨rfl, rfl, z⟩, if_pos z]
  · rw [if_neg (by omega), if_neg z]; exact h.2 j hj
end CELLS
/-- the law's own cells stay -/
def Fr (M M1 : Mem) : Prop := (∀ κ, 60 ≤ κ → mE M1 κ 0 = mE M κ 0) ∧ ∀ κ k, 60 ≤ κ → mI M1 κ 0 k = mI M κ 0 k
theorem Fr.ag {P : Nat → Nat → Nat → Prop} {M M1 : Mem} (g : Ag P M M1) (hp : ∀ κ k, 60 ≤ κ → ¬ P κ 0 k) : Fr M M1 := ⟨fun κ _ => g.1 κ 0, fun κ k z => g.i (hp κ k z)⟩
theorem CV.fr {S : SS} {hh : Nat → Nat} {M M1 : Mem} (h : CV S hh M) (f : Fr M M1) : CV S hh M1 := ⟨(f.1 61 (by omega)).trans h.1, fun k hk => (f.2 61 k (by omega)).trans (h.2 k hk)⟩
theorem pS_lt (S : SS) : pS S < 2 ^ 6 := bs_lt _ _
theorem pS_bit (S : SS) (k : Nat) : (pS S).testBit k = (decide (k < 6) && hr S k) := bs_bit _ _ _
theorem carS_lt (S : SS) : carS S < 2 ^ 6 := bs_lt _ _
theorem seqS_lt (S : SS) : seqS S < 2 ^ 6 := bs_lt _ _
/-- a bit, as the law tests it -/
theorem t_bit {x k : Nat} {y : Int32} {A B : Prop} (hy : y = nI x) (hx : x < 2 ^ 31) (hk : k < 31) (fA : x.testBit k = true → A) (fB : x.testBit k = false → B) : ((y >>> (nI k &&& 31)) &&& 1 = 1 → A) ∧ (¬ (y >>> (nI k &&& 31)) &&& 1 = 1 → B) := by
  subst hy
  rw [i_has hx hk]
  cases hb : x.testBit k
  · exact ⟨fun z => absurd z (by decide), fun _ => fB hb⟩
  · exact ⟨fun _ => fA hb, fun z => absurd rfl z⟩
theorem t_bit0 {x k : Nat} {y : Int32} {A B : Prop} (hy : y = nI x) (hx : x < 2 ^ 31) (hk : k < 31) (fA : x.testBit k = false → A) (fB : x.testBit k = true → B) : ((y >>> (nI k &&& 31)) &&& 1 = 0 → A) ∧ (¬ (y >>> (nI k &&& 31)) &&& 1 = 0 → B) := by
  subst hy
  rw [i_has hx hk]
  cases hb : x.testBit k
  · exact ⟨fun _ => fA hb, fun z => absurd rfl z⟩
  · exact ⟨fun z => absurd z (by decide), fun _ => fB hb⟩
theorem t_here {S : SS} {hh : Nat → Nat} {M : Mem} {A B : Prop} {i : Nat} (h : CV S hh M) (hi : i < 6) (fA : hr S i = true → A) (fB : hr S i = false → B) : (((mI M 61 0 ((1 : Int32).toNatClampNeg)) >>> (nI i &&& 31)) &&& 1 = 1 → A) ∧ (¬ ((mI M 61 0 ((1 : Int32).toNatClampNeg)) >>> (nI i &&& 31)) &&& 1 = 1 → B) := by
  have l := pS_lt S
  refine t_bit h.p (by omega) (by omega) (fun z => ?_) (fun z => ?_)
  · rw [pS_bit] at z; simp [hi] at z; exact fA z
  · rw [pS_bit] at z; simp [hi] at z; exact fB z
theorem t_gone {S : SS} {hh : Nat → Nat} {M : Mem} {A B : Prop} {i : Nat} (h : CV S hh M) (hi : i < 6) (fA : hr S i = false → A) (fB : hr S i = true → B) : (((mI M 61 0 ((1 : Int32).toNatClampNeg)) >>> (nI i &&& 31)) &&& 1 = 0 → A) ∧ (¬ ((mI M 61 0 ((1 : Int32).toNatClampNeg)) >>> (nI i &&& 31)) &&& 1 = 0 → B) := by
  have l := pS_lt S
  refine t_bit0 h.p (by omega) (by omega) (fun z => ?_) (fun z => ?_)
  · rw [pS_bit] at z; simp [hi] at z; exact fA z
  · rw [pS_bit] at z; simp [hi] at z; exact fB z
/-- the law's side and the class's -/
def LB (S : SS) (hh : Nat → Nat) (M : Mem) : Prop := Good S ∧ CB S M ∧ CV S hh M
def GB (S : SS) (M : Mem) : Prop := Good S ∧ CB S M
section ASKS
variable {S : SS} {hh : Nat → Nat} {M : Mem} {Q : Int32 → Mem → Prop} {X : Nat → Mem → Prop} {x y z : Int32} {i o p : Nat}
theorem LB.c (h : LB S hh M) : RepC S M := h.2.1.1
theorem LB.ok (h : LB S hh M) : OKS S := h.1.1
theorem LB.v (h : LB S hh M) : CV S hh M := h.2.2
theorem LB.h6 (h : LB S hh M) (hi : hr S i = true) : i < 6 := h.ok.h6 hi
theorem LB.g (h : LB S hh M) : GB S M := ⟨h.1, h.2.1⟩
theorem GB.c (h : GB S M) : RepC S M := h.2.1
theorem GB.ok (h : GB S M) : OKS S := h.1.1
theorem GB.h6 (h : GB S M) (hi : hr S i = true) : i < 6 := h.ok.h6 hi
theorem q_known {Q : Nat → Mem → Prop} (hb : GB S M) (hi : hr S i = true) (hx : x = nI i) (hQ : Q i M) : w_X4_known M x Q X := by
  have h6 := hb.h6 hi
  refine p_known hb.c (fun z => absurd ⟨i, h6, hx, hi⟩ z) (fun j hj hx' _ => ?_)
  have : j = i := (nI_eq (by omega) (by omega)).mp (hx'.symm.trans hx)
  subst this; exact hQ
theorem q_piece {Q : Mem → Prop} (hp : p < 12) (hx : x = nI p) (hQ : Q M) : w_X4_checkPiece M x Q X := p_checkPiece (fun z => absurd hx (z p hp)) (fun _ _ _ => hQ)
theorem q_peers (hb : LB S hh M) (hQ : Q (nI (pS S)) M) : mE M 4 0 = true ∧ w_X4_peers M Q := by
  have h := hb.c
  have loop : ∀ d i, i + d = 6 → l_X4_peers_4 Q (d + 1) M (nI (bs (hr S) i)) (nI i) := by
    intro d
    induction d with
    | zero =>
      intro i hi
      have e : i = 6 := by omega
      subst e
      show b_X4_peers_4 Q _ M _ _
      unfold b_X4_peers_4
      exact ⟨h.e 4, h.f 0, h.e 10, pk_le 6 6 (fun _ => hQ) (fun z => absurd z (by omega))⟩
    | succ d ih =>
      intro i hi
      have nx := ih (i + 1) (by omega)
      show b_X4_peers_4 Q (l_X4_peers_4 Q (d + 1)) M _ _
      unfold b_X4_peers_4 b_X4_peers_28
      rw [cl i (by omega), h.pres (by omega)]
      refine ⟨h.e 4, h.f 0, h.e 10, pk_le 6 i (fun z => absurd z (by omega)) (fun _ => ⟨pk_in i 6 (by omega), fun hf v hv w hw => ?_, fun hf w hw => ?_⟩)⟩
      · rw [bs_s1 hf] at nx
        rw [hw, hv, i_one i (by omega), fa_or, nI_1]; exact nx
      · rw [bs_s0 hf] at nx
        rw [hw, nI_1]; exact nx
  exact ⟨h.e 4, 7, loop 6 0 rfl⟩
theorem q_rounds (hb : LB S hh M) (hQ : Q (nI (sR S)) M) : mE M 4 0 = true ∧ w_X4_rounds M Q := ⟨hb.c.e 4, hb.c.e 4, by rw [hb.c.r]; exact hQ⟩
theorem q_holds (hb : LB S hh M) (hi : hr S i = true) (hx : x = nI i) (hQ : Q (nI (sHeld S i)) M) : mE M 4 0 = true ∧ w_X4_holds M x Q X :=
  ⟨hb.c.e 4, hb.c.e 4, q_known hb.g hi hx ⟨hb.c.pe hi 2, hb.c.pf hi 1, hb.c.pe hi 3, by rw [hb.c.held hi]; exact hQ⟩⟩
theorem q_doubles (hb : LB S hh M) (hi : hr S i = true) (hx : x = nI i) (hQ : Q (nI (sDb S i)) M) : mE M 4 0 = true ∧ w_X4_doubles M x Q X :=
  ⟨hb.c.e 4, hb.c.e 4, q_known hb.g hi hx ⟨hb.c.pe hi 2, by rw [hb.c.db hi]; exact hQ⟩⟩
theorem q_got (hb : LB S hh M) (hi : hr S i = true) (ho : hr S o = true) (hx : x = nI i) (hy : y = nI o) (hQ : Q (nI (sGot S i o)) M) : mE M 4 0 = true ∧ w_X4_got M x y Q X := by
  have h := hb.c
  have o6 := hb.h6 ho
  refine ⟨h.e 4, h.e 4, q_known hb.g hi hx ⟨h.pe hi 2, h.pf hi 8, h.e 4, q_known hb.g ho hy ⟨h.pe ho 2, h.pe hi 24, ?_⟩⟩⟩
  rw [h.num ho, cl o (by omega), h.got hi o6]
  exact ⟨pk_in o 6 o6, hQ⟩
theorem q_strikes (hb : LB S hh M) (hi : hr S i = true) (ho : hr S o = true) (hx : x = nI i) (hy : y = nI o) (hQ : Q (nI (sSt S i o)) M) : mE M 4 0 = true ∧ w_X4_strikes M x y Q X := by
  have h := hb.c
  have o6 := hb.h6 ho
  refine ⟨h.e 4, h.e 4, q_known hb.g hi hx ⟨h.pe hi 2, h.pf hi 9, h.e 4, q_known hb.g ho hy ⟨h.pe ho 2, h.pe hi 25, ?_⟩⟩⟩
  rw [h.num ho, cl o (by omega), h.st hi o6]
  exact ⟨pk_in o 6 o6, hQ⟩
theorem q_isBanned (hb : LB S hh M) (hi : hr S i = true) (ho : hr S o = true) (hx : x = nI i) (hy : y = nI o) (h1 : (sBan S i).testBit o = true → Q 1 M) (h0 : (sBan S i).testBit o = false → Q 0 M) : mE M 4 0 = true ∧ w_X4_isBanned M x y Q X := by
  have h := hb.c
  have o6 := hb.h6 ho
  have bl := hb.ok.ban i
  refine ⟨h.e 4, h.e 4, q_known hb.g hi hx ⟨h.pe hi 2, h.e 4, q_known hb.g ho hy ⟨h.pe ho 2, ?_⟩⟩⟩
  exact p_isIn (sBan S i) o (by rw [h.ban hi]; exact nI_l (by omega)) (h.num ho) (by omega) (by omega) (fun z => ⟨Or.inr rfl, h1 z⟩) (fun z => ⟨Or.inl rfl, h0 z⟩)
theorem q_shown (hb : LB S hh M) (hi : hr S i = true) (ho : hr S o = true) (hx : x = nI i) (hy : y = nI o) (hQ : Q (nI (shown S i o)) M) : mE M 4 0 = true ∧ w_X4_shown M x y Q X :=
  ⟨hb.c.e 4, hb.c.e 4, q_known hb.g hi hx ⟨hb.c.e 4, q_known hb.g ho hy ⟨hb.c.e 4, p_findShown hb.c hb.ok hi ho hQ⟩⟩⟩
theorem q_chosen (hb : LB S hh M) (hi : hr S i = true) (hx : x = nI i) (hQ : Q (nI (chosen S i)) M) : mE M 4 0 = true ∧ w_X4_chosen M x Q X :=
  ⟨hb.c.e 4, hb.c.e 4, q_known hb.g hi hx ⟨hb.c.e 4, p_findChosen hb.c hb.ok hi hQ⟩⟩
theorem q_holders (hb : LB S hh M) (hp : p < 12) (hx : x = nI p) (hQ : Q (nI (cH S p 6)) M) : mE M 4 0 = true ∧ w_X4_holders M x Q X :=
  ⟨hb.c.e 4, q_piece hp hx ⟨hb.c.e 4, p_countHolders p hx hb.c hb.ok hp hQ⟩⟩
theorem q_blocks (hb : LB S hh M) (hi : hr S i = true) (hx : x = nI i) (hp : p < 12) (hy : y = nI p) (hQ : Q (nI (if (sHeld S i).testBit p then 15 else nib (sHad S i) p)) M) : mE M 4 0 = true ∧ w_X4_blocks M x y Q X := by
  have h := hb.c
  have ok := hb.ok
  refine ⟨h.e 4, h.e 4, q_known hb.g hi hx ⟨h.pe hi 2, h.pf hi 1, q_piece hp hy ⟨h.pe hi 3, ?_⟩⟩⟩
  refine p_isIn (sHeld S i) p (by rw [h.held hi]; exact nI_l (lt12 (ok.held i))) hy (Nat.lt_trans (ok.held i) (by decide)) (by omega) (fun z => t1 (by rw [if_pos z] at hQ; exact hQ)) (fun z => t0 ⟨h.pe hi 3, ?_⟩)
  have e : (((mL M 3 i 1) >>> ((y * 4).toInt64 &&& 63)).toInt32) &&& 15 = nI (nib (sHad S i) p) := by
    rw [h.had hi, hy, show nI p * 4 = nI (p * 4) from pk_mul p 4, l_shr (lt48 (ok.had i)) (by omega)]
    have hl : (lN (sHad S i / 2 ^ (p * 4))).toInt32 = nI (sHad S i / 2 ^ (p * 4)) := by
      apply Int32.toBitVec_inj.mp
      rw [Int64.toBitVec_toInt32, BitVec.signExtend_eq_setWidth_of_le _ (by decide), lN_bv, BitVec.setWidth_ofNat_of_le (by decide)]
      rfl
    rw [hl]
    have hm : nI (sHad S i / 2 ^ (p * 4)) &&& nI 15 = nI (sHad S i / 2 ^ (p * 4) % 16) := by simpa using fa_mask (sHad S i / 2 ^ (p * 4)) 4
    unfold nib
    rw [Nat.mul_comm 4 p]
    exact hm
  rw [e]
  rw [if_neg (by rw [z]; decide)] at hQ
  exact hQ
theorem q_holdsByLog (hb : LB S hh M) (hi : hr S i = true) (hx : x = nI i) (hQ : ∀ M1, LB S hh M1 → Fr M M1 → Q (nI (sHeld S i)) M1) : mE M 4 0 = true ∧ w_X4_holdsByLog M x Q X := by
  have h := hb.c
  have ok := hb.ok
  obtain ⟨h0', es, hL, v1, v2, v3, v4, v5, v6⟩ := hb.2.1.2.1 i hi
  have r200 := ok.r
  refine ⟨h.e 4, h.e 4, q_known hb.g hi hx ⟨h.pe hi 2, h.pf hi 2, h.pe hi 1, p_replayHeld (h.pe hi 1) (h.2.2 i hi).1.2.2.2.2 (h.pe hi 22) hL hb.2.1.2.2.1 v1 v2 (by omega) (fun M1 g1 => ?_)⟩⟩
  have f1 : Fr M M1 := Fr.ag g1 (fun κ k z => by omega)
  have b1 : LB S hh M1 := by
    refine ⟨hb.1, ⟨?_, fun i hi => ?_, ⟨fun a => (g1.1 a 6).trans (hb.2.1.2.2.1.1 a), fun k => (g1.2.1 3 6 k).trans (hb.2.1.2.2.1.2 k)⟩, fun κ hκ i hi => (g1.1 κ i).trans (hb.2.1.2.2.2 κ hκ i hi)⟩, hb.v.fr f1⟩
    · refine RepC_upd (i := 6) h g1 (fun κ a k z => Or.inr (by omega)) (fun _ _ _ _ => rfl) (fun z => absurd (ok.h6 z) (by omega))
    · obtain ⟨a1, a2, a3, a4⟩ := hb.2.1.2.1 i hi
      exact ⟨a1, a2, a3.ag g1 (fun κ k z => by omega), a4⟩
  have e : (stTo (rpL h0' es).1 12).1 = sHeld S i := by rw [v6]; rfl
  rw [e]
  exact hQ M1 b1 f1
theorem q_setPriority (hb : GB S M) {v : Nat} (hp : p < 12) (hv : v ≤ 3) (hx : x = nI p) (hy : y = nI v) (hQ : ∀ M1, Good (sU S 3 p 0 v) → CB (sU S 3 p 0 v) M1 → Fr M M1 → Q (nI (sPr S p)) M1) : mE M 4 0 = true ∧ w_X4_setPriority M x y Q X := by
  have h := hb.c
  subst hx hy
  refine ⟨h.e 4, q_piece hp rfl (pk_lt v 0 (fun z => absurd z (by omega)) (fun _ => pk_le v 3 (fun _ => ?_) (fun z => absurd z (by omega))))⟩
  rw [cl p (by omega), h.pr hp]
  refine ⟨h.e 4, h.f 1, h.e 11, pk_in p 12 hp, fun w hw => ⟨pk_in p 12 hp, fun M1 e => ?_⟩⟩
  subst hw
  have g : Ag (fun κ a k => κ = 11 ∧ a = 0 ∧ k = p) M M1 := Ag.rf.wI e ⟨rfl, rfl, rfl⟩
  exact hQ M1 (setP_good hb.1 hv) (CB_set hb.2 (fun f a c z => sU_f z.1) g (fun κ a k z => by omega) (RepC_pr h e)) (Fr.ag g (fun κ k z => by omega))
theorem cb_setF {M1 : Mem} {f v k : Nat} (hb : GB S M) (hf : (f = 5 ∧ k = 6) ∨ (f = 6 ∧ k = 5) ∨ (f = 7 ∧ k = 4)) (e : M1 = wI M 2 i k (nI v)) : CB (sU S f i 0 v) M1 ∧ Fr M M1 := by
  have g : Ag (fun κ a k2 => κ = 2 ∧ a = i ∧ k2 = k) M M1 := Ag.rf.wI e ⟨rfl, rfl, rfl⟩
  exact ⟨CB_set hb.2 (fun f2 a c z => sU_f (by omega)) g (fun κ a k z => by omega) (RepC_setF hb.c (by omega) e), Fr.ag g (fun κ k z => by omega)⟩
theorem b01 {v : Nat} (hv : v ≤ 1) : nI v = 0 ∨ nI v = 1 := by
  rcases (show v = 0 ∨ v = 1 by omega) with z | z
  · left; rw [z]; rfl
  · right; rw [z]; rfl
theorem q_setSequence (hb : GB S M) {v : Nat} (hv : v ≤ 1) (hi : hr S i = true) (hx : x = nI i) (hy : y = nI v) (hQ : ∀ M1, Good (sU S 6 i 0 v) → CB (sU S 6 i 0 v) M1 → Fr M M1 → Q (if sSeq S i = v then 0 else 1) M1) : mE M 4 0 = true ∧ w_X4_setSequence M x y Q X := by
  have h := hb.c
  subst hy
  refine ⟨h.e 4, h.e 4, q_known hb hi hx ⟨h.pe hi 2, ?_⟩⟩
  unfold b_X4_setSequence_19
  rw [h.seq hi]
  have b1 := hb.ok.seq i
  have go : ∀ M9 : Mem, M9 = wI M 2 i 5 (nI v) → Q (if sSeq S i = v then 0 else 1) M9 := fun M9 e => by
    obtain ⟨c1, f1⟩ := cb_setF (f := 6) hb (by omega) e
    exact hQ M9 (setF_good hb.1 (by omega) (hb.ok.here hi)) c1 f1
  exact pk_eq (sSeq S i) v (fun z => ⟨h.pe hi 2, b01 hv, fun M9 e => ⟨Or.inl rfl, by have := go M9 e; rw [if_pos z] at this; exact this⟩⟩) (fun z => ⟨h.pe hi 2, b01 hv, fun M9 e => ⟨Or.inr rfl, by have := go M9 e; rw [if_neg z] at this; exact this⟩⟩)
theorem q_setCareful (hb : GB S M) {v : Nat} (hv : v ≤ 1) (hi : hr S i = true) (hx : x = nI i) (hy : y = nI v) (hQ : ∀ M1, Good (sU S 5 i 0 v) → CB (sU S 5 i 0 v) M1 → Fr M M1 → Q (if sCar S i = v then 0 else 1) M1) : mE M 4 0 = true ∧ w_X4_setCareful M x y Q X := by
  have h := hb.c
  subst hy
  refine ⟨h.e 4, h.e 4, q_known hb hi hx ⟨h.pe hi 2, ?_⟩⟩
  unfold b_X4_setCareful_19
  rw [h.car hi]
  have b1 := hb.ok.car i
  have go : ∀ M9 : Mem, M9 = wI M 2 i 6 (nI v) → Q (if sCar S i = v then 0 else 1) M9 := fun M9 e => by
    obtain ⟨c1, f1⟩ := cb_setF (f := 5) hb (by omega) e
    exact hQ M9 (setF_good hb.1 (by omega) (hb.ok.here hi)) c1 f1
  exact pk_eq (sCar S i) v (fun z => ⟨h.pe hi 2, b01 hv, fun M9 e => ⟨Or.inl rfl, by have := go M9 e; rw [if_pos z] at this; exact this⟩⟩) (fun z => ⟨h.pe hi 2, b01 hv, fun M9 e => ⟨Or.inr rfl, by have := go M9 e; rw [if_neg z] at this; exact this⟩⟩)
theorem q_spoil (hb : GB S M) {v : Nat} (hv : v ≤ 1) (hi : hr S i = true) (hp : p < 12) (hx : x = nI i) (hy : y = nI p) (hz : z = nI v) (hQ : ∀ M1, Good (sU S 7 i 0 (spN (sSp S i) p v)) → CB (sU S 7 i 0 (spN (sSp S i) p v)) M1 → Fr M M1 → Q (if b2 ((sSp S i).testBit p) = v then 0 else 1) M1) : mE M 4 0 = true ∧ w_X4_spoil M x y z Q X := by
  have h := hb.c
  subst hz
  have sp := hb.ok.sp i
  have gd := setF_good (f := 7) (i := i) (v := spN (sSp S i) p v) hb.1 (Or.inr (Or.inr ⟨rfl, spN_lt sp hp⟩)) (hb.ok.here hi)
  refine ⟨h.e 4, h.e 4, q_known hb hi hx (q_piece hp hy ⟨h.pe hi 2, ?_⟩)⟩
  unfold b_X4_spoil_30
  have hit : b2 ((sSp S i).testBit p) = v → Q 0 M := fun w => by
    have r := hQ M gd
    rw [spN_same hv w, sU_self, if_pos w] at r
    exact r hb.2 ⟨fun _ _ => rfl, fun _ _ _ => rfl⟩
  have miss : b2 ((sSp S i).testBit p) ≠ v → ∀ M19 : Mem, M19 = wI M 2 i 4 ((mI M 2 i 4) ^^^ (1 <<< (y &&& 31))) → Q 1 M19 := fun w M19 e => by
    rw [h.sp hi, hy, i_one p (by omega), i_xor, ← spN_xor hv w] at e
    obtain ⟨c1, f1⟩ := cb_setF (f := 7) hb (by omega) e
    have r := hQ M19 gd c1 f1
    rw [if_neg w] at r; exact r
  refine p_isIn (sSp S i) p (by rw [h.sp hi]; exact nI_l (lt12 sp)) hy (Nat.lt_trans sp (by decide)) (by omega) (fun w => ?_) (fun w => ?_)
  · have b1 : b2 ((sSp S i).testBit p) = 1 := by rw [w]; rfl
    exact pk_eq 1 v (fun u => t0 ⟨Or.inl rfl, hit (b1.trans u)⟩) (fun u => t1 ⟨h.pe hi 2, fun M19 e => ⟨Or.inr rfl, miss (fun q => u (b1.symm.trans q)) M19 e⟩⟩)
  · have b1 : b2 ((sSp S i).testBit p) = 0 := by rw [w]; rfl
    exact pk_eq 0 v (fun u => t0 ⟨Or.inl rfl, hit (b1.trans u)⟩) (fun u => t1 ⟨h.pe hi 2, fun M19 e => ⟨Or.inr rfl, miss (fun q => u (b1.symm.trans q)) M19 e⟩⟩)
theorem q_run (hb : GB S M) {n : Nat} (h1 : 1 ≤ n) (h20 : n ≤ 20) (hn : sR S + n ≤ 200) (hx : x = nI n) (hQ : ∀ M1, Good (runS S n).1 → CB (runS S n).1 M1 → Fr M M1 → Q (nI (runS S n).2) M1) : mE M 4 0 = true ∧ w_X4_run M x Q X := by
  have h := hb.c
  subst hx
  refine ⟨h.e 4, pk_lt n 1 (fun z => absurd z (by omega)) (fun _ => pk_le n 20 (fun _ => ⟨h.e 4, ?_⟩) (fun z => absurd z (by omega)))⟩
  rw [h.r, nI_add]
  refine pk_le (sR S + n) 200 (fun _ => ?_) (fun z => absurd z (by omega))
  refine p_runC h hb.2.2.1 hb.1 hn (fun M1 g1 c1 l1 => ?_)
  exact hQ M1 (runS_good hb.1 n hn) ⟨c1, l1, ⟨fun a => (g1.1 a 6).trans (hb.2.2.2.1.1 a), fun k => (g1.2.1 3 6 k).trans (hb.2.2.2.1.2 k)⟩, fun κ hκ i hi => (g1.1 κ i).trans (hb.2.2.2.2 κ hκ i (by rw [runS_n] at hi; exact hi))⟩ (Fr.ag g1 (fun κ k z => by unfold PC; omega))
theorem q_leave (hb : GB S M) (hi : hr S i = true) (hx : x = nI i) (hQ : ∀ M1, Good (sU S 2 i 0 0) → CB (sU S 2 i 0 0) M1 → Fr M M1 → Q (nI (pcT (sHeld S i) 12)) M1) : mE M 4 0 = true ∧ w_X4_leave M x Q X := by
  have h := hb.c
  have i6 := hb.h6 hi
  refine ⟨h.e 4, h.e 4, q_known hb hi hx ⟨h.e 4, h.f 0, h.pe hi 2, h.e 10, ?_⟩⟩
  rw [h.num hi, cl i (by omega)]
  refine ⟨pk_in i 6 i6, fun M1 e => ⟨by rw [e, mF_wF, if_neg (by omega)]; exact h.pf hi 1, by rw [e]; exact h.pe hi 3, p_bitCount (sHeld S i) (by rw [e, mI_wF]; exact h.held hi) (hb.ok.held i) ?_⟩⟩
  exact hQ M1 (Good_leave hb.1) (CB_leave hb.2 e) ⟨fun κ _ => by rw [e, mE_wF], fun κ k _ => by rw [e, mI_wF]⟩
theorem q_join48 {M8 : Mem} {hv : Nat} (hb : Good S) (hcb : CB S M) (hn : sN S ≤ 5) (hl : hv < 2 ^ 12) (e8 : M8 = wN M 2 (sN S)) (hQ : ∀ M5, Good (jS S hv) → CB (jS S hv) M5 → Fr M M5 → Q (nI (sN S)) M5) : b_X4_join_48 Q X M8 (nI (sN S)) (nI hv) (nI (sN S)) (sN S) (sN S) (nI (sN S)) := by
  have h := hcb.1
  have fr := hcb.2.2.2
  have c8 : ∀ κ i, κ ≠ 2 → mE M8 κ i = mE M κ i ∧ ∀ k, mF M8 κ i k = mF M κ i k ∧ mI M8 κ i k = mI M κ i k := fun κ i z => by
    refine ⟨by rw [e8, mE_N, if_neg (by omega)], fun k => ⟨by rw [e8, mF_N, if_neg (by omega)], by rw [e8, mI_N, if_neg (by omega)]⟩⟩
  have h2 : mE M8 2 (sN S) = true := by rw [e8, mE_N, if_pos ⟨rfl, rfl⟩]
  have o := fun κ (z : κ ≠ 0 ∧ κ ≠ 1 ∧ κ ≠ 2 ∧ κ ≠ 3 ∧ (κ < 20 ∨ 26 < κ)) => peerM_out (M := M8) (t := sN S) (a1 := nI (sN S)) (a2 := nI hv) (κ := κ) (i := 0) (Or.inr z)
  refine ⟨h2, p_X2_init h2 (fun κ hκ => ?_) ?_⟩
  · have z : κ ≠ 2 := by
      intro e; subst e; revert hκ; decide
    rw [(c8 κ _ z).1]
    refine fr κ ?_ _ (Nat.le_refl _)
    simp only [List.mem_cons, List.not_mem_nil, or_false] at hκ ⊢
    omega
  · refine ⟨?_, pk_in (sN S) 6 (by omega), ?_, peerM_e h2 2 (by decide), fun M22 e22 => ⟨?_, fun M26 e26 => ?_⟩⟩
    · rw [(o 10 (by omega)).1, (c8 10 0 (by omega)).1]; exact h.e 10
    · rw [cl _ (by omega)]
    · rw [e22, mE_wF, (o 4 (by omega)).1, (c8 4 0 (by omega)).1]; exact h.e 4
    · rw [cl _ (by omega)] at e22
      have v3 : mI M22 4 0 3 + 1 = nI (sN S + 1) := by
        rw [e22, mI_wF, ((o 4 (by omega)).2 3).2.1, ((c8 4 0 (by omega)).2 3).2, h.n, nI_1]
      rw [v3] at e26
      refine hQ M26 (Good_join hb hn hl) (CB_join hb hcb hn hl e8 rfl e22 e26) ⟨fun κ z => ?_, fun κ k z => ?_⟩
      · rw [e26, mE_wI, e22, mE_wF, (o κ (by omega)).1, (c8 κ 0 (by omega)).1]
      · rw [e26, mI_wI, if_neg (by omega), e22, mI_wF, ((o κ (by omega)).2 k).2.1, ((c8 κ 0 (by omega)).2 k).2]
theorem q_join {v : Nat} (hg : Good S) (hcb : CB S M) (hv : v ≤ 1) (hn : sN S ≤ 5) (hx : x = nI v) (hQ : ∀ M1, Good (jS S (hvJ v)) → CB (jS S (hvJ v)) M1 → Fr M M1 → Q (nI (sN S)) M1) : mE M 4 0 = true ∧ w_X4_join M x Q X := by
  have h := hcb.1
  subst hx
  refine ⟨h.e 4, h.e 4, h.f 0, h.e 10, ?_⟩
  rw [h.n]
  refine pk_lt (sN S) 6 (fun w v5 h5 => ?_) (fun w => absurd w (by omega))
  subst h5
  rw [cl (sN S) (by omega)]
  refine ⟨hcb.2.2.2 2 (by decide) _ (Nat.le_refl _), fun M8 e8 => ?_⟩
  refine pk_eq v 0 (fun z => q_join48 (hv := 0) hg hcb hn (by decide) e8 (fun M5 g5 c5 f5 => ?_)) (fun z => q_join48 (hv := 4095) hg hcb hn (by decide) e8 (fun M5 g5 c5 f5 => ?_))
  · have e : hvJ v = 0 := by unfold hvJ; rw [if_pos z]
    rw [← e] at g5 c5
    exact hQ M5 g5 c5 f5
  · have e : hvJ v = 4095 := by unfold hvJ; rw [if_neg z]
    rw [← e] at g5 c5
    exact hQ M5 g5 c5 f5
end ASKS
