theorem rarest_lt {S : SS} {ps f : Nat} : ∀ {k q : Nat}, rarest S ps f k = some q → q < 12 ∧ ps.testBit q = true
  | 0, q, h => by cases h
  | k + 1, q, h => by
    rw [rarest] at h
    split at h
    · rename_i hb
      split at h
      · cases h; exact ⟨Nat.mod_lt _ (by omega), hb⟩
      · rename_i q2 h2
        split at h
        · cases h; exact ⟨Nat.mod_lt _ (by omega), hb⟩
        · cases h; exact rarest_lt h2
    · exact rarest_lt h
theorem single_lt {n : Nat} : ∀ {r : Option Nat}, (∀ q, r = some q → q < n) → single r < 2 ^ n
  | none, _ => Nat.two_pow_pos n
  | some k, h => Nat.pow_lt_pow_right (by omega) (h k rfl)
theorem p_wanted {S : SS} {M : Mem} {Q : Int32 → Mem → Prop} (h : RepC S M) (ok : OKS S) (hQ : Q (nI (wantS S)) M) : w_X4_wantedPieces M Q := by
  have loop : ∀ d i, i + d = 12 → l_X4_wantedPieces_4 Q (d + 1) M (nI (bs (fun p => decide (0 < sPr S p)) i)) (nI i) := by
    intro d
    induction d with
    | zero =>
      intro i hi
      have e : i = 12 := by omega
      subst e
      show b_X4_wantedPieces_4 Q _ M _ _
      unfold b_X4_wantedPieces_4
      exact ⟨h.e 4, h.f 1, h.e 11, pk_le 12 12 (fun _ => hQ) (fun z => absurd z (by omega))⟩
    | succ d ih =>
      intro i hi
      show b_X4_wantedPieces_4 Q (l_X4_wantedPieces_4 Q (d + 1)) M _ _
      unfold b_X4_wantedPieces_4 b_X4_wantedPieces_28
      rw [cl i (by omega), h.pr (by omega)]
      have nx := ih (i + 1) (by omega)
      have hp := ok.pr i
      refine ⟨h.e 4, h.f 1, h.e 11, pk_le 12 i (fun z => absurd z (by omega)) (fun _ => ⟨pk_in i 12 (by omega), pk_le (sPr S i) 0 (fun hz => ?_) (fun hz => ?_)⟩)⟩
      · intro v hv
        subst hv
        rw [bs_s0 (by simp; omega)] at nx
        rw [nI_1]; exact nx
      · intro v hv v2 hv2
        subst hv hv2
        rw [bs_s1 (by simp; omega)] at nx
        rw [i_one i (by omega), fa_or, nI_1]
        exact nx
  exact ⟨13, loop 12 0 rfl⟩
theorem p_findRarest {S : SS} {M : Mem} {Q : Int32 → Mem → Prop} {x y : Int32} (ps f : Nat) (hx : x = nI ps) (hy : y = nI f) (h : RepC S M) (ok : OKS S) (hps : ps < 2 ^ 12) (hf : f < 100) (hQ : Q (oI (rarest S ps f 12)) M) : w_X4_findRarest M x y Q := by
  subst hx hy
  have loop : ∀ d i, i + d = 12 → ∀ x3 x4 : Int32, x3 = oI (rarest S ps f i) → (∀ q, rarest S ps f i = some q → x4 = nI (cH S q 6)) → l_X4_findRarest_8 Q (d + 1) M (nI ps) (nI f) x3 x4 (nI i) := by
    intro d
    induction d with
    | zero =>
      intro i hi x3 x4 h3 h4
      have e : i = 12 := by omega
      subst e
      show b_X4_findRarest_8 Q _ M _ _ _ _ _
      unfold b_X4_findRarest_8
      exact pk_le 12 12 (fun _ => by rw [h3]; exact hQ) (fun z => absurd z (by omega))
    | succ d ih =>
      intro i hi x3 x4 h3 h4
      show b_X4_findRarest_8 Q (l_X4_findRarest_8 Q (d + 1)) M _ _ _ _ _
      unfold b_X4_findRarest_8 b_X4_findRarest_54 b_X4_findRarest_61
      have nx := ih (i + 1) (by omega)
      refine pk_le 12 i (fun z => absurd z (by omega)) (fun _ v hv => ?_)
      have hv : v = nI ((f + i) % 12) := hv.trans (by rw [nI_add]; exact pk_rem (a := f + i) (d := 12) (by omega) (by decide) (by decide))
      subst hv
      have hm : (f + i) % 12 < 12 := Nat.mod_lt _ (by omega)
      refine p_isIn ps ((f + i) % 12) (nI_l (lt12 hps)) rfl (Nat.lt_trans hps (by decide)) (by omega) (fun hb => t1 ?_) (fun hb => t0 ?_)
      · refine ⟨h.e 4, p_countHolders _ rfl h ok hm ?_⟩
        have c1 := cH_le S ((f + i) % 12) 6
        cases hr : rarest S ps f i with
        | none =>
          rw [hr] at h3
          refine ⟨fun _ v hv => ?_, fun z => absurd h3 z⟩
          rw [hv, nI_1]
          exact nx _ _ (by rw [rarest, if_pos hb, hr]; rfl) (fun q hq => by rw [rarest, if_pos hb, hr] at hq; cases hq; rfl)
        | some q =>
          rw [hr] at h3
          have h4 := h4 q hr
          have hq := rarest_lt hr
          have c2 := cH_le S q 6
          refine ⟨fun z => absurd (h3.symm.trans z) (oI_n1 (by omega)), fun _ => pk_le (cH S q 6) (cH S ((f + i) % 12) 6) (fun hle v hv => ?_) (fun hlt v hv => ?_) h4 rfl⟩
          · rw [hv, nI_1]
            exact nx _ _ (by rw [rarest, if_pos hb, hr, h3]; simp only; rw [if_neg (by omega)]) (fun q2 hq2 => by rw [rarest, if_pos hb, hr] at hq2; simp only at hq2; rw [if_neg (by omega)] at hq2; cases hq2; exact h4)
          · rw [hv, nI_1]
            exact nx _ _ (by rw [rarest, if_pos hb, hr]; simp only; rw [if_pos hlt]; rfl) (fun q2 hq2 => by rw [rarest, if_pos hb, hr] at hq2; simp only at hq2; rw [if_pos hlt] at hq2; cases hq2; rfl)
      · intro v hv
        rw [hv, nI_1]
        have e : rarest S ps f (i + 1) = rarest S ps f i := by rw [rarest, if_neg (by rw [hb]; decide)]
        exact nx _ _ (by rw [e]; exact h3) (by rw [e]; exact h4)
  exact ⟨13, loop 12 0 rfl _ _ rfl (fun q hq => by cases hq)⟩
theorem shown_lt {S : SS} (ok : OKS S) (i o : Nat) : shown S i o < 2 ^ 12 := by
  unfold shown
  split
  · decide
  · split
    · exact ok.held i
    · exact single_lt (fun q hq => (rarest_lt hq).1)
theorem p_findShown {S : SS} {M : Mem} {Q : Int32 → Mem → Prop} {i o : Nat} (h : RepC S M) (ok : OKS S) (hi : hr S i = true) (ho : hr S o = true) (hQ : Q (nI (shown S i o)) M) : w_X4_findShown M i o Q := by
  unfold w_X4_findShown
  rw [h.car hi, h.held hi, h.held ho, h.num ho, i_nd]
  have hc := ok.car i
  have h6 := ok.h6 ho
  unfold shown at hQ
  refine ⟨h.pe hi 2, h.pe ho 2, fun e => ?_, fun e => pk_eq (sCar S i) 0 (fun hz => ?_) (fun hz => ?_)⟩
  · rw [if_pos e] at hQ; exact hQ
  · rw [if_neg e, if_pos hz] at hQ
    exact ⟨h.pf hi 1, h.pe hi 3, hQ⟩
  · rw [if_neg e, if_neg hz] at hQ
    refine ⟨h.pf hi 1, h.pe hi 3, h.pf ho 1, h.pe ho 3, h.e 4, p_findRarest (nd (sHeld S i) (sHeld S o)) o rfl rfl h ok (nd_lt (ok.held i)) (by omega) ?_⟩
    cases hr : rarest S (nd (sHeld S i) (sHeld S o)) o 12 with
    | none => rw [hr] at hQ; exact ⟨fun _ => hQ, fun z => absurd rfl z⟩
    | some q =>
      rw [hr] at hQ
      have := (rarest_lt hr).1
      exact ⟨fun z => absurd z (oI_n1 (by omega)), fun _ => by show Q ((1 : Int32) <<< (nI q &&& 31)) M; rw [i_one q (by omega)]; exact hQ⟩
theorem wantS_lt (S : SS) : wantS S < 2 ^ 12 := bs_lt _ _
theorem p_findInterested {S : SS} {M : Mem} {Q : Int32 → Mem → Prop} {i : Nat} (h : RepC S M) (ok : OKS S) (hi : hr S i = true) (hQ : Q (nI (intr S i)) M) : w_X4_findInterested M i Q := by
  have hi6 := ok.h6 hi
  have loop : ∀ d j, j + d = 6 → l_X4_findInterested_21 Q (d + 1) M i (nI (wantS S)) (nI (bs (wantsB S i) j)) 6 (nI j) := by
    intro d
    induction d with
    | zero =>
      intro j hj
      have e : j = 6 := by omega
      subst e
      show b_X4_findInterested_21 Q _ M _ _ _ _ _
      unfold b_X4_findInterested_21
      exact pk_le 6 6 (fun _ => hQ) (fun z => absurd z (by omega))
    | succ d ih =>
      intro j hj
      show b_X4_findInterested_21 Q (l_X4_findInterested_21 Q (d + 1)) M _ _ _ _ _
      unfold b_X4_findInterested_21 b_X4_findInterested_95
      rw [cl j (by omega)]
      have nx := ih (j + 1) (by omega)
      have skip : wantsB S i j = false → ∀ v : Int32, v = nI j + 1 → l_X4_findInterested_21 Q (d + 1) M i (nI (wantS S)) (nI (bs (wantsB S i) j)) 6 v := fun hf v hv => by
        rw [bs_s0 hf] at nx
        rw [hv, nI_1]; exact nx
      refine pk_le 6 j (fun z => absurd z (by omega)) (fun _ => ⟨h.e 10, pk_in j 6 (by omega), fun hf => ?_, fun hf => ?_⟩)
      · rw [h.pres (by omega)] at hf
        refine ⟨h.pe hf 2, h.pe hi 2, fun e => skip (by unfold wantsB; simp [e]), fun e => ?_⟩
        refine p_isIn (sBan S j) i (by rw [h.ban hf]; exact nI_l (Nat.lt_trans (ok.ban j) (by decide))) (h.num hi) (Nat.lt_trans (ok.ban j) (by decide)) (by omega) (fun hb => t1 (skip (by unfold wantsB; simp [hb]))) (fun hb => t0 ⟨h.e 4, p_findShown h ok hi hf ?_⟩)
        rw [h.held hf, fa_and, i_nd, h.num hf]
        have hs := shown_lt ok i j
        have hlt : nd (shown S i j &&& wantS S) (sHeld S j) < 2 ^ 12 := nd_lt (and_lt hs)
        refine ⟨h.pe hf 2, h.pf hf 1, h.pe hf 3, pk_eq (nd (shown S i j &&& wantS S) (sHeld S j)) 0 (fun hz => skip (by unfold wantsB; simp [hz])) (fun hz v hv v2 hv2 => ?_)⟩
        subst hv hv2
        rw [bs_s1 (by unfold wantsB; simp [hf, e, hb, hz])] at nx
        rw [i_one j (by omega), fa_or, nI_1]
        exact nx
      · rw [h.pres (by omega)] at hf
        exact skip (by unfold wantsB; simp [hf])
  exact ⟨h.e 4, p_wanted h ok ⟨h.e 4, h.f 0, h.e 10, 7, loop 6 0 rfl⟩⟩
