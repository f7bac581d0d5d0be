def rm_X4_blocksOfPiece : Room := { frames := 0, cells := 0, slots := 0, locals := 0 }
set_option maxHeartbeats 4000000 in
set_option maxRecDepth 100000 in
theorem c_X4_blocksOfPiece (l : Launch) (E : GE) (base : Nat) (M : Mem) (ad : AD) (a0 : Int32) (Q : Int64 → Mem → Prop) (hw : w_X4_blocksOfPiece M a0 Q) : Con l yX4_blocksOfPiece cX4_blocksOfPiece 1 (some .long) rm_X4_blocksOfPiece 0 0 E base [.int a0] M ad (QcL E base (fun r M1 ad1 => Q r M1 ∧ ad = ad1)) noX := by
  refine con_start (by decide) (Nat.le_of_ble_eq_true rfl) ?_
  intro p e s m args below meth c ls QQ hQQ CT hnx hW hl
  obtain ⟨⟨hx, hb, hml, hown, hts⟩, hr, hlocks, hnm, hT⟩ := CT
  have hS : va_S (fun q : Nat => base ≤ q) s.heap s.heap [] := va_S.rf
  have hl : lv_has ls 1 [(0, .int a0)] := hl
  unfold w_X4_blocksOfPiece at hw
  obtain ⟨H, hH⟩ : ∃ z, z = s.heap := ⟨_, rfl⟩
  obtain ⟨locs, hlo⟩ : ∃ z : List Loc, z = [] := ⟨_, rfl⟩
  have hS : va_S (fun q : Nat => base ≤ q) s.heap H locs := by rw [hlo, hH]; exact hS
  have hW : Wd E base M ad H := by rw [hH]; exact hW
  rw [show W p l e rm_X4_blocksOfPiece s m args below meth c s.heap [] 0 0 QQ (F0 m 0 ls []) = W p l e rm_X4_blocksOfPiece s m args below meth c H locs 0 0 QQ (F0 m 0 ls []) by rw [hlo, hH]]
  refine lv_ldc2 hx hb hown (hts _ k_130) dX4_blocksOfPiece_0 ?_
  refine lv_iload_n hx hb dX4_blocksOfPiece_3 rfl (lv_at hl 0 rfl) ?_
  refine lv_iconst (v := 4) hx hb dX4_blocksOfPiece_4 (by decide) ?_
  refine lv_imul hx hb dX4_blocksOfPiece_5 ?_
  refine lv_lshl hx hb dX4_blocksOfPiece_6 rfl ?_
  rw [← hQQ]
  exact e_L hx hb hr hlocks hW hS (Nat.le_of_ble_eq_true rfl) (Nat.le_of_ble_eq_true rfl) dX4_blocksOfPiece_7 ⟨hw, rfl⟩
def rm_X4_blocksOf : Room := { frames := 1, cells := 0, slots := 0, locals := 22 }
set_option maxHeartbeats 4000000 in
set_option maxRecDepth 100000 in
theorem c_X4_blocksOf (l : Launch) (E : GE) (base : Nat) (M : Mem) (ad : AD) (a0 : Int32) (Q : Int64 → Mem → Prop) (hw : w_X4_blocksOf M a0 Q) : Con l yX4_blocksOf cX4_blocksOf 4 (some .long) rm_X4_blocksOf 0 0 E base [.int a0] M ad (QcL E base (fun r M1 ad1 => Q r M1 ∧ ad = ad1)) noX := by
  refine con_start (by decide) (Nat.le_of_ble_eq_true rfl) ?_
  intro p e s m args below meth c ls QQ hQQ CT hnx hW hl
  obtain ⟨⟨hx, hb, hml, hown, hts⟩, hr, hlocks, hnm, hT⟩ := CT
  have hS : va_S (fun q : Nat => base ≤ q) s.heap s.heap [] := va_S.rf
  have hl : lv_has ls 4 [(0, .int a0)] := hl
  have L_26 : ∀ (k4 : Mem → Int32 → Int64 → Int32 → Prop) (K4 : ∀ (M : Mem) (x0 : Int32) (x1 : Int64) (x3 : Int32), k4 M x0 x1 x3 → WL p l e rm_X4_blocksOf s m args below meth c QQ E base 4 M ad 4 [(0, .int x0), (1, .long x1), (3, .int x3)] [] 0 0) (M : Mem) (x0 : Int32) (x1 : Int64) (x3 : Int32), b_X4_blocksOf_26 k4 Q M x0 x1 x3 → WL p l e rm_X4_blocksOf s m args below meth c QQ E base 4 M ad 26 [(0, .int x0), (1, .long x1), (3, .int x3)] [] 0 0 := by
    intro k4 K4 M x0 x1 x3 hw H locs ls hW hS hl
    unfold b_X4_blocksOf_26 at hw
    obtain ⟨v_7, ev_7⟩ : ∃ y : Int32, y = x3 + 1 := ⟨_, rfl⟩
    have hw := hw v_7 ev_7
    refine lv_iinc (v := v_7) (lv' := [(3, .int v_7), (0, .int x0), (1, .long x1)]) hx hb dX4_blocksOf_26 hl (k := 2) rfl (by rw [ev_7]; rfl) (by decide) rfl (fun ls hl => ?_)
    refine lv_goto (tgt := 4) hx hb dX4_blocksOf_29 (by decide) ?_
    exact K4 M x0 x1 v_7 hw H locs ls hW hS (lv_sub hl [1, 2, 0] rfl)
  have L_4 : ∀ (n : Nat) (M : Mem) (x0 : Int32) (x1 : Int64) (x3 : Int32), l_X4_blocksOf_4 Q n M x0 x1 x3 → WL p l e rm_X4_blocksOf s m args below meth c QQ E base 4 M ad 4 [(0, .int x0), (1, .long x1), (3, .int x3)] [] 0 0 := by
    intro n
    induction n with
    | zero => intro M x0 x1 x3 hw; exact False.elim hw
    | succ n K4 =>
      intro M x0 x1 x3 hw H locs ls hW hS hl
      obtain ⟨k4, hk4⟩ : ∃ z, z = l_X4_blocksOf_4 Q n := ⟨_, rfl⟩
      have hw : b_X4_blocksOf_4 Q k4 M x0 x1 x3 := by rw [hk4]; exact hw
      rw [← hk4] at K4
      unfold b_X4_blocksOf_4 at hw
      refine lv_iload_n hx hb dX4_blocksOf_4 rfl (lv_at hl 2 rfl) ?_
      refine lv_bipush (v := 12) hx hb dX4_blocksOf_5 (by decide) ?_
      refine lv_icmp_ge (tgt := 32) hx hb dX4_blocksOf_7 (by decide) (fun c_1 => ?_) (fun c_1 => ?_)
      · have hw := hw.1 c_1
        refine lv_lload_n hx hb dX4_blocksOf_32 rfl (lv_at hl 1 rfl) ?_
        rw [← hQQ]
        exact e_L hx hb hr hlocks hW hS (Nat.le_of_ble_eq_true rfl) (Nat.le_of_ble_eq_true rfl) dX4_blocksOf_33 ⟨hw, rfl⟩
      · have hw := hw.2 c_1
        refine lv_iload_n hx hb dX4_blocksOf_10 rfl (lv_at hl 0 rfl) ?_
        refine lv_i2l hx hb dX4_blocksOf_11 rfl ?_
        refine lv_iload_n hx hb dX4_blocksOf_12 rfl (lv_at hl 2 rfl) ?_
        refine k_I (rn_S (As := [.long x0.toInt64, .int x3]) (rest := []) ⟨hx, hb, hml, hown, hts⟩ hT hW hS hl (c_X4_isIn l E base M ad x0.toInt64 x3 _ hw) cy_X4_isIn k_17 k_18 rfl rfl ⟨(Nat.le_of_ble_eq_true rfl), (Nat.le_of_ble_eq_true rfl)⟩ rfl rfl (Nat.le_of_ble_eq_true rfl) dX4_blocksOf_13 ⟨(Nat.le_of_ble_eq_true rfl), (Nat.le_of_ble_eq_true rfl)⟩) hS kx_no (fun r_5 M_3 ad_4 H locs hP hW hS => ?_)
        obtain ⟨hw, rfl⟩ := hP
        refine lv_if_eq (tgt := 26) hx hb dX4_blocksOf_16 (by decide) (fun c_6 => ?_) (fun c_6 => ?_)
        · have hw := hw.1 c_6
          exact L_26 k4 K4 M_3 x0 x1 x3 hw H locs ls hW hS (lv_sub hl [0, 1, 2] rfl)
        · have hw := hw.2 c_6
          refine lv_lload_n hx hb dX4_blocksOf_19 rfl (lv_at hl 1 rfl) ?_
          refine lv_iload_n hx hb dX4_blocksOf_20 rfl (lv_at hl 2 rfl) ?_
          refine k_L (rn_S (As := [.int x3]) (rest := [.long x1]) ⟨hx, hb, hml, hown, hts⟩ hT hW hS hl (c_X4_blocksOfPiece l E base M_3 ad x3 _ hw) cy_X4_blocksOfPiece k_131 k_132 rfl rfl ⟨(Nat.le_of_ble_eq_true rfl), (Nat.le_of_ble_eq_true rfl)⟩ rfl rfl (Nat.le_of_ble_eq_true rfl) dX4_blocksOf_21 ⟨(Nat.le_of_ble_eq_true rfl), (Nat.le_of_ble_eq_true rfl)⟩) hS kx_no (fun r_11 M_9 ad_10 H locs hP hW hS => ?_)
          obtain ⟨hw, rfl⟩ := hP
          refine lv_lor hx hb dX4_blocksOf_24 ?_
          refine lv_topl (fun v_12 ev_12 => ?_)
          have hw := hw v_12 ev_12
          refine lv_lstore_n (lv' := [(1, .long v_12), (0, .int x0), (3, .int x3)]) hx hb dX4_blocksOf_25 rfl hl (by decide) rfl (fun ls hl => ?_)
          exact L_26 k4 K4 M_9 x0 v_12 x3 hw H locs ls hW hS (lv_sub hl [1, 0, 2] rfl)
  unfold w_X4_blocksOf at hw
  obtain ⟨H, hH⟩ : ∃ z, z = s.heap := ⟨_, rfl⟩
  obtain ⟨locs, hlo⟩ : ∃ z : List Loc, z = [] := ⟨_, rfl⟩
  have hS : va_S (fun q : Nat => base ≤ q) s.heap H locs := by rw [hlo, hH]; exact hS
  have hW : Wd E base M ad H := by rw [hH]; exact hW
  rw [show W p l e rm_X4_blocksOf s m args below meth c s.heap [] 0 0 QQ (F0 m 0 ls []) = W p l e rm_X4_blocksOf s m args below meth c H locs 0 0 QQ (F0 m 0 ls []) by rw [hlo, hH]]
  refine lv_lconst (v := 0) hx hb dX4_blocksOf_0 (by decide) ?_
  refine lv_lstore_n (lv' := [(1, .long 0), (0, .int a0)]) hx hb dX4_blocksOf_1 rfl hl (by decide) rfl (fun ls hl => ?_)
  refine lv_iconst (v := 0) hx hb dX4_blocksOf_2 (by decide) ?_
  refine lv_istore_n (lv' := [(3, .int 0), (1, .long 0), (0, .int a0)]) hx hb dX4_blocksOf_3 rfl hl (by decide) rfl (fun ls hl => ?_)
  obtain ⟨n9, hw⟩ := hw
  exact L_4 n9 M a0 0 0 hw H locs ls hW hS (lv_sub hl [2, 1, 0] rfl)
def rm_X4_isBegun : Room := { frames := 1, cells := 0, slots := 0, locals := 20 }
set_option maxHeartbeats 4000000 in
set_option maxRecDepth 100000 in
theorem c_X4_isBegun (l : Launch) (E : GE) (base : Nat) (M : Mem) (ad : AD) (a0 : Nat) (a1 : Int32) (Q : Int32 → Mem → Prop) (hw : w_X4_isBegun M a0 a1 Q) : Con l yX4_isBegun cX4_isBegun 2 (some .boolean) rm_X4_isBegun 0 0 E base [.ref (ad 2 a0), .int a1] M ad (QcI E base (fun r M1 ad1 => Q r M1 ∧ ad = ad1)) noX := by
  refine con_start (by decide) (Nat.le_of_ble_eq_true rfl) ?_
  intro p e s m args below meth c ls QQ hQQ CT hnx hW hl
  obtain ⟨⟨hx, hb, hml, hown, hts⟩, hr, hlocks, hnm, hT⟩ := CT
  have hS : va_S (fun q : Nat => base ≤ q) s.heap s.heap [] := va_S.rf
  have hl : lv_has ls 2 [(0, .ref (ad 2 a0)), (1, .int a1)] := hl
  unfold w_X4_isBegun at hw
  obtain ⟨H, hH⟩ : ∃ z, z = s.heap := ⟨_, rfl⟩
  obtain ⟨locs, hlo⟩ : ∃ z : List Loc, z = [] := ⟨_, rfl⟩
  have hS : va_S (fun q : Nat => base ≤ q) s.heap H locs := by rw [hlo, hH]; exact hS
  have hW : Wd E base M ad H := by rw [hH]; exact hW
  rw [show W p l e rm_X4_isBegun s m args below meth c s.heap [] 0 0 QQ (F0 m 0 ls []) = W p l e rm_X4_isBegun s m args below meth c H locs 0 0 QQ (F0 m 0 ls []) by rw [hlo, hH]]
  refine lv_aload_n hx hb dX4_isBegun_0 rfl (lv_at hl 0 rfl) ?_
  obtain ⟨g_1, hw⟩ := hw
  obtain ⟨g_2, hw⟩ := hw
  refine r_getR (κ2 := 3) (i2 := a0) hx hb hts hown hT.1 hW clX2 1 (by decide) (hts _ k_15) (fun _ h9 => h9) 3 rfl rfl g_1 g_2 dX4_isBegun_1 ?_
  obtain ⟨g_3, hw⟩ := hw
  refine r_getL hx hb hts hown hT.1 hW clX3 1 (by decide) (hts _ k_133) (fun _ h9 => h9) rfl g_3 dX4_isBegun_4 ?_
  refine lv_aload_n hx hb dX4_isBegun_7 rfl (lv_at hl 0 rfl) ?_
  obtain ⟨g_4, hw⟩ := hw
  refine r_getR (κ2 := 0) (i2 := a0) hx hb hts hown hT.1 hW clX2 3 (by decide) (hts _ k_122) (fun _ h9 => h9) 0 rfl rfl g_1 g_4 dX4_isBegun_8 ?_
  obtain ⟨g_5, hw⟩ := hw
  refine r_getL hx hb hts hown hT.1 hW clX0 3 (by decide) (hts _ k_134) (fun _ h9 => h9) rfl g_5 dX4_isBegun_11 ?_
  refine lv_lor hx hb dX4_isBegun_14 ?_
  refine lv_iload_n hx hb dX4_isBegun_15 rfl (lv_at hl 1 rfl) ?_
  refine k_L (rn_S (As := [.int a1]) (rest := [.long ((mL M 3 a0 1) ||| (mL M 0 a0 3))]) ⟨hx, hb, hml, hown, hts⟩ hT hW hS hl (c_X4_blocksOfPiece l E base M ad a1 _ hw) cy_X4_blocksOfPiece k_131 k_132 rfl rfl ⟨(Nat.le_of_ble_eq_true rfl), (Nat.le_of_ble_eq_true rfl)⟩ rfl rfl (Nat.le_of_ble_eq_true rfl) dX4_isBegun_16 ⟨(Nat.le_of_ble_eq_true rfl), (Nat.le_of_ble_eq_true rfl)⟩) hS kx_no (fun r_9 M_7 ad_8 H locs hP hW hS => ?_)
  obtain ⟨hw, rfl⟩ := hP
  refine lv_land hx hb dX4_isBegun_19 ?_
  refine lv_lconst (v := 0) hx hb dX4_isBegun_20 (by decide) ?_
  refine W.lcmp hx hb dX4_isBegun_21 ?_
  refine lv_if_eq (tgt := 29) hx hb dX4_isBegun_22 (by decide) (fun c_10 => ?_) (fun c_10 => ?_)
  · have hw := hw.1 c_10
    refine lv_iconst (v := 0) hx hb dX4_isBegun_29 (by decide) ?_
    rw [← hQQ]
    exact e_Z hx hb hr hlocks hW hS (Nat.le_of_ble_eq_true rfl) (Nat.le_of_ble_eq_true rfl) dX4_isBegun_30 (by decide) ⟨hw, rfl⟩
  · have hw := hw.2 c_10
    refine lv_iconst (v := 1) hx hb dX4_isBegun_25 (by decide) ?_
    refine lv_goto (tgt := 30) hx hb dX4_isBegun_26 (by decide) ?_
    rw [← hQQ]
    exact e_Z hx hb hr hlocks hW hS (Nat.le_of_ble_eq_true rfl) (Nat.le_of_ble_eq_true rfl) dX4_isBegun_30 (by decide) ⟨hw, rfl⟩
def rm_X4_isBetter : Room := { frames := 2, cells := 0, slots := 0, locals := 41 }
set_option maxHeartbeats 4000000 in
set_option maxRecDepth 100000 in
theorem c_X4_isBetter (l : Launch) (E : GE) (base : Nat) (M : Mem) (ad : AD) (a1 : Nat) (a2 : Int32) (a3 : Int32) (Q : Int32 → Mem → Prop) (hw : w_X4_isBetter M a1 a2 a3 Q) : Con l yX4_isBetter cX4_isBetter 5 (some .boolean) rm_X4_isBetter 0 0 E base [.ref (ad 4 0), .ref (ad 2 a1), .int a2, .int a3] M ad (QcI E base (fun r M1 ad1 => Q r M1 ∧ ad = ad1)) noX := by
  refine con_start (by decide) (Nat.le_of_ble_eq_true rfl) ?_
  intro p e s m args below meth c ls QQ hQQ CT hnx hW hl
  obtain ⟨⟨hx, hb, hml, hown, hts⟩, hr, hlocks, hnm, hT⟩ := CT
  have hS : va_S (fun q : Nat => base ≤ q) s.heap s.heap [] := va_S.rf
  have hl : lv_has ls 5 [(0, .ref (ad 4 0)), (1, .ref (ad 2 a1)), (2, .int a2), (3, .int a3)] := hl
  have L_99 : ∀ (M : Mem) (x2 : Int32) (x3 : Int32), b_X4_isBetter_99 Q M x2 x3 → WL p l e rm_X4_isBetter s m args below meth c QQ E base 5 M ad 99 [(2, .int x2), (3, .int x3)] [] 0 0 := by
    intro M x2 x3 hw H locs ls hW hS hl
    unfold b_X4_isBetter_99 at hw
    refine lv_iload_n hx hb dX4_isBetter_99 rfl (lv_at hl 0 rfl) ?_
    refine lv_iload_n hx hb dX4_isBetter_100 rfl (lv_at hl 1 rfl) ?_
    refine lv_icmp_ge (tgt := 108) hx hb dX4_isBetter_101 (by decide) (fun c_18 => ?_) (fun c_18 => ?_)
    · have hw := hw.1 c_18
      refine lv_iconst (v := 0) hx hb dX4_isBetter_108 (by decide) ?_
      rw [← hQQ]
      exact e_Z hx hb hr hlocks hW hS (Nat.le_of_ble_eq_true rfl) (Nat.le_of_ble_eq_true rfl) dX4_isBetter_109 (by decide) ⟨hw, rfl⟩
    · have hw := hw.2 c_18
      refine lv_iconst (v := 1) hx hb dX4_isBetter_104 (by decide) ?_
      refine lv_goto (tgt := 109) hx hb dX4_isBetter_105 (by decide) ?_
      rw [← hQQ]
      exact e_Z hx hb hr hlocks hW hS (Nat.le_of_ble_eq_true rfl) (Nat.le_of_ble_eq_true rfl) dX4_isBetter_109 (by decide) ⟨hw, rfl⟩
  unfold w_X4_isBetter at hw
  obtain ⟨H, hH⟩ : ∃ z, z = s.heap := ⟨_, rfl⟩
  obtain ⟨locs, hlo⟩ : ∃ z : List Loc, z = [] := ⟨_, rfl⟩
  have hS : va_S (fun q : Nat => base ≤ q) s.heap H locs := by rw [hlo, hH]; exact hS
  have hW : Wd E base M ad H := by rw [hH]; exact hW
  rw [show W p l e rm_X4_isBetter s m args below meth c s.heap [] 0 0 QQ (F0 m 0 ls []) = W p l e rm_X4_isBetter s m args below meth c H locs 0 0 QQ (F0 m 0 ls []) by rw [hlo, hH]]
  refine lv_aload_n hx hb dX4_isBetter_0 rfl (lv_at hl 1 rfl) ?_
  refine lv_iload_n hx hb dX4_isBetter_1 rfl (lv_at hl 2 rfl) ?_
  refine k_I (rn_S (As := [.ref (ad 2 a1), .int a2]) (rest := []) ⟨hx, hb, hml, hown, hts⟩ hT hW hS hl (c_X4_isBegun l E base M ad a1 a2 _ hw) cy_X4_isBegun k_135 k_136 rfl rfl ⟨(Nat.le_of_ble_eq_true rfl), (Nat.le_of_ble_eq_true rfl)⟩ rfl rfl (Nat.le_of_ble_eq_true rfl) dX4_isBetter_2 ⟨(Nat.le_of_ble_eq_true rfl), (Nat.le_of_ble_eq_true rfl)⟩) hS kx_no (fun r_4 M_2 ad_3 H locs hP hW hS => ?_)
  obtain ⟨hw, rfl⟩ := hP
  refine lv_istore (lv' := [(4, .int r_4), (0, .ref (ad 4 0)), (1, .ref (ad 2 a1)), (2, .int a2), (3, .int a3)]) hx hb dX4_isBetter_5 hl (by decide) rfl (fun ls hl => ?_)
  refine lv_iload hx hb dX4_isBetter_7 (lv_at hl 0 rfl) ?_
  refine lv_aload_n hx hb dX4_isBetter_9 rfl (lv_at hl 2 rfl) ?_
  refine lv_iload_n hx hb dX4_isBetter_10 rfl (lv_at hl 4 rfl) ?_
  refine k_I (rn_S (As := [.ref (ad 2 a1), .int a3]) (rest := [.int r_4]) ⟨hx, hb, hml, hown, hts⟩ hT hW hS hl (c_X4_isBegun l E base M_2 ad a1 a3 _ hw) cy_X4_isBegun k_135 k_136 rfl rfl ⟨(Nat.le_of_ble_eq_true rfl), (Nat.le_of_ble_eq_true rfl)⟩ rfl rfl (Nat.le_of_ble_eq_true rfl) dX4_isBetter_11 ⟨(Nat.le_of_ble_eq_true rfl), (Nat.le_of_ble_eq_true rfl)⟩) hS kx_no (fun r_8 M_6 ad_7 H locs hP hW hS => ?_)
  obtain ⟨hw, rfl⟩ := hP
  refine lv_icmp_eq (tgt := 20) hx hb dX4_isBetter_14 (by decide) (fun c_9 => ?_) (fun c_9 => ?_)
  · have hw := hw.1 c_9
    refine lv_aload_n hx hb dX4_isBetter_20 rfl (lv_at hl 1 rfl) ?_
    obtain ⟨g_10, hw⟩ := hw
    obtain ⟨g_11, hw⟩ := hw
    refine r_getR (κ2 := 11) (i2 := 0) hx hb hts hown hT.1 hW clX4 1 (by decide) (hts _ k_7) (fun _ h9 => h9) 11 rfl rfl g_10 g_11 dX4_isBetter_21 ?_
    refine lv_iload_n hx hb dX4_isBetter_24 rfl (lv_at hl 3 rfl) ?_
    obtain ⟨g_12, hw⟩ := hw
    obtain ⟨g_13, hw⟩ := hw
    refine r_iald hx hb hT.1 hW (by decide) rfl (fun _ => rfl) 12 rfl g_13 g_12 dX4_isBetter_25 ?_
    refine lv_aload_n hx hb dX4_isBetter_26 rfl (lv_at hl 1 rfl) ?_
    refine r_getR (κ2 := 11) (i2 := 0) hx hb hts hown hT.1 hW clX4 1 (by decide) (hts _ k_7) (fun _ h9 => h9) 11 rfl rfl g_10 g_11 dX4_isBetter_27 ?_
    refine lv_iload_n hx hb dX4_isBetter_30 rfl (lv_at hl 4 rfl) ?_
    obtain ⟨g_14, hw⟩ := hw
    refine r_iald hx hb hT.1 hW (by decide) rfl (fun _ => rfl) 12 rfl g_14 g_12 dX4_isBetter_31 ?_
    refine lv_icmp_eq (tgt := 56) hx hb dX4_isBetter_32 (by decide) (fun c_15 => ?_) (fun c_15 => ?_)
    · have hw := hw.1 c_15
      refine lv_aload_n hx hb dX4_isBetter_56 rfl (lv_at hl 2 rfl) ?_
      obtain ⟨g_16, hw⟩ := hw
      refine r_getI hx hb hts hown hT.1 hW clX2 5 (by decide) (hts _ k_92) (fun _ h9 => h9) rfl g_16 dX4_isBetter_57 ?_
      refine lv_if_ne (tgt := 99) hx hb dX4_isBetter_60 (by decide) (fun c_17 => ?_) (fun c_17 => ?_)
      · have hw := hw.2 c_17
        exact L_99 M_6 a2 a3 hw H locs ls hW hS (lv_sub hl [3, 4] rfl)
      · have hw := hw.1 c_17
        refine lv_aload_n hx hb dX4_isBetter_63 rfl (lv_at hl 1 rfl) ?_
        obtain ⟨g_19, hw⟩ := hw
        refine r_getR (κ2 := 12) (i2 := 0) hx hb hts hown hT.1 hW clX4 2 (by decide) (hts _ k_8) (fun _ h9 => h9) 12 rfl rfl g_10 g_19 dX4_isBetter_64 ?_
        refine lv_iload_n hx hb dX4_isBetter_67 rfl (lv_at hl 3 rfl) ?_
        obtain ⟨g_20, hw⟩ := hw
        obtain ⟨g_21, hw⟩ := hw
        refine r_iald hx hb hT.1 hW (by decide) rfl (fun _ => rfl) 12 rfl g_21 g_20 dX4_isBetter_68 ?_
        refine lv_aload_n hx hb dX4_isBetter_69 rfl (lv_at hl 1 rfl) ?_
        refine r_getR (κ2 := 12) (i2 := 0) hx hb hts hown hT.1 hW clX4 2 (by decide) (hts _ k_8) (fun _ h9 => h9) 12 rfl rfl g_10 g_19 dX4_isBetter_70 ?_
        refine lv_iload_n hx hb dX4_isBetter_73 rfl (lv_at hl 4 rfl) ?_
        obtain ⟨g_22, hw⟩ := hw
        refine r_iald hx hb hT.1 hW (by decide) rfl (fun _ => rfl) 12 rfl g_22 g_20 dX4_isBetter_74 ?_
        refine lv_icmp_eq (tgt := 99) hx hb dX4_isBetter_75 (by decide) (fun c_23 => ?_) (fun c_23 => ?_)
        · have hw := hw.1 c_23
          exact L_99 M_6 a2 a3 hw H locs ls hW hS (lv_sub hl [3, 4] rfl)
        · have hw := hw.2 c_23
          refine lv_aload_n hx hb dX4_isBetter_78 rfl (lv_at hl 1 rfl) ?_
          refine r_getR (κ2 := 12) (i2 := 0) hx hb hts hown hT.1 hW clX4 2 (by decide) (hts _ k_8) (fun _ h9 => h9) 12 rfl rfl g_10 g_19 dX4_isBetter_79 ?_
          refine lv_iload_n hx hb dX4_isBetter_82 rfl (lv_at hl 3 rfl) ?_
          obtain ⟨g_24, hw⟩ := hw
          refine r_iald hx hb hT.1 hW (by decide) rfl (fun _ => rfl) 12 rfl g_24 g_20 dX4_isBetter_83 ?_
          refine lv_aload_n hx hb dX4_isBetter_84 rfl (lv_at hl 1 rfl) ?_
          refine r_getR (κ2 := 12) (i2 := 0) hx hb hts hown hT.1 hW clX4 2 (by decide) (hts _ k_8) (fun _ h9 => h9) 12 rfl rfl g_10 g_19 dX4_isBetter_85 ?_
          refine lv_iload_n hx hb dX4_isBetter_88 rfl (lv_at hl 4 rfl) ?_
          obtain ⟨g_25, hw⟩ := hw
          refine r_iald hx hb hT.1 hW (by decide) rfl (fun _ => rfl) 12 rfl g_25 g_20 dX4_isBetter_89 ?_
          refine lv_icmp_ge (tgt := 97) hx hb dX4_isBetter_90 (by decide) (fun c_26 => ?_) (fun c_26 => ?_)
          · have hw := hw.1 c_26
            refine lv_iconst (v := 0) hx hb dX4_isBetter_97 (by decide) ?_
            rw [← hQQ]
            exact e_Z hx hb hr hlocks hW hS (Nat.le_of_ble_eq_true rfl) (Nat.le_of_ble_eq_true rfl) dX4_isBetter_98 (by decide) ⟨hw, rfl⟩
          · have hw := hw.2 c_26
            refine lv_iconst (v := 1) hx hb dX4_isBetter_93 (by decide) ?_
            refine lv_goto (tgt := 98) hx hb dX4_isBetter_94 (by decide) ?_
            rw [← hQQ]
            exact e_Z hx hb hr hlocks hW hS (Nat.le_of_ble_eq_true rfl) (Nat.le_of_ble_eq_true rfl) dX4_isBetter_98 (by decide) ⟨hw, rfl⟩
    · have hw := hw.2 c_15
      refine lv_aload_n hx hb dX4_isBetter_35 rfl (lv_at hl 1 rfl) ?_
      refine r_getR (κ2 := 11) (i2 := 0) hx hb hts hown hT.1 hW clX4 1 (by decide) (hts _ k_7) (fun _ h9 => h9) 11 rfl rfl g_10 g_11 dX4_isBetter_36 ?_
      refine lv_iload_n hx hb dX4_isBetter_39 rfl (lv_at hl 3 rfl) ?_
      obtain ⟨g_27, hw⟩ := hw
      refine r_iald hx hb hT.1 hW (by decide) rfl (fun _ => rfl) 12 rfl g_27 g_12 dX4_isBetter_40 ?_
      refine lv_aload_n hx hb dX4_isBetter_41 rfl (lv_at hl 1 rfl) ?_
      refine r_getR (κ2 := 11) (i2 := 0) hx hb hts hown hT.1 hW clX4 1 (by decide) (hts _ k_7) (fun _ h9 => h9) 11 rfl rfl g_10 g_11 dX4_isBetter_42 ?_
      refine lv_iload_n hx hb dX4_isBetter_45 rfl (lv_at hl 4 rfl) ?_
      obtain ⟨g_28, hw⟩ := hw
      refine r_iald hx hb hT.1 hW (by decide) rfl (fun _ => rfl) 12 rfl g_28 g_12 dX4_isBetter_46 ?_
      refine lv_icmp_le (tgt := 54) hx hb dX4_isBetter_47 (by decide) (fun c_29 => ?_) (fun c_29 => ?_)
      · have hw := hw.1 c_29
        refine lv_iconst (v := 0) hx hb dX4_isBetter_54 (by decide) ?_
        rw [← hQQ]
        exact e_Z hx hb hr hlocks hW hS (Nat.le_of_ble_eq_true rfl) (Nat.le_of_ble_eq_true rfl) dX4_isBetter_55 (by decide) ⟨hw, rfl⟩
      · have hw := hw.2 c_29
        refine lv_iconst (v := 1) hx hb dX4_isBetter_50 (by decide) ?_
        refine lv_goto (tgt := 55) hx hb dX4_isBetter_51 (by decide) ?_
        rw [← hQQ]
        exact e_Z hx hb hr hlocks hW hS (Nat.le_of_ble_eq_true rfl) (Nat.le_of_ble_eq_true rfl) dX4_isBetter_55 (by decide) ⟨hw, rfl⟩
  · have hw := hw.2 c_9
    refine lv_iload hx hb dX4_isBetter_17 (lv_at hl 0 rfl) ?_
    obtain ⟨g_30, hw⟩ := hw
    rw [← hQQ]
    exact e_Z hx hb hr hlocks hW hS (Nat.le_of_ble_eq_true rfl) (Nat.le_of_ble_eq_true rfl) dX4_isBetter_19 g_30 ⟨hw, rfl⟩
def rm_X4_findBestPiece : Room := { frames := 3, cells := 0, slots := 0, locals := 65 }
set_option maxHeartbeats 4000000 in
set_option maxRecDepth 100000 in
theorem c_X4_findBestPiece (l : Launch) (E : GE) (base : Nat) (M : Mem) (ad : AD) (a1 : Nat) (a2 : Int64) (Q : Int32 → Mem → Prop) (hw : w_X4_findBestPiece M a1 a2 Q) : Con l yX4_findBestPiece cX4_findBestPiece 6 (some .int) rm_X4_findBestPiece 0 0 E base [.ref (ad 4 0), .ref (ad 2 a1), .long a2] M ad (QcI E base (fun r M1 ad1 => Q r M1 ∧ ad = ad1)) noX := by
  refine con_start (by decide) (Nat.le_of_ble_eq_true rfl) ?_
  intro p e s m args below meth c ls QQ hQQ CT hnx hW hl
  obtain ⟨⟨hx, hb, hml, hown, hts⟩, hr, hlocks, hnm, hT⟩ := CT
  have hS : va_S (fun q : Nat => base ≤ q) s.heap s.heap [] := va_S.rf
  have hl : lv_has ls 6 [(0, .ref (ad 4 0)), (1, .ref (ad 2 a1)), (2, .long a2)] := hl
  have L_47 : ∀ (k6 : Mem → Nat → Int64 → Int32 → Int32 → Prop) (K6 : ∀ (M : Mem) (x1 : Nat) (x2 : Int64) (x4 : Int32) (x5 : Int32), k6 M x1 x2 x4 x5 → WL p l e rm_X4_findBestPiece s m args below meth c QQ E base 6 M ad 6 [(0, .ref (ad 4 0)), (1, .ref (ad 2 x1)), (2, .long x2), (4, .int x4), (5, .int x5)] [] 0 0) (M : Mem) (x1 : Nat) (x2 : Int64) (x4 : Int32) (x5 : Int32), b_X4_findBestPiece_47 k6 Q M x1 x2 x4 x5 → WL p l e rm_X4_findBestPiece s m args below meth c QQ E base 6 M ad 47 [(0, .ref (ad 4 0)), (1, .ref (ad 2 x1)), (2, .long x2), (4, .int x4), (5, .int x5)] [] 0 0 := by
    intro k6 K6 M x1 x2 x4 x5 hw H locs ls hW hS hl
    unfold b_X4_findBestPiece_47 at hw
    obtain ⟨v_7, ev_7⟩ : ∃ y : Int32, y = x5 + 1 := ⟨_, rfl⟩
    have hw := hw v_7 ev_7
    refine lv_iinc (v := v_7) (lv' := [(5, .int v_7), (0, .ref (ad 4 0)), (1, .ref (ad 2 x1)), (2, .long x2), (4, .int x4)]) hx hb dX4_findBestPiece_47 hl (k := 4) rfl (by rw [ev_7]; rfl) (by decide) rfl (fun ls hl => ?_)
    refine lv_goto (tgt := 6) hx hb dX4_findBestPiece_50 (by decide) ?_
    exact K6 M x1 x2 x4 v_7 hw H locs ls hW hS (lv_sub hl [1, 2, 3, 4, 0] rfl)
  have L_43 : ∀ (k6 : Mem → Nat → Int64 → Int32 → Int32 → Prop) (K6 : ∀ (M : Mem) (x1 : Nat) (x2 : Int64) (x4 : Int32) (x5 : Int32), k6 M x1 x2 x4 x5 → WL p l e rm_X4_findBestPiece s m args below meth c QQ E base 6 M ad 6 [(0, .ref (ad 4 0)), (1, .ref (ad 2 x1)), (2, .long x2), (4, .int x4), (5, .int x5)] [] 0 0) (M : Mem) (x1 : Nat) (x2 : Int64) (x5 : Int32), b_X4_findBestPiece_43 k6 Q M x1 x2 x5 → WL p l e rm_X4_findBestPiece s m args below meth c QQ E base 6 M ad 43 [(0, .ref (ad 4 0)), (1, .ref (ad 2 x1)), (2, .long x2), (5, .int x5)] [] 0 0 := by
    intro k6 K6 M x1 x2 x5 hw H locs ls hW hS hl
    unfold b_X4_findBestPiece_43 at hw
    refine lv_iload hx hb dX4_findBestPiece_43 (lv_at hl 3 rfl) ?_
    refine lv_istore (lv' := [(4, .int x5), (0, .ref (ad 4 0)), (1, .ref (ad 2 x1)), (2, .long x2), (5, .int x5)]) hx hb dX4_findBestPiece_45 hl (by decide) rfl (fun ls hl => ?_)
    exact L_47 k6 K6 M x1 x2 x5 x5 hw H locs ls hW hS (lv_sub hl [1, 2, 3, 0, 4] rfl)
  have L_6 : ∀ (n : Nat) (M : Mem) (x1 : Nat) (x2 : Int64) (x4 : Int32) (x5 : Int32), l_X4_findBestPiece_6 Q n M x1 x2 x4 x5 → WL p l e rm_X4_findBestPiece s m args below meth c QQ E base 6 M ad 6 [(0, .ref (ad 4 0)), (1, .ref (ad 2 x1)), (2, .long x2), (4, .int x4), (5, .int x5)] [] 0 0 := by
    intro n
    induction n with
    | zero => intro M x1 x2 x4 x5 hw; exact False.elim hw
    | succ n K6 =>
      intro M x1 x2 x4 x5 hw H locs ls hW hS hl
      obtain ⟨k6, hk6⟩ : ∃ z, z = l_X4_findBestPiece_6 Q n := ⟨_, rfl⟩
      have hw : b_X4_findBestPiece_6 Q k6 M x1 x2 x4 x5 := by rw [hk6]; exact hw
      rw [← hk6] at K6
      unfold b_X4_findBestPiece_6 at hw
      refine lv_iload hx hb dX4_findBestPiece_6 (lv_at hl 4 rfl) ?_
      refine lv_bipush (v := 12) hx hb dX4_findBestPiece_8 (by decide) ?_
      refine lv_icmp_ge (tgt := 53) hx hb dX4_findBestPiece_10 (by decide) (fun c_1 => ?_) (fun c_1 => ?_)
      · have hw := hw.1 c_1
        refine lv_iload hx hb dX4_findBestPiece_53 (lv_at hl 3 rfl) ?_
        rw [← hQQ]
        exact e_I hx hb hr hlocks hW hS (Nat.le_of_ble_eq_true rfl) (Nat.le_of_ble_eq_true rfl) dX4_findBestPiece_55 ⟨hw, rfl⟩
      · have hw := hw.2 c_1
        refine lv_lload_n hx hb dX4_findBestPiece_13 rfl (lv_at hl 2 rfl) ?_
        refine lv_iload hx hb dX4_findBestPiece_14 (lv_at hl 4 rfl) ?_
        refine k_L (rn_S (As := [.int x5]) (rest := [.long x2]) ⟨hx, hb, hml, hown, hts⟩ hT hW hS hl (c_X4_blocksOfPiece l E base M ad x5 _ hw) cy_X4_blocksOfPiece k_131 k_132 rfl rfl ⟨(Nat.le_of_ble_eq_true rfl), (Nat.le_of_ble_eq_true rfl)⟩ rfl rfl (Nat.le_of_ble_eq_true rfl) dX4_findBestPiece_16 ⟨(Nat.le_of_ble_eq_true rfl), (Nat.le_of_ble_eq_true rfl)⟩) hS kx_no (fun r_5 M_3 ad_4 H locs hP hW hS => ?_)
        obtain ⟨hw, rfl⟩ := hP
        refine lv_land hx hb dX4_findBestPiece_19 ?_
        refine lv_lconst (v := 0) hx hb dX4_findBestPiece_20 (by decide) ?_
        refine W.lcmp hx hb dX4_findBestPiece_21 ?_
        refine lv_if_eq (tgt := 47) hx hb dX4_findBestPiece_22 (by decide) (fun c_6 => ?_) (fun c_6 => ?_)
        · have hw := hw.1 c_6
          exact L_47 k6 K6 M_3 x1 x2 x4 x5 hw H locs ls hW hS (lv_sub hl [0, 1, 2, 3, 4] rfl)
        · have hw := hw.2 c_6
          refine lv_iload hx hb dX4_findBestPiece_25 (lv_at hl 3 rfl) ?_
          refine lv_iconst (v := (-1)) hx hb dX4_findBestPiece_27 (by decide) ?_
          refine lv_icmp_eq (tgt := 43) hx hb dX4_findBestPiece_28 (by decide) (fun c_8 => ?_) (fun c_8 => ?_)
          · have hw := hw.1 c_8
            exact L_43 k6 K6 M_3 x1 x2 x5 hw H locs ls hW hS (lv_sub hl [0, 1, 2, 4] rfl)
          · have hw := hw.2 c_8
            refine lv_aload_n hx hb dX4_findBestPiece_31 rfl (lv_at hl 0 rfl) ?_
            refine lv_aload_n hx hb dX4_findBestPiece_32 rfl (lv_at hl 1 rfl) ?_
            refine lv_iload hx hb dX4_findBestPiece_33 (lv_at hl 4 rfl) ?_
            refine lv_iload hx hb dX4_findBestPiece_35 (lv_at hl 3 rfl) ?_
            obtain ⟨g_9, hw⟩ := hw
            refine k_I (rn_V (As := [.ref (ad 2 x1), .int x5, .int x4]) (rest := []) (κ := 4) (i := 0) ⟨hx, hb, hml, hown, hts⟩ hT hW hS hl (c_X4_isBetter l E base M_3 ad x1 x5 x4 _ hw) cy_X4_isBetter k_137 k_138 k_139 g_9 (by decide) rfl rfl rfl rfl ⟨(Nat.le_of_ble_eq_true rfl), (Nat.le_of_ble_eq_true rfl)⟩ rfl rfl (Nat.le_of_ble_eq_true rfl) dX4_findBestPiece_37 ⟨(Nat.le_of_ble_eq_true rfl), (Nat.le_of_ble_eq_true rfl)⟩) hS kx_no (fun r_13 M_11 ad_12 H locs hP hW hS => ?_)
            obtain ⟨hw, rfl⟩ := hP
            refine lv_if_eq (tgt := 47) hx hb dX4_findBestPiece_40 (by decide) (fun c_14 => ?_) (fun c_14 => ?_)
            · have hw := hw.1 c_14
              exact L_47 k6 K6 M_11 x1 x2 x4 x5 hw H locs ls hW hS (lv_sub hl [0, 1, 2, 3, 4] rfl)
            · have hw := hw.2 c_14
              exact L_43 k6 K6 M_11 x1 x2 x5 hw H locs ls hW hS (lv_sub hl [0, 1, 2, 4] rfl)
  unfold w_X4_findBestPiece at hw
  obtain ⟨H, hH⟩ : ∃ z, z = s.heap := ⟨_, rfl⟩
  obtain ⟨locs, hlo⟩ : ∃ z : List Loc, z = [] := ⟨_, rfl⟩
  have hS : va_S (fun q : Nat => base ≤ q) s.heap H locs := by rw [hlo, hH]; exact hS
  have hW : Wd E base M ad H := by rw [hH]; exact hW
  rw [show W p l e rm_X4_findBestPiece s m args below meth c s.heap [] 0 0 QQ (F0 m 0 ls []) = W p l e rm_X4_findBestPiece s m args below meth c H locs 0 0 QQ (F0 m 0 ls []) by rw [hlo, hH]]
  refine lv_iconst (v := (-1)) hx hb dX4_findBestPiece_0 (by decide) ?_
  refine lv_istore (lv' := [(4, .int (-1)), (0, .ref (ad 4 0)), (1, .ref (ad 2 a1)), (2, .long a2)]) hx hb dX4_findBestPiece_1 hl (by decide) rfl (fun ls hl => ?_)
  refine lv_iconst (v := 0) hx hb dX4_findBestPiece_3 (by decide) ?_
  refine lv_istore (lv' := [(5, .int 0), (4, .int (-1)), (0, .ref (ad 4 0)), (1, .ref (ad 2 a1)), (2, .long a2)]) hx hb dX4_findBestPiece_4 hl (by decide) rfl (fun ls hl => ?_)
  obtain ⟨n9, hw⟩ := hw
  exact L_6 n9 M a1 a2 (-1) 0 hw H locs ls hW hS (lv_sub hl [2, 3, 4, 1, 0] rfl)
def rm_X4_findLowest : Room := { frames := 1, cells := 0, slots := 0, locals := 22 }
set_option maxHeartbeats 4000000 in
set_option maxRecDepth 100000 in
theorem c_X4_findLowest (l : Launch) (E : GE) (base : Nat) (M : Mem) (ad : AD) (a0 : Int64) (Q : Int32 → Mem → Prop) (hw : w_X4_findLowest M a0 Q) : Con l yX4_findLowest cX4_findLowest 3 (some .int) rm_X4_findLowest 0 0 E base [.long a0] M ad (QcI E base (fun r M1 ad1 => Q r M1 ∧ ad = ad1)) noX := by
  refine con_start (by decide) (Nat.le_of_ble_eq_true rfl) ?_
  intro p e s m args below meth c ls QQ hQQ CT hnx hW hl
  obtain ⟨⟨hx, hb, hml, hown, hts⟩, hr, hlocks, hnm, hT⟩ := CT
  have hS : va_S (fun q : Nat => base ≤ q) s.heap s.heap [] := va_S.rf
  have hl : lv_has ls 3 [(0, .long a0)] := hl
  have L_2 : ∀ (n : Nat) (M : Mem) (x0 : Int64) (x2 : Int32), l_X4_findLowest_2 Q n M x0 x2 → WL p l e rm_X4_findLowest s m args below meth c QQ E base 3 M ad 2 [(0, .long x0), (2, .int x2)] [] 0 0 := by
    intro n
    induction n with
    | zero => intro M x0 x2 hw; exact False.elim hw
    | succ n K2 =>
      intro M x0 x2 hw H locs ls hW hS hl
      obtain ⟨k2, hk2⟩ : ∃ z, z = l_X4_findLowest_2 Q n := ⟨_, rfl⟩
      have hw : b_X4_findLowest_2 Q k2 M x0 x2 := by rw [hk2]; exact hw
      rw [← hk2] at K2
      unfold b_X4_findLowest_2 at hw
      refine lv_iload_n hx hb dX4_findLowest_2 rfl (lv_at hl 1 rfl) ?_
      refine lv_bipush (v := 48) hx hb dX4_findLowest_3 (by decide) ?_
      refine lv_icmp_ge (tgt := 24) hx hb dX4_findLowest_5 (by decide) (fun c_1 => ?_) (fun c_1 => ?_)
      · have hw := hw.1 c_1
        refine lv_iconst (v := (-1)) hx hb dX4_findLowest_24 (by decide) ?_
        rw [← hQQ]
        exact e_I hx hb hr hlocks hW hS (Nat.le_of_ble_eq_true rfl) (Nat.le_of_ble_eq_true rfl) dX4_findLowest_25 ⟨hw, rfl⟩
      · have hw := hw.2 c_1
        refine lv_lload_n hx hb dX4_findLowest_8 rfl (lv_at hl 0 rfl) ?_
        refine lv_iload_n hx hb dX4_findLowest_9 rfl (lv_at hl 1 rfl) ?_
        refine k_I (rn_S (As := [.long x0, .int x2]) (rest := []) ⟨hx, hb, hml, hown, hts⟩ hT hW hS hl (c_X4_isIn l E base M ad x0 x2 _ hw) cy_X4_isIn k_17 k_18 rfl rfl ⟨(Nat.le_of_ble_eq_true rfl), (Nat.le_of_ble_eq_true rfl)⟩ rfl rfl (Nat.le_of_ble_eq_true rfl) dX4_findLowest_10 ⟨(Nat.le_of_ble_eq_true rfl), (Nat.le_of_ble_eq_true rfl)⟩) hS kx_no (fun r_5 M_3 ad_4 H locs hP hW hS => ?_)
        obtain ⟨hw, rfl⟩ := hP
        refine lv_if_eq (tgt := 18) hx hb dX4_findLowest_13 (by decide) (fun c_6 => ?_) (fun c_6 => ?_)
        · have hw := hw.1 c_6
          obtain ⟨v_7, ev_7⟩ : ∃ y : Int32, y = x2 + 1 := ⟨_, rfl⟩
          have hw := hw v_7 ev_7
          refine lv_iinc (v := v_7) (lv' := [(2, .int v_7), (0, .long x0)]) hx hb dX4_findLowest_18 hl (k := 1) rfl (by rw [ev_7]; rfl) (by decide) rfl (fun ls hl => ?_)
          refine lv_goto (tgt := 2) hx hb dX4_findLowest_21 (by decide) ?_
          exact K2 M_3 x0 v_7 hw H locs ls hW hS (lv_sub hl [1, 0] rfl)
        · have hw := hw.2 c_6
          refine lv_iload_n hx hb dX4_findLowest_16 rfl (lv_at hl 1 rfl) ?_
          rw [← hQQ]
          exact e_I hx hb hr hlocks hW hS (Nat.le_of_ble_eq_true rfl) (Nat.le_of_ble_eq_true rfl) dX4_findLowest_17 ⟨hw, rfl⟩
  unfold w_X4_findLowest at hw
  obtain ⟨H, hH⟩ : ∃ z, z = s.heap := ⟨_, rfl⟩
  obtain ⟨locs, hlo⟩ : ∃ z : List Loc, z = [] := ⟨_, rfl⟩
  have hS : va_S (fun q : Nat => base ≤ q) s.heap H locs := by rw [hlo, hH]; exact hS
  have hW : Wd E base M ad H := by rw [hH]; exact hW
  rw [show W p l e rm_X4_findLowest s m args below meth c s.heap [] 0 0 QQ (F0 m 0 ls []) = W p l e rm_X4_findLowest s m args below meth c H locs 0 0 QQ (F0 m 0 ls []) by rw [hlo, hH]]
  refine lv_iconst (v := 0) hx hb dX4_findLowest_0 (by decide) ?_
  refine lv_istore_n (lv' := [(2, .int 0), (0, .long a0)]) hx hb dX4_findLowest_1 rfl hl (by decide) rfl (fun ls hl => ?_)
  obtain ⟨n9, hw⟩ := hw
  exact L_2 n9 M a0 0 hw H locs ls hW hS (lv_sub hl [1, 0] rfl)
def rm_X0_add : Room := { frames := 0, cells := 0, slots := 0, locals := 0 }
set_option maxHeartbeats 4000000 in
set_option maxRecDepth 100000 in
theorem c_X0_add (l : Launch) (E : GE) (base : Nat) (M : Mem) (ad : AD) (t : Nat) (a1 : Int32) (a2 : Int32) (Q : Mem → Prop) (hw : w_X0_add M t a1 a2 Q) : Con l yX0_add cX0_add 3 none rm_X0_add 0 0 E base [.ref (ad 0 t), .int a1, .int a2] M ad (QcV E base (fun M1 ad1 => Q M1 ∧ ad = ad1)) noX := by
  refine con_start (by decide) (Nat.le_of_ble_eq_true rfl) ?_
  intro p e s m args below meth c ls QQ hQQ CT hnx hW hl
  obtain ⟨⟨hx, hb, hml, hown, hts⟩, hr, hlocks, hnm, hT⟩ := CT
  have hS : va_S (fun q : Nat => base ≤ q) s.heap s.heap [] := va_S.rf
  have hl : lv_has ls 3 [(0, .ref (ad 0 t)), (1, .int a1), (2, .int a2)] := hl
  unfold w_X0_add at hw
  obtain ⟨H, hH⟩ : ∃ z, z = s.heap := ⟨_, rfl⟩
  obtain ⟨locs, hlo⟩ : ∃ z : List Loc, z = [] := ⟨_, rfl⟩
  have hS : va_S (fun q : Nat => base ≤ q) s.heap H locs := by rw [hlo, hH]; exact hS
  have hW : Wd E base M ad H := by rw [hH]; exact hW
  rw [show W p l e rm_X0_add s m args below meth c s.heap [] 0 0 QQ (F0 m 0 ls []) = W p l e rm_X0_add s m args below meth c H locs 0 0 QQ (F0 m 0 ls []) by rw [hlo, hH]]
  refine lv_iload_n hx hb dX0_add_0 rfl (lv_at hl 1 rfl) ?_
  refine lv_iconst (v := (-1)) hx hb dX0_add_1 (by decide) ?_
  refine lv_icmp_eq (tgt := 59) hx hb dX0_add_2 (by decide) (fun c_1 => ?_) (fun c_1 => ?_)
  · have hw := hw.1 c_1
    rw [← hQQ]
    exact e_V hx hb hr hlocks hW hS (Nat.le_of_ble_eq_true rfl) (Nat.le_of_ble_eq_true rfl) dX0_add_59 ⟨hw, rfl⟩
  · have hw := hw.2 c_1
    refine lv_aload_n hx hb dX0_add_5 rfl (lv_at hl 0 rfl) ?_
    obtain ⟨g_2, hw⟩ := hw
    refine r_getI hx hb hts hown hT.1 hW clX0 2 (by decide) (hts _ k_30) (fun _ h9 => h9) rfl g_2 dX0_add_6 ?_
    refine lv_aload_n hx hb dX0_add_9 rfl (lv_at hl 0 rfl) ?_
    obtain ⟨g_3, hw⟩ := hw
    refine r_getR (κ2 := 20) (i2 := t) hx hb hts hown hT.1 hW clX0 0 (by decide) (hts _ k_28) (fun _ h9 => h9) 20 rfl rfl g_2 g_3 dX0_add_10 ?_
    obtain ⟨g_4, hw⟩ := hw
    refine r_alen (v := 6) hx hb hT.1 hW (by decide) 0 rfl (kTy 0) rfl (by decide) g_4 dX0_add_13 ?_
    refine lv_icmp_ge (tgt := 59) hx hb dX0_add_14 (by decide) (fun c_5 => ?_) (fun c_5 => ?_)
    · have hw := hw.1 c_5
      rw [← hQQ]
      exact e_V hx hb hr hlocks hW hS (Nat.le_of_ble_eq_true rfl) (Nat.le_of_ble_eq_true rfl) dX0_add_59 ⟨hw, rfl⟩
    · have hw := hw.2 c_5
      refine lv_aload_n hx hb dX0_add_17 rfl (lv_at hl 0 rfl) ?_
      refine r_getR (κ2 := 20) (i2 := t) hx hb hts hown hT.1 hW clX0 0 (by decide) (hts _ k_28) (fun _ h9 => h9) 20 rfl rfl g_2 g_3 dX0_add_18 ?_
      refine lv_aload_n hx hb dX0_add_21 rfl (lv_at hl 0 rfl) ?_
      refine r_getI hx hb hts hown hT.1 hW clX0 2 (by decide) (hts _ k_30) (fun _ h9 => h9) rfl g_2 dX0_add_22 ?_
      refine lv_iload_n hx hb dX0_add_25 rfl (lv_at hl 1 rfl) ?_
      obtain ⟨g_6, hw⟩ := hw
      refine r_iast hx hb hT.1 hW hS (by decide) rfl (fun _ => rfl) 6 rfl g_6 g_4 dX0_add_26 (fun M_7 H locs hM_7 hW hS => ?_)
      have hw := hw M_7 hM_7
      refine lv_aload_n hx hb dX0_add_27 rfl (lv_at hl 0 rfl) ?_
      obtain ⟨g_8, hw⟩ := hw
      refine r_getR (κ2 := 21) (i2 := t) hx hb hts hown hT.1 hW clX0 1 (by decide) (hts _ k_29) (fun _ h9 => h9) 21 rfl rfl (by rw [hM_7]; exact g_2) g_8 dX0_add_28 ?_
      refine lv_aload_n hx hb dX0_add_31 rfl (lv_at hl 0 rfl) ?_
      refine r_getI hx hb hts hown hT.1 hW clX0 2 (by decide) (hts _ k_30) (fun _ h9 => h9) rfl (by rw [hM_7]; exact g_2) dX0_add_32 ?_
      refine lv_iload_n hx hb dX0_add_35 rfl (lv_at hl 2 rfl) ?_
      obtain ⟨g_9, hw⟩ := hw
      obtain ⟨g_10, hw⟩ := hw
      refine r_iast hx hb hT.1 hW hS (by decide) rfl (fun _ => rfl) 6 rfl g_10 g_9 dX0_add_36 (fun M_11 H locs hM_11 hW hS => ?_)
      have hw := hw M_11 hM_11
      refine lv_aload_n hx hb dX0_add_37 rfl (lv_at hl 0 rfl) ?_
      refine lv_dup hx hb dX0_add_38 rfl ?_
      refine r_getI hx hb hts hown hT.1 hW clX0 2 (by decide) (hts _ k_30) (fun _ h9 => h9) rfl (by rw [hM_11, hM_7]; exact g_2) dX0_add_39 ?_
      refine lv_iconst (v := 1) hx hb dX0_add_42 (by decide) ?_
      refine lv_iadd hx hb dX0_add_43 ?_
      refine r_putI hx hb hts hown hT.1 hW hS clX0 2 (by decide) (hts _ k_30) (fun _ h9 => h9) rfl (by decide +kernel) rfl (by rw [hM_11, hM_7]; exact g_2) dX0_add_44 (fun M_12 H locs hM_12 hW hS => ?_)
      have hw := hw M_12 hM_12
      refine lv_aload_n hx hb dX0_add_47 rfl (lv_at hl 0 rfl) ?_
      refine lv_dup hx hb dX0_add_48 rfl ?_
      refine r_getL hx hb hts hown hT.1 hW clX0 3 (by decide) (hts _ k_31) (fun _ h9 => h9) rfl (by rw [hM_12, hM_11, hM_7]; exact g_2) dX0_add_49 ?_
      refine lv_lconst (v := 1) hx hb dX0_add_52 (by decide) ?_
      refine lv_iload_n hx hb dX0_add_53 rfl (lv_at hl 1 rfl) ?_
      refine lv_lshl hx hb dX0_add_54 rfl ?_
      refine lv_lor hx hb dX0_add_55 ?_
      refine r_putL hx hb hts hown hT.1 hW hS clX0 3 (by decide) (hts _ k_31) (fun _ h9 => h9) rfl (by decide +kernel) rfl (by rw [hM_12, hM_11, hM_7]; exact g_2) dX0_add_56 (fun M_13 H locs hM_13 hW hS => ?_)
      have hw := hw M_13 hM_13
      rw [← hQQ]
      exact e_V hx hb hr hlocks hW hS (Nat.le_of_ble_eq_true rfl) (Nat.le_of_ble_eq_true rfl) dX0_add_59 ⟨hw, rfl⟩
def rm_X4_askOne : Room := { frames := 4, cells := 0, slots := 0, locals := 90 }
set_option maxHeartbeats 4000000 in
set_option maxRecDepth 100000 in
theorem c_X4_askOne (l : Launch) (E : GE) (base : Nat) (M : Mem) (ad : AD) (a1 : Nat) (a2 : Nat) (a3 : Int64) (Q : Mem → Prop) (hw : w_X4_askOne M a1 a2 a3 Q) : Con l yX4_askOne cX4_askOne 10 none rm_X4_askOne 0 0 E base [.ref (ad 4 0), .ref (ad 2 a1), .ref (ad 2 a2), .long a3] M ad (QcV E base (fun M1 ad1 => Q M1 ∧ ad = ad1)) noX := by
  refine con_start (by decide) (Nat.le_of_ble_eq_true rfl) ?_
  intro p e s m args below meth c ls QQ hQQ CT hnx hW hl
  obtain ⟨⟨hx, hb, hml, hown, hts⟩, hr, hlocks, hnm, hT⟩ := CT
  have hS : va_S (fun q : Nat => base ≤ q) s.heap s.heap [] := va_S.rf
  have hl : lv_has ls 10 [(0, .ref (ad 4 0)), (1, .ref (ad 2 a1)), (2, .ref (ad 2 a2)), (3, .long a3)] := hl
  unfold w_X4_askOne at hw
  obtain ⟨H, hH⟩ : ∃ z, z = s.heap := ⟨_, rfl⟩
  obtain ⟨locs, hlo⟩ : ∃ z : List Loc, z = [] := ⟨_, rfl⟩
  have hS : va_S (fun q : Nat => base ≤ q) s.heap H locs := by rw [hlo, hH]; exact hS
  have hW : Wd E base M ad H := by rw [hH]; exact hW
  rw [show W p l e rm_X4_askOne s m args below meth c s.heap [] 0 0 QQ (F0 m 0 ls []) = W p l e rm_X4_askOne s m args below meth c H locs 0 0 QQ (F0 m 0 ls []) by rw [hlo, hH]]
  refine lv_lload_n hx hb dX4_askOne_0 rfl (lv_at hl 3 rfl) ?_
  refine lv_aload_n hx hb dX4_askOne_1 rfl (lv_at hl 2 rfl) ?_
  obtain ⟨g_1, hw⟩ := hw
  obtain ⟨g_2, hw⟩ := hw
  refine r_getR (κ2 := 26) (i2 := a2) hx hb hts hown hT.1 hW clX2 12 (by decide) (hts _ k_121) (fun _ h9 => h9) 26 rfl rfl g_1 g_2 dX4_askOne_2 ?_
  refine lv_aload_n hx hb dX4_askOne_5 rfl (lv_at hl 1 rfl) ?_
  obtain ⟨g_3, hw⟩ := hw
  refine r_getI hx hb hts hown hT.1 hW clX2 0 (by decide) (hts _ k_83) (fun _ h9 => h9) rfl g_3 dX4_askOne_6 ?_
  obtain ⟨g_4, hw⟩ := hw
  obtain ⟨g_5, hw⟩ := hw
  refine r_iald hx hb hT.1 hW (by decide) rfl (fun _ => rfl) 6 rfl g_5 g_4 dX4_askOne_9 ?_
  refine k_L (rn_S (As := [.int (mI M 26 a2 ((mI M 2 a1 0).toNatClampNeg))]) (rest := [.long a3]) ⟨hx, hb, hml, hown, hts⟩ hT hW hS hl (c_X4_blocksOf l E base M ad (mI M 26 a2 ((mI M 2 a1 0).toNatClampNeg)) _ hw) cy_X4_blocksOf k_140 k_141 rfl rfl ⟨(Nat.le_of_ble_eq_true rfl), (Nat.le_of_ble_eq_true rfl)⟩ rfl rfl (Nat.le_of_ble_eq_true rfl) dX4_askOne_10 ⟨(Nat.le_of_ble_eq_true rfl), (Nat.le_of_ble_eq_true rfl)⟩) hS kx_no (fun r_9 M_7 ad_8 H locs hP hW hS => ?_)
  obtain ⟨hw, rfl⟩ := hP
  refine lv_land hx hb dX4_askOne_13 ?_
  refine lv_topl (fun v_10 ev_10 => ?_)
  have hw := hw v_10 ev_10
  refine lv_lstore (lv' := [(5, .long v_10), (0, .ref (ad 4 0)), (1, .ref (ad 2 a1)), (2, .ref (ad 2 a2)), (3, .long a3)]) hx hb dX4_askOne_14 hl (by decide) rfl (fun ls hl => ?_)
  refine lv_lload hx hb dX4_askOne_16 (lv_at hl 0 rfl) ?_
  refine lv_aload_n hx hb dX4_askOne_18 rfl (lv_at hl 2 rfl) ?_
  obtain ⟨g_11, hw⟩ := hw
  obtain ⟨g_12, hw⟩ := hw
  refine r_getR (κ2 := 0) (i2 := a1) hx hb hts hown hT.1 hW clX2 3 (by decide) (hts _ k_122) (fun _ h9 => h9) 0 rfl rfl g_11 g_12 dX4_askOne_19 ?_
  obtain ⟨g_13, hw⟩ := hw
  refine r_getL hx hb hts hown hT.1 hW clX0 3 (by decide) (hts _ k_134) (fun _ h9 => h9) rfl g_13 dX4_askOne_22 ?_
  refine lv_ldc2 hx hb hown (hts _ k_142) dX4_askOne_25 ?_
  refine lv_lxor hx hb dX4_askOne_28 ?_
  refine lv_land hx hb dX4_askOne_29 ?_
  refine lv_topl (fun v_14 ev_14 => ?_)
  have hw := hw v_14 ev_14
  refine lv_lstore (lv' := [(7, .long v_14), (5, .long v_10), (0, .ref (ad 4 0)), (1, .ref (ad 2 a1)), (2, .ref (ad 2 a2)), (3, .long a3)]) hx hb dX4_askOne_30 hl (by decide) rfl (fun ls hl => ?_)
  refine lv_lload hx hb dX4_askOne_32 (lv_at hl 0 rfl) ?_
  refine lv_lconst (v := 0) hx hb dX4_askOne_34 (by decide) ?_
  refine W.lcmp hx hb dX4_askOne_35 ?_
  refine lv_if_eq (tgt := 73) hx hb dX4_askOne_36 (by decide) (fun c_15 => ?_) (fun c_15 => ?_)
  · have hw := hw.1 c_15
    refine lv_lload_n hx hb dX4_askOne_73 rfl (lv_at hl 5 rfl) ?_
    refine lv_aload_n hx hb dX4_askOne_74 rfl (lv_at hl 3 rfl) ?_
    refine r_getR (κ2 := 0) (i2 := a1) hx hb hts hown hT.1 hW clX2 3 (by decide) (hts _ k_122) (fun _ h9 => h9) 0 rfl rfl g_11 g_12 dX4_askOne_75 ?_
    refine r_getL hx hb hts hown hT.1 hW clX0 3 (by decide) (hts _ k_134) (fun _ h9 => h9) rfl g_13 dX4_askOne_78 ?_
    refine lv_ldc2 hx hb hown (hts _ k_142) dX4_askOne_81 ?_
    refine lv_lxor hx hb dX4_askOne_84 ?_
    refine lv_land hx hb dX4_askOne_85 ?_
    refine lv_lconst (v := 0) hx hb dX4_askOne_86 (by decide) ?_
    refine W.lcmp hx hb dX4_askOne_87 ?_
    refine lv_if_ne (tgt := 114) hx hb dX4_askOne_88 (by decide) (fun c_16 => ?_) (fun c_16 => ?_)
    · have hw := hw.2 c_16
      rw [← hQQ]
      exact e_V hx hb hr hlocks hW hS (Nat.le_of_ble_eq_true rfl) (Nat.le_of_ble_eq_true rfl) dX4_askOne_114 ⟨hw, rfl⟩
    · have hw := hw.1 c_16
      refine lv_lload hx hb dX4_askOne_91 (lv_at hl 1 rfl) ?_
      refine lv_lconst (v := 0) hx hb dX4_askOne_93 (by decide) ?_
      refine W.lcmp hx hb dX4_askOne_94 ?_
      refine lv_if_eq (tgt := 114) hx hb dX4_askOne_95 (by decide) (fun c_17 => ?_) (fun c_17 => ?_)
      · have hw := hw.1 c_17
        rw [← hQQ]
        exact e_V hx hb hr hlocks hW hS (Nat.le_of_ble_eq_true rfl) (Nat.le_of_ble_eq_true rfl) dX4_askOne_114 ⟨hw, rfl⟩
      · have hw := hw.2 c_17
        refine lv_aload_n hx hb dX4_askOne_98 rfl (lv_at hl 3 rfl) ?_
        refine r_getR (κ2 := 0) (i2 := a1) hx hb hts hown hT.1 hW clX2 3 (by decide) (hts _ k_122) (fun _ h9 => h9) 0 rfl rfl g_11 g_12 dX4_askOne_99 ?_
        refine lv_lload hx hb dX4_askOne_102 (lv_at hl 1 rfl) ?_
        refine k_I (rn_S (As := [.long v_10]) (rest := [.ref (ad 0 a1)]) ⟨hx, hb, hml, hown, hts⟩ hT hW hS hl (c_X4_findLowest l E base M_7 ad v_10 _ hw) cy_X4_findLowest k_143 k_144 rfl rfl ⟨(Nat.le_of_ble_eq_true rfl), (Nat.le_of_ble_eq_true rfl)⟩ rfl rfl (Nat.le_of_ble_eq_true rfl) dX4_askOne_104 ⟨(Nat.le_of_ble_eq_true rfl), (Nat.le_of_ble_eq_true rfl)⟩) hS kx_no (fun r_21 M_19 ad_20 H locs hP hW hS => ?_)
        obtain ⟨hw, rfl⟩ := hP
        refine lv_aload_n hx hb dX4_askOne_107 rfl (lv_at hl 4 rfl) ?_
        obtain ⟨g_22, hw⟩ := hw
        refine r_getI hx hb hts hown hT.1 hW clX2 0 (by decide) (hts _ k_83) (fun _ h9 => h9) rfl g_22 dX4_askOne_108 ?_
        obtain ⟨g_23, hw⟩ := hw
        refine k_V (rn_V (As := [.int r_21, .int (mI M_19 2 a2 0)]) (rest := []) (κ := 0) (i := a1) ⟨hx, hb, hml, hown, hts⟩ hT hW hS hl (c_X0_add l E base M_19 ad a1 r_21 (mI M_19 2 a2 0) _ hw) cy_X0_add k_145 k_146 k_147 g_23 (by decide) rfl rfl rfl rfl ⟨(Nat.le_of_ble_eq_true rfl), (Nat.le_of_ble_eq_true rfl)⟩ rfl rfl (Nat.le_of_ble_eq_true rfl) dX4_askOne_111 ⟨(Nat.le_of_ble_eq_true rfl), (Nat.le_of_ble_eq_true rfl)⟩) hS kx_no (fun M_25 ad_26 H locs hP hW hS => ?_)
        obtain ⟨hw, rfl⟩ := hP
        rw [← hQQ]
        exact e_V hx hb hr hlocks hW hS (Nat.le_of_ble_eq_true rfl) (Nat.le_of_ble_eq_true rfl) dX4_askOne_114 ⟨hw, rfl⟩
  · have hw := hw.2 c_15
    refine lv_aload_n hx hb dX4_askOne_39 rfl (lv_at hl 2 rfl) ?_
    refine lv_aload_n hx hb dX4_askOne_40 rfl (lv_at hl 3 rfl) ?_
    refine lv_lload hx hb dX4_askOne_41 (lv_at hl 0 rfl) ?_
    obtain ⟨g_28, hw⟩ := hw
    refine k_I (rn_V (As := [.ref (ad 2 a1), .long v_14]) (rest := []) (κ := 4) (i := 0) ⟨hx, hb, hml, hown, hts⟩ hT hW hS hl (c_X4_findBestPiece l E base M_7 ad a1 v_14 _ hw) cy_X4_findBestPiece k_148 k_149 k_150 g_28 (by decide) rfl rfl rfl rfl ⟨(Nat.le_of_ble_eq_true rfl), (Nat.le_of_ble_eq_true rfl)⟩ rfl rfl (Nat.le_of_ble_eq_true rfl) dX4_askOne_43 ⟨(Nat.le_of_ble_eq_true rfl), (Nat.le_of_ble_eq_true rfl)⟩) hS kx_no (fun r_32 M_30 ad_31 H locs hP hW hS => ?_)
    obtain ⟨hw, rfl⟩ := hP
    refine lv_istore (lv' := [(9, .int r_32), (7, .long v_14), (5, .long v_10), (0, .ref (ad 4 0)), (1, .ref (ad 2 a1)), (2, .ref (ad 2 a2)), (3, .long a3)]) hx hb dX4_askOne_46 hl (by decide) rfl (fun ls hl => ?_)
    refine lv_aload_n hx hb dX4_askOne_48 rfl (lv_at hl 4 rfl) ?_
    obtain ⟨g_33, hw⟩ := hw
    obtain ⟨g_34, hw⟩ := hw
    refine r_getR (κ2 := 0) (i2 := a1) hx hb hts hown hT.1 hW clX2 3 (by decide) (hts _ k_122) (fun _ h9 => h9) 0 rfl rfl g_33 g_34 dX4_askOne_49 ?_
    refine lv_lload hx hb dX4_askOne_52 (lv_at hl 1 rfl) ?_
    refine lv_iload hx hb dX4_askOne_54 (lv_at hl 0 rfl) ?_
    refine k_L (rn_S (As := [.int r_32]) (rest := [.long v_14, .ref (ad 0 a1)]) ⟨hx, hb, hml, hown, hts⟩ hT hW hS hl (c_X4_blocksOfPiece l E base M_30 ad r_32 _ hw) cy_X4_blocksOfPiece k_131 k_132 rfl rfl ⟨(Nat.le_of_ble_eq_true rfl), (Nat.le_of_ble_eq_true rfl)⟩ rfl rfl (Nat.le_of_ble_eq_true rfl) dX4_askOne_56 ⟨(Nat.le_of_ble_eq_true rfl), (Nat.le_of_ble_eq_true rfl)⟩) hS kx_no (fun r_38 M_36 ad_37 H locs hP hW hS => ?_)
    obtain ⟨hw, rfl⟩ := hP
    refine lv_land hx hb dX4_askOne_59 ?_
    refine k_I (rn_S (As := [.long (v_14 &&& r_38)]) (rest := [.ref (ad 0 a1)]) ⟨hx, hb, hml, hown, hts⟩ hT hW hS hl (c_X4_findLowest l E base M_36 ad (v_14 &&& r_38) _ hw) cy_X4_findLowest k_143 k_144 rfl rfl ⟨(Nat.le_of_ble_eq_true rfl), (Nat.le_of_ble_eq_true rfl)⟩ rfl rfl (Nat.le_of_ble_eq_true rfl) dX4_askOne_60 ⟨(Nat.le_of_ble_eq_true rfl), (Nat.le_of_ble_eq_true rfl)⟩) hS kx_no (fun r_42 M_40 ad_41 H locs hP hW hS => ?_)
    obtain ⟨hw, rfl⟩ := hP
    refine lv_aload_n hx hb dX4_askOne_63 rfl (lv_at hl 5 rfl) ?_
    obtain ⟨g_43, hw⟩ := hw
    refine r_getI hx hb hts hown hT.1 hW clX2 0 (by decide) (hts _ k_83) (fun _ h9 => h9) rfl g_43 dX4_askOne_64 ?_
    obtain ⟨g_44, hw⟩ := hw
    refine k_V (rn_V (As := [.int r_42, .int (mI M_40 2 a2 0)]) (rest := []) (κ := 0) (i := a1) ⟨hx, hb, hml, hown, hts⟩ hT hW hS hl (c_X0_add l E base M_40 ad a1 r_42 (mI M_40 2 a2 0) _ hw) cy_X0_add k_145 k_146 k_147 g_44 (by decide) rfl rfl rfl rfl ⟨(Nat.le_of_ble_eq_true rfl), (Nat.le_of_ble_eq_true rfl)⟩ rfl rfl (Nat.le_of_ble_eq_true rfl) dX4_askOne_67 ⟨(Nat.le_of_ble_eq_true rfl), (Nat.le_of_ble_eq_true rfl)⟩) hS kx_no (fun M_46 ad_47 H locs hP hW hS => ?_)
    obtain ⟨hw, rfl⟩ := hP
    refine lv_goto (tgt := 114) hx hb dX4_askOne_70 (by decide) ?_
    rw [← hQQ]
    exact e_V hx hb hr hlocks hW hS (Nat.le_of_ble_eq_true rfl) (Nat.le_of_ble_eq_true rfl) dX4_askOne_114 ⟨hw, rfl⟩
def rm_X4_askOthers : Room := { frames := 5, cells := 0, slots := 0, locals := 119 }
set_option maxHeartbeats 4000000 in
set_option maxRecDepth 100000 in
theorem c_X4_askOthers (l : Launch) (E : GE) (base : Nat) (M : Mem) (ad : AD) (a1 : Nat) (a2 : Int32) (Q : Mem → Prop) (hw : w_X4_askOthers M a1 a2 Q) : Con l yX4_askOthers cX4_askOthers 9 none rm_X4_askOthers 0 0 E base [.ref (ad 4 0), .ref (ad 2 a1), .int a2] M ad (QcV E base (fun M1 ad1 => Q M1 ∧ ad = ad1)) noX := by
  refine con_start (by decide) (Nat.le_of_ble_eq_true rfl) ?_
  intro p e s m args below meth c ls QQ hQQ CT hnx hW hl
  obtain ⟨⟨hx, hb, hml, hown, hts⟩, hr, hlocks, hnm, hT⟩ := CT
  have hS : va_S (fun q : Nat => base ≤ q) s.heap s.heap [] := va_S.rf
  have hl : lv_has ls 9 [(0, .ref (ad 4 0)), (1, .ref (ad 2 a1)), (2, .int a2)] := hl
  have L_84 : ∀ (k41 : Mem → Nat → Int64 → Int32 → Int32 → Prop) (K41 : ∀ (M : Mem) (x1 : Nat) (x3 : Int64) (x6 : Int32) (x7 : Int32), k41 M x1 x3 x6 x7 → WL p l e rm_X4_askOthers s m args below meth c QQ E base 9 M ad 41 [(0, .ref (ad 4 0)), (1, .ref (ad 2 x1)), (3, .long x3), (5, .ref (ad 10 0)), (6, .int x6), (7, .int x7)] [] 0 0) (M : Mem) (x1 : Nat) (x3 : Int64) (x6 : Int32) (x7 : Int32), b_X4_askOthers_84 k41 Q M x1 x3 x6 x7 → WL p l e rm_X4_askOthers s m args below meth c QQ E base 9 M ad 84 [(0, .ref (ad 4 0)), (1, .ref (ad 2 x1)), (3, .long x3), (5, .ref (ad 10 0)), (6, .int x6), (7, .int x7)] [] 0 0 := by
    intro k41 K41 M x1 x3 x6 x7 hw H locs ls hW hS hl
    unfold b_X4_askOthers_84 at hw
    obtain ⟨v_26, ev_26⟩ : ∃ y : Int32, y = x7 + 1 := ⟨_, rfl⟩
    have hw := hw v_26 ev_26
    refine lv_iinc (v := v_26) (lv' := [(7, .int v_26), (0, .ref (ad 4 0)), (1, .ref (ad 2 x1)), (3, .long x3), (5, .ref (ad 10 0)), (6, .int x6)]) hx hb dX4_askOthers_84 hl (k := 5) rfl (by rw [ev_26]; rfl) (by decide) rfl (fun ls hl => ?_)
    refine lv_goto (tgt := 41) hx hb dX4_askOthers_87 (by decide) ?_
    exact K41 M x1 x3 x6 v_26 hw H locs ls hW hS (lv_sub hl [1, 2, 3, 4, 5, 0] rfl)
  have L_41 : ∀ (n : Nat) (M : Mem) (x1 : Nat) (x3 : Int64) (x6 : Int32) (x7 : Int32), l_X4_askOthers_41 Q n M x1 x3 x6 x7 → WL p l e rm_X4_askOthers s m args below meth c QQ E base 9 M ad 41 [(0, .ref (ad 4 0)), (1, .ref (ad 2 x1)), (3, .long x3), (5, .ref (ad 10 0)), (6, .int x6), (7, .int x7)] [] 0 0 := by
    intro n
    induction n with
    | zero => intro M x1 x3 x6 x7 hw; exact False.elim hw
    | succ n K41 =>
      intro M x1 x3 x6 x7 hw H locs ls hW hS hl
      obtain ⟨k41, hk41⟩ : ∃ z, z = l_X4_askOthers_41 Q n := ⟨_, rfl⟩
      have hw : b_X4_askOthers_41 Q k41 M x1 x3 x6 x7 := by rw [hk41]; exact hw
      rw [← hk41] at K41
      unfold b_X4_askOthers_41 at hw
      refine lv_iload hx hb dX4_askOthers_41 (lv_at hl 5 rfl) ?_
      refine lv_iload hx hb dX4_askOthers_43 (lv_at hl 4 rfl) ?_
      refine lv_icmp_ge (tgt := 90) hx hb dX4_askOthers_45 (by decide) (fun c_15 => ?_) (fun c_15 => ?_)
      · have hw := hw.1 c_15
        rw [← hQQ]
        exact e_V hx hb hr hlocks hW hS (Nat.le_of_ble_eq_true rfl) (Nat.le_of_ble_eq_true rfl) dX4_askOthers_90 ⟨hw, rfl⟩
      · have hw := hw.2 c_15
        refine lv_aload hx hb dX4_askOthers_48 (lv_at hl 3 rfl) ?_
        refine lv_iload hx hb dX4_askOthers_50 (lv_at hl 5 rfl) ?_
        obtain ⟨g_16, hw⟩ := hw
        obtain ⟨g_17, hw⟩ := hw
        refine r_aald hx hb hT.1 hW g_17 g_16 dX4_askOthers_52 (fun g_18 => ?_) (fun g_18 => ?_)
        · have hw := hw.1 g_18
          refine lv_astore (lv' := [(8, .ref (ad 2 x7.toNatClampNeg)), (0, .ref (ad 4 0)), (1, .ref (ad 2 x1)), (3, .long x3), (5, .ref (ad 10 0)), (6, .int x6), (7, .int x7)]) hx hb dX4_askOthers_53 hl (by decide) rfl (fun ls hl => ?_)
          refine lv_aload hx hb dX4_askOthers_55 (lv_at hl 0 rfl) ?_
          refine lv_ifnull hx hb dX4_askOthers_57 ?_
          refine lv_aload hx hb dX4_askOthers_60 (lv_at hl 0 rfl) ?_
          obtain ⟨g_19, hw⟩ := hw
          refine r_getI hx hb hts hown hT.1 hW clX2 13 (by decide) (hts _ k_126) (fun _ h9 => h9) rfl g_19 dX4_askOthers_62 ?_
          refine lv_i2l hx hb dX4_askOthers_65 rfl ?_
          refine lv_aload_n hx hb dX4_askOthers_66 rfl (lv_at hl 2 rfl) ?_
          obtain ⟨g_20, hw⟩ := hw
          refine r_getI hx hb hts hown hT.1 hW clX2 0 (by decide) (hts _ k_83) (fun _ h9 => h9) rfl g_20 dX4_askOthers_67 ?_
          refine k_I (rn_S (As := [.long ((mI M 2 x7.toNatClampNeg 13).toInt64), .int (mI M 2 x1 0)]) (rest := []) ⟨hx, hb, hml, hown, hts⟩ hT hW hS hl (c_X4_isIn l E base M ad ((mI M 2 x7.toNatClampNeg 13).toInt64) (mI M 2 x1 0) _ hw) cy_X4_isIn k_17 k_18 rfl rfl ⟨(Nat.le_of_ble_eq_true rfl), (Nat.le_of_ble_eq_true rfl)⟩ rfl rfl (Nat.le_of_ble_eq_true rfl) dX4_askOthers_70 ⟨(Nat.le_of_ble_eq_true rfl), (Nat.le_of_ble_eq_true rfl)⟩) hS kx_no (fun r_24 M_22 ad_23 H locs hP hW hS => ?_)
          obtain ⟨hw, rfl⟩ := hP
          refine lv_if_eq (tgt := 84) hx hb dX4_askOthers_73 (by decide) (fun c_25 => ?_) (fun c_25 => ?_)
          · have hw := hw.1 c_25
            exact L_84 k41 K41 M_22 x1 x3 x6 x7 hw H locs ls hW hS (lv_sub hl [1, 2, 3, 4, 5, 6] rfl)
          · have hw := hw.2 c_25
            refine lv_aload_n hx hb dX4_askOthers_76 rfl (lv_at hl 1 rfl) ?_
            refine lv_aload_n hx hb dX4_askOthers_77 rfl (lv_at hl 2 rfl) ?_
            refine lv_aload hx hb dX4_askOthers_78 (lv_at hl 0 rfl) ?_
            refine lv_lload_n hx hb dX4_askOthers_80 rfl (lv_at hl 3 rfl) ?_
            obtain ⟨g_27, hw⟩ := hw
            refine k_V (rn_V (As := [.ref (ad 2 x1), .ref (ad 2 x7.toNatClampNeg), .long x3]) (rest := []) (κ := 4) (i := 0) ⟨hx, hb, hml, hown, hts⟩ hT hW hS hl (c_X4_askOne l E base M_22 ad x1 x7.toNatClampNeg x3 _ hw) cy_X4_askOne k_151 k_152 k_153 g_27 (by decide) rfl rfl rfl rfl ⟨(Nat.le_of_ble_eq_true rfl), (Nat.le_of_ble_eq_true rfl)⟩ rfl rfl (Nat.le_of_ble_eq_true rfl) dX4_askOthers_81 ⟨(Nat.le_of_ble_eq_true rfl), (Nat.le_of_ble_eq_true rfl)⟩) hS kx_no (fun M_29 ad_30 H locs hP hW hS => ?_)
            obtain ⟨hw, rfl⟩ := hP
            exact L_84 k41 K41 M_29 x1 x3 x6 x7 hw H locs ls hW hS (lv_sub hl [1, 2, 3, 4, 5, 6] rfl)
        · have hw := hw.2 g_18
          refine lv_astoreN (lv' := [(8, .null), (0, .ref (ad 4 0)), (1, .ref (ad 2 x1)), (3, .long x3), (5, .ref (ad 10 0)), (6, .int x6), (7, .int x7)]) hx hb dX4_askOthers_53 hl (by decide) rfl (fun ls hl => ?_)
          refine lv_aloadN hx hb dX4_askOthers_55 (lv_at hl 0 rfl) ?_
          refine lv_ifnullN (tgt := 84) hx hb dX4_askOthers_57 (by decide) ?_
          exact L_84 k41 K41 M x1 x3 x6 x7 hw H locs ls hW hS (lv_sub hl [1, 2, 3, 4, 5, 6] rfl)
  unfold w_X4_askOthers at hw
  obtain ⟨H, hH⟩ : ∃ z, z = s.heap := ⟨_, rfl⟩
  obtain ⟨locs, hlo⟩ : ∃ z : List Loc, z = [] := ⟨_, rfl⟩
  have hS : va_S (fun q : Nat => base ≤ q) s.heap H locs := by rw [hlo, hH]; exact hS
  have hW : Wd E base M ad H := by rw [hH]; exact hW
  rw [show W p l e rm_X4_askOthers s m args below meth c s.heap [] 0 0 QQ (F0 m 0 ls []) = W p l e rm_X4_askOthers s m args below meth c H locs 0 0 QQ (F0 m 0 ls []) by rw [hlo, hH]]
  refine lv_iload_n hx hb dX4_askOthers_0 rfl (lv_at hl 2 rfl) ?_
  refine lv_aload_n hx hb dX4_askOthers_1 rfl (lv_at hl 1 rfl) ?_
  obtain ⟨g_1, hw⟩ := hw
  obtain ⟨g_2, hw⟩ := hw
  refine r_getR (κ2 := 3) (i2 := a1) hx hb hts hown hT.1 hW clX2 1 (by decide) (hts _ k_15) (fun _ h9 => h9) 3 rfl rfl g_1 g_2 dX4_askOthers_2 ?_
  obtain ⟨g_3, hw⟩ := hw
  refine r_getI hx hb hts hown hT.1 hW clX3 0 (by decide) (hts _ k_16) (fun _ h9 => h9) rfl g_3 dX4_askOthers_5 ?_
  refine lv_iconst (v := (-1)) hx hb dX4_askOthers_8 (by decide) ?_
  refine lv_ixor hx hb dX4_askOthers_9 ?_
  refine lv_iand hx hb dX4_askOthers_10 ?_
  refine k_L (rn_S (As := [.int (a2 &&& ((mI M 3 a1 0) ^^^ (-1)))]) (rest := []) ⟨hx, hb, hml, hown, hts⟩ hT hW hS hl (c_X4_blocksOf l E base M ad (a2 &&& ((mI M 3 a1 0) ^^^ (-1))) _ hw) cy_X4_blocksOf k_140 k_141 rfl rfl ⟨(Nat.le_of_ble_eq_true rfl), (Nat.le_of_ble_eq_true rfl)⟩ rfl rfl (Nat.le_of_ble_eq_true rfl) dX4_askOthers_11 ⟨(Nat.le_of_ble_eq_true rfl), (Nat.le_of_ble_eq_true rfl)⟩) hS kx_no (fun r_7 M_5 ad_6 H locs hP hW hS => ?_)
  obtain ⟨hw, rfl⟩ := hP
  refine lv_aload_n hx hb dX4_askOthers_14 rfl (lv_at hl 1 rfl) ?_
  obtain ⟨g_8, hw⟩ := hw
  obtain ⟨g_9, hw⟩ := hw
  refine r_getR (κ2 := 3) (i2 := a1) hx hb hts hown hT.1 hW clX2 1 (by decide) (hts _ k_15) (fun _ h9 => h9) 3 rfl rfl g_8 g_9 dX4_askOthers_15 ?_
  obtain ⟨g_10, hw⟩ := hw
  refine r_getL hx hb hts hown hT.1 hW clX3 1 (by decide) (hts _ k_133) (fun _ h9 => h9) rfl g_10 dX4_askOthers_18 ?_
  refine lv_ldc2 hx hb hown (hts _ k_142) dX4_askOthers_21 ?_
  refine lv_lxor hx hb dX4_askOthers_24 ?_
  refine lv_land hx hb dX4_askOthers_25 ?_
  refine lv_topl (fun v_11 ev_11 => ?_)
  have hw := hw v_11 ev_11
  refine lv_lstore_n (lv' := [(3, .long v_11), (0, .ref (ad 4 0)), (1, .ref (ad 2 a1)), (2, .int a2)]) hx hb dX4_askOthers_26 rfl hl (by decide) rfl (fun ls hl => ?_)
  refine lv_aload_n hx hb dX4_askOthers_27 rfl (lv_at hl 1 rfl) ?_
  obtain ⟨g_12, hw⟩ := hw
  obtain ⟨g_13, hw⟩ := hw
  refine r_getR (κ2 := 10) (i2 := 0) hx hb hts hown hT.1 hW clX4 0 (by decide) (hts _ k_5) (fun _ h9 => h9) 10 rfl rfl g_12 g_13 dX4_askOthers_28 ?_
  refine lv_astore (lv' := [(5, .ref (ad 10 0)), (3, .long v_11), (0, .ref (ad 4 0)), (1, .ref (ad 2 a1)), (2, .int a2)]) hx hb dX4_askOthers_31 hl (by decide) rfl (fun ls hl => ?_)
  refine lv_aload hx hb dX4_askOthers_33 (lv_at hl 0 rfl) ?_
  obtain ⟨g_14, hw⟩ := hw
  refine r_alen (v := 6) hx hb hT.1 hW (by decide) 3 rfl (kTy 3) rfl (by decide) g_14 dX4_askOthers_35 ?_
  refine lv_istore (lv' := [(6, .int 6), (5, .ref (ad 10 0)), (3, .long v_11), (0, .ref (ad 4 0)), (1, .ref (ad 2 a1)), (2, .int a2)]) hx hb dX4_askOthers_36 hl (by decide) rfl (fun ls hl => ?_)
  refine lv_iconst (v := 0) hx hb dX4_askOthers_38 (by decide) ?_
  refine lv_istore (lv' := [(7, .int 0), (6, .int 6), (5, .ref (ad 10 0)), (3, .long v_11), (0, .ref (ad 4 0)), (1, .ref (ad 2 a1)), (2, .int a2)]) hx hb dX4_askOthers_39 hl (by decide) rfl (fun ls hl => ?_)
  obtain ⟨n9, hw⟩ := hw
  exact L_41 n9 M_5 a1 v_11 6 0 hw H locs ls hW hS (lv_sub hl [4, 5, 3, 2, 1, 0] rfl)
def rm_X4_askAll : Room := { frames := 6, cells := 0, slots := 0, locals := 147 }
set_option maxHeartbeats 4000000 in
set_option maxRecDepth 100000 in
theorem c_X4_askAll (l : Launch) (E : GE) (base : Nat) (M : Mem) (ad : AD)  (Q : Mem → Prop) (hw : w_X4_askAll M  Q) : Con l yX4_askAll cX4_askAll 6 none rm_X4_askAll 0 0 E base [.ref (ad 4 0)] M ad (QcV E base (fun M1 ad1 => Q M1 ∧ ad = ad1)) noX := by
  refine con_start (by decide) (Nat.le_of_ble_eq_true rfl) ?_
  intro p e s m args below meth c ls QQ hQQ CT hnx hW hl
  obtain ⟨⟨hx, hb, hml, hown, hts⟩, hr, hlocks, hnm, hT⟩ := CT
  have hS : va_S (fun q : Nat => base ≤ q) s.heap s.heap [] := va_S.rf
  have hl : lv_has ls 6 [(0, .ref (ad 4 0))] := hl
  have L_40 : ∀ (k16 : Mem → Int32 → Int32 → Int32 → Prop) (K16 : ∀ (M : Mem) (x1 : Int32) (x3 : Int32) (x4 : Int32), k16 M x1 x3 x4 → WL p l e rm_X4_askAll s m args below meth c QQ E base 6 M ad 16 [(0, .ref (ad 4 0)), (1, .int x1), (2, .ref (ad 10 0)), (3, .int x3), (4, .int x4)] [] 0 0) (M : Mem) (x1 : Int32) (x3 : Int32) (x4 : Int32), b_X4_askAll_40 k16 Q M x1 x3 x4 → WL p l e rm_X4_askAll s m args below meth c QQ E base 6 M ad 40 [(0, .ref (ad 4 0)), (1, .int x1), (2, .ref (ad 10 0)), (3, .int x3), (4, .int x4)] [] 0 0 := by
    intro k16 K16 M x1 x3 x4 hw H locs ls hW hS hl
    unfold b_X4_askAll_40 at hw
    obtain ⟨v_18, ev_18⟩ : ∃ y : Int32, y = x4 + 1 := ⟨_, rfl⟩
    have hw := hw v_18 ev_18
    refine lv_iinc (v := v_18) (lv' := [(4, .int v_18), (0, .ref (ad 4 0)), (1, .int x1), (2, .ref (ad 10 0)), (3, .int x3)]) hx hb dX4_askAll_40 hl (k := 4) rfl (by rw [ev_18]; rfl) (by decide) rfl (fun ls hl => ?_)
    refine lv_goto (tgt := 16) hx hb dX4_askAll_43 (by decide) ?_
    exact K16 M x1 x3 v_18 hw H locs ls hW hS (lv_sub hl [1, 2, 3, 4, 0] rfl)
  have L_16 : ∀ (n : Nat) (M : Mem) (x1 : Int32) (x3 : Int32) (x4 : Int32), l_X4_askAll_16 Q n M x1 x3 x4 → WL p l e rm_X4_askAll s m args below meth c QQ E base 6 M ad 16 [(0, .ref (ad 4 0)), (1, .int x1), (2, .ref (ad 10 0)), (3, .int x3), (4, .int x4)] [] 0 0 := by
    intro n
    induction n with
    | zero => intro M x1 x3 x4 hw; exact False.elim hw
    | succ n K16 =>
      intro M x1 x3 x4 hw H locs ls hW hS hl
      obtain ⟨k16, hk16⟩ : ∃ z, z = l_X4_askAll_16 Q n := ⟨_, rfl⟩
      have hw : b_X4_askAll_16 Q k16 M x1 x3 x4 := by rw [hk16]; exact hw
      rw [← hk16] at K16
      unfold b_X4_askAll_16 at hw
      refine lv_iload hx hb dX4_askAll_16 (lv_at hl 4 rfl) ?_
      refine lv_iload_n hx hb dX4_askAll_18 rfl (lv_at hl 3 rfl) ?_
      refine lv_icmp_ge (tgt := 46) hx hb dX4_askAll_19 (by decide) (fun c_9 => ?_) (fun c_9 => ?_)
      · have hw := hw.1 c_9
        rw [← hQQ]
        exact e_V hx hb hr hlocks hW hS (Nat.le_of_ble_eq_true rfl) (Nat.le_of_ble_eq_true rfl) dX4_askAll_46 ⟨hw, rfl⟩
      · have hw := hw.2 c_9
        refine lv_aload_n hx hb dX4_askAll_22 rfl (lv_at hl 2 rfl) ?_
        refine lv_iload hx hb dX4_askAll_23 (lv_at hl 4 rfl) ?_
        obtain ⟨g_10, hw⟩ := hw
        obtain ⟨g_11, hw⟩ := hw
        refine r_aald hx hb hT.1 hW g_11 g_10 dX4_askAll_25 (fun g_12 => ?_) (fun g_12 => ?_)
        · have hw := hw.1 g_12
          refine lv_astore (lv' := [(5, .ref (ad 2 x4.toNatClampNeg)), (0, .ref (ad 4 0)), (1, .int x1), (2, .ref (ad 10 0)), (3, .int x3), (4, .int x4)]) hx hb dX4_askAll_26 hl (by decide) rfl (fun ls hl => ?_)
          refine lv_aload hx hb dX4_askAll_28 (lv_at hl 0 rfl) ?_
          refine lv_ifnull hx hb dX4_askAll_30 ?_
          refine lv_aload_n hx hb dX4_askAll_33 rfl (lv_at hl 1 rfl) ?_
          refine lv_aload hx hb dX4_askAll_34 (lv_at hl 0 rfl) ?_
          refine lv_iload_n hx hb dX4_askAll_36 rfl (lv_at hl 2 rfl) ?_
          obtain ⟨g_13, hw⟩ := hw
          refine k_V (rn_V (As := [.ref (ad 2 x4.toNatClampNeg), .int x1]) (rest := []) (κ := 4) (i := 0) ⟨hx, hb, hml, hown, hts⟩ hT hW hS hl (c_X4_askOthers l E base M ad x4.toNatClampNeg x1 _ hw) cy_X4_askOthers k_154 k_155 k_156 g_13 (by decide) rfl rfl rfl rfl ⟨(Nat.le_of_ble_eq_true rfl), (Nat.le_of_ble_eq_true rfl)⟩ rfl rfl (Nat.le_of_ble_eq_true rfl) dX4_askAll_37 ⟨(Nat.le_of_ble_eq_true rfl), (Nat.le_of_ble_eq_true rfl)⟩) hS kx_no (fun M_15 ad_16 H locs hP hW hS => ?_)
          obtain ⟨hw, rfl⟩ := hP
          exact L_40 k16 K16 M_15 x1 x3 x4 hw H locs ls hW hS (lv_sub hl [1, 2, 3, 4, 5] rfl)
        · have hw := hw.2 g_12
          refine lv_astoreN (lv' := [(5, .null), (0, .ref (ad 4 0)), (1, .int x1), (2, .ref (ad 10 0)), (3, .int x3), (4, .int x4)]) hx hb dX4_askAll_26 hl (by decide) rfl (fun ls hl => ?_)
          refine lv_aloadN hx hb dX4_askAll_28 (lv_at hl 0 rfl) ?_
          refine lv_ifnullN (tgt := 40) hx hb dX4_askAll_30 (by decide) ?_
          exact L_40 k16 K16 M x1 x3 x4 hw H locs ls hW hS (lv_sub hl [1, 2, 3, 4, 5] rfl)
  unfold w_X4_askAll at hw
  obtain ⟨H, hH⟩ : ∃ z, z = s.heap := ⟨_, rfl⟩
  obtain ⟨locs, hlo⟩ : ∃ z : List Loc, z = [] := ⟨_, rfl⟩
  have hS : va_S (fun q : Nat => base ≤ q) s.heap H locs := by rw [hlo, hH]; exact hS
  have hW : Wd E base M ad H := by rw [hH]; exact hW
  rw [show W p l e rm_X4_askAll s m args below meth c s.heap [] 0 0 QQ (F0 m 0 ls []) = W p l e rm_X4_askAll s m args below meth c H locs 0 0 QQ (F0 m 0 ls []) by rw [hlo, hH]]
  refine lv_aload_n hx hb dX4_askAll_0 rfl (lv_at hl 0 rfl) ?_
  obtain ⟨g_1, hw⟩ := hw
  refine k_I (rn_V (As := []) (rest := []) (κ := 4) (i := 0) ⟨hx, hb, hml, hown, hts⟩ hT hW hS hl (c_X4_wantedPieces l E base M ad _ hw) cy_X4_wantedPieces k_104 k_105 k_106 g_1 (by decide) rfl rfl rfl rfl ⟨(Nat.le_of_ble_eq_true rfl), (Nat.le_of_ble_eq_true rfl)⟩ rfl rfl (Nat.le_of_ble_eq_true rfl) dX4_askAll_1 ⟨(Nat.le_of_ble_eq_true rfl), (Nat.le_of_ble_eq_true rfl)⟩) hS kx_no (fun r_5 M_3 ad_4 H locs hP hW hS => ?_)
  obtain ⟨hw, rfl⟩ := hP
  refine lv_istore_n (lv' := [(1, .int r_5), (0, .ref (ad 4 0))]) hx hb dX4_askAll_4 rfl hl (by decide) rfl (fun ls hl => ?_)
  refine lv_aload_n hx hb dX4_askAll_5 rfl (lv_at hl 1 rfl) ?_
  obtain ⟨g_6, hw⟩ := hw
  obtain ⟨g_7, hw⟩ := hw
  refine r_getR (κ2 := 10) (i2 := 0) hx hb hts hown hT.1 hW clX4 0 (by decide) (hts _ k_5) (fun _ h9 => h9) 10 rfl rfl g_6 g_7 dX4_askAll_6 ?_
  refine lv_astore_n (lv' := [(2, .ref (ad 10 0)), (1, .int r_5), (0, .ref (ad 4 0))]) hx hb dX4_askAll_9 rfl hl (by decide) rfl (fun ls hl => ?_)
  refine lv_aload_n hx hb dX4_askAll_10 rfl (lv_at hl 0 rfl) ?_
  obtain ⟨g_8, hw⟩ := hw
  refine r_alen (v := 6) hx hb hT.1 hW (by decide) 3 rfl (kTy 3) rfl (by decide) g_8 dX4_askAll_11 ?_
  refine lv_istore_n (lv' := [(3, .int 6), (2, .ref (ad 10 0)), (1, .int r_5), (0, .ref (ad 4 0))]) hx hb dX4_askAll_12 rfl hl (by decide) rfl (fun ls hl => ?_)
  refine lv_iconst (v := 0) hx hb dX4_askAll_13 (by decide) ?_
  refine lv_istore (lv' := [(4, .int 0), (3, .int 6), (2, .ref (ad 10 0)), (1, .int r_5), (0, .ref (ad 4 0))]) hx hb dX4_askAll_14 hl (by decide) rfl (fun ls hl => ?_)
  obtain ⟨n9, hw⟩ := hw
  exact L_16 n9 M_3 r_5 6 0 hw H locs ls hW hS (lv_sub hl [4, 3, 2, 1, 0] rfl)
