def rm_X1_add : Room := { frames := 0, cells := 0, slots := 0, locals := 0 }
set_option maxHeartbeats 4000000 in
set_option maxRecDepth 100000 in
theorem c_X1_add (l : Launch) (E : GE) (base : Nat) (M : Mem) (ad : AD) (t : Nat) (a1 : Int32) (a2 : Int32) (a3 : Int32) (Q : Mem → Prop) (hw : w_X1_add M t a1 a2 a3 Q) : Con l yX1_add cX1_add 4 none rm_X1_add 0 0 E base [.ref (ad 1 t), .int a1, .int a2, .int a3] M ad (QcV E base (fun M1 ad1 => Q M1 ∧ ad = ad1)) noX := by
  refine con_start (by decide) (Nat.le_of_ble_eq_true rfl) ?_
  intro p e s m args below meth c ls QQ hQQ CT hnx hW hl
  obtain ⟨⟨hx, hb, hml, hown, hts⟩, hr, hlocks, hnm, hT⟩ := CT
  have hS : va_S (fun q : Nat => base ≤ q) s.heap s.heap [] := va_S.rf
  have hl : lv_has ls 4 [(0, .ref (ad 1 t)), (1, .int a1), (2, .int a2), (3, .int a3)] := hl
  have L_32 : ∀ (M : Mem) (x0 : Nat) (x2 : Int32) (s0 : Int32) (s1 : Int32) (s2 : Int32) (s3 : Nat), b_X1_add_32 Q M x0 x2 s0 s1 s2 s3 → WL p l e rm_X1_add s m args below meth c QQ E base 4 M ad 32 [(0, .ref (ad 1 x0)), (2, .int x2)] [.int s0, .int s1, .int s2, .ref (ad 22 s3)] 0 0 := by
    intro M x0 x2 s0 s1 s2 s3 hw H locs ls hW hS hl
    unfold b_X1_add_32 at hw
    refine lv_iadd hx hb dX1_add_32 ?_
    refine lv_bipush (v := 48) hx hb dX1_add_33 (by decide) ?_
    refine lv_imul hx hb dX1_add_35 ?_
    refine lv_iload_n hx hb dX1_add_36 rfl (lv_at hl 1 rfl) ?_
    refine lv_iadd hx hb dX1_add_37 ?_
    obtain ⟨g_6, hw⟩ := hw
    obtain ⟨g_7, hw⟩ := hw
    refine r_iast hx hb hT.1 hW hS (by decide) rfl (fun _ => rfl) 1000 rfl g_7 g_6 dX1_add_38 (fun M_8 H locs hM_8 hW hS => ?_)
    have hw := hw M_8 hM_8
    refine lv_aload_n hx hb dX1_add_39 rfl (lv_at hl 0 rfl) ?_
    refine lv_dup hx hb dX1_add_40 rfl ?_
    obtain ⟨g_9, hw⟩ := hw
    refine r_getI hx hb hts hown hT.1 hW clX1 2 (by decide) (hts _ k_38) (fun _ h9 => h9) rfl g_9 dX1_add_41 ?_
    refine lv_iconst (v := 1) hx hb dX1_add_44 (by decide) ?_
    refine lv_iadd hx hb dX1_add_45 ?_
    refine r_putI hx hb hts hown hT.1 hW hS clX1 2 (by decide) (hts _ k_38) (fun _ h9 => h9) rfl (by decide +kernel) rfl g_9 dX1_add_46 (fun M_10 H locs hM_10 hW hS => ?_)
    have hw := hw M_10 hM_10
    rw [← hQQ]
    exact e_V hx hb hr hlocks hW hS (Nat.le_of_ble_eq_true rfl) (Nat.le_of_ble_eq_true rfl) dX1_add_49 ⟨hw, rfl⟩
  unfold w_X1_add at hw
  obtain ⟨H, hH⟩ : ∃ z, z = s.heap := ⟨_, rfl⟩
  obtain ⟨locs, hlo⟩ : ∃ z : List Loc, z = [] := ⟨_, rfl⟩
  have hS : va_S (fun q : Nat => base ≤ q) s.heap H locs := by rw [hlo, hH]; exact hS
  have hW : Wd E base M ad H := by rw [hH]; exact hW
  rw [show W p l e rm_X1_add s m args below meth c s.heap [] 0 0 QQ (F0 m 0 ls []) = W p l e rm_X1_add s m args below meth c H locs 0 0 QQ (F0 m 0 ls []) by rw [hlo, hH]]
  refine lv_aload_n hx hb dX1_add_0 rfl (lv_at hl 0 rfl) ?_
  obtain ⟨g_1, hw⟩ := hw
  refine r_getI hx hb hts hown hT.1 hW clX1 2 (by decide) (hts _ k_38) (fun _ h9 => h9) rfl g_1 dX1_add_1 ?_
  refine lv_aload_n hx hb dX1_add_4 rfl (lv_at hl 0 rfl) ?_
  obtain ⟨g_2, hw⟩ := hw
  refine r_getR (κ2 := 22) (i2 := t) hx hb hts hown hT.1 hW clX1 1 (by decide) (hts _ k_37) (fun _ h9 => h9) 22 rfl rfl g_1 g_2 dX1_add_5 ?_
  obtain ⟨g_3, hw⟩ := hw
  refine r_alen (v := 1000) hx hb hT.1 hW (by decide) 0 rfl (kTy 0) rfl (by decide) g_3 dX1_add_8 ?_
  refine lv_icmp_ge (tgt := 49) hx hb dX1_add_9 (by decide) (fun c_4 => ?_) (fun c_4 => ?_)
  · have hw := hw.1 c_4
    rw [← hQQ]
    exact e_V hx hb hr hlocks hW hS (Nat.le_of_ble_eq_true rfl) (Nat.le_of_ble_eq_true rfl) dX1_add_49 ⟨hw, rfl⟩
  · have hw := hw.2 c_4
    refine lv_aload_n hx hb dX1_add_12 rfl (lv_at hl 0 rfl) ?_
    refine r_getR (κ2 := 22) (i2 := t) hx hb hts hown hT.1 hW clX1 1 (by decide) (hts _ k_37) (fun _ h9 => h9) 22 rfl rfl g_1 g_2 dX1_add_13 ?_
    refine lv_aload_n hx hb dX1_add_16 rfl (lv_at hl 0 rfl) ?_
    refine r_getI hx hb hts hown hT.1 hW clX1 2 (by decide) (hts _ k_38) (fun _ h9 => h9) rfl g_1 dX1_add_17 ?_
    refine lv_iload_n hx hb dX1_add_20 rfl (lv_at hl 1 rfl) ?_
    refine lv_iconst (v := 2) hx hb dX1_add_21 (by decide) ?_
    refine lv_imul hx hb dX1_add_22 ?_
    refine lv_iload_n hx hb dX1_add_23 rfl (lv_at hl 3 rfl) ?_
    refine lv_if_eq (tgt := 31) hx hb dX1_add_24 (by decide) (fun c_5 => ?_) (fun c_5 => ?_)
    · have hw := hw.1 c_5
      refine lv_iconst (v := 0) hx hb dX1_add_31 (by decide) ?_
      exact L_32 M t a2 0 (a1 * 2) (mI M 1 t 2) t hw H locs ls hW hS (lv_sub hl [0, 2] rfl)
    · have hw := hw.2 c_5
      refine lv_iconst (v := 1) hx hb dX1_add_27 (by decide) ?_
      refine lv_goto (tgt := 32) hx hb dX1_add_28 (by decide) ?_
      exact L_32 M t a2 1 (a1 * 2) (mI M 1 t 2) t hw H locs ls hW hS (lv_sub hl [0, 2] rfl)
def rm_X3_take : Room := { frames := 1, cells := 0, slots := 0, locals := 22 }
set_option maxHeartbeats 4000000 in
set_option maxRecDepth 100000 in
theorem c_X3_take (l : Launch) (E : GE) (base : Nat) (M : Mem) (ad : AD) (t : Nat) (a1 : Int32) (a2 : Int32) (Q : Int32 → Mem → Prop) (hw : w_X3_take M t a1 a2 Q) : Con l yX3_take cX3_take 3 (some .boolean) rm_X3_take 0 0 E base [.ref (ad 3 t), .int a1, .int a2] M ad (QcI E base (fun r M1 ad1 => Q r M1 ∧ ad = ad1)) noX := by
  refine con_start (by decide) (Nat.le_of_ble_eq_true rfl) ?_
  intro p e s m args below meth c ls QQ hQQ CT hnx hW hl
  obtain ⟨⟨hx, hb, hml, hown, hts⟩, hr, hlocks, hnm, hT⟩ := CT
  have hS : va_S (fun q : Nat => base ≤ q) s.heap s.heap [] := va_S.rf
  have hl : lv_has ls 3 [(0, .ref (ad 3 t)), (1, .int a1), (2, .int a2)] := hl
  unfold w_X3_take at hw
  obtain ⟨H, hH⟩ : ∃ z, z = s.heap := ⟨_, rfl⟩
  obtain ⟨locs, hlo⟩ : ∃ z : List Loc, z = [] := ⟨_, rfl⟩
  have hS : va_S (fun q : Nat => base ≤ q) s.heap H locs := by rw [hlo, hH]; exact hS
  have hW : Wd E base M ad H := by rw [hH]; exact hW
  rw [show W p l e rm_X3_take s m args below meth c s.heap [] 0 0 QQ (F0 m 0 ls []) = W p l e rm_X3_take s m args below meth c H locs 0 0 QQ (F0 m 0 ls []) by rw [hlo, hH]]
  refine lv_aload_n hx hb dX3_take_0 rfl (lv_at hl 0 rfl) ?_
  obtain ⟨g_1, hw⟩ := hw
  refine r_getL hx hb hts hown hT.1 hW clX3 1 (by decide) (hts _ k_33) (fun _ h9 => h9) rfl g_1 dX3_take_1 ?_
  refine lv_iload_n hx hb dX3_take_4 rfl (lv_at hl 1 rfl) ?_
  refine k_I (rn_SN (As := [.long (mL M 3 t 1), .int a1]) (rest := []) ⟨hx, hb, hml, hown, hts⟩ hT hW hS hl (c_X4_isIn l E base M ad (mL M 3 t 1) a1 _ hw) cy_X4_isIn kn_2 k_18 rfl rfl ⟨(Nat.le_of_ble_eq_true rfl), (Nat.le_of_ble_eq_true rfl)⟩ rfl rfl (Nat.le_of_ble_eq_true rfl) dX3_take_5 ⟨(Nat.le_of_ble_eq_true rfl), (Nat.le_of_ble_eq_true rfl)⟩) hS kx_no (fun r_5 M_3 ad_4 H locs hP hW hS => ?_)
  obtain ⟨hw, rfl⟩ := hP
  refine lv_if_eq (tgt := 13) hx hb dX3_take_8 (by decide) (fun c_6 => ?_) (fun c_6 => ?_)
  · have hw := hw.1 c_6
    refine lv_aload_n hx hb dX3_take_13 rfl (lv_at hl 0 rfl) ?_
    refine lv_dup hx hb dX3_take_14 rfl ?_
    obtain ⟨g_7, hw⟩ := hw
    refine r_getL hx hb hts hown hT.1 hW clX3 1 (by decide) (hts _ k_33) (fun _ h9 => h9) rfl g_7 dX3_take_15 ?_
    refine lv_lconst (v := 1) hx hb dX3_take_18 (by decide) ?_
    refine lv_iload_n hx hb dX3_take_19 rfl (lv_at hl 1 rfl) ?_
    refine lv_lshl hx hb dX3_take_20 rfl ?_
    refine lv_lor hx hb dX3_take_21 ?_
    refine r_putL hx hb hts hown hT.1 hW hS clX3 1 (by decide) (hts _ k_33) (fun _ h9 => h9) rfl (by decide +kernel) rfl g_7 dX3_take_22 (fun M_8 H locs hM_8 hW hS => ?_)
    have hw := hw M_8 hM_8
    refine lv_iload_n hx hb dX3_take_25 rfl (lv_at hl 2 rfl) ?_
    refine lv_if_eq (tgt := 41) hx hb dX3_take_26 (by decide) (fun c_9 => ?_) (fun c_9 => ?_)
    · have hw := hw.1 c_9
      refine lv_iconst (v := 1) hx hb dX3_take_41 (by decide) ?_
      rw [← hQQ]
      exact e_Z hx hb hr hlocks hW hS (Nat.le_of_ble_eq_true rfl) (Nat.le_of_ble_eq_true rfl) dX3_take_42 (by decide) ⟨hw, rfl⟩
    · have hw := hw.2 c_9
      refine lv_aload_n hx hb dX3_take_29 rfl (lv_at hl 0 rfl) ?_
      refine lv_dup hx hb dX3_take_30 rfl ?_
      refine r_getL hx hb hts hown hT.1 hW clX3 2 (by decide) (hts _ k_34) (fun _ h9 => h9) rfl (by rw [hM_8]; exact g_7) dX3_take_31 ?_
      refine lv_lconst (v := 1) hx hb dX3_take_34 (by decide) ?_
      refine lv_iload_n hx hb dX3_take_35 rfl (lv_at hl 1 rfl) ?_
      refine lv_lshl hx hb dX3_take_36 rfl ?_
      refine lv_lor hx hb dX3_take_37 ?_
      refine r_putL hx hb hts hown hT.1 hW hS clX3 2 (by decide) (hts _ k_34) (fun _ h9 => h9) rfl (by decide +kernel) rfl (by rw [hM_8]; exact g_7) dX3_take_38 (fun M_10 H locs hM_10 hW hS => ?_)
      have hw := hw M_10 hM_10
      refine lv_iconst (v := 1) hx hb dX3_take_41 (by decide) ?_
      rw [← hQQ]
      exact e_Z hx hb hr hlocks hW hS (Nat.le_of_ble_eq_true rfl) (Nat.le_of_ble_eq_true rfl) dX3_take_42 (by decide) ⟨hw, rfl⟩
  · have hw := hw.2 c_6
    refine lv_iconst (v := 0) hx hb dX3_take_11 (by decide) ?_
    rw [← hQQ]
    exact e_Z hx hb hr hlocks hW hS (Nat.le_of_ble_eq_true rfl) (Nat.le_of_ble_eq_true rfl) dX3_take_12 (by decide) ⟨hw, rfl⟩
def rm_X4_comeOne : Room := { frames := 2, cells := 0, slots := 0, locals := 44 }
set_option maxHeartbeats 4000000 in
set_option maxRecDepth 100000 in
theorem c_X4_comeOne (l : Launch) (E : GE) (base : Nat) (M : Mem) (ad : AD) (a1 : Nat) (a2 : Nat) (a3 : Int32) (Q : Int32 → Mem → Prop) (hw : w_X4_comeOne M a1 a2 a3 Q) : Con l yX4_comeOne cX4_comeOne 5 (some .boolean) rm_X4_comeOne 0 0 E base [.ref (ad 4 0), .ref (ad 2 a1), .ref (ad 2 a2), .int a3] M ad (QcI E base (fun r M1 ad1 => Q r M1 ∧ ad = ad1)) noX := by
  refine con_start (by decide) (Nat.le_of_ble_eq_true rfl) ?_
  intro p e s m args below meth c ls QQ hQQ CT hnx hW hl
  obtain ⟨⟨hx, hb, hml, hown, hts⟩, hr, hlocks, hnm, hT⟩ := CT
  have hS : va_S (fun q : Nat => base ≤ q) s.heap s.heap [] := va_S.rf
  have hl : lv_has ls 5 [(0, .ref (ad 4 0)), (1, .ref (ad 2 a1)), (2, .ref (ad 2 a2)), (3, .int a3)] := hl
  unfold w_X4_comeOne at hw
  obtain ⟨H, hH⟩ : ∃ z, z = s.heap := ⟨_, rfl⟩
  obtain ⟨locs, hlo⟩ : ∃ z : List Loc, z = [] := ⟨_, rfl⟩
  have hS : va_S (fun q : Nat => base ≤ q) s.heap H locs := by rw [hlo, hH]; exact hS
  have hW : Wd E base M ad H := by rw [hH]; exact hW
  rw [show W p l e rm_X4_comeOne s m args below meth c s.heap [] 0 0 QQ (F0 m 0 ls []) = W p l e rm_X4_comeOne s m args below meth c H locs 0 0 QQ (F0 m 0 ls []) by rw [hlo, hH]]
  refine lv_aload_n hx hb dX4_comeOne_0 rfl (lv_at hl 2 rfl) ?_
  obtain ⟨g_1, hw⟩ := hw
  refine r_getI hx hb hts hown hT.1 hW clX2 4 (by decide) (hts _ k_103) (fun _ h9 => h9) rfl g_1 dX4_comeOne_1 ?_
  refine lv_i2l hx hb dX4_comeOne_4 rfl ?_
  refine lv_iload_n hx hb dX4_comeOne_5 rfl (lv_at hl 3 rfl) ?_
  refine lv_iconst (v := 4) hx hb dX4_comeOne_6 (by decide) ?_
  refine lv_idiv hx hb dX4_comeOne_7 (by decide) ?_
  refine k_I (rn_S (As := [.long ((mI M 2 a2 4).toInt64), .int (a3 / 4)]) (rest := []) ⟨hx, hb, hml, hown, hts⟩ hT hW hS hl (c_X4_isIn l E base M ad ((mI M 2 a2 4).toInt64) (a3 / 4) _ hw) cy_X4_isIn k_17 k_18 rfl rfl ⟨(Nat.le_of_ble_eq_true rfl), (Nat.le_of_ble_eq_true rfl)⟩ rfl rfl (Nat.le_of_ble_eq_true rfl) dX4_comeOne_8 ⟨(Nat.le_of_ble_eq_true rfl), (Nat.le_of_ble_eq_true rfl)⟩) hS kx_no (fun r_5 M_3 ad_4 H locs hP hW hS => ?_)
  obtain ⟨hw, rfl⟩ := hP
  refine lv_istore (lv' := [(4, .int r_5), (0, .ref (ad 4 0)), (1, .ref (ad 2 a1)), (2, .ref (ad 2 a2)), (3, .int a3)]) hx hb dX4_comeOne_11 hl (by decide) rfl (fun ls hl => ?_)
  refine lv_aload_n hx hb dX4_comeOne_13 rfl (lv_at hl 2 rfl) ?_
  obtain ⟨g_6, hw⟩ := hw
  obtain ⟨g_7, hw⟩ := hw
  refine r_getR (κ2 := 1) (i2 := a1) hx hb hts hown hT.1 hW clX2 2 (by decide) (hts _ k_157) (fun _ h9 => h9) 1 rfl rfl g_6 g_7 dX4_comeOne_14 ?_
  refine lv_aload_n hx hb dX4_comeOne_17 rfl (lv_at hl 1 rfl) ?_
  obtain ⟨g_8, hw⟩ := hw
  refine r_getI hx hb hts hown hT.1 hW clX4 4 (by decide) (hts _ k_10) (fun _ h9 => h9) rfl g_8 dX4_comeOne_18 ?_
  refine lv_iload_n hx hb dX4_comeOne_21 rfl (lv_at hl 4 rfl) ?_
  refine lv_iload hx hb dX4_comeOne_22 (lv_at hl 0 rfl) ?_
  obtain ⟨g_9, hw⟩ := hw
  refine k_V (rn_V (As := [.int (mI M_3 4 0 4), .int a3, .int r_5]) (rest := []) (κ := 1) (i := a1) ⟨hx, hb, hml, hown, hts⟩ hT hW hS hl (c_X1_add l E base M_3 ad a1 (mI M_3 4 0 4) a3 r_5 _ hw) cy_X1_add k_158 k_159 k_160 g_9 (by decide) rfl rfl rfl rfl ⟨(Nat.le_of_ble_eq_true rfl), (Nat.le_of_ble_eq_true rfl)⟩ rfl rfl (Nat.le_of_ble_eq_true rfl) dX4_comeOne_24 ⟨(Nat.le_of_ble_eq_true rfl), (Nat.le_of_ble_eq_true rfl)⟩) hS kx_no (fun M_11 ad_12 H locs hP hW hS => ?_)
  obtain ⟨hw, rfl⟩ := hP
  refine lv_aload_n hx hb dX4_comeOne_27 rfl (lv_at hl 2 rfl) ?_
  obtain ⟨g_14, hw⟩ := hw
  obtain ⟨g_15, hw⟩ := hw
  refine r_getR (κ2 := 3) (i2 := a1) hx hb hts hown hT.1 hW clX2 1 (by decide) (hts _ k_15) (fun _ h9 => h9) 3 rfl rfl g_14 g_15 dX4_comeOne_28 ?_
  refine lv_iload_n hx hb dX4_comeOne_31 rfl (lv_at hl 4 rfl) ?_
  refine lv_iload hx hb dX4_comeOne_32 (lv_at hl 0 rfl) ?_
  obtain ⟨g_16, hw⟩ := hw
  refine k_I (rn_V (As := [.int a3, .int r_5]) (rest := []) (κ := 3) (i := a1) ⟨hx, hb, hml, hown, hts⟩ hT hW hS hl (c_X3_take l E base M_11 ad a1 a3 r_5 _ hw) cy_X3_take k_161 k_162 k_163 g_16 (by decide) rfl rfl rfl rfl ⟨(Nat.le_of_ble_eq_true rfl), (Nat.le_of_ble_eq_true rfl)⟩ rfl rfl (Nat.le_of_ble_eq_true rfl) dX4_comeOne_34 ⟨(Nat.le_of_ble_eq_true rfl), (Nat.le_of_ble_eq_true rfl)⟩) hS kx_no (fun r_20 M_18 ad_19 H locs hP hW hS => ?_)
  obtain ⟨hw, rfl⟩ := hP
  refine lv_if_ne (tgt := 52) hx hb dX4_comeOne_37 (by decide) (fun c_21 => ?_) (fun c_21 => ?_)
  · have hw := hw.2 c_21
    refine lv_aload_n hx hb dX4_comeOne_52 rfl (lv_at hl 2 rfl) ?_
    obtain ⟨g_22, hw⟩ := hw
    obtain ⟨g_23, hw⟩ := hw
    refine r_getR (κ2 := 23) (i2 := a1) hx hb hts hown hT.1 hW clX2 7 (by decide) (hts _ k_164) (fun _ h9 => h9) 23 rfl rfl g_22 g_23 dX4_comeOne_53 ?_
    refine lv_aload_n hx hb dX4_comeOne_56 rfl (lv_at hl 3 rfl) ?_
    obtain ⟨g_24, hw⟩ := hw
    refine r_getI hx hb hts hown hT.1 hW clX2 0 (by decide) (hts _ k_83) (fun _ h9 => h9) rfl g_24 dX4_comeOne_57 ?_
    refine lv_dup2_11 hx hb dX4_comeOne_60 rfl rfl ?_
    obtain ⟨g_25, hw⟩ := hw
    obtain ⟨g_26, hw⟩ := hw
    refine r_lald hx hb hT.1 hW (by decide) rfl (fun _ => rfl) 6 rfl g_26 g_25 dX4_comeOne_61 ?_
    refine lv_lconst (v := 1) hx hb dX4_comeOne_62 (by decide) ?_
    refine lv_iload_n hx hb dX4_comeOne_63 rfl (lv_at hl 4 rfl) ?_
    refine lv_lshl hx hb dX4_comeOne_64 rfl ?_
    refine lv_lor hx hb dX4_comeOne_65 ?_
    obtain ⟨g_27, hw⟩ := hw
    refine r_last hx hb hT.1 hW hS (by decide) rfl (fun _ => rfl) 6 rfl g_27 g_25 dX4_comeOne_66 (fun M_28 H locs hM_28 hW hS => ?_)
    have hw := hw M_28 hM_28
    refine lv_aload_n hx hb dX4_comeOne_67 rfl (lv_at hl 2 rfl) ?_
    obtain ⟨g_29, hw⟩ := hw
    refine r_getR (κ2 := 24) (i2 := a1) hx hb hts hown hT.1 hW clX2 8 (by decide) (hts _ k_82) (fun _ h9 => h9) 24 rfl rfl (by rw [hM_28]; exact g_22) g_29 dX4_comeOne_68 ?_
    refine lv_aload_n hx hb dX4_comeOne_71 rfl (lv_at hl 3 rfl) ?_
    refine r_getI hx hb hts hown hT.1 hW clX2 0 (by decide) (hts _ k_83) (fun _ h9 => h9) rfl (by rw [hM_28]; exact g_24) dX4_comeOne_72 ?_
    refine lv_dup2_11 hx hb dX4_comeOne_75 rfl rfl ?_
    obtain ⟨g_30, hw⟩ := hw
    obtain ⟨g_31, hw⟩ := hw
    refine r_iald hx hb hT.1 hW (by decide) rfl (fun _ => rfl) 6 rfl g_31 g_30 dX4_comeOne_76 ?_
    refine lv_iconst (v := 1) hx hb dX4_comeOne_77 (by decide) ?_
    refine lv_iadd hx hb dX4_comeOne_78 ?_
    obtain ⟨g_32, hw⟩ := hw
    refine r_iast hx hb hT.1 hW hS (by decide) rfl (fun _ => rfl) 6 rfl g_32 g_30 dX4_comeOne_79 (fun M_33 H locs hM_33 hW hS => ?_)
    have hw := hw M_33 hM_33
    refine lv_iconst (v := 1) hx hb dX4_comeOne_80 (by decide) ?_
    rw [← hQQ]
    exact e_Z hx hb hr hlocks hW hS (Nat.le_of_ble_eq_true rfl) (Nat.le_of_ble_eq_true rfl) dX4_comeOne_81 (by decide) ⟨hw, rfl⟩
  · have hw := hw.1 c_21
    refine lv_aload_n hx hb dX4_comeOne_40 rfl (lv_at hl 2 rfl) ?_
    refine lv_dup hx hb dX4_comeOne_41 rfl ?_
    obtain ⟨g_34, hw⟩ := hw
    refine r_getI hx hb hts hown hT.1 hW clX2 11 (by decide) (hts _ k_84) (fun _ h9 => h9) rfl g_34 dX4_comeOne_42 ?_
    refine lv_iconst (v := 1) hx hb dX4_comeOne_45 (by decide) ?_
    refine lv_iadd hx hb dX4_comeOne_46 ?_
    refine r_putI hx hb hts hown hT.1 hW hS clX2 11 (by decide) (hts _ k_84) (fun _ h9 => h9) rfl (by decide +kernel) rfl g_34 dX4_comeOne_47 (fun M_35 H locs hM_35 hW hS => ?_)
    have hw := hw M_35 hM_35
    refine lv_iconst (v := 0) hx hb dX4_comeOne_50 (by decide) ?_
    rw [← hQQ]
    exact e_Z hx hb hr hlocks hW hS (Nat.le_of_ble_eq_true rfl) (Nat.le_of_ble_eq_true rfl) dX4_comeOne_51 (by decide) ⟨hw, rfl⟩
def rm_J7_fill_53178_24 : Room := { frames := 0, cells := 0, slots := 0, locals := 0 }
set_option maxHeartbeats 4000000 in
set_option maxRecDepth 100000 in
theorem c_J7_fill_53178_24 (l : Launch) (E : GE) (base : Nat) (M : Mem) (ad : AD) (a0 : Nat) (a1 : Int32) (Q : Mem → Prop) (hw : w_J7_fill_53178_24 M a0 a1 Q) : Con l yJ7_fill_53178 cJ7_fill_53178 4 none rm_J7_fill_53178_24 0 0 E base [.ref (ad 24 a0), .int a1] M ad (QcV E base (fun M1 ad1 => Q M1 ∧ ad = ad1)) noX := by
  refine con_start (by decide) (Nat.le_of_ble_eq_true rfl) ?_
  intro p e s m args below meth c ls QQ hQQ CT hnx hW hl
  obtain ⟨⟨hx, hb, hml, hown, hts⟩, hr, hlocks, hnm, hT⟩ := CT
  have hS : va_S (fun q : Nat => base ≤ q) s.heap s.heap [] := va_S.rf
  have hl : lv_has ls 4 [(0, .ref (ad 24 a0)), (1, .int a1)] := hl
  have L_5 : ∀ (n : Nat) (M : Mem) (x0 : Nat) (x1 : Int32) (x2 : Int32) (x3 : Int32), l_J7_fill_53178_24_5 Q n M x0 x1 x2 x3 → WL p l e rm_J7_fill_53178_24 s m args below meth c QQ E base 4 M ad 5 [(0, .ref (ad 24 x0)), (1, .int x1), (2, .int x2), (3, .int x3)] [] 0 0 := by
    intro n
    induction n with
    | zero => intro M x0 x1 x2 x3 hw; exact False.elim hw
    | succ n K5 =>
      intro M x0 x1 x2 x3 hw H locs ls hW hS hl
      obtain ⟨k5, hk5⟩ : ∃ z, z = l_J7_fill_53178_24_5 Q n := ⟨_, rfl⟩
      have hw : b_J7_fill_53178_24_5 Q k5 M x0 x1 x2 x3 := by rw [hk5]; exact hw
      rw [← hk5] at K5
      unfold b_J7_fill_53178_24_5 at hw
      refine lv_iload_n hx hb dJ7_fill_53178_5 rfl (lv_at hl 2 rfl) ?_
      refine lv_iload_n hx hb dJ7_fill_53178_6 rfl (lv_at hl 3 rfl) ?_
      refine lv_icmp_ge (tgt := 20) hx hb dJ7_fill_53178_7 (by decide) (fun c_2 => ?_) (fun c_2 => ?_)
      · have hw := hw.1 c_2
        rw [← hQQ]
        exact e_V hx hb hr hlocks hW hS (Nat.le_of_ble_eq_true rfl) (Nat.le_of_ble_eq_true rfl) dJ7_fill_53178_20 ⟨hw, rfl⟩
      · have hw := hw.2 c_2
        refine lv_aload_n hx hb dJ7_fill_53178_10 rfl (lv_at hl 0 rfl) ?_
        refine lv_iload_n hx hb dJ7_fill_53178_11 rfl (lv_at hl 2 rfl) ?_
        refine lv_iload_n hx hb dJ7_fill_53178_12 rfl (lv_at hl 1 rfl) ?_
        obtain ⟨g_3, hw⟩ := hw
        obtain ⟨g_4, hw⟩ := hw
        refine r_iast hx hb hT.1 hW hS (by decide) rfl (fun _ => rfl) 6 rfl g_4 g_3 dJ7_fill_53178_13 (fun M_5 H locs hM_5 hW hS => ?_)
        have hw := hw M_5 hM_5
        obtain ⟨v_6, ev_6⟩ : ∃ y : Int32, y = x2 + 1 := ⟨_, rfl⟩
        have hw := hw v_6 ev_6
        refine lv_iinc (v := v_6) (lv' := [(2, .int v_6), (0, .ref (ad 24 x0)), (1, .int x1), (3, .int x3)]) hx hb dJ7_fill_53178_14 hl (k := 2) rfl (by rw [ev_6]; rfl) (by decide) rfl (fun ls hl => ?_)
        refine lv_goto (tgt := 5) hx hb dJ7_fill_53178_17 (by decide) ?_
        exact K5 M_5 x0 x1 v_6 x3 hw H locs ls hW hS (lv_sub hl [1, 2, 0, 3] rfl)
  unfold w_J7_fill_53178_24 at hw
  obtain ⟨H, hH⟩ : ∃ z, z = s.heap := ⟨_, rfl⟩
  obtain ⟨locs, hlo⟩ : ∃ z : List Loc, z = [] := ⟨_, rfl⟩
  have hS : va_S (fun q : Nat => base ≤ q) s.heap H locs := by rw [hlo, hH]; exact hS
  have hW : Wd E base M ad H := by rw [hH]; exact hW
  rw [show W p l e rm_J7_fill_53178_24 s m args below meth c s.heap [] 0 0 QQ (F0 m 0 ls []) = W p l e rm_J7_fill_53178_24 s m args below meth c H locs 0 0 QQ (F0 m 0 ls []) by rw [hlo, hH]]
  refine lv_iconst (v := 0) hx hb dJ7_fill_53178_0 (by decide) ?_
  refine lv_istore_n (lv' := [(2, .int 0), (0, .ref (ad 24 a0)), (1, .int a1)]) hx hb dJ7_fill_53178_1 rfl hl (by decide) rfl (fun ls hl => ?_)
  refine lv_aload_n hx hb dJ7_fill_53178_2 rfl (lv_at hl 1 rfl) ?_
  obtain ⟨g_1, hw⟩ := hw
  refine r_alen (v := 6) hx hb hT.1 hW (by decide) 0 rfl (kTy 0) rfl (by decide) g_1 dJ7_fill_53178_3 ?_
  refine lv_istore_n (lv' := [(3, .int 6), (2, .int 0), (0, .ref (ad 24 a0)), (1, .int a1)]) hx hb dJ7_fill_53178_4 rfl hl (by decide) rfl (fun ls hl => ?_)
  obtain ⟨n9, hw⟩ := hw
  exact L_5 n9 M a0 a1 0 6 hw H locs ls hW hS (lv_sub hl [2, 3, 1, 0] rfl)
def rm_X4_comeTo : Room := { frames := 3, cells := 0, slots := 0, locals := 68 }
set_option maxHeartbeats 4000000 in
set_option maxRecDepth 100000 in
theorem c_X4_comeTo (l : Launch) (E : GE) (base : Nat) (M : Mem) (ad : AD) (a1 : Nat) (Q : Int32 → Mem → Prop) (hw : w_X4_comeTo M a1 Q) : Con l yX4_comeTo cX4_comeTo 5 (some .int) rm_X4_comeTo 0 0 E base [.ref (ad 4 0), .ref (ad 2 a1)] M ad (QcI E base (fun r M1 ad1 => Q r M1 ∧ ad = ad1)) noX := by
  refine con_start (by decide) (Nat.le_of_ble_eq_true rfl) ?_
  intro p e s m args below meth c ls QQ hQQ CT hnx hW hl
  obtain ⟨⟨hx, hb, hml, hown, hts⟩, hr, hlocks, hnm, hT⟩ := CT
  have hS : va_S (fun q : Nat => base ≤ q) s.heap s.heap [] := va_S.rf
  have hl : lv_has ls 5 [(0, .ref (ad 4 0)), (1, .ref (ad 2 a1))] := hl
  have L_65 : ∀ (k12 : Mem → Nat → Int32 → Int32 → Prop) (K12 : ∀ (M : Mem) (x1 : Nat) (x2 : Int32) (x3 : Int32), k12 M x1 x2 x3 → WL p l e rm_X4_comeTo s m args below meth c QQ E base 5 M ad 12 [(0, .ref (ad 4 0)), (1, .ref (ad 2 x1)), (2, .int x2), (3, .int x3)] [] 0 0) (M : Mem) (x1 : Nat) (x2 : Int32) (x3 : Int32), b_X4_comeTo_65 k12 Q M x1 x2 x3 → WL p l e rm_X4_comeTo s m args below meth c QQ E base 5 M ad 65 [(0, .ref (ad 4 0)), (1, .ref (ad 2 x1)), (2, .int x2), (3, .int x3)] [] 0 0 := by
    intro k12 K12 M x1 x2 x3 hw H locs ls hW hS hl
    unfold b_X4_comeTo_65 at hw
    obtain ⟨v_19, ev_19⟩ : ∃ y : Int32, y = x3 + 1 := ⟨_, rfl⟩
    have hw := hw v_19 ev_19
    refine lv_iinc (v := v_19) (lv' := [(3, .int v_19), (0, .ref (ad 4 0)), (1, .ref (ad 2 x1)), (2, .int x2)]) hx hb dX4_comeTo_65 hl (k := 3) rfl (by rw [ev_19]; rfl) (by decide) rfl (fun ls hl => ?_)
    refine lv_goto (tgt := 12) hx hb dX4_comeTo_68 (by decide) ?_
    exact K12 M x1 x2 v_19 hw H locs ls hW hS (lv_sub hl [1, 2, 3, 0] rfl)
  have L_12 : ∀ (n : Nat) (M : Mem) (x1 : Nat) (x2 : Int32) (x3 : Int32), l_X4_comeTo_12 Q n M x1 x2 x3 → WL p l e rm_X4_comeTo s m args below meth c QQ E base 5 M ad 12 [(0, .ref (ad 4 0)), (1, .ref (ad 2 x1)), (2, .int x2), (3, .int x3)] [] 0 0 := by
    intro n
    induction n with
    | zero => intro M x1 x2 x3 hw; exact False.elim hw
    | succ n K12 =>
      intro M x1 x2 x3 hw H locs ls hW hS hl
      obtain ⟨k12, hk12⟩ : ∃ z, z = l_X4_comeTo_12 Q n := ⟨_, rfl⟩
      have hw : b_X4_comeTo_12 Q k12 M x1 x2 x3 := by rw [hk12]; exact hw
      rw [← hk12] at K12
      unfold b_X4_comeTo_12 at hw
      refine lv_iload_n hx hb dX4_comeTo_12 rfl (lv_at hl 3 rfl) ?_
      refine lv_aload_n hx hb dX4_comeTo_13 rfl (lv_at hl 1 rfl) ?_
      obtain ⟨g_7, hw⟩ := hw
      obtain ⟨g_8, hw⟩ := hw
      refine r_getR (κ2 := 0) (i2 := x1) hx hb hts hown hT.1 hW clX2 3 (by decide) (hts _ k_122) (fun _ h9 => h9) 0 rfl rfl g_7 g_8 dX4_comeTo_14 ?_
      obtain ⟨g_9, hw⟩ := hw
      refine r_getI hx hb hts hown hT.1 hW clX0 2 (by decide) (hts _ k_165) (fun _ h9 => h9) rfl g_9 dX4_comeTo_17 ?_
      refine lv_icmp_ge (tgt := 71) hx hb dX4_comeTo_20 (by decide) (fun c_10 => ?_) (fun c_10 => ?_)
      · have hw := hw.1 c_10
        refine lv_iload_n hx hb dX4_comeTo_71 rfl (lv_at hl 2 rfl) ?_
        rw [← hQQ]
        exact e_I hx hb hr hlocks hW hS (Nat.le_of_ble_eq_true rfl) (Nat.le_of_ble_eq_true rfl) dX4_comeTo_72 ⟨hw, rfl⟩
      · have hw := hw.2 c_10
        refine lv_aload_n hx hb dX4_comeTo_23 rfl (lv_at hl 0 rfl) ?_
        refine lv_aload_n hx hb dX4_comeTo_24 rfl (lv_at hl 1 rfl) ?_
        refine r_getR (κ2 := 0) (i2 := x1) hx hb hts hown hT.1 hW clX2 3 (by decide) (hts _ k_122) (fun _ h9 => h9) 0 rfl rfl g_7 g_8 dX4_comeTo_25 ?_
        obtain ⟨g_11, hw⟩ := hw
        refine r_getR (κ2 := 21) (i2 := x1) hx hb hts hown hT.1 hW clX0 1 (by decide) (hts _ k_166) (fun _ h9 => h9) 21 rfl rfl g_9 g_11 dX4_comeTo_28 ?_
        refine lv_iload_n hx hb dX4_comeTo_31 rfl (lv_at hl 3 rfl) ?_
        obtain ⟨g_12, hw⟩ := hw
        obtain ⟨g_13, hw⟩ := hw
        refine r_iald hx hb hT.1 hW (by decide) rfl (fun _ => rfl) 6 rfl g_13 g_12 dX4_comeTo_32 ?_
        obtain ⟨g_14, hw⟩ := hw
        refine k_Q (rn_V (As := [.int (mI M 21 x1 x3.toNatClampNeg)]) (rest := []) (κ := 4) (i := 0) ⟨hx, hb, hml, hown, hts⟩ hT hW hS hl (c_X4_find l E base M ad (mI M 21 x1 x3.toNatClampNeg) _ hw) cy_X4_find k_76 k_77 k_78 g_14 (by decide) rfl rfl rfl rfl ⟨(Nat.le_of_ble_eq_true rfl), (Nat.le_of_ble_eq_true rfl)⟩ rfl rfl (Nat.le_of_ble_eq_true rfl) dX4_comeTo_33 ⟨(Nat.le_of_ble_eq_true rfl), (Nat.le_of_ble_eq_true rfl)⟩) hS kx_no (fun M_16 ad_17 H locs hP hW hS => ?_) (fun r_18 M_16 ad_17 H locs hP hW hS => ?_)
        · obtain ⟨hw, rfl⟩ := hP
          have hw := hw.1 rfl
          refine lv_astoreN (lv' := [(4, .null), (0, .ref (ad 4 0)), (1, .ref (ad 2 x1)), (2, .int x2), (3, .int x3)]) hx hb dX4_comeTo_36 hl (by decide) rfl (fun ls hl => ?_)
          refine lv_aloadN hx hb dX4_comeTo_38 (lv_at hl 0 rfl) ?_
          refine lv_ifnullN (tgt := 65) hx hb dX4_comeTo_40 (by decide) ?_
          exact L_65 k12 K12 M_16 x1 x2 x3 hw H locs ls hW hS (lv_sub hl [1, 2, 3, 4] rfl)
        · obtain ⟨hw, rfl⟩ := hP
          have hw := hw.2 r_18 rfl
          refine lv_astore (lv' := [(4, .ref (ad 2 r_18)), (0, .ref (ad 4 0)), (1, .ref (ad 2 x1)), (2, .int x2), (3, .int x3)]) hx hb dX4_comeTo_36 hl (by decide) rfl (fun ls hl => ?_)
          refine lv_aload hx hb dX4_comeTo_38 (lv_at hl 0 rfl) ?_
          refine lv_ifnull hx hb dX4_comeTo_40 ?_
          refine lv_aload_n hx hb dX4_comeTo_43 rfl (lv_at hl 1 rfl) ?_
          refine lv_aload_n hx hb dX4_comeTo_44 rfl (lv_at hl 2 rfl) ?_
          refine lv_aload hx hb dX4_comeTo_45 (lv_at hl 0 rfl) ?_
          refine lv_aload_n hx hb dX4_comeTo_47 rfl (lv_at hl 2 rfl) ?_
          obtain ⟨g_20, hw⟩ := hw
          obtain ⟨g_21, hw⟩ := hw
          refine r_getR (κ2 := 0) (i2 := x1) hx hb hts hown hT.1 hW clX2 3 (by decide) (hts _ k_122) (fun _ h9 => h9) 0 rfl rfl g_20 g_21 dX4_comeTo_48 ?_
          obtain ⟨g_22, hw⟩ := hw
          obtain ⟨g_23, hw⟩ := hw
          refine r_getR (κ2 := 20) (i2 := x1) hx hb hts hown hT.1 hW clX0 0 (by decide) (hts _ k_167) (fun _ h9 => h9) 20 rfl rfl g_22 g_23 dX4_comeTo_51 ?_
          refine lv_iload_n hx hb dX4_comeTo_54 rfl (lv_at hl 4 rfl) ?_
          obtain ⟨g_24, hw⟩ := hw
          obtain ⟨g_25, hw⟩ := hw
          refine r_iald hx hb hT.1 hW (by decide) rfl (fun _ => rfl) 6 rfl g_25 g_24 dX4_comeTo_55 ?_
          obtain ⟨g_26, hw⟩ := hw
          refine k_I (rn_V (As := [.ref (ad 2 x1), .ref (ad 2 r_18), .int (mI M_16 20 x1 x3.toNatClampNeg)]) (rest := []) (κ := 4) (i := 0) ⟨hx, hb, hml, hown, hts⟩ hT hW hS hl (c_X4_comeOne l E base M_16 ad x1 r_18 (mI M_16 20 x1 x3.toNatClampNeg) _ hw) cy_X4_comeOne k_168 k_169 k_170 g_26 (by decide) rfl rfl rfl rfl ⟨(Nat.le_of_ble_eq_true rfl), (Nat.le_of_ble_eq_true rfl)⟩ rfl rfl (Nat.le_of_ble_eq_true rfl) dX4_comeTo_56 ⟨(Nat.le_of_ble_eq_true rfl), (Nat.le_of_ble_eq_true rfl)⟩) hS kx_no (fun r_30 M_28 ad_29 H locs hP hW hS => ?_)
          obtain ⟨hw, rfl⟩ := hP
          refine lv_if_eq (tgt := 65) hx hb dX4_comeTo_59 (by decide) (fun c_31 => ?_) (fun c_31 => ?_)
          · have hw := hw.1 c_31
            exact L_65 k12 K12 M_28 x1 x2 x3 hw H locs ls hW hS (lv_sub hl [1, 2, 3, 4] rfl)
          · have hw := hw.2 c_31
            obtain ⟨v_32, ev_32⟩ : ∃ y : Int32, y = x2 + 1 := ⟨_, rfl⟩
            have hw := hw v_32 ev_32
            refine lv_iinc (v := v_32) (lv' := [(2, .int v_32), (4, .ref (ad 2 r_18)), (0, .ref (ad 4 0)), (1, .ref (ad 2 x1)), (3, .int x3)]) hx hb dX4_comeTo_62 hl (k := 3) rfl (by rw [ev_32]; rfl) (by decide) rfl (fun ls hl => ?_)
            exact L_65 k12 K12 M_28 x1 v_32 x3 hw H locs ls hW hS (lv_sub hl [2, 3, 0, 4] rfl)
  unfold w_X4_comeTo at hw
  obtain ⟨H, hH⟩ : ∃ z, z = s.heap := ⟨_, rfl⟩
  obtain ⟨locs, hlo⟩ : ∃ z : List Loc, z = [] := ⟨_, rfl⟩
  have hS : va_S (fun q : Nat => base ≤ q) s.heap H locs := by rw [hlo, hH]; exact hS
  have hW : Wd E base M ad H := by rw [hH]; exact hW
  rw [show W p l e rm_X4_comeTo s m args below meth c s.heap [] 0 0 QQ (F0 m 0 ls []) = W p l e rm_X4_comeTo s m args below meth c H locs 0 0 QQ (F0 m 0 ls []) by rw [hlo, hH]]
  refine lv_aload_n hx hb dX4_comeTo_0 rfl (lv_at hl 1 rfl) ?_
  obtain ⟨g_1, hw⟩ := hw
  obtain ⟨g_2, hw⟩ := hw
  refine r_getR (κ2 := 24) (i2 := a1) hx hb hts hown hT.1 hW clX2 8 (by decide) (hts _ k_82) (fun _ h9 => h9) 24 rfl rfl g_1 g_2 dX4_comeTo_1 ?_
  refine lv_iconst (v := 0) hx hb dX4_comeTo_4 (by decide) ?_
  refine k_V (rn_S (As := [.ref (ad 24 a1), .int 0]) (rest := []) ⟨hx, hb, hml, hown, hts⟩ hT hW hS hl (c_J7_fill_53178_24 l E base M ad a1 0 _ hw) cy_J7_fill_53178 k_11 k_12 rfl rfl ⟨(Nat.le_of_ble_eq_true rfl), (Nat.le_of_ble_eq_true rfl)⟩ rfl rfl (Nat.le_of_ble_eq_true rfl) dX4_comeTo_5 ⟨(Nat.le_of_ble_eq_true rfl), (Nat.le_of_ble_eq_true rfl)⟩) hS kx_no (fun M_4 ad_5 H locs hP hW hS => ?_)
  obtain ⟨hw, rfl⟩ := hP
  refine lv_iconst (v := 0) hx hb dX4_comeTo_8 (by decide) ?_
  refine lv_istore_n (lv' := [(2, .int 0), (0, .ref (ad 4 0)), (1, .ref (ad 2 a1))]) hx hb dX4_comeTo_9 rfl hl (by decide) rfl (fun ls hl => ?_)
  refine lv_iconst (v := 0) hx hb dX4_comeTo_10 (by decide) ?_
  refine lv_istore_n (lv' := [(3, .int 0), (2, .int 0), (0, .ref (ad 4 0)), (1, .ref (ad 2 a1))]) hx hb dX4_comeTo_11 rfl hl (by decide) rfl (fun ls hl => ?_)
  obtain ⟨n9, hw⟩ := hw
  exact L_12 n9 M_4 a1 0 0 hw H locs ls hW hS (lv_sub hl [2, 3, 1, 0] rfl)
def rm_X4_comeAll : Room := { frames := 4, cells := 0, slots := 0, locals := 92 }
set_option maxHeartbeats 4000000 in
set_option maxRecDepth 100000 in
theorem c_X4_comeAll (l : Launch) (E : GE) (base : Nat) (M : Mem) (ad : AD)  (Q : Int32 → Mem → Prop) (hw : w_X4_comeAll M  Q) : Con l yX4_comeAll cX4_comeAll 6 (some .int) rm_X4_comeAll 0 0 E base [.ref (ad 4 0)] M ad (QcI E base (fun r M1 ad1 => Q r M1 ∧ ad = ad1)) noX := by
  refine con_start (by decide) (Nat.le_of_ble_eq_true rfl) ?_
  intro p e s m args below meth c ls QQ hQQ CT hnx hW hl
  obtain ⟨⟨hx, hb, hml, hown, hts⟩, hr, hlocks, hnm, hT⟩ := CT
  have hS : va_S (fun q : Nat => base ≤ q) s.heap s.heap [] := va_S.rf
  have hl : lv_has ls 6 [(0, .ref (ad 4 0))] := hl
  have L_39 : ∀ (k13 : Mem → Int32 → Int32 → Int32 → Prop) (K13 : ∀ (M : Mem) (x1 : Int32) (x3 : Int32) (x4 : Int32), k13 M x1 x3 x4 → WL p l e rm_X4_comeAll s m args below meth c QQ E base 6 M ad 13 [(0, .ref (ad 4 0)), (1, .int x1), (2, .ref (ad 10 0)), (3, .int x3), (4, .int x4)] [] 0 0) (M : Mem) (x1 : Int32) (x3 : Int32) (x4 : Int32), b_X4_comeAll_39 k13 Q M x1 x3 x4 → WL p l e rm_X4_comeAll s m args below meth c QQ E base 6 M ad 39 [(0, .ref (ad 4 0)), (1, .int x1), (2, .ref (ad 10 0)), (3, .int x3), (4, .int x4)] [] 0 0 := by
    intro k13 K13 M x1 x3 x4 hw H locs ls hW hS hl
    unfold b_X4_comeAll_39 at hw
    obtain ⟨v_14, ev_14⟩ : ∃ y : Int32, y = x4 + 1 := ⟨_, rfl⟩
    have hw := hw v_14 ev_14
    refine lv_iinc (v := v_14) (lv' := [(4, .int v_14), (0, .ref (ad 4 0)), (1, .int x1), (2, .ref (ad 10 0)), (3, .int x3)]) hx hb dX4_comeAll_39 hl (k := 4) rfl (by rw [ev_14]; rfl) (by decide) rfl (fun ls hl => ?_)
    refine lv_goto (tgt := 13) hx hb dX4_comeAll_42 (by decide) ?_
    exact K13 M x1 x3 v_14 hw H locs ls hW hS (lv_sub hl [1, 2, 3, 4, 0] rfl)
  have L_13 : ∀ (n : Nat) (M : Mem) (x1 : Int32) (x3 : Int32) (x4 : Int32), l_X4_comeAll_13 Q n M x1 x3 x4 → WL p l e rm_X4_comeAll s m args below meth c QQ E base 6 M ad 13 [(0, .ref (ad 4 0)), (1, .int x1), (2, .ref (ad 10 0)), (3, .int x3), (4, .int x4)] [] 0 0 := by
    intro n
    induction n with
    | zero => intro M x1 x3 x4 hw; exact False.elim hw
    | succ n K13 =>
      intro M x1 x3 x4 hw H locs ls hW hS hl
      obtain ⟨k13, hk13⟩ : ∃ z, z = l_X4_comeAll_13 Q n := ⟨_, rfl⟩
      have hw : b_X4_comeAll_13 Q k13 M x1 x3 x4 := by rw [hk13]; exact hw
      rw [← hk13] at K13
      unfold b_X4_comeAll_13 at hw
      refine lv_iload hx hb dX4_comeAll_13 (lv_at hl 4 rfl) ?_
      refine lv_iload_n hx hb dX4_comeAll_15 rfl (lv_at hl 3 rfl) ?_
      refine lv_icmp_ge (tgt := 45) hx hb dX4_comeAll_16 (by decide) (fun c_4 => ?_) (fun c_4 => ?_)
      · have hw := hw.1 c_4
        refine lv_iload_n hx hb dX4_comeAll_45 rfl (lv_at hl 1 rfl) ?_
        rw [← hQQ]
        exact e_I hx hb hr hlocks hW hS (Nat.le_of_ble_eq_true rfl) (Nat.le_of_ble_eq_true rfl) dX4_comeAll_46 ⟨hw, rfl⟩
      · have hw := hw.2 c_4
        refine lv_aload_n hx hb dX4_comeAll_19 rfl (lv_at hl 2 rfl) ?_
        refine lv_iload hx hb dX4_comeAll_20 (lv_at hl 4 rfl) ?_
        obtain ⟨g_5, hw⟩ := hw
        obtain ⟨g_6, hw⟩ := hw
        refine r_aald hx hb hT.1 hW g_6 g_5 dX4_comeAll_22 (fun g_7 => ?_) (fun g_7 => ?_)
        · have hw := hw.1 g_7
          refine lv_astore (lv' := [(5, .ref (ad 2 x4.toNatClampNeg)), (0, .ref (ad 4 0)), (1, .int x1), (2, .ref (ad 10 0)), (3, .int x3), (4, .int x4)]) hx hb dX4_comeAll_23 hl (by decide) rfl (fun ls hl => ?_)
          refine lv_aload hx hb dX4_comeAll_25 (lv_at hl 0 rfl) ?_
          refine lv_ifnull hx hb dX4_comeAll_27 ?_
          refine lv_iload_n hx hb dX4_comeAll_30 rfl (lv_at hl 2 rfl) ?_
          refine lv_aload_n hx hb dX4_comeAll_31 rfl (lv_at hl 1 rfl) ?_
          refine lv_aload hx hb dX4_comeAll_32 (lv_at hl 0 rfl) ?_
          obtain ⟨g_8, hw⟩ := hw
          refine k_I (rn_V (As := [.ref (ad 2 x4.toNatClampNeg)]) (rest := [.int x1]) (κ := 4) (i := 0) ⟨hx, hb, hml, hown, hts⟩ hT hW hS hl (c_X4_comeTo l E base M ad x4.toNatClampNeg _ hw) cy_X4_comeTo k_171 k_172 k_173 g_8 (by decide) rfl rfl rfl rfl ⟨(Nat.le_of_ble_eq_true rfl), (Nat.le_of_ble_eq_true rfl)⟩ rfl rfl (Nat.le_of_ble_eq_true rfl) dX4_comeAll_34 ⟨(Nat.le_of_ble_eq_true rfl), (Nat.le_of_ble_eq_true rfl)⟩) hS kx_no (fun r_12 M_10 ad_11 H locs hP hW hS => ?_)
          obtain ⟨hw, rfl⟩ := hP
          refine lv_iadd hx hb dX4_comeAll_37 ?_
          refine lv_topi (fun v_13 ev_13 => ?_)
          have hw := hw v_13 ev_13
          refine lv_istore_n (lv' := [(1, .int v_13), (5, .ref (ad 2 x4.toNatClampNeg)), (0, .ref (ad 4 0)), (2, .ref (ad 10 0)), (3, .int x3), (4, .int x4)]) hx hb dX4_comeAll_38 rfl hl (by decide) rfl (fun ls hl => ?_)
          exact L_39 k13 K13 M_10 v_13 x3 x4 hw H locs ls hW hS (lv_sub hl [2, 0, 3, 4, 5] rfl)
        · have hw := hw.2 g_7
          refine lv_astoreN (lv' := [(5, .null), (0, .ref (ad 4 0)), (1, .int x1), (2, .ref (ad 10 0)), (3, .int x3), (4, .int x4)]) hx hb dX4_comeAll_23 hl (by decide) rfl (fun ls hl => ?_)
          refine lv_aloadN hx hb dX4_comeAll_25 (lv_at hl 0 rfl) ?_
          refine lv_ifnullN (tgt := 39) hx hb dX4_comeAll_27 (by decide) ?_
          exact L_39 k13 K13 M x1 x3 x4 hw H locs ls hW hS (lv_sub hl [1, 2, 3, 4, 5] rfl)
  unfold w_X4_comeAll at hw
  obtain ⟨H, hH⟩ : ∃ z, z = s.heap := ⟨_, rfl⟩
  obtain ⟨locs, hlo⟩ : ∃ z : List Loc, z = [] := ⟨_, rfl⟩
  have hS : va_S (fun q : Nat => base ≤ q) s.heap H locs := by rw [hlo, hH]; exact hS
  have hW : Wd E base M ad H := by rw [hH]; exact hW
  rw [show W p l e rm_X4_comeAll s m args below meth c s.heap [] 0 0 QQ (F0 m 0 ls []) = W p l e rm_X4_comeAll s m args below meth c H locs 0 0 QQ (F0 m 0 ls []) by rw [hlo, hH]]
  refine lv_iconst (v := 0) hx hb dX4_comeAll_0 (by decide) ?_
  refine lv_istore_n (lv' := [(1, .int 0), (0, .ref (ad 4 0))]) hx hb dX4_comeAll_1 rfl hl (by decide) rfl (fun ls hl => ?_)
  refine lv_aload_n hx hb dX4_comeAll_2 rfl (lv_at hl 1 rfl) ?_
  obtain ⟨g_1, hw⟩ := hw
  obtain ⟨g_2, hw⟩ := hw
  refine r_getR (κ2 := 10) (i2 := 0) hx hb hts hown hT.1 hW clX4 0 (by decide) (hts _ k_5) (fun _ h9 => h9) 10 rfl rfl g_1 g_2 dX4_comeAll_3 ?_
  refine lv_astore_n (lv' := [(2, .ref (ad 10 0)), (1, .int 0), (0, .ref (ad 4 0))]) hx hb dX4_comeAll_6 rfl hl (by decide) rfl (fun ls hl => ?_)
  refine lv_aload_n hx hb dX4_comeAll_7 rfl (lv_at hl 0 rfl) ?_
  obtain ⟨g_3, hw⟩ := hw
  refine r_alen (v := 6) hx hb hT.1 hW (by decide) 3 rfl (kTy 3) rfl (by decide) g_3 dX4_comeAll_8 ?_
  refine lv_istore_n (lv' := [(3, .int 6), (2, .ref (ad 10 0)), (1, .int 0), (0, .ref (ad 4 0))]) hx hb dX4_comeAll_9 rfl hl (by decide) rfl (fun ls hl => ?_)
  refine lv_iconst (v := 0) hx hb dX4_comeAll_10 (by decide) ?_
  refine lv_istore (lv' := [(4, .int 0), (3, .int 6), (2, .ref (ad 10 0)), (1, .int 0), (0, .ref (ad 4 0))]) hx hb dX4_comeAll_11 hl (by decide) rfl (fun ls hl => ?_)
  obtain ⟨n9, hw⟩ := hw
  exact L_13 n9 M 0 6 0 hw H locs ls hW hS (lv_sub hl [4, 3, 2, 1, 0] rfl)
def rm_X3_isComplete : Room := { frames := 1, cells := 0, slots := 0, locals := 20 }
set_option maxHeartbeats 4000000 in
set_option maxRecDepth 100000 in
theorem c_X3_isComplete (l : Launch) (E : GE) (base : Nat) (M : Mem) (ad : AD) (t : Nat) (a1 : Int32) (Q : Int32 → Mem → Prop) (hw : w_X3_isComplete M t a1 Q) : Con l yX3_isComplete cX3_isComplete 2 (some .boolean) rm_X3_isComplete 0 0 E base [.ref (ad 3 t), .int a1] M ad (QcI E base (fun r M1 ad1 => Q r M1 ∧ ad = ad1)) noX := by
  refine con_start (by decide) (Nat.le_of_ble_eq_true rfl) ?_
  intro p e s m args below meth c ls QQ hQQ CT hnx hW hl
  obtain ⟨⟨hx, hb, hml, hown, hts⟩, hr, hlocks, hnm, hT⟩ := CT
  have hS : va_S (fun q : Nat => base ≤ q) s.heap s.heap [] := va_S.rf
  have hl : lv_has ls 2 [(0, .ref (ad 3 t)), (1, .int a1)] := hl
  unfold w_X3_isComplete at hw
  obtain ⟨H, hH⟩ : ∃ z, z = s.heap := ⟨_, rfl⟩
  obtain ⟨locs, hlo⟩ : ∃ z : List Loc, z = [] := ⟨_, rfl⟩
  have hS : va_S (fun q : Nat => base ≤ q) s.heap H locs := by rw [hlo, hH]; exact hS
  have hW : Wd E base M ad H := by rw [hH]; exact hW
  rw [show W p l e rm_X3_isComplete s m args below meth c s.heap [] 0 0 QQ (F0 m 0 ls []) = W p l e rm_X3_isComplete s m args below meth c H locs 0 0 QQ (F0 m 0 ls []) by rw [hlo, hH]]
  refine lv_aload_n hx hb dX3_isComplete_0 rfl (lv_at hl 0 rfl) ?_
  obtain ⟨g_1, hw⟩ := hw
  refine r_getL hx hb hts hown hT.1 hW clX3 1 (by decide) (hts _ k_33) (fun _ h9 => h9) rfl g_1 dX3_isComplete_1 ?_
  refine lv_ldc2 hx hb hown (hts _ k_174) dX3_isComplete_4 ?_
  refine lv_lxor hx hb dX3_isComplete_7 ?_
  refine lv_iload_n hx hb dX3_isComplete_8 rfl (lv_at hl 1 rfl) ?_
  refine k_L (rn_SN (As := [.int a1]) (rest := [.long ((mL M 3 t 1) ^^^ (-1))]) ⟨hx, hb, hml, hown, hts⟩ hT hW hS hl (c_X4_blocksOfPiece l E base M ad a1 _ hw) cy_X4_blocksOfPiece kn_3 k_132 rfl rfl ⟨(Nat.le_of_ble_eq_true rfl), (Nat.le_of_ble_eq_true rfl)⟩ rfl rfl (Nat.le_of_ble_eq_true rfl) dX3_isComplete_9 ⟨(Nat.le_of_ble_eq_true rfl), (Nat.le_of_ble_eq_true rfl)⟩) hS kx_no (fun r_5 M_3 ad_4 H locs hP hW hS => ?_)
  obtain ⟨hw, rfl⟩ := hP
  refine lv_land hx hb dX3_isComplete_12 ?_
  refine lv_lconst (v := 0) hx hb dX3_isComplete_13 (by decide) ?_
  refine W.lcmp hx hb dX3_isComplete_14 ?_
  refine lv_if_ne (tgt := 22) hx hb dX3_isComplete_15 (by decide) (fun c_6 => ?_) (fun c_6 => ?_)
  · have hw := hw.2 c_6
    refine lv_iconst (v := 0) hx hb dX3_isComplete_22 (by decide) ?_
    rw [← hQQ]
    exact e_Z hx hb hr hlocks hW hS (Nat.le_of_ble_eq_true rfl) (Nat.le_of_ble_eq_true rfl) dX3_isComplete_23 (by decide) ⟨hw, rfl⟩
  · have hw := hw.1 c_6
    refine lv_iconst (v := 1) hx hb dX3_isComplete_18 (by decide) ?_
    refine lv_goto (tgt := 23) hx hb dX3_isComplete_19 (by decide) ?_
    rw [← hQQ]
    exact e_Z hx hb hr hlocks hW hS (Nat.le_of_ble_eq_true rfl) (Nat.le_of_ble_eq_true rfl) dX3_isComplete_23 (by decide) ⟨hw, rfl⟩
def rm_X3_isSound : Room := { frames := 1, cells := 0, slots := 0, locals := 20 }
set_option maxHeartbeats 4000000 in
set_option maxRecDepth 100000 in
theorem c_X3_isSound (l : Launch) (E : GE) (base : Nat) (M : Mem) (ad : AD) (t : Nat) (a1 : Int32) (Q : Int32 → Mem → Prop) (hw : w_X3_isSound M t a1 Q) : Con l yX3_isSound cX3_isSound 2 (some .boolean) rm_X3_isSound 0 0 E base [.ref (ad 3 t), .int a1] M ad (QcI E base (fun r M1 ad1 => Q r M1 ∧ ad = ad1)) noX := by
  refine con_start (by decide) (Nat.le_of_ble_eq_true rfl) ?_
  intro p e s m args below meth c ls QQ hQQ CT hnx hW hl
  obtain ⟨⟨hx, hb, hml, hown, hts⟩, hr, hlocks, hnm, hT⟩ := CT
  have hS : va_S (fun q : Nat => base ≤ q) s.heap s.heap [] := va_S.rf
  have hl : lv_has ls 2 [(0, .ref (ad 3 t)), (1, .int a1)] := hl
  unfold w_X3_isSound at hw
  obtain ⟨H, hH⟩ : ∃ z, z = s.heap := ⟨_, rfl⟩
  obtain ⟨locs, hlo⟩ : ∃ z : List Loc, z = [] := ⟨_, rfl⟩
  have hS : va_S (fun q : Nat => base ≤ q) s.heap H locs := by rw [hlo, hH]; exact hS
  have hW : Wd E base M ad H := by rw [hH]; exact hW
  rw [show W p l e rm_X3_isSound s m args below meth c s.heap [] 0 0 QQ (F0 m 0 ls []) = W p l e rm_X3_isSound s m args below meth c H locs 0 0 QQ (F0 m 0 ls []) by rw [hlo, hH]]
  refine lv_aload_n hx hb dX3_isSound_0 rfl (lv_at hl 0 rfl) ?_
  obtain ⟨g_1, hw⟩ := hw
  refine r_getL hx hb hts hown hT.1 hW clX3 2 (by decide) (hts _ k_34) (fun _ h9 => h9) rfl g_1 dX3_isSound_1 ?_
  refine lv_iload_n hx hb dX3_isSound_4 rfl (lv_at hl 1 rfl) ?_
  refine k_L (rn_SN (As := [.int a1]) (rest := [.long (mL M 3 t 2)]) ⟨hx, hb, hml, hown, hts⟩ hT hW hS hl (c_X4_blocksOfPiece l E base M ad a1 _ hw) cy_X4_blocksOfPiece kn_3 k_132 rfl rfl ⟨(Nat.le_of_ble_eq_true rfl), (Nat.le_of_ble_eq_true rfl)⟩ rfl rfl (Nat.le_of_ble_eq_true rfl) dX3_isSound_5 ⟨(Nat.le_of_ble_eq_true rfl), (Nat.le_of_ble_eq_true rfl)⟩) hS kx_no (fun r_5 M_3 ad_4 H locs hP hW hS => ?_)
  obtain ⟨hw, rfl⟩ := hP
  refine lv_land hx hb dX3_isSound_8 ?_
  refine lv_lconst (v := 0) hx hb dX3_isSound_9 (by decide) ?_
  refine W.lcmp hx hb dX3_isSound_10 ?_
  refine lv_if_ne (tgt := 18) hx hb dX3_isSound_11 (by decide) (fun c_6 => ?_) (fun c_6 => ?_)
  · have hw := hw.2 c_6
    refine lv_iconst (v := 0) hx hb dX3_isSound_18 (by decide) ?_
    rw [← hQQ]
    exact e_Z hx hb hr hlocks hW hS (Nat.le_of_ble_eq_true rfl) (Nat.le_of_ble_eq_true rfl) dX3_isSound_19 (by decide) ⟨hw, rfl⟩
  · have hw := hw.1 c_6
    refine lv_iconst (v := 1) hx hb dX3_isSound_14 (by decide) ?_
    refine lv_goto (tgt := 19) hx hb dX3_isSound_15 (by decide) ?_
    rw [← hQQ]
    exact e_Z hx hb hr hlocks hW hS (Nat.le_of_ble_eq_true rfl) (Nat.le_of_ble_eq_true rfl) dX3_isSound_19 (by decide) ⟨hw, rfl⟩
def rm_X2_blame : Room := { frames := 1, cells := 0, slots := 0, locals := 20 }
set_option maxHeartbeats 4000000 in
set_option maxRecDepth 100000 in
theorem c_X2_blame (l : Launch) (E : GE) (base : Nat) (M : Mem) (ad : AD) (t : Nat) (a1 : Int32) (Q : Mem → Prop) (hw : w_X2_blame M t a1 Q) : Con l yX2_blame cX2_blame 7 none rm_X2_blame 0 0 E base [.ref (ad 2 t), .int a1] M ad (QcV E base (fun M1 ad1 => Q M1 ∧ ad = ad1)) noX := by
  refine con_start (by decide) (Nat.le_of_ble_eq_true rfl) ?_
  intro p e s m args below meth c ls QQ hQQ CT hnx hW hl
  obtain ⟨⟨hx, hb, hml, hown, hts⟩, hr, hlocks, hnm, hT⟩ := CT
  have hS : va_S (fun q : Nat => base ≤ q) s.heap s.heap [] := va_S.rf
  have hl : lv_has ls 7 [(0, .ref (ad 2 t)), (1, .int a1)] := hl
  have L_78 : ∀ (k8 : Mem → Nat → Int64 → Int32 → Prop) (K8 : ∀ (M : Mem) (x0 : Nat) (x2 : Int64) (x4 : Int32), k8 M x0 x2 x4 → WL p l e rm_X2_blame s m args below meth c QQ E base 7 M ad 8 [(0, .ref (ad 2 x0)), (2, .long x2), (4, .int x4)] [] 0 0) (M : Mem) (x0 : Nat) (x2 : Int64) (x4 : Int32), b_X2_blame_78 k8 Q M x0 x2 x4 → WL p l e rm_X2_blame s m args below meth c QQ E base 7 M ad 78 [(0, .ref (ad 2 x0)), (2, .long x2), (4, .int x4)] [] 0 0 := by
    intro k8 K8 M x0 x2 x4 hw H locs ls hW hS hl
    unfold b_X2_blame_78 at hw
    obtain ⟨v_12, ev_12⟩ : ∃ y : Int32, y = x4 + 1 := ⟨_, rfl⟩
    have hw := hw v_12 ev_12
    refine lv_iinc (v := v_12) (lv' := [(4, .int v_12), (0, .ref (ad 2 x0)), (2, .long x2)]) hx hb dX2_blame_78 hl (k := 2) rfl (by rw [ev_12]; rfl) (by decide) rfl (fun ls hl => ?_)
    refine lv_goto (tgt := 8) hx hb dX2_blame_81 (by decide) ?_
    exact K8 M x0 x2 v_12 hw H locs ls hW hS (lv_sub hl [1, 2, 0] rfl)
  have L_65 : ∀ (k8 : Mem → Nat → Int64 → Int32 → Prop) (K8 : ∀ (M : Mem) (x0 : Nat) (x2 : Int64) (x4 : Int32), k8 M x0 x2 x4 → WL p l e rm_X2_blame s m args below meth c QQ E base 7 M ad 8 [(0, .ref (ad 2 x0)), (2, .long x2), (4, .int x4)] [] 0 0) (M : Mem) (x0 : Nat) (x2 : Int64) (x4 : Int32), b_X2_blame_65 k8 Q M x0 x2 x4 → WL p l e rm_X2_blame s m args below meth c QQ E base 7 M ad 65 [(0, .ref (ad 2 x0)), (2, .long x2), (4, .int x4)] [] 0 0 := by
    intro k8 K8 M x0 x2 x4 hw H locs ls hW hS hl
    unfold b_X2_blame_65 at hw
    refine lv_aload_n hx hb dX2_blame_65 rfl (lv_at hl 0 rfl) ?_
    refine lv_dup hx hb dX2_blame_66 rfl ?_
    obtain ⟨g_19, hw⟩ := hw
    refine r_getI hx hb hts hown hT.1 hW clX2 10 (by decide) (hts _ k_53) (fun _ h9 => h9) rfl g_19 dX2_blame_67 ?_
    refine lv_iconst (v := 1) hx hb dX2_blame_70 (by decide) ?_
    refine lv_iload hx hb dX2_blame_71 (lv_at hl 2 rfl) ?_
    refine lv_ishl hx hb dX2_blame_73 ?_
    refine lv_ior hx hb dX2_blame_74 ?_
    refine r_putI hx hb hts hown hT.1 hW hS clX2 10 (by decide) (hts _ k_53) (fun _ h9 => h9) rfl (by decide +kernel) rfl g_19 dX2_blame_75 (fun M_20 H locs hM_20 hW hS => ?_)
    have hw := hw M_20 hM_20
    exact L_78 k8 K8 M_20 x0 x2 x4 hw H locs ls hW hS (lv_sub hl [0, 1, 2] rfl)
  have L_8 : ∀ (n : Nat) (M : Mem) (x0 : Nat) (x2 : Int64) (x4 : Int32), l_X2_blame_8 Q n M x0 x2 x4 → WL p l e rm_X2_blame s m args below meth c QQ E base 7 M ad 8 [(0, .ref (ad 2 x0)), (2, .long x2), (4, .int x4)] [] 0 0 := by
    intro n
    induction n with
    | zero => intro M x0 x2 x4 hw; exact False.elim hw
    | succ n K8 =>
      intro M x0 x2 x4 hw H locs ls hW hS hl
      obtain ⟨k8, hk8⟩ : ∃ z, z = l_X2_blame_8 Q n := ⟨_, rfl⟩
      have hw : b_X2_blame_8 Q k8 M x0 x2 x4 := by rw [hk8]; exact hw
      rw [← hk8] at K8
      unfold b_X2_blame_8 at hw
      refine lv_iload hx hb dX2_blame_8 (lv_at hl 2 rfl) ?_
      refine lv_aload_n hx hb dX2_blame_10 rfl (lv_at hl 0 rfl) ?_
      obtain ⟨g_5, hw⟩ := hw
      obtain ⟨g_6, hw⟩ := hw
      refine r_getR (κ2 := 23) (i2 := x0) hx hb hts hown hT.1 hW clX2 7 (by decide) (hts _ k_50) (fun _ h9 => h9) 23 rfl rfl g_5 g_6 dX2_blame_11 ?_
      obtain ⟨g_7, hw⟩ := hw
      refine r_alen (v := 6) hx hb hT.1 hW (by decide) 1 rfl (kTy 1) rfl (by decide) g_7 dX2_blame_14 ?_
      refine lv_icmp_ge (tgt := 84) hx hb dX2_blame_15 (by decide) (fun c_8 => ?_) (fun c_8 => ?_)
      · have hw := hw.1 c_8
        rw [← hQQ]
        exact e_V hx hb hr hlocks hW hS (Nat.le_of_ble_eq_true rfl) (Nat.le_of_ble_eq_true rfl) dX2_blame_84 ⟨hw, rfl⟩
      · have hw := hw.2 c_8
        refine lv_aload_n hx hb dX2_blame_18 rfl (lv_at hl 0 rfl) ?_
        refine r_getR (κ2 := 23) (i2 := x0) hx hb hts hown hT.1 hW clX2 7 (by decide) (hts _ k_50) (fun _ h9 => h9) 23 rfl rfl g_5 g_6 dX2_blame_19 ?_
        refine lv_iload hx hb dX2_blame_22 (lv_at hl 2 rfl) ?_
        obtain ⟨g_9, hw⟩ := hw
        refine r_lald hx hb hT.1 hW (by decide) rfl (fun _ => rfl) 6 rfl g_9 g_7 dX2_blame_24 ?_
        refine lv_lload_n hx hb dX2_blame_25 rfl (lv_at hl 1 rfl) ?_
        refine lv_land hx hb dX2_blame_26 ?_
        refine lv_topl (fun v_10 ev_10 => ?_)
        have hw := hw v_10 ev_10
        refine lv_lstore (lv' := [(5, .long v_10), (0, .ref (ad 2 x0)), (2, .long x2), (4, .int x4)]) hx hb dX2_blame_27 hl (by decide) rfl (fun ls hl => ?_)
        refine lv_lload hx hb dX2_blame_29 (lv_at hl 0 rfl) ?_
        refine lv_lconst (v := 0) hx hb dX2_blame_31 (by decide) ?_
        refine W.lcmp hx hb dX2_blame_32 ?_
        refine lv_if_eq (tgt := 78) hx hb dX2_blame_33 (by decide) (fun c_11 => ?_) (fun c_11 => ?_)
        · have hw := hw.1 c_11
          exact L_78 k8 K8 M x0 x2 x4 hw H locs ls hW hS (lv_sub hl [1, 2, 3] rfl)
        · have hw := hw.2 c_11
          refine lv_aload_n hx hb dX2_blame_36 rfl (lv_at hl 1 rfl) ?_
          obtain ⟨g_13, hw⟩ := hw
          refine r_getR (κ2 := 25) (i2 := x0) hx hb hts hown hT.1 hW clX2 9 (by decide) (hts _ k_52) (fun _ h9 => h9) 25 rfl rfl g_5 g_13 dX2_blame_37 ?_
          refine lv_iload hx hb dX2_blame_40 (lv_at hl 3 rfl) ?_
          refine lv_dup2_11 hx hb dX2_blame_42 rfl rfl ?_
          obtain ⟨g_14, hw⟩ := hw
          obtain ⟨g_15, hw⟩ := hw
          refine r_iald hx hb hT.1 hW (by decide) rfl (fun _ => rfl) 6 rfl g_15 g_14 dX2_blame_43 ?_
          refine lv_iconst (v := 1) hx hb dX2_blame_44 (by decide) ?_
          refine lv_iadd hx hb dX2_blame_45 ?_
          obtain ⟨g_16, hw⟩ := hw
          refine r_iast hx hb hT.1 hW hS (by decide) rfl (fun _ => rfl) 6 rfl g_16 g_14 dX2_blame_46 (fun M_17 H locs hM_17 hW hS => ?_)
          have hw := hw M_17 hM_17
          refine lv_lload hx hb dX2_blame_47 (lv_at hl 0 rfl) ?_
          refine lv_lload_n hx hb dX2_blame_49 rfl (lv_at hl 2 rfl) ?_
          refine W.lcmp hx hb dX2_blame_50 ?_
          refine lv_if_eq (tgt := 65) hx hb dX2_blame_51 (by decide) (fun c_18 => ?_) (fun c_18 => ?_)
          · have hw := hw.1 c_18
            exact L_65 k8 K8 M_17 x0 x2 x4 hw H locs ls hW hS (lv_sub hl [1, 2, 3] rfl)
          · have hw := hw.2 c_18
            refine lv_aload_n hx hb dX2_blame_54 rfl (lv_at hl 1 rfl) ?_
            refine r_getR (κ2 := 25) (i2 := x0) hx hb hts hown hT.1 hW clX2 9 (by decide) (hts _ k_52) (fun _ h9 => h9) 25 rfl rfl (by rw [hM_17]; exact g_5) (by rw [hM_17]; exact g_13) dX2_blame_55 ?_
            refine lv_iload hx hb dX2_blame_58 (lv_at hl 3 rfl) ?_
            obtain ⟨g_21, hw⟩ := hw
            refine r_iald hx hb hT.1 hW (by decide) rfl (fun _ => rfl) 6 rfl g_21 (by rw [hM_17]; exact g_14) dX2_blame_60 ?_
            refine lv_iconst (v := 3) hx hb dX2_blame_61 (by decide) ?_
            refine lv_icmp_lt (tgt := 78) hx hb dX2_blame_62 (by decide) (fun c_22 => ?_) (fun c_22 => ?_)
            · have hw := hw.1 c_22
              exact L_78 k8 K8 M_17 x0 x2 x4 hw H locs ls hW hS (lv_sub hl [1, 2, 3] rfl)
            · have hw := hw.2 c_22
              exact L_65 k8 K8 M_17 x0 x2 x4 hw H locs ls hW hS (lv_sub hl [1, 2, 3] rfl)
  unfold w_X2_blame at hw
  obtain ⟨H, hH⟩ : ∃ z, z = s.heap := ⟨_, rfl⟩
  obtain ⟨locs, hlo⟩ : ∃ z : List Loc, z = [] := ⟨_, rfl⟩
  have hS : va_S (fun q : Nat => base ≤ q) s.heap H locs := by rw [hlo, hH]; exact hS
  have hW : Wd E base M ad H := by rw [hH]; exact hW
  rw [show W p l e rm_X2_blame s m args below meth c s.heap [] 0 0 QQ (F0 m 0 ls []) = W p l e rm_X2_blame s m args below meth c H locs 0 0 QQ (F0 m 0 ls []) by rw [hlo, hH]]
  refine lv_iload_n hx hb dX2_blame_0 rfl (lv_at hl 1 rfl) ?_
  refine k_L (rn_SN (As := [.int a1]) (rest := []) ⟨hx, hb, hml, hown, hts⟩ hT hW hS hl (c_X4_blocksOfPiece l E base M ad a1 _ hw) cy_X4_blocksOfPiece kn_4 k_132 rfl rfl ⟨(Nat.le_of_ble_eq_true rfl), (Nat.le_of_ble_eq_true rfl)⟩ rfl rfl (Nat.le_of_ble_eq_true rfl) dX2_blame_1 ⟨(Nat.le_of_ble_eq_true rfl), (Nat.le_of_ble_eq_true rfl)⟩) hS kx_no (fun r_4 M_2 ad_3 H locs hP hW hS => ?_)
  obtain ⟨hw, rfl⟩ := hP
  refine lv_lstore_n (lv' := [(2, .long r_4), (0, .ref (ad 2 t)), (1, .int a1)]) hx hb dX2_blame_4 rfl hl (by decide) rfl (fun ls hl => ?_)
  refine lv_iconst (v := 0) hx hb dX2_blame_5 (by decide) ?_
  refine lv_istore (lv' := [(4, .int 0), (2, .long r_4), (0, .ref (ad 2 t)), (1, .int a1)]) hx hb dX2_blame_6 hl (by decide) rfl (fun ls hl => ?_)
  obtain ⟨n9, hw⟩ := hw
  exact L_8 n9 M_2 t r_4 0 hw H locs ls hW hS (lv_sub hl [2, 1, 0] rfl)
def rm_X2_forgetSenders : Room := { frames := 1, cells := 0, slots := 0, locals := 20 }
set_option maxHeartbeats 4000000 in
set_option maxRecDepth 100000 in
theorem c_X2_forgetSenders (l : Launch) (E : GE) (base : Nat) (M : Mem) (ad : AD) (t : Nat) (a1 : Int32) (Q : Mem → Prop) (hw : w_X2_forgetSenders M t a1 Q) : Con l yX2_forgetSenders cX2_forgetSenders 3 none rm_X2_forgetSenders 0 0 E base [.ref (ad 2 t), .int a1] M ad (QcV E base (fun M1 ad1 => Q M1 ∧ ad = ad1)) noX := by
  refine con_start (by decide) (Nat.le_of_ble_eq_true rfl) ?_
  intro p e s m args below meth c ls QQ hQQ CT hnx hW hl
  obtain ⟨⟨hx, hb, hml, hown, hts⟩, hr, hlocks, hnm, hT⟩ := CT
  have hS : va_S (fun q : Nat => base ≤ q) s.heap s.heap [] := va_S.rf
  have hl : lv_has ls 3 [(0, .ref (ad 2 t)), (1, .int a1)] := hl
  have L_2 : ∀ (n : Nat) (M : Mem) (x0 : Nat) (x1 : Int32) (x2 : Int32), l_X2_forgetSenders_2 Q n M x0 x1 x2 → WL p l e rm_X2_forgetSenders s m args below meth c QQ E base 3 M ad 2 [(0, .ref (ad 2 x0)), (1, .int x1), (2, .int x2)] [] 0 0 := by
    intro n
    induction n with
    | zero => intro M x0 x1 x2 hw; exact False.elim hw
    | succ n K2 =>
      intro M x0 x1 x2 hw H locs ls hW hS hl
      obtain ⟨k2, hk2⟩ : ∃ z, z = l_X2_forgetSenders_2 Q n := ⟨_, rfl⟩
      have hw : b_X2_forgetSenders_2 Q k2 M x0 x1 x2 := by rw [hk2]; exact hw
      rw [← hk2] at K2
      unfold b_X2_forgetSenders_2 at hw
      refine lv_iload_n hx hb dX2_forgetSenders_2 rfl (lv_at hl 2 rfl) ?_
      refine lv_aload_n hx hb dX2_forgetSenders_3 rfl (lv_at hl 0 rfl) ?_
      obtain ⟨g_1, hw⟩ := hw
      obtain ⟨g_2, hw⟩ := hw
      refine r_getR (κ2 := 23) (i2 := x0) hx hb hts hown hT.1 hW clX2 7 (by decide) (hts _ k_50) (fun _ h9 => h9) 23 rfl rfl g_1 g_2 dX2_forgetSenders_4 ?_
      obtain ⟨g_3, hw⟩ := hw
      refine r_alen (v := 6) hx hb hT.1 hW (by decide) 1 rfl (kTy 1) rfl (by decide) g_3 dX2_forgetSenders_7 ?_
      refine lv_icmp_ge (tgt := 34) hx hb dX2_forgetSenders_8 (by decide) (fun c_4 => ?_) (fun c_4 => ?_)
      · have hw := hw.1 c_4
        rw [← hQQ]
        exact e_V hx hb hr hlocks hW hS (Nat.le_of_ble_eq_true rfl) (Nat.le_of_ble_eq_true rfl) dX2_forgetSenders_34 ⟨hw, rfl⟩
      · have hw := hw.2 c_4
        refine lv_aload_n hx hb dX2_forgetSenders_11 rfl (lv_at hl 0 rfl) ?_
        refine r_getR (κ2 := 23) (i2 := x0) hx hb hts hown hT.1 hW clX2 7 (by decide) (hts _ k_50) (fun _ h9 => h9) 23 rfl rfl g_1 g_2 dX2_forgetSenders_12 ?_
        refine lv_iload_n hx hb dX2_forgetSenders_15 rfl (lv_at hl 2 rfl) ?_
        refine lv_dup2_11 hx hb dX2_forgetSenders_16 rfl rfl ?_
        obtain ⟨g_5, hw⟩ := hw
        refine r_lald hx hb hT.1 hW (by decide) rfl (fun _ => rfl) 6 rfl g_5 g_3 dX2_forgetSenders_17 ?_
        refine lv_iload_n hx hb dX2_forgetSenders_18 rfl (lv_at hl 1 rfl) ?_
        refine k_L (rn_SN (As := [.int x1]) (rest := [.long (mL M 23 x0 x2.toNatClampNeg), .int x2, .ref (ad 23 x0)]) ⟨hx, hb, hml, hown, hts⟩ hT hW hS hl (c_X4_blocksOfPiece l E base M ad x1 _ hw) cy_X4_blocksOfPiece kn_4 k_132 rfl rfl ⟨(Nat.le_of_ble_eq_true rfl), (Nat.le_of_ble_eq_true rfl)⟩ rfl rfl (Nat.le_of_ble_eq_true rfl) dX2_forgetSenders_19 ⟨(Nat.le_of_ble_eq_true rfl), (Nat.le_of_ble_eq_true rfl)⟩) hS kx_no (fun r_9 M_7 ad_8 H locs hP hW hS => ?_)
        obtain ⟨hw, rfl⟩ := hP
        refine lv_ldc2 hx hb hown (hts _ k_175) dX2_forgetSenders_22 ?_
        refine lv_lxor hx hb dX2_forgetSenders_25 ?_
        refine lv_land hx hb dX2_forgetSenders_26 ?_
        obtain ⟨g_10, hw⟩ := hw
        obtain ⟨g_11, hw⟩ := hw
        refine r_last hx hb hT.1 hW hS (by decide) rfl (fun _ => rfl) 6 rfl g_11 g_10 dX2_forgetSenders_27 (fun M_12 H locs hM_12 hW hS => ?_)
        have hw := hw M_12 hM_12
        obtain ⟨v_13, ev_13⟩ : ∃ y : Int32, y = x2 + 1 := ⟨_, rfl⟩
        have hw := hw v_13 ev_13
        refine lv_iinc (v := v_13) (lv' := [(2, .int v_13), (0, .ref (ad 2 x0)), (1, .int x1)]) hx hb dX2_forgetSenders_28 hl (k := 2) rfl (by rw [ev_13]; rfl) (by decide) rfl (fun ls hl => ?_)
        refine lv_goto (tgt := 2) hx hb dX2_forgetSenders_31 (by decide) ?_
        exact K2 M_12 x0 x1 v_13 hw H locs ls hW hS (lv_sub hl [1, 2, 0] rfl)
  unfold w_X2_forgetSenders at hw
  obtain ⟨H, hH⟩ : ∃ z, z = s.heap := ⟨_, rfl⟩
  obtain ⟨locs, hlo⟩ : ∃ z : List Loc, z = [] := ⟨_, rfl⟩
  have hS : va_S (fun q : Nat => base ≤ q) s.heap H locs := by rw [hlo, hH]; exact hS
  have hW : Wd E base M ad H := by rw [hH]; exact hW
  rw [show W p l e rm_X2_forgetSenders s m args below meth c s.heap [] 0 0 QQ (F0 m 0 ls []) = W p l e rm_X2_forgetSenders s m args below meth c H locs 0 0 QQ (F0 m 0 ls []) by rw [hlo, hH]]
  refine lv_iconst (v := 0) hx hb dX2_forgetSenders_0 (by decide) ?_
  refine lv_istore_n (lv' := [(2, .int 0), (0, .ref (ad 2 t)), (1, .int a1)]) hx hb dX2_forgetSenders_1 rfl hl (by decide) rfl (fun ls hl => ?_)
  obtain ⟨n9, hw⟩ := hw
  exact L_2 n9 M t a1 0 hw H locs ls hW hS (lv_sub hl [1, 2, 0] rfl)
def rm_X3_endPieces : Room := { frames := 2, cells := 0, slots := 0, locals := 41 }
set_option maxHeartbeats 4000000 in
set_option maxRecDepth 100000 in
theorem c_X3_endPieces (l : Launch) (E : GE) (base : Nat) (M : Mem) (ad : AD) (t : Nat) (Q : Mem → Prop) (hw : w_X3_endPieces M t Q) : Con l yX3_endPieces cX3_endPieces 2 none rm_X3_endPieces 0 0 E base [.ref (ad 3 t)] M ad (QcV E base (fun M1 ad1 => Q M1 ∧ ad = ad1)) noX := by
  refine con_start (by decide) (Nat.le_of_ble_eq_true rfl) ?_
  intro p e s m args below meth c ls QQ hQQ CT hnx hW hl
  obtain ⟨⟨hx, hb, hml, hown, hts⟩, hr, hlocks, hnm, hT⟩ := CT
  have hS : va_S (fun q : Nat => base ≤ q) s.heap s.heap [] := va_S.rf
  have hl : lv_has ls 2 [(0, .ref (ad 3 t))] := hl
  have L_70 : ∀ (k2 : Mem → Nat → Int32 → Prop) (K2 : ∀ (M : Mem) (x0 : Nat) (x1 : Int32), k2 M x0 x1 → WL p l e rm_X3_endPieces s m args below meth c QQ E base 2 M ad 2 [(0, .ref (ad 3 x0)), (1, .int x1)] [] 0 0) (M : Mem) (x0 : Nat) (x1 : Int32), b_X3_endPieces_70 k2 Q M x0 x1 → WL p l e rm_X3_endPieces s m args below meth c QQ E base 2 M ad 70 [(0, .ref (ad 3 x0)), (1, .int x1)] [] 0 0 := by
    intro k2 K2 M x0 x1 hw H locs ls hW hS hl
    unfold b_X3_endPieces_70 at hw
    obtain ⟨v_8, ev_8⟩ : ∃ y : Int32, y = x1 + 1 := ⟨_, rfl⟩
    have hw := hw v_8 ev_8
    refine lv_iinc (v := v_8) (lv' := [(1, .int v_8), (0, .ref (ad 3 x0))]) hx hb dX3_endPieces_70 hl (k := 1) rfl (by rw [ev_8]; rfl) (by decide) rfl (fun ls hl => ?_)
    refine lv_goto (tgt := 2) hx hb dX3_endPieces_73 (by decide) ?_
    exact K2 M x0 v_8 hw H locs ls hW hS (lv_sub hl [1, 0] rfl)
  have L_36 : ∀ (k2 : Mem → Nat → Int32 → Prop) (K2 : ∀ (M : Mem) (x0 : Nat) (x1 : Int32), k2 M x0 x1 → WL p l e rm_X3_endPieces s m args below meth c QQ E base 2 M ad 2 [(0, .ref (ad 3 x0)), (1, .int x1)] [] 0 0) (M : Mem) (x0 : Nat) (x1 : Int32), b_X3_endPieces_36 k2 Q M x0 x1 → WL p l e rm_X3_endPieces s m args below meth c QQ E base 2 M ad 36 [(0, .ref (ad 3 x0)), (1, .int x1)] [] 0 0 := by
    intro k2 K2 M x0 x1 hw H locs ls hW hS hl
    unfold b_X3_endPieces_36 at hw
    refine lv_aload_n hx hb dX3_endPieces_36 rfl (lv_at hl 0 rfl) ?_
    refine lv_dup hx hb dX3_endPieces_37 rfl ?_
    obtain ⟨g_15, hw⟩ := hw
    refine r_getL hx hb hts hown hT.1 hW clX3 1 (by decide) (hts _ k_33) (fun _ h9 => h9) rfl g_15 dX3_endPieces_38 ?_
    refine lv_iload_n hx hb dX3_endPieces_41 rfl (lv_at hl 1 rfl) ?_
    refine k_L (rn_SN (As := [.int x1]) (rest := [.long (mL M 3 x0 1), .ref (ad 3 x0)]) ⟨hx, hb, hml, hown, hts⟩ hT hW hS hl (c_X4_blocksOfPiece l E base M ad x1 _ hw) cy_X4_blocksOfPiece kn_3 k_132 rfl rfl ⟨(Nat.le_of_ble_eq_true rfl), (Nat.le_of_ble_eq_true rfl)⟩ rfl rfl (Nat.le_of_ble_eq_true rfl) dX3_endPieces_42 ⟨(Nat.le_of_ble_eq_true rfl), (Nat.le_of_ble_eq_true rfl)⟩) hS kx_no (fun r_19 M_17 ad_18 H locs hP hW hS => ?_)
    obtain ⟨hw, rfl⟩ := hP
    refine lv_ldc2 hx hb hown (hts _ k_174) dX3_endPieces_45 ?_
    refine lv_lxor hx hb dX3_endPieces_48 ?_
    refine lv_land hx hb dX3_endPieces_49 ?_
    obtain ⟨g_20, hw⟩ := hw
    refine r_putL hx hb hts hown hT.1 hW hS clX3 1 (by decide) (hts _ k_33) (fun _ h9 => h9) rfl (by decide +kernel) rfl g_20 dX3_endPieces_50 (fun M_21 H locs hM_21 hW hS => ?_)
    have hw := hw M_21 hM_21
    refine lv_aload_n hx hb dX3_endPieces_53 rfl (lv_at hl 0 rfl) ?_
    refine lv_dup hx hb dX3_endPieces_54 rfl ?_
    refine r_getL hx hb hts hown hT.1 hW clX3 2 (by decide) (hts _ k_34) (fun _ h9 => h9) rfl (by rw [hM_21]; exact g_20) dX3_endPieces_55 ?_
    refine lv_iload_n hx hb dX3_endPieces_58 rfl (lv_at hl 1 rfl) ?_
    refine k_L (rn_SN (As := [.int x1]) (rest := [.long (mL M_21 3 x0 2), .ref (ad 3 x0)]) ⟨hx, hb, hml, hown, hts⟩ hT hW hS hl (c_X4_blocksOfPiece l E base M_21 ad x1 _ hw) cy_X4_blocksOfPiece kn_3 k_132 rfl rfl ⟨(Nat.le_of_ble_eq_true rfl), (Nat.le_of_ble_eq_true rfl)⟩ rfl rfl (Nat.le_of_ble_eq_true rfl) dX3_endPieces_59 ⟨(Nat.le_of_ble_eq_true rfl), (Nat.le_of_ble_eq_true rfl)⟩) hS kx_no (fun r_25 M_23 ad_24 H locs hP hW hS => ?_)
    obtain ⟨hw, rfl⟩ := hP
    refine lv_ldc2 hx hb hown (hts _ k_174) dX3_endPieces_62 ?_
    refine lv_lxor hx hb dX3_endPieces_65 ?_
    refine lv_land hx hb dX3_endPieces_66 ?_
    obtain ⟨g_26, hw⟩ := hw
    refine r_putL hx hb hts hown hT.1 hW hS clX3 2 (by decide) (hts _ k_34) (fun _ h9 => h9) rfl (by decide +kernel) rfl g_26 dX3_endPieces_67 (fun M_27 H locs hM_27 hW hS => ?_)
    have hw := hw M_27 hM_27
    exact L_70 k2 K2 M_27 x0 x1 hw H locs ls hW hS (lv_sub hl [0, 1] rfl)
  have L_2 : ∀ (n : Nat) (M : Mem) (x0 : Nat) (x1 : Int32), l_X3_endPieces_2 Q n M x0 x1 → WL p l e rm_X3_endPieces s m args below meth c QQ E base 2 M ad 2 [(0, .ref (ad 3 x0)), (1, .int x1)] [] 0 0 := by
    intro n
    induction n with
    | zero => intro M x0 x1 hw; exact False.elim hw
    | succ n K2 =>
      intro M x0 x1 hw H locs ls hW hS hl
      obtain ⟨k2, hk2⟩ : ∃ z, z = l_X3_endPieces_2 Q n := ⟨_, rfl⟩
      have hw : b_X3_endPieces_2 Q k2 M x0 x1 := by rw [hk2]; exact hw
      rw [← hk2] at K2
      unfold b_X3_endPieces_2 at hw
      refine lv_iload_n hx hb dX3_endPieces_2 rfl (lv_at hl 1 rfl) ?_
      refine lv_bipush (v := 12) hx hb dX3_endPieces_3 (by decide) ?_
      refine lv_icmp_ge (tgt := 76) hx hb dX3_endPieces_5 (by decide) (fun c_1 => ?_) (fun c_1 => ?_)
      · have hw := hw.1 c_1
        rw [← hQQ]
        exact e_V hx hb hr hlocks hW hS (Nat.le_of_ble_eq_true rfl) (Nat.le_of_ble_eq_true rfl) dX3_endPieces_76 ⟨hw, rfl⟩
      · have hw := hw.2 c_1
        refine lv_aload_n hx hb dX3_endPieces_8 rfl (lv_at hl 0 rfl) ?_
        refine lv_iload_n hx hb dX3_endPieces_9 rfl (lv_at hl 1 rfl) ?_
        obtain ⟨g_2, hw⟩ := hw
        refine k_I (rn_V (As := [.int x1]) (rest := []) (κ := 3) (i := x0) ⟨hx, hb, hml, hown, hts⟩ hT hW hS hl (c_X3_isComplete l E base M ad x0 x1 _ hw) cy_X3_isComplete k_176 k_177 k_178 g_2 (by decide) rfl rfl rfl rfl ⟨(Nat.le_of_ble_eq_true rfl), (Nat.le_of_ble_eq_true rfl)⟩ rfl rfl (Nat.le_of_ble_eq_true rfl) dX3_endPieces_10 ⟨(Nat.le_of_ble_eq_true rfl), (Nat.le_of_ble_eq_true rfl)⟩) hS kx_no (fun r_6 M_4 ad_5 H locs hP hW hS => ?_)
        obtain ⟨hw, rfl⟩ := hP
        refine lv_if_eq (tgt := 70) hx hb dX3_endPieces_13 (by decide) (fun c_7 => ?_) (fun c_7 => ?_)
        · have hw := hw.1 c_7
          exact L_70 k2 K2 M_4 x0 x1 hw H locs ls hW hS (lv_sub hl [0, 1] rfl)
        · have hw := hw.2 c_7
          refine lv_aload_n hx hb dX3_endPieces_16 rfl (lv_at hl 0 rfl) ?_
          refine lv_iload_n hx hb dX3_endPieces_17 rfl (lv_at hl 1 rfl) ?_
          obtain ⟨g_9, hw⟩ := hw
          refine k_I (rn_V (As := [.int x1]) (rest := []) (κ := 3) (i := x0) ⟨hx, hb, hml, hown, hts⟩ hT hW hS hl (c_X3_isSound l E base M_4 ad x0 x1 _ hw) cy_X3_isSound k_179 k_180 k_181 g_9 (by decide) rfl rfl rfl rfl ⟨(Nat.le_of_ble_eq_true rfl), (Nat.le_of_ble_eq_true rfl)⟩ rfl rfl (Nat.le_of_ble_eq_true rfl) dX3_endPieces_18 ⟨(Nat.le_of_ble_eq_true rfl), (Nat.le_of_ble_eq_true rfl)⟩) hS kx_no (fun r_13 M_11 ad_12 H locs hP hW hS => ?_)
          obtain ⟨hw, rfl⟩ := hP
          refine lv_if_eq (tgt := 36) hx hb dX3_endPieces_21 (by decide) (fun c_14 => ?_) (fun c_14 => ?_)
          · have hw := hw.1 c_14
            exact L_36 k2 K2 M_11 x0 x1 hw H locs ls hW hS (lv_sub hl [0, 1] rfl)
          · have hw := hw.2 c_14
            refine lv_aload_n hx hb dX3_endPieces_24 rfl (lv_at hl 0 rfl) ?_
            refine lv_dup hx hb dX3_endPieces_25 rfl ?_
            obtain ⟨g_28, hw⟩ := hw
            refine r_getI hx hb hts hown hT.1 hW clX3 0 (by decide) (hts _ k_35) (fun _ h9 => h9) rfl g_28 dX3_endPieces_26 ?_
            refine lv_iconst (v := 1) hx hb dX3_endPieces_29 (by decide) ?_
            refine lv_iload_n hx hb dX3_endPieces_30 rfl (lv_at hl 1 rfl) ?_
            refine lv_ishl hx hb dX3_endPieces_31 ?_
            refine lv_ior hx hb dX3_endPieces_32 ?_
            refine r_putI hx hb hts hown hT.1 hW hS clX3 0 (by decide) (hts _ k_35) (fun _ h9 => h9) rfl (by decide +kernel) rfl g_28 dX3_endPieces_33 (fun M_29 H locs hM_29 hW hS => ?_)
            have hw := hw M_29 hM_29
            exact L_36 k2 K2 M_29 x0 x1 hw H locs ls hW hS (lv_sub hl [0, 1] rfl)
  unfold w_X3_endPieces at hw
  obtain ⟨H, hH⟩ : ∃ z, z = s.heap := ⟨_, rfl⟩
  obtain ⟨locs, hlo⟩ : ∃ z : List Loc, z = [] := ⟨_, rfl⟩
  have hS : va_S (fun q : Nat => base ≤ q) s.heap H locs := by rw [hlo, hH]; exact hS
  have hW : Wd E base M ad H := by rw [hH]; exact hW
  rw [show W p l e rm_X3_endPieces s m args below meth c s.heap [] 0 0 QQ (F0 m 0 ls []) = W p l e rm_X3_endPieces s m args below meth c H locs 0 0 QQ (F0 m 0 ls []) by rw [hlo, hH]]
  refine lv_iconst (v := 0) hx hb dX3_endPieces_0 (by decide) ?_
  refine lv_istore_n (lv' := [(1, .int 0), (0, .ref (ad 3 t))]) hx hb dX3_endPieces_1 rfl hl (by decide) rfl (fun ls hl => ?_)
  obtain ⟨n9, hw⟩ := hw
  exact L_2 n9 M t 0 hw H locs ls hW hS (lv_sub hl [1, 0] rfl)
