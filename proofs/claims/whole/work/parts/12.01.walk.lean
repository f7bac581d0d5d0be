def rm_X4_join : Room := { frames := 6, cells := 11, slots := 1060, locals := 90 }
def fr_X4_join : Nat → Nat → Bool := fun a _ => [0, 1, 2, 3, 20, 21, 22, 23, 24, 25, 26].contains a
set_option maxHeartbeats 4000000 in
set_option maxRecDepth 100000 in
theorem c_X4_join (l : Launch) (hlt : l.stackTraces = false) (E : GE) (base : Nat) (M : Mem) (ad : AD) (a1 : Int32) (Q : Int32 → Mem → Prop) (X : Nat → Mem → Prop) (hw : w_X4_join M a1 Q X) : Con l yX4_join cX4_join 3 (some .int) rm_X4_join 11 1060 E base [.ref (ad 4 0), .int a1] M ad (QcI E base (fun r M1 ad1 => Q r M1 ∧ AG fr_X4_join ad ad1)) (fun k M1 ad1 => X k M1 ∧ AG fr_X4_join ad ad1) := by
  refine con_start (by decide) (Nat.le_of_ble_eq_true rfl) ?_
  intro p e s m args below meth c ls QQ hQQ CT hnx hW hl
  obtain ⟨⟨hx, hb, hml, hown, hts⟩, hr, hlocks, hnm, hT⟩ := CT
  have hS : va_S (fun q : Nat => base ≤ q) s.heap s.heap [] := va_S.rf
  have hl : lv_has ls 3 [(0, .ref (ad 4 0)), (1, .int a1)] := hl
  have L_48 : ∀ (ad9 : AD) (hag9 : AG fr_X4_join ad ad9) (M : Mem) (x2 : Int32) (s0 : Int32) (s1 : Int32) (s2 : Nat) (s3 : Nat) (s4 : Int32), b_X4_join_48 Q X M x2 s0 s1 s2 s3 s4 → WL p l e rm_X4_join s m args below meth c QQ E base 3 M ad9 48 [(0, .ref (ad9 4 0)), (2, .int x2)] [.int s0, .int s1, .ref (ad9 2 s2), .ref (ad9 2 s3), .int s4, .ref (ad9 10 0)] 1 14 := by
    intro ad9 hag9 M x2 s0 s1 s2 s3 s4 hw H locs ls hW hS hl
    unfold b_X4_join_48 at hw
    obtain ⟨g_14, hw⟩ := hw
    refine k_V (rn_I (As := [.int s1, .int s0]) (rest := [.ref (ad9 2 s3), .int s4, .ref (ad9 10 0)]) (κ := 2) (i := s2) ⟨hx, hb, hml, hown, hts⟩ hT hW hS hl (c_X2_init l E base M ad9 s2 s1 s0 _ hw) cy_X2_init rfl k_79 k_80 rfl rfl ⟨(Nat.le_of_ble_eq_true rfl), (Nat.le_of_ble_eq_true rfl)⟩ rfl rfl (Nat.le_of_ble_eq_true rfl) dX4_join_48 ⟨(Nat.le_of_ble_eq_true rfl), (Nat.le_of_ble_eq_true rfl)⟩) hS kx_no (fun M_16 ad_17 H locs hP hW hS => ?_)
    obtain ⟨hw, hag⟩ := hP
    have hag_19 := hag
    rw [hag_19 2 s3 (by rfl)] at ⊢
    rw [hag_19 4 0 (by rfl)] at hl
    rw [hag_19 10 0 (by rfl)] at ⊢
    obtain ⟨g_20, hw⟩ := hw
    obtain ⟨g_21, hw⟩ := hw
    obtain ⟨g_23, hw⟩ := hw
    obtain ⟨g_24, hw⟩ := hw
    refine r_aast hx hb hT.1 hW hS g_21 g_23 g_20 g_24 dX4_join_51 (fun M_22 H locs hM_22 hW hS => ?_)
    have hw := hw M_22 hM_22
    refine lv_aload_n hx hb dX4_join_52 rfl (lv_at hl 0 rfl) ?_
    refine lv_dup hx hb dX4_join_53 rfl ?_
    obtain ⟨g_25, hw⟩ := hw
    refine r_getI hx hb hts hown hT.1 hW clX4 3 (by decide) (hts _ k_9) (fun _ h9 => h9) rfl g_25 dX4_join_54 ?_
    refine lv_iconst (v := 1) hx hb dX4_join_57 (by decide) ?_
    refine lv_iadd hx hb dX4_join_58 ?_
    refine r_putI hx hb hts hown hT.1 hW hS clX4 3 (by decide) (hts _ k_9) (fun _ h9 => h9) rfl (by decide +kernel) rfl g_25 dX4_join_59 (fun M_26 H locs hM_26 hW hS => ?_)
    have hw := hw M_26 hM_26
    refine lv_iload_n hx hb dX4_join_62 rfl (lv_at hl 1 rfl) ?_
    rw [← hQQ]
    exact e_I hx hb hr hlocks hW hS (Nat.le_of_ble_eq_true rfl) (Nat.le_of_ble_eq_true rfl) dX4_join_63 ⟨hw, (AG_call hag9 hag_19 (fun a b h => by revert h; simp [fr_X4_join, fr_X2_init]; omega))⟩
  unfold w_X4_join at hw
  obtain ⟨H, hH⟩ : ∃ z, z = s.heap := ⟨_, rfl⟩
  obtain ⟨locs, hlo⟩ : ∃ z : List Loc, z = [] := ⟨_, rfl⟩
  have hS : va_S (fun q : Nat => base ≤ q) s.heap H locs := by rw [hlo, hH]; exact hS
  have hW : Wd E base M ad H := by rw [hH]; exact hW
  rw [show W p l e rm_X4_join s m args below meth c s.heap [] 0 0 QQ (F0 m 0 ls []) = W p l e rm_X4_join s m args below meth c H locs 0 0 QQ (F0 m 0 ls []) by rw [hlo, hH]]
  refine lv_aload_n hx hb dX4_join_0 rfl (lv_at hl 0 rfl) ?_
  obtain ⟨g_1, hw⟩ := hw
  refine r_getI hx hb hts hown hT.1 hW clX4 3 (by decide) (hts _ k_9) (fun _ h9 => h9) rfl g_1 dX4_join_1 ?_
  refine lv_aload_n hx hb dX4_join_4 rfl (lv_at hl 0 rfl) ?_
  obtain ⟨g_2, hw⟩ := hw
  refine r_getR (κ2 := 10) (i2 := 0) hx hb hts hown hT.1 hW clX4 0 (by decide) (hts _ k_5) (fun _ h9 => h9) 10 rfl rfl g_1 g_2 dX4_join_5 ?_
  obtain ⟨g_3, hw⟩ := hw
  refine r_alen (v := 6) hx hb hT.1 hW (by decide) 3 rfl (kTy 3) rfl (by decide) g_3 dX4_join_8 ?_
  refine lv_icmp_lt (tgt := 22) hx hb dX4_join_9 (by decide) (fun c_4 => ?_) (fun c_4 => ?_)
  · have hw := hw.1 c_4
    refine lv_aload_n hx hb dX4_join_22 rfl (lv_at hl 0 rfl) ?_
    refine r_getI hx hb hts hown hT.1 hW clX4 3 (by decide) (hts _ k_9) (fun _ h9 => h9) rfl g_1 dX4_join_23 ?_
    refine lv_topi (fun v_5 ev_5 => ?_)
    have hw := hw v_5 ev_5
    refine lv_istore_n (lv' := [(2, .int v_5), (0, .ref (ad 4 0)), (1, .int a1)]) hx hb dX4_join_26 rfl hl (by decide) rfl (fun ls hl => ?_)
    refine lv_aload_n hx hb dX4_join_27 rfl (lv_at hl 1 rfl) ?_
    refine r_getR (κ2 := 10) (i2 := 0) hx hb hts hown hT.1 hW clX4 0 (by decide) (hts _ k_5) (fun _ h9 => h9) 10 rfl rfl g_1 g_2 dX4_join_28 ?_
    refine lv_iload_n hx hb dX4_join_31 rfl (lv_at hl 0 rfl) ?_
    obtain ⟨g_6, hw⟩ := hw
    refine r_new (dv := fun _ => .null) hx hb hts hown (hts _ k_4) (hts _ k_77) (hts _ k_78) hT.1 hW hS hT.2.2.2.2.2.2.2 clX2 tyX2 tyX2_ok (by decide) (Nat.le_of_ble_eq_true rfl) (Nat.le_of_ble_eq_true rfl) g_6 dX4_join_32 (fun q_7 M_8 ad_9 H hM_8 had_9 hW hS => ?_)
    have hw := hw M_8 hM_8
    rw [upA_ne (a := 4) (b := 0) had_9 (by decide)] at hl
    rw [upA_ne (a := 10) (b := 0) had_9 (by decide)] at ⊢
    have g_10 : mE M_8 4 0 = true := mE_wN hM_8 g_1
    have g_11 : mE M_8 10 0 = true := mE_wN hM_8 g_3
    have g_12 : mE M_8 2 v_5.toNatClampNeg = true := mE_wN1 hM_8
    refine lv_dup hx hb dX4_join_35 rfl ?_
    refine lv_iload_n hx hb dX4_join_36 rfl (lv_at hl 0 rfl) ?_
    refine lv_iload_n hx hb dX4_join_37 rfl (lv_at hl 2 rfl) ?_
    refine lv_if_eq (tgt := 47) hx hb dX4_join_38 (by decide) (fun c_13 => ?_) (fun c_13 => ?_)
    · have hw := hw.1 c_13
      refine lv_iconst (v := 0) hx hb dX4_join_47 (by decide) ?_
      exact L_48 ad_9 (AG_new AG_refl rfl had_9) M_8 v_5 0 v_5 v_5.toNatClampNeg v_5.toNatClampNeg v_5 hw H locs ls hW hS (lv_sub hl [1, 0] rfl)
    · have hw := hw.2 c_13
      refine lv_sipush (v := 4095) hx hb dX4_join_41 (by decide) ?_
      refine lv_goto (tgt := 48) hx hb dX4_join_44 (by decide) ?_
      exact L_48 ad_9 (AG_new AG_refl rfl had_9) M_8 v_5 4095 v_5 v_5.toNatClampNeg v_5.toNatClampNeg v_5 hw H locs ls hW hS (lv_sub hl [1, 0] rfl)
  · have hw := hw.2 c_4
    rw [← hQQ]
    exact e_throw 0 (own := RX4) (text := "all peers have joined") hx hb hlt hown hts hT (by decide) k_81 k_82 at_X4_39_0 ag_X4_39_0 (by decide +kernel) dX4_join_12 dX4_join_15 dX4_join_16 dX4_join_18 dX4_join_21 hnx (Nat.le_of_ble_eq_true rfl) (Nat.le_of_ble_eq_true rfl) (Nat.le_of_ble_eq_true rfl) (Nat.le_of_ble_eq_true rfl) hlocks (by rw [hml]; exact hl.1) hW hS (Nat.le_of_ble_eq_true rfl) (Nat.le_of_ble_eq_true rfl) ⟨hw, AG_refl⟩
def rm_L_join : Room := { frames := 7, cells := 11, slots := 1060, locals := 112 }
def fr_L_join : Nat → Nat → Bool := fun a _ => [0, 1, 2, 3, 20, 21, 22, 23, 24, 25, 26].contains a
set_option maxHeartbeats 4000000 in
set_option maxRecDepth 100000 in
theorem c_L_join (l : Launch) (hlt : l.stackTraces = false) (E : GE) (base : Nat) (M : Mem) (ad : AD) (a1 : Int32) (Q : Int32 → Mem → Prop) (hw : w_L_join M a1 Q) : ConW l yL_join cL_join 4 (some .int) [(0, 9, 12, 13)] rm_L_join 11 1060 E base [.ref (ad 4 0), .int a1, .ref (ad 60 0)] M ad (QcI E base (fun r M1 ad1 => Q r M1 ∧ AG fr_L_join ad ad1)) noX := by
  refine conW_start (by decide) (Nat.le_of_ble_eq_true rfl) ?_
  intro p e s m args below meth c ls QQ hQQ CT htab hW hl
  obtain ⟨⟨hx, hb, hml, hown, hts⟩, hr, hlocks, hnm, hT⟩ := CT
  have hS : va_S (fun q : Nat => base ≤ q) s.heap s.heap [] := va_S.rf
  have hl : lv_has ls 4 [(0, .ref (ad 4 0)), (1, .int a1), (2, .ref (ad 60 0))] := hl
  unfold w_L_join at hw
  obtain ⟨H, hH⟩ : ∃ z, z = s.heap := ⟨_, rfl⟩
  obtain ⟨locs, hlo⟩ : ∃ z : List Loc, z = [] := ⟨_, rfl⟩
  have hS : va_S (fun q : Nat => base ≤ q) s.heap H locs := by rw [hlo, hH]; exact hS
  have hW : Wd E base M ad H := by rw [hH]; exact hW
  rw [show W p l e rm_L_join s m args below meth c s.heap [] 0 0 QQ (F0 m 0 ls []) = W p l e rm_L_join s m args below meth c H locs 0 0 QQ (F0 m 0 ls []) by rw [hlo, hH]]
  refine lv_aload_n hx hb dL_join_0 rfl (lv_at hl 2 rfl) ?_
  refine lv_iconst (v := 0) hx hb dL_join_1 (by decide) ?_
  refine lv_aload_n hx hb dL_join_2 rfl (lv_at hl 0 rfl) ?_
  refine lv_iload_n hx hb dL_join_3 rfl (lv_at hl 1 rfl) ?_
  obtain ⟨g_1, hw⟩ := hw
  refine k_I (rn_V (As := [.int a1]) (rest := [.int 0, .ref (ad 60 0)]) (κ := 4) (i := 0) ⟨hx, hb, hml, hown, hts⟩ hT hW hS hl (c_X4_join l hlt E base M ad a1 _ _ hw) cy_X4_join k_83 k_84 k_85 g_1 (by decide) rfl rfl rfl rfl ⟨(Nat.le_of_ble_eq_true rfl), (Nat.le_of_ble_eq_true rfl)⟩ rfl rfl (Nat.le_of_ble_eq_true rfl) dL_join_4 ⟨(Nat.le_of_ble_eq_true rfl), (Nat.le_of_ble_eq_true rfl)⟩) hS (fun k9 M_2 adx q9 ce9 H locs hP hW hS hce hcv hcl => ?_) (fun r_5 M_3 ad_4 H locs hP hW hS => ?_)
  · obtain ⟨hw, hag⟩ := hP
    obtain ⟨rfl, hw⟩ := hw
    refine vx_catch (name := exN 0) (E := exN 0) hown [] ⟨0, 9, 12, 13⟩ [] (by rw [htab]; rfl) (fun z hz => nomatch hz) rfl (by decide) (hts _ k_86) (va_Nw.use rfl (hT.2.1 _ kn_2)) hce hcv hcl ?_
    have hag_6 := hag
    rw [hag_6 4 0 (by rfl)] at hl
    rw [hag_6 60 0 (by rfl)] at hl
    refine lv_astore_n (lv' := [(3, .ref q9), (0, .ref (adx 4 0)), (1, .int a1), (2, .ref (adx 60 0))]) hx hb dL_join_12 rfl hl (by decide) rfl (fun ls hl => ?_)
    refine lv_iconst (v := 1) hx hb dL_join_13 (by decide) ?_
    rw [← hQQ]
    exact e_I hx hb hr hlocks hW hS (Nat.le_of_ble_eq_true rfl) (Nat.le_of_ble_eq_true rfl) dL_join_14 ⟨hw, (AG_call AG_refl hag_6 (fun a b h => h))⟩
  · obtain ⟨hw, hag⟩ := hP
    have hag_7 := hag
    rw [hag_7 4 0 (by rfl)] at hl
    rw [hag_7 60 0 (by rfl)] at hl ⊢
    refine lv_i2l hx hb dL_join_7 rfl ?_
    obtain ⟨g_8, hw⟩ := hw
    obtain ⟨g_9, hw⟩ := hw
    refine r_last hx hb hT.1 hW hS (by decide) rfl (fun _ => rfl) 1 rfl g_9 g_8 dL_join_8 (fun M_10 H locs hM_10 hW hS => ?_)
    have hw := hw M_10 hM_10
    refine lv_goto (tgt := 15) hx hb dL_join_9 (by decide) ?_
    refine lv_iconst (v := 0) hx hb dL_join_15 (by decide) ?_
    rw [← hQQ]
    exact e_I hx hb hr hlocks hW hS (Nat.le_of_ble_eq_true rfl) (Nat.le_of_ble_eq_true rfl) dL_join_16 ⟨hw, (AG_call AG_refl hag_7 (fun a b h => h))⟩
def rm_X5_fits : Room := { frames := 0, cells := 0, slots := 0, locals := 0 }
set_option maxHeartbeats 4000000 in
set_option maxRecDepth 100000 in
theorem c_X5_fits (l : Launch) (E : GE) (base : Nat) (M : Mem) (ad : AD) (a1 : Int32) (Q : Int32 → Mem → Prop) (hw : w_X5_fits M a1 Q) : Con l yX5_fits cX5_fits 2 (some .boolean) rm_X5_fits 0 0 E base [.ref (ad 5 0), .int a1] M ad (QcI E base (fun r M1 ad1 => Q r M1 ∧ ad = ad1)) noX := by
  refine con_start (by decide) (Nat.le_of_ble_eq_true rfl) ?_
  intro p e s m args below meth c ls QQ hQQ CT hnx hW hl
  obtain ⟨⟨hx, hb, hml, hown, hts⟩, hr, hlocks, hnm, hT⟩ := CT
  have hS : va_S (fun q : Nat => base ≤ q) s.heap s.heap [] := va_S.rf
  have hl : lv_has ls 2 [(0, .ref (ad 5 0)), (1, .int a1)] := hl
  unfold w_X5_fits at hw
  obtain ⟨H, hH⟩ : ∃ z, z = s.heap := ⟨_, rfl⟩
  obtain ⟨locs, hlo⟩ : ∃ z : List Loc, z = [] := ⟨_, rfl⟩
  have hS : va_S (fun q : Nat => base ≤ q) s.heap H locs := by rw [hlo, hH]; exact hS
  have hW : Wd E base M ad H := by rw [hH]; exact hW
  rw [show W p l e rm_X5_fits s m args below meth c s.heap [] 0 0 QQ (F0 m 0 ls []) = W p l e rm_X5_fits s m args below meth c H locs 0 0 QQ (F0 m 0 ls []) by rw [hlo, hH]]
  refine lv_aload_n hx hb dX5_fits_0 rfl (lv_at hl 0 rfl) ?_
  refine lv_iload_n hx hb dX5_fits_1 rfl (lv_at hl 1 rfl) ?_
  obtain ⟨g_1, hw⟩ := hw
  refine r_putI hx hb hts hown hT.1 hW hS clX5 0 (by decide) (hts _ k_87) (fun _ h9 => h9) rfl (by decide +kernel) rfl g_1 dX5_fits_2 (fun M_2 H locs hM_2 hW hS => ?_)
  have hw := hw M_2 hM_2
  refine lv_iload_n hx hb dX5_fits_5 rfl (lv_at hl 1 rfl) ?_
  refine lv_if_ne (tgt := 13) hx hb dX5_fits_6 (by decide) (fun c_3 => ?_) (fun c_3 => ?_)
  · have hw := hw.2 c_3
    refine lv_iconst (v := 0) hx hb dX5_fits_13 (by decide) ?_
    rw [← hQQ]
    exact e_Z hx hb hr hlocks hW hS (Nat.le_of_ble_eq_true rfl) (Nat.le_of_ble_eq_true rfl) dX5_fits_14 (by decide) ⟨hw, rfl⟩
  · have hw := hw.1 c_3
    refine lv_iconst (v := 1) hx hb dX5_fits_9 (by decide) ?_
    refine lv_goto (tgt := 14) hx hb dX5_fits_10 (by decide) ?_
    rw [← hQQ]
    exact e_Z hx hb hr hlocks hW hS (Nat.le_of_ble_eq_true rfl) (Nat.le_of_ble_eq_true rfl) dX5_fits_14 (by decide) ⟨hw, rfl⟩
def rm_X5_join : Room := { frames := 1, cells := 0, slots := 0, locals := 21 }
set_option maxHeartbeats 4000000 in
set_option maxRecDepth 100000 in
theorem c_X5_join (l : Launch) (E : GE) (base : Nat) (M : Mem) (ad : AD) (a1 : Int32) (Q : Int32 → Mem → Prop) (hw : w_X5_join M a1 Q) : Con l yX5_join cX5_join 2 (some .int) rm_X5_join 0 0 E base [.ref (ad 5 0), .int a1] M ad (QcI E base (fun r M1 ad1 => Q r M1 ∧ ad = ad1)) noX := by
  refine con_start (by decide) (Nat.le_of_ble_eq_true rfl) ?_
  intro p e s m args below meth c ls QQ hQQ CT hnx hW hl
  obtain ⟨⟨hx, hb, hml, hown, hts⟩, hr, hlocks, hnm, hT⟩ := CT
  have hS : va_S (fun q : Nat => base ≤ q) s.heap s.heap [] := va_S.rf
  have hl : lv_has ls 2 [(0, .ref (ad 5 0)), (1, .int a1)] := hl
  have L_52 : ∀ (M : Mem) (s0 : Int32) (s1 : Int32), b_X5_join_52 Q M s0 s1 → WL p l e rm_X5_join s m args below meth c QQ E base 2 M ad 52 [(0, .ref (ad 5 0))] [.int s0, .int s1, .ref (ad 35 0)] 0 0 := by
    intro M s0 s1 hw H locs ls hW hS hl
    unfold b_X5_join_52 at hw
    obtain ⟨g_16, hw⟩ := hw
    obtain ⟨g_17, hw⟩ := hw
    refine r_iast hx hb hT.1 hW hS (by decide) rfl (fun _ => rfl) 6 rfl g_17 g_16 dX5_join_52 (fun M_18 H locs hM_18 hW hS => ?_)
    have hw := hw M_18 hM_18
    refine lv_aload_n hx hb dX5_join_53 rfl (lv_at hl 0 rfl) ?_
    refine lv_dup hx hb dX5_join_54 rfl ?_
    obtain ⟨g_19, hw⟩ := hw
    refine r_getI hx hb hts hown hT.1 hW clX5 3 (by decide) (hts _ k_88) (fun _ h9 => h9) rfl g_19 dX5_join_55 ?_
    refine lv_iconst (v := 1) hx hb dX5_join_58 (by decide) ?_
    refine lv_iadd hx hb dX5_join_59 ?_
    refine r_putI hx hb hts hown hT.1 hW hS clX5 3 (by decide) (hts _ k_88) (fun _ h9 => h9) rfl (by decide +kernel) rfl g_19 dX5_join_60 (fun M_20 H locs hM_20 hW hS => ?_)
    have hw := hw M_20 hM_20
    refine lv_aload_n hx hb dX5_join_63 rfl (lv_at hl 0 rfl) ?_
    refine r_getI hx hb hts hown hT.1 hW clX5 3 (by decide) (hts _ k_88) (fun _ h9 => h9) rfl (by rw [hM_20]; exact g_19) dX5_join_64 ?_
    refine lv_iconst (v := 1) hx hb dX5_join_67 (by decide) ?_
    refine lv_isub hx hb dX5_join_68 ?_
    rw [← hQQ]
    exact e_I hx hb hr hlocks hW hS (Nat.le_of_ble_eq_true rfl) (Nat.le_of_ble_eq_true rfl) dX5_join_69 ⟨hw, rfl⟩
  have L_15 : ∀ (M : Mem) (x1 : Int32) (s0 : Int32), b_X5_join_15 Q M x1 s0 → WL p l e rm_X5_join s m args below meth c QQ E base 2 M ad 15 [(0, .ref (ad 5 0)), (1, .int x1)] [.int s0, .ref (ad 5 0)] 0 0 := by
    intro M x1 s0 hw H locs ls hW hS hl
    unfold b_X5_join_15 at hw
    obtain ⟨g_3, hw⟩ := hw
    refine k_I (rn_V (As := [.int s0]) (rest := []) (κ := 5) (i := 0) ⟨hx, hb, hml, hown, hts⟩ hT hW hS hl (c_X5_fits l E base M ad s0 _ hw) cy_X5_fits k_89 k_90 k_91 g_3 (by decide) rfl rfl rfl rfl ⟨(Nat.le_of_ble_eq_true rfl), (Nat.le_of_ble_eq_true rfl)⟩ rfl rfl (Nat.le_of_ble_eq_true rfl) dX5_join_15 ⟨(Nat.le_of_ble_eq_true rfl), (Nat.le_of_ble_eq_true rfl)⟩) hS kx_no (fun r_7 M_5 ad_6 H locs hP hW hS => ?_)
    obtain ⟨hw, rfl⟩ := hP
    refine lv_if_ne (tgt := 23) hx hb dX5_join_18 (by decide) (fun c_8 => ?_) (fun c_8 => ?_)
    · have hw := hw.2 c_8
      refine lv_aload_n hx hb dX5_join_23 rfl (lv_at hl 0 rfl) ?_
      obtain ⟨g_9, hw⟩ := hw
      obtain ⟨g_10, hw⟩ := hw
      refine r_getR (κ2 := 34) (i2 := 0) hx hb hts hown hT.1 hW clX5 4 (by decide) (hts _ k_16) (fun _ h9 => h9) 34 rfl rfl g_9 g_10 dX5_join_24 ?_
      refine lv_aload_n hx hb dX5_join_27 rfl (lv_at hl 0 rfl) ?_
      refine r_getI hx hb hts hown hT.1 hW clX5 3 (by decide) (hts _ k_88) (fun _ h9 => h9) rfl g_9 dX5_join_28 ?_
      refine lv_iconst (v := 1) hx hb dX5_join_31 (by decide) ?_
      obtain ⟨g_11, hw⟩ := hw
      obtain ⟨g_12, hw⟩ := hw
      refine r_zast hx hb hT.1 hW hS (by decide) rfl (fun _ => rfl) 6 rfl (by decide) g_12 g_11 dX5_join_32 (fun M_13 H locs hM_13 hW hS => ?_)
      have hw := hw M_13 hM_13
      refine lv_aload_n hx hb dX5_join_33 rfl (lv_at hl 0 rfl) ?_
      obtain ⟨g_14, hw⟩ := hw
      refine r_getR (κ2 := 35) (i2 := 0) hx hb hts hown hT.1 hW clX5 5 (by decide) (hts _ k_17) (fun _ h9 => h9) 35 rfl rfl (by rw [hM_13]; exact g_9) g_14 dX5_join_34 ?_
      refine lv_aload_n hx hb dX5_join_37 rfl (lv_at hl 0 rfl) ?_
      refine r_getI hx hb hts hown hT.1 hW clX5 3 (by decide) (hts _ k_88) (fun _ h9 => h9) rfl (by rw [hM_13]; exact g_9) dX5_join_38 ?_
      refine lv_iload_n hx hb dX5_join_41 rfl (lv_at hl 1 rfl) ?_
      refine lv_if_eq (tgt := 51) hx hb dX5_join_42 (by decide) (fun c_15 => ?_) (fun c_15 => ?_)
      · have hw := hw.1 c_15
        refine lv_iconst (v := 0) hx hb dX5_join_51 (by decide) ?_
        exact L_52 M_13 0 (mI M_13 5 0 3) hw H locs ls hW hS (lv_sub hl [0] rfl)
      · have hw := hw.2 c_15
        refine lv_sipush (v := 4095) hx hb dX5_join_45 (by decide) ?_
        refine lv_goto (tgt := 52) hx hb dX5_join_48 (by decide) ?_
        exact L_52 M_13 4095 (mI M_13 5 0 3) hw H locs ls hW hS (lv_sub hl [0] rfl)
    · have hw := hw.1 c_8
      refine lv_iconst (v := 0) hx hb dX5_join_21 (by decide) ?_
      rw [← hQQ]
      exact e_I hx hb hr hlocks hW hS (Nat.le_of_ble_eq_true rfl) (Nat.le_of_ble_eq_true rfl) dX5_join_22 ⟨hw, rfl⟩
  unfold w_X5_join at hw
  obtain ⟨H, hH⟩ : ∃ z, z = s.heap := ⟨_, rfl⟩
  obtain ⟨locs, hlo⟩ : ∃ z : List Loc, z = [] := ⟨_, rfl⟩
  have hS : va_S (fun q : Nat => base ≤ q) s.heap H locs := by rw [hlo, hH]; exact hS
  have hW : Wd E base M ad H := by rw [hH]; exact hW
  rw [show W p l e rm_X5_join s m args below meth c s.heap [] 0 0 QQ (F0 m 0 ls []) = W p l e rm_X5_join s m args below meth c H locs 0 0 QQ (F0 m 0 ls []) by rw [hlo, hH]]
  refine lv_aload_n hx hb dX5_join_0 rfl (lv_at hl 0 rfl) ?_
  refine lv_aload_n hx hb dX5_join_1 rfl (lv_at hl 0 rfl) ?_
  obtain ⟨g_1, hw⟩ := hw
  refine r_getI hx hb hts hown hT.1 hW clX5 3 (by decide) (hts _ k_88) (fun _ h9 => h9) rfl g_1 dX5_join_2 ?_
  refine lv_bipush (v := 6) hx hb dX5_join_5 (by decide) ?_
  refine lv_icmp_ne (tgt := 14) hx hb dX5_join_7 (by decide) (fun c_2 => ?_) (fun c_2 => ?_)
  · have hw := hw.2 c_2
    refine lv_iconst (v := 0) hx hb dX5_join_14 (by decide) ?_
    exact L_15 M a1 0 hw H locs ls hW hS (lv_sub hl [0, 1] rfl)
  · have hw := hw.1 c_2
    refine lv_iconst (v := 1) hx hb dX5_join_10 (by decide) ?_
    refine lv_goto (tgt := 15) hx hb dX5_join_11 (by decide) ?_
    exact L_15 M a1 1 hw H locs ls hW hS (lv_sub hl [0, 1] rfl)
def rm_X5_thrown : Room := { frames := 0, cells := 0, slots := 0, locals := 0 }
set_option maxHeartbeats 4000000 in
set_option maxRecDepth 100000 in
theorem c_X5_thrown (l : Launch) (E : GE) (base : Nat) (M : Mem) (ad : AD)  (Q : Int32 → Mem → Prop) (hw : w_X5_thrown M  Q) : Con l yX5_thrown cX5_thrown 1 (some .int) rm_X5_thrown 0 0 E base [.ref (ad 5 0)] M ad (QcI E base (fun r M1 ad1 => Q r M1 ∧ ad = ad1)) noX := by
  refine con_start (by decide) (Nat.le_of_ble_eq_true rfl) ?_
  intro p e s m args below meth c ls QQ hQQ CT hnx hW hl
  obtain ⟨⟨hx, hb, hml, hown, hts⟩, hr, hlocks, hnm, hT⟩ := CT
  have hS : va_S (fun q : Nat => base ≤ q) s.heap s.heap [] := va_S.rf
  have hl : lv_has ls 1 [(0, .ref (ad 5 0))] := hl
  unfold w_X5_thrown at hw
  obtain ⟨H, hH⟩ : ∃ z, z = s.heap := ⟨_, rfl⟩
  obtain ⟨locs, hlo⟩ : ∃ z : List Loc, z = [] := ⟨_, rfl⟩
  have hS : va_S (fun q : Nat => base ≤ q) s.heap H locs := by rw [hlo, hH]; exact hS
  have hW : Wd E base M ad H := by rw [hH]; exact hW
  rw [show W p l e rm_X5_thrown s m args below meth c s.heap [] 0 0 QQ (F0 m 0 ls []) = W p l e rm_X5_thrown s m args below meth c H locs 0 0 QQ (F0 m 0 ls []) by rw [hlo, hH]]
  refine lv_aload_n hx hb dX5_thrown_0 rfl (lv_at hl 0 rfl) ?_
  obtain ⟨g_1, hw⟩ := hw
  refine r_getI hx hb hts hown hT.1 hW clX5 0 (by decide) (hts _ k_87) (fun _ h9 => h9) rfl g_1 dX5_thrown_1 ?_
  rw [← hQQ]
  exact e_I hx hb hr hlocks hW hS (Nat.le_of_ble_eq_true rfl) (Nat.le_of_ble_eq_true rfl) dX5_thrown_4 ⟨hw, rfl⟩
def rm_X4_find : Room := { frames := 0, cells := 0, slots := 0, locals := 0 }
set_option maxHeartbeats 4000000 in
set_option maxRecDepth 100000 in
theorem c_X4_find (l : Launch) (E : GE) (base : Nat) (M : Mem) (ad : AD) (a1 : Int32) (Q : Option Nat → Mem → Prop) (hw : w_X4_find M a1 Q) : Con l yX4_find cX4_find 2 (some (.object "Swarmhall$Peer")) rm_X4_find 0 0 E base [.ref (ad 4 0), .int a1] M ad (QcQ E base (fun r M1 ad1 => Q r M1 ∧ ad = ad1)) noX := by
  refine con_start (by decide) (Nat.le_of_ble_eq_true rfl) ?_
  intro p e s m args below meth c ls QQ hQQ CT hnx hW hl
  obtain ⟨⟨hx, hb, hml, hown, hts⟩, hr, hlocks, hnm, hT⟩ := CT
  have hS : va_S (fun q : Nat => base ≤ q) s.heap s.heap [] := va_S.rf
  have hl : lv_has ls 2 [(0, .ref (ad 4 0)), (1, .int a1)] := hl
  have L_13 : ∀ (M : Mem) , b_X4_find_13 Q M → WL p l e rm_X4_find s m args below meth c QQ E base 2 M ad 13 [] [] 0 0 := by
    intro M hw H locs ls hW hS hl
    unfold b_X4_find_13 at hw
    refine lv_null hx hb dX4_find_13 ?_
    refine lv_goto (tgt := 23) hx hb dX4_find_14 (by decide) ?_
    rw [← hQQ]
    exact e_Qn hx hb hr hlocks hW hS (Nat.le_of_ble_eq_true rfl) (Nat.le_of_ble_eq_true rfl) dX4_find_23 ⟨hw, rfl⟩
  unfold w_X4_find at hw
  obtain ⟨H, hH⟩ : ∃ z, z = s.heap := ⟨_, rfl⟩
  obtain ⟨locs, hlo⟩ : ∃ z : List Loc, z = [] := ⟨_, rfl⟩
  have hS : va_S (fun q : Nat => base ≤ q) s.heap H locs := by rw [hlo, hH]; exact hS
  have hW : Wd E base M ad H := by rw [hH]; exact hW
  rw [show W p l e rm_X4_find s m args below meth c s.heap [] 0 0 QQ (F0 m 0 ls []) = W p l e rm_X4_find s m args below meth c H locs 0 0 QQ (F0 m 0 ls []) by rw [hlo, hH]]
  refine lv_iload_n hx hb dX4_find_0 rfl (lv_at hl 1 rfl) ?_
  refine lv_if_lt (tgt := 13) hx hb dX4_find_1 (by decide) (fun c_1 => ?_) (fun c_1 => ?_)
  · have hw := hw.1 c_1
    exact L_13 M hw H locs ls hW hS (lv_sub hl [] rfl)
  · have hw := hw.2 c_1
    refine lv_iload_n hx hb dX4_find_4 rfl (lv_at hl 1 rfl) ?_
    refine lv_aload_n hx hb dX4_find_5 rfl (lv_at hl 0 rfl) ?_
    obtain ⟨g_2, hw⟩ := hw
    obtain ⟨g_3, hw⟩ := hw
    refine r_getR (κ2 := 10) (i2 := 0) hx hb hts hown hT.1 hW clX4 0 (by decide) (hts _ k_5) (fun _ h9 => h9) 10 rfl rfl g_2 g_3 dX4_find_6 ?_
    obtain ⟨g_4, hw⟩ := hw
    refine r_alen (v := 6) hx hb hT.1 hW (by decide) 3 rfl (kTy 3) rfl (by decide) g_4 dX4_find_9 ?_
    refine lv_icmp_lt (tgt := 17) hx hb dX4_find_10 (by decide) (fun c_5 => ?_) (fun c_5 => ?_)
    · have hw := hw.1 c_5
      refine lv_aload_n hx hb dX4_find_17 rfl (lv_at hl 0 rfl) ?_
      refine r_getR (κ2 := 10) (i2 := 0) hx hb hts hown hT.1 hW clX4 0 (by decide) (hts _ k_5) (fun _ h9 => h9) 10 rfl rfl g_2 g_3 dX4_find_18 ?_
      refine lv_iload_n hx hb dX4_find_21 rfl (lv_at hl 1 rfl) ?_
      obtain ⟨g_6, hw⟩ := hw
      refine r_aald hx hb hT.1 hW g_6 g_4 dX4_find_22 (fun g_7 => ?_) (fun g_7 => ?_)
      · have hw := hw.1 g_7
        rw [← hQQ]
        exact e_Qs hx hb hr hlocks hW hS (Nat.le_of_ble_eq_true rfl) (Nat.le_of_ble_eq_true rfl) dX4_find_23 ⟨hw, rfl⟩
      · have hw := hw.2 g_7
        rw [← hQQ]
        exact e_Qn hx hb hr hlocks hW hS (Nat.le_of_ble_eq_true rfl) (Nat.le_of_ble_eq_true rfl) dX4_find_23 ⟨hw, rfl⟩
    · have hw := hw.2 c_5
      exact L_13 M hw H locs ls hW hS (lv_sub hl [] rfl)
def rm_X4_known : Room := { frames := 6, cells := 1, slots := 6, locals := 90 }
set_option maxHeartbeats 4000000 in
set_option maxRecDepth 100000 in
theorem c_X4_known (l : Launch) (hlt : l.stackTraces = false) (E : GE) (base : Nat) (M : Mem) (ad : AD) (a1 : Int32) (Q : Nat → Mem → Prop) (X : Nat → Mem → Prop) (hw : w_X4_known M a1 Q X) : Con l yX4_known cX4_known 3 (some (.object "Swarmhall$Peer")) rm_X4_known 1 6 E base [.ref (ad 4 0), .int a1] M ad (QcQ E base (fun r M1 ad1 => ∃ j : Nat, r = some j ∧ Q j M1 ∧ ad = ad1)) (fun k M1 ad1 => X k M1 ∧ ad = ad1) := by
  refine con_start (by decide) (Nat.le_of_ble_eq_true rfl) ?_
  intro p e s m args below meth c ls QQ hQQ CT hnx hW hl
  obtain ⟨⟨hx, hb, hml, hown, hts⟩, hr, hlocks, hnm, hT⟩ := CT
  have hS : va_S (fun q : Nat => base ≤ q) s.heap s.heap [] := va_S.rf
  have hl : lv_has ls 3 [(0, .ref (ad 4 0)), (1, .int a1)] := hl
  unfold w_X4_known at hw
  obtain ⟨H, hH⟩ : ∃ z, z = s.heap := ⟨_, rfl⟩
  obtain ⟨locs, hlo⟩ : ∃ z : List Loc, z = [] := ⟨_, rfl⟩
  have hS : va_S (fun q : Nat => base ≤ q) s.heap H locs := by rw [hlo, hH]; exact hS
  have hW : Wd E base M ad H := by rw [hH]; exact hW
  rw [show W p l e rm_X4_known s m args below meth c s.heap [] 0 0 QQ (F0 m 0 ls []) = W p l e rm_X4_known s m args below meth c H locs 0 0 QQ (F0 m 0 ls []) by rw [hlo, hH]]
  refine lv_aload_n hx hb dX4_known_0 rfl (lv_at hl 0 rfl) ?_
  refine lv_iload_n hx hb dX4_known_1 rfl (lv_at hl 1 rfl) ?_
  obtain ⟨g_1, hw⟩ := hw
  refine k_Q (rn_V (As := [.int a1]) (rest := []) (κ := 4) (i := 0) ⟨hx, hb, hml, hown, hts⟩ hT hW hS hl (c_X4_find l E base M ad a1 _ hw) cy_X4_find k_92 k_93 k_94 g_1 (by decide) rfl rfl rfl rfl ⟨(Nat.le_of_ble_eq_true rfl), (Nat.le_of_ble_eq_true rfl)⟩ rfl rfl (Nat.le_of_ble_eq_true rfl) dX4_known_2 ⟨(Nat.le_of_ble_eq_true rfl), (Nat.le_of_ble_eq_true rfl)⟩) hS kx_no (fun M_3 ad_4 H locs hP hW hS => ?_) (fun r_5 M_3 ad_4 H locs hP hW hS => ?_)
  · obtain ⟨hw, rfl⟩ := hP
    have hw := hw.1 rfl
    refine lv_astore_nN (lv' := [(2, .null), (0, .ref (ad 4 0)), (1, .int a1)]) hx hb dX4_known_5 rfl hl (by decide) rfl (fun ls hl => ?_)
    refine lv_aload_nN hx hb dX4_known_6 rfl (lv_at hl 0 rfl) ?_
    refine lv_ifnonnullN hx hb dX4_known_7 ?_
    rw [← hQQ]
    exact e_throw 1 (own := RX4) (text := "no such peer") hx hb hlt hown hts hT (by decide) k_95 k_96 at_X4_150_1 ag_X4_150_1 (by decide +kernel) dX4_known_10 dX4_known_13 dX4_known_14 dX4_known_16 dX4_known_19 hnx (Nat.le_of_ble_eq_true rfl) (Nat.le_of_ble_eq_true rfl) (Nat.le_of_ble_eq_true rfl) (Nat.le_of_ble_eq_true rfl) hlocks (by rw [hml]; exact hl.1) hW hS (Nat.le_of_ble_eq_true rfl) (Nat.le_of_ble_eq_true rfl) ⟨hw, rfl⟩
  · obtain ⟨hw, rfl⟩ := hP
    have hw := hw.2 r_5 rfl
    refine lv_astore_n (lv' := [(2, .ref (ad 2 r_5)), (0, .ref (ad 4 0)), (1, .int a1)]) hx hb dX4_known_5 rfl hl (by decide) rfl (fun ls hl => ?_)
    refine lv_aload_n hx hb dX4_known_6 rfl (lv_at hl 0 rfl) ?_
    refine lv_ifnonnull (tgt := 20) hx hb dX4_known_7 (by decide) ?_
    refine lv_aload_n hx hb dX4_known_20 rfl (lv_at hl 0 rfl) ?_
    rw [← hQQ]
    exact e_Qs hx hb hr hlocks hW hS (Nat.le_of_ble_eq_true rfl) (Nat.le_of_ble_eq_true rfl) dX4_known_21 ⟨_, rfl, hw, rfl⟩
def rm_J6_bitCount_0f7a4 : Room := { frames := 0, cells := 0, slots := 0, locals := 0 }
set_option maxHeartbeats 4000000 in
set_option maxRecDepth 100000 in
theorem c_J6_bitCount_0f7a4 (l : Launch) (E : GE) (base : Nat) (M : Mem) (ad : AD) (a0 : Int32) (Q : Int32 → Mem → Prop) (hw : w_J6_bitCount_0f7a4 M a0 Q) : Con l yJ6_bitCount_0f7a4 cJ6_bitCount_0f7a4 1 (some .int) rm_J6_bitCount_0f7a4 0 0 E base [.int a0] M ad (QcI E base (fun r M1 ad1 => Q r M1 ∧ ad = ad1)) noX := by
  refine con_start (by decide) (Nat.le_of_ble_eq_true rfl) ?_
  intro p e s m args below meth c ls QQ hQQ CT hnx hW hl
  obtain ⟨⟨hx, hb, hml, hown, hts⟩, hr, hlocks, hnm, hT⟩ := CT
  have hS : va_S (fun q : Nat => base ≤ q) s.heap s.heap [] := va_S.rf
  have hl : lv_has ls 1 [(0, .int a0)] := hl
  unfold w_J6_bitCount_0f7a4 at hw
  obtain ⟨H, hH⟩ : ∃ z, z = s.heap := ⟨_, rfl⟩
  obtain ⟨locs, hlo⟩ : ∃ z : List Loc, z = [] := ⟨_, rfl⟩
  have hS : va_S (fun q : Nat => base ≤ q) s.heap H locs := by rw [hlo, hH]; exact hS
  have hW : Wd E base M ad H := by rw [hH]; exact hW
  rw [show W p l e rm_J6_bitCount_0f7a4 s m args below meth c s.heap [] 0 0 QQ (F0 m 0 ls []) = W p l e rm_J6_bitCount_0f7a4 s m args below meth c H locs 0 0 QQ (F0 m 0 ls []) by rw [hlo, hH]]
  refine lv_iload_n hx hb dJ6_bitCount_0f7a4_0 rfl (lv_at hl 0 rfl) ?_
  refine lv_iload_n hx hb dJ6_bitCount_0f7a4_1 rfl (lv_at hl 0 rfl) ?_
  refine lv_iconst (v := 1) hx hb dJ6_bitCount_0f7a4_2 (by decide) ?_
  refine lv_iushr hx hb dJ6_bitCount_0f7a4_3 rfl ?_
  refine lv_ldcw hx hb hown (hts _ k_103) dJ6_bitCount_0f7a4_4 ?_
  refine lv_iand hx hb dJ6_bitCount_0f7a4_7 ?_
  refine lv_isub hx hb dJ6_bitCount_0f7a4_8 ?_
  refine lv_topi (fun v_1 ev_1 => ?_)
  have hw := hw v_1 ev_1
  refine lv_istore_n (lv' := [(0, .int v_1)]) hx hb dJ6_bitCount_0f7a4_9 rfl hl (by decide) rfl (fun ls hl => ?_)
  refine lv_iload_n hx hb dJ6_bitCount_0f7a4_10 rfl (lv_at hl 0 rfl) ?_
  refine lv_ldcw hx hb hown (hts _ k_104) dJ6_bitCount_0f7a4_11 ?_
  refine lv_iand hx hb dJ6_bitCount_0f7a4_14 ?_
  refine lv_iload_n hx hb dJ6_bitCount_0f7a4_15 rfl (lv_at hl 0 rfl) ?_
  refine lv_iconst (v := 2) hx hb dJ6_bitCount_0f7a4_16 (by decide) ?_
  refine lv_iushr hx hb dJ6_bitCount_0f7a4_17 rfl ?_
  refine lv_ldcw hx hb hown (hts _ k_104) dJ6_bitCount_0f7a4_18 ?_
  refine lv_iand hx hb dJ6_bitCount_0f7a4_21 ?_
  refine lv_iadd hx hb dJ6_bitCount_0f7a4_22 ?_
  refine lv_topi (fun v_2 ev_2 => ?_)
  have hw := hw v_2 ev_2
  refine lv_istore_n (lv' := [(0, .int v_2)]) hx hb dJ6_bitCount_0f7a4_23 rfl hl (by decide) rfl (fun ls hl => ?_)
  refine lv_iload_n hx hb dJ6_bitCount_0f7a4_24 rfl (lv_at hl 0 rfl) ?_
  refine lv_iload_n hx hb dJ6_bitCount_0f7a4_25 rfl (lv_at hl 0 rfl) ?_
  refine lv_iconst (v := 4) hx hb dJ6_bitCount_0f7a4_26 (by decide) ?_
  refine lv_iushr hx hb dJ6_bitCount_0f7a4_27 rfl ?_
  refine lv_iadd hx hb dJ6_bitCount_0f7a4_28 ?_
  refine lv_ldcw hx hb hown (hts _ k_105) dJ6_bitCount_0f7a4_29 ?_
  refine lv_iand hx hb dJ6_bitCount_0f7a4_32 ?_
  refine lv_topi (fun v_3 ev_3 => ?_)
  have hw := hw v_3 ev_3
  refine lv_istore_n (lv' := [(0, .int v_3)]) hx hb dJ6_bitCount_0f7a4_33 rfl hl (by decide) rfl (fun ls hl => ?_)
  refine lv_iload_n hx hb dJ6_bitCount_0f7a4_34 rfl (lv_at hl 0 rfl) ?_
  refine lv_iload_n hx hb dJ6_bitCount_0f7a4_35 rfl (lv_at hl 0 rfl) ?_
  refine lv_bipush (v := 8) hx hb dJ6_bitCount_0f7a4_36 (by decide) ?_
  refine lv_iushr hx hb dJ6_bitCount_0f7a4_38 rfl ?_
  refine lv_iadd hx hb dJ6_bitCount_0f7a4_39 ?_
  refine lv_topi (fun v_4 ev_4 => ?_)
  have hw := hw v_4 ev_4
  refine lv_istore_n (lv' := [(0, .int v_4)]) hx hb dJ6_bitCount_0f7a4_40 rfl hl (by decide) rfl (fun ls hl => ?_)
  refine lv_iload_n hx hb dJ6_bitCount_0f7a4_41 rfl (lv_at hl 0 rfl) ?_
  refine lv_iload_n hx hb dJ6_bitCount_0f7a4_42 rfl (lv_at hl 0 rfl) ?_
  refine lv_bipush (v := 16) hx hb dJ6_bitCount_0f7a4_43 (by decide) ?_
  refine lv_iushr hx hb dJ6_bitCount_0f7a4_45 rfl ?_
  refine lv_iadd hx hb dJ6_bitCount_0f7a4_46 ?_
  refine lv_topi (fun v_5 ev_5 => ?_)
  have hw := hw v_5 ev_5
  refine lv_istore_n (lv' := [(0, .int v_5)]) hx hb dJ6_bitCount_0f7a4_47 rfl hl (by decide) rfl (fun ls hl => ?_)
  refine lv_iload_n hx hb dJ6_bitCount_0f7a4_48 rfl (lv_at hl 0 rfl) ?_
  refine lv_bipush (v := 63) hx hb dJ6_bitCount_0f7a4_49 (by decide) ?_
  refine lv_iand hx hb dJ6_bitCount_0f7a4_51 ?_
  rw [← hQQ]
  exact e_I hx hb hr hlocks hW hS (Nat.le_of_ble_eq_true rfl) (Nat.le_of_ble_eq_true rfl) dJ6_bitCount_0f7a4_52 ⟨hw, rfl⟩
def rm_X4_leave : Room := { frames := 7, cells := 1, slots := 6, locals := 112 }
set_option maxHeartbeats 4000000 in
set_option maxRecDepth 100000 in
theorem c_X4_leave (l : Launch) (hlt : l.stackTraces = false) (E : GE) (base : Nat) (M : Mem) (ad : AD) (a1 : Int32) (Q : Int32 → Mem → Prop) (X : Nat → Mem → Prop) (hw : w_X4_leave M a1 Q X) : Con l yX4_leave cX4_leave 3 (some .int) rm_X4_leave 1 6 E base [.ref (ad 4 0), .int a1] M ad (QcI E base (fun r M1 ad1 => Q r M1 ∧ ad = ad1)) (fun k M1 ad1 => X k M1 ∧ ad = ad1) := by
  refine con_start (by decide) (Nat.le_of_ble_eq_true rfl) ?_
  intro p e s m args below meth c ls QQ hQQ CT hnx hW hl
  obtain ⟨⟨hx, hb, hml, hown, hts⟩, hr, hlocks, hnm, hT⟩ := CT
  have hS : va_S (fun q : Nat => base ≤ q) s.heap s.heap [] := va_S.rf
  have hl : lv_has ls 3 [(0, .ref (ad 4 0)), (1, .int a1)] := hl
  unfold w_X4_leave at hw
  obtain ⟨H, hH⟩ : ∃ z, z = s.heap := ⟨_, rfl⟩
  obtain ⟨locs, hlo⟩ : ∃ z : List Loc, z = [] := ⟨_, rfl⟩
  have hS : va_S (fun q : Nat => base ≤ q) s.heap H locs := by rw [hlo, hH]; exact hS
  have hW : Wd E base M ad H := by rw [hH]; exact hW
  rw [show W p l e rm_X4_leave s m args below meth c s.heap [] 0 0 QQ (F0 m 0 ls []) = W p l e rm_X4_leave s m args below meth c H locs 0 0 QQ (F0 m 0 ls []) by rw [hlo, hH]]
  refine lv_aload_n hx hb dX4_leave_0 rfl (lv_at hl 0 rfl) ?_
  refine lv_iload_n hx hb dX4_leave_1 rfl (lv_at hl 1 rfl) ?_
  obtain ⟨g_1, hw⟩ := hw
  refine k_Q (rn_V (As := [.int a1]) (rest := []) (κ := 4) (i := 0) ⟨hx, hb, hml, hown, hts⟩ hT hW hS hl (c_X4_known l hlt E base M ad a1 _ _ hw) cy_X4_known k_97 k_98 k_99 g_1 (by decide) rfl rfl rfl rfl ⟨(Nat.le_of_ble_eq_true rfl), (Nat.le_of_ble_eq_true rfl)⟩ rfl rfl (Nat.le_of_ble_eq_true rfl) dX4_leave_2 ⟨(Nat.le_of_ble_eq_true rfl), (Nat.le_of_ble_eq_true rfl)⟩) hS (by rw [← hQQ]; exact kx_out hnx hlocks (Nat.le_of_ble_eq_true rfl) (Nat.le_of_ble_eq_true rfl) (fun _ _ _ h9 => h9)) (fun M_3 ad_4 H locs hP hW hS => absurd hP (fun ⟨_, h9, _⟩ => by cases h9)) (fun r_5 M_3 ad_4 H locs hP hW hS => ?_)
  obtain ⟨_, h9, hw, rfl⟩ := hP
  cases h9
  refine lv_astore_n (lv' := [(2, .ref (ad 2 r_5)), (0, .ref (ad 4 0)), (1, .int a1)]) hx hb dX4_leave_5 rfl hl (by decide) rfl (fun ls hl => ?_)
  refine lv_aload_n hx hb dX4_leave_6 rfl (lv_at hl 1 rfl) ?_
  obtain ⟨g_6, hw⟩ := hw
  obtain ⟨g_7, hw⟩ := hw
  refine r_getR (κ2 := 10) (i2 := 0) hx hb hts hown hT.1 hW clX4 0 (by decide) (hts _ k_5) (fun _ h9 => h9) 10 rfl rfl g_6 g_7 dX4_leave_7 ?_
  refine lv_aload_n hx hb dX4_leave_10 rfl (lv_at hl 0 rfl) ?_
  obtain ⟨g_8, hw⟩ := hw
  refine r_getI hx hb hts hown hT.1 hW clX2 0 (by decide) (hts _ k_100) (fun _ h9 => h9) rfl g_8 dX4_leave_11 ?_
  refine lv_null hx hb dX4_leave_14 ?_
  obtain ⟨g_9, hw⟩ := hw
  obtain ⟨g_10, hw⟩ := hw
  refine r_aastN hx hb hT.1 hW hS g_10 g_9 dX4_leave_15 (fun M_11 H locs hM_11 hW hS => ?_)
  have hw := hw M_11 hM_11
  refine lv_aload_n hx hb dX4_leave_16 rfl (lv_at hl 0 rfl) ?_
  obtain ⟨g_12, hw⟩ := hw
  refine r_getR (κ2 := 3) (i2 := r_5) hx hb hts hown hT.1 hW clX2 1 (by decide) (hts _ k_101) (fun _ h9 => h9) 3 rfl rfl (by rw [hM_11]; exact g_8) g_12 dX4_leave_17 ?_
  obtain ⟨g_13, hw⟩ := hw
  refine r_getI hx hb hts hown hT.1 hW clX3 0 (by decide) (hts _ k_102) (fun _ h9 => h9) rfl g_13 dX4_leave_20 ?_
  refine k_I (rn_S (As := [.int (mI M_11 3 r_5 0)]) (rest := []) ⟨hx, hb, hml, hown, hts⟩ hT hW hS hl (c_J6_bitCount_0f7a4 l E base M_11 ad (mI M_11 3 r_5 0) _ hw) cy_J6_bitCount_0f7a4 k_106 k_107 rfl rfl ⟨(Nat.le_of_ble_eq_true rfl), (Nat.le_of_ble_eq_true rfl)⟩ rfl rfl (Nat.le_of_ble_eq_true rfl) dX4_leave_23 ⟨(Nat.le_of_ble_eq_true rfl), (Nat.le_of_ble_eq_true rfl)⟩) hS kx_no (fun r_17 M_15 ad_16 H locs hP hW hS => ?_)
  obtain ⟨hw, rfl⟩ := hP
  rw [← hQQ]
  exact e_I hx hb hr hlocks hW hS (Nat.le_of_ble_eq_true rfl) (Nat.le_of_ble_eq_true rfl) dX4_leave_26 ⟨hw, rfl⟩
def rm_L_leave : Room := { frames := 8, cells := 1, slots := 6, locals := 134 }
set_option maxHeartbeats 4000000 in
set_option maxRecDepth 100000 in
theorem c_L_leave (l : Launch) (hlt : l.stackTraces = false) (E : GE) (base : Nat) (M : Mem) (ad : AD) (a1 : Int32) (Q : Int32 → Mem → Prop) (hw : w_L_leave M a1 Q) : ConW l yL_leave cL_leave 4 (some .int) [(0, 9, 12, 19)] rm_L_leave 1 6 E base [.ref (ad 4 0), .int a1, .ref (ad 60 0)] M ad (QcI E base (fun r M1 ad1 => Q r M1 ∧ ad = ad1)) noX := by
  refine conW_start (by decide) (Nat.le_of_ble_eq_true rfl) ?_
  intro p e s m args below meth c ls QQ hQQ CT htab hW hl
  obtain ⟨⟨hx, hb, hml, hown, hts⟩, hr, hlocks, hnm, hT⟩ := CT
  have hS : va_S (fun q : Nat => base ≤ q) s.heap s.heap [] := va_S.rf
  have hl : lv_has ls 4 [(0, .ref (ad 4 0)), (1, .int a1), (2, .ref (ad 60 0))] := hl
  unfold w_L_leave at hw
  obtain ⟨H, hH⟩ : ∃ z, z = s.heap := ⟨_, rfl⟩
  obtain ⟨locs, hlo⟩ : ∃ z : List Loc, z = [] := ⟨_, rfl⟩
  have hS : va_S (fun q : Nat => base ≤ q) s.heap H locs := by rw [hlo, hH]; exact hS
  have hW : Wd E base M ad H := by rw [hH]; exact hW
  rw [show W p l e rm_L_leave s m args below meth c s.heap [] 0 0 QQ (F0 m 0 ls []) = W p l e rm_L_leave s m args below meth c H locs 0 0 QQ (F0 m 0 ls []) by rw [hlo, hH]]
  refine lv_aload_n hx hb dL_leave_0 rfl (lv_at hl 2 rfl) ?_
  refine lv_iconst (v := 0) hx hb dL_leave_1 (by decide) ?_
  refine lv_aload_n hx hb dL_leave_2 rfl (lv_at hl 0 rfl) ?_
  refine lv_iload_n hx hb dL_leave_3 rfl (lv_at hl 1 rfl) ?_
  obtain ⟨g_1, hw⟩ := hw
  refine k_I (rn_V (As := [.int a1]) (rest := [.int 0, .ref (ad 60 0)]) (κ := 4) (i := 0) ⟨hx, hb, hml, hown, hts⟩ hT hW hS hl (c_X4_leave l hlt E base M ad a1 _ _ hw) cy_X4_leave k_108 k_109 k_110 g_1 (by decide) rfl rfl rfl rfl ⟨(Nat.le_of_ble_eq_true rfl), (Nat.le_of_ble_eq_true rfl)⟩ rfl rfl (Nat.le_of_ble_eq_true rfl) dL_leave_4 ⟨(Nat.le_of_ble_eq_true rfl), (Nat.le_of_ble_eq_true rfl)⟩) hS (fun k9 M_2 adx q9 ce9 H locs hP hW hS hce hcv hcl => ?_) (fun r_5 M_3 ad_4 H locs hP hW hS => ?_)
  · obtain ⟨hw, rfl⟩ := hP
    obtain ⟨rfl, hw⟩ := hw
    refine vx_catch (name := exN 1) (E := exN 1) hown [] ⟨0, 9, 12, 19⟩ [] (by rw [htab]; rfl) (fun z hz => nomatch hz) rfl (by decide) (hts _ k_111) (va_Nw.use rfl (hT.2.1 _ kn_3)) hce hcv hcl ?_
    refine lv_astore_n (lv' := [(3, .ref q9), (0, .ref (ad 4 0)), (1, .int a1), (2, .ref (ad 60 0))]) hx hb dL_leave_12 rfl hl (by decide) rfl (fun ls hl => ?_)
    refine lv_iconst (v := 1) hx hb dL_leave_13 (by decide) ?_
    rw [← hQQ]
    exact e_I hx hb hr hlocks hW hS (Nat.le_of_ble_eq_true rfl) (Nat.le_of_ble_eq_true rfl) dL_leave_14 ⟨hw, rfl⟩
  · obtain ⟨hw, rfl⟩ := hP
    refine lv_i2l hx hb dL_leave_7 rfl ?_
    obtain ⟨g_6, hw⟩ := hw
    obtain ⟨g_7, hw⟩ := hw
    refine r_last hx hb hT.1 hW hS (by decide) rfl (fun _ => rfl) 1 rfl g_7 g_6 dL_leave_8 (fun M_8 H locs hM_8 hW hS => ?_)
    have hw := hw M_8 hM_8
    refine lv_goto (tgt := 15) hx hb dL_leave_9 (by decide) ?_
    refine lv_iconst (v := 0) hx hb dL_leave_15 (by decide) ?_
    rw [← hQQ]
    exact e_I hx hb hr hlocks hW hS (Nat.le_of_ble_eq_true rfl) (Nat.le_of_ble_eq_true rfl) dL_leave_16 ⟨hw, rfl⟩
def rm_X5_isPeer : Room := { frames := 0, cells := 0, slots := 0, locals := 0 }
set_option maxHeartbeats 4000000 in
set_option maxRecDepth 100000 in
theorem c_X5_isPeer (l : Launch) (E : GE) (base : Nat) (M : Mem) (ad : AD) (a1 : Int32) (Q : Int32 → Mem → Prop) (hw : w_X5_isPeer M a1 Q) : Con l yX5_isPeer cX5_isPeer 2 (some .boolean) rm_X5_isPeer 0 0 E base [.ref (ad 5 0), .int a1] M ad (QcI E base (fun r M1 ad1 => Q r M1 ∧ ad = ad1)) noX := by
  refine con_start (by decide) (Nat.le_of_ble_eq_true rfl) ?_
  intro p e s m args below meth c ls QQ hQQ CT hnx hW hl
  obtain ⟨⟨hx, hb, hml, hown, hts⟩, hr, hlocks, hnm, hT⟩ := CT
  have hS : va_S (fun q : Nat => base ≤ q) s.heap s.heap [] := va_S.rf
  have hl : lv_has ls 2 [(0, .ref (ad 5 0)), (1, .int a1)] := hl
  unfold w_X5_isPeer at hw
  obtain ⟨H, hH⟩ : ∃ z, z = s.heap := ⟨_, rfl⟩
  obtain ⟨locs, hlo⟩ : ∃ z : List Loc, z = [] := ⟨_, rfl⟩
  have hS : va_S (fun q : Nat => base ≤ q) s.heap H locs := by rw [hlo, hH]; exact hS
  have hW : Wd E base M ad H := by rw [hH]; exact hW
  rw [show W p l e rm_X5_isPeer s m args below meth c s.heap [] 0 0 QQ (F0 m 0 ls []) = W p l e rm_X5_isPeer s m args below meth c H locs 0 0 QQ (F0 m 0 ls []) by rw [hlo, hH]]
  refine lv_iload_n hx hb dX5_isPeer_0 rfl (lv_at hl 1 rfl) ?_
  refine lv_if_lt (tgt := 25) hx hb dX5_isPeer_1 (by decide) (fun c_1 => ?_) (fun c_1 => ?_)
  · have hw := hw.1 c_1
    refine lv_iconst (v := 0) hx hb dX5_isPeer_25 (by decide) ?_
    rw [← hQQ]
    exact e_Z hx hb hr hlocks hW hS (Nat.le_of_ble_eq_true rfl) (Nat.le_of_ble_eq_true rfl) dX5_isPeer_26 (by decide) ⟨hw, rfl⟩
  · have hw := hw.2 c_1
    refine lv_iload_n hx hb dX5_isPeer_4 rfl (lv_at hl 1 rfl) ?_
    refine lv_aload_n hx hb dX5_isPeer_5 rfl (lv_at hl 0 rfl) ?_
    obtain ⟨g_2, hw⟩ := hw
    refine r_getI hx hb hts hown hT.1 hW clX5 3 (by decide) (hts _ k_88) (fun _ h9 => h9) rfl g_2 dX5_isPeer_6 ?_
    refine lv_icmp_ge (tgt := 25) hx hb dX5_isPeer_9 (by decide) (fun c_3 => ?_) (fun c_3 => ?_)
    · have hw := hw.1 c_3
      refine lv_iconst (v := 0) hx hb dX5_isPeer_25 (by decide) ?_
      rw [← hQQ]
      exact e_Z hx hb hr hlocks hW hS (Nat.le_of_ble_eq_true rfl) (Nat.le_of_ble_eq_true rfl) dX5_isPeer_26 (by decide) ⟨hw, rfl⟩
    · have hw := hw.2 c_3
      refine lv_aload_n hx hb dX5_isPeer_12 rfl (lv_at hl 0 rfl) ?_
      obtain ⟨g_4, hw⟩ := hw
      refine r_getR (κ2 := 34) (i2 := 0) hx hb hts hown hT.1 hW clX5 4 (by decide) (hts _ k_16) (fun _ h9 => h9) 34 rfl rfl g_2 g_4 dX5_isPeer_13 ?_
      refine lv_iload_n hx hb dX5_isPeer_16 rfl (lv_at hl 1 rfl) ?_
      obtain ⟨g_5, hw⟩ := hw
      obtain ⟨g_6, hw⟩ := hw
      refine r_zald hx hb hT.1 hW (by decide) rfl (fun _ => rfl) 6 rfl g_6 g_5 dX5_isPeer_17 ?_
      refine lv_if_eq (tgt := 25) hx hb dX5_isPeer_18 (by decide) (fun c_7 => ?_) (fun c_7 => ?_)
      · have hw := hw.1 c_7
        refine lv_iconst (v := 0) hx hb dX5_isPeer_25 (by decide) ?_
        rw [← hQQ]
        exact e_Z hx hb hr hlocks hW hS (Nat.le_of_ble_eq_true rfl) (Nat.le_of_ble_eq_true rfl) dX5_isPeer_26 (by decide) ⟨hw, rfl⟩
      · have hw := hw.2 c_7
        refine lv_iconst (v := 1) hx hb dX5_isPeer_21 (by decide) ?_
        refine lv_goto (tgt := 26) hx hb dX5_isPeer_22 (by decide) ?_
        rw [← hQQ]
        exact e_Z hx hb hr hlocks hW hS (Nat.le_of_ble_eq_true rfl) (Nat.le_of_ble_eq_true rfl) dX5_isPeer_26 (by decide) ⟨hw, rfl⟩
def rm_X5_count : Room := { frames := 0, cells := 0, slots := 0, locals := 0 }
set_option maxHeartbeats 4000000 in
set_option maxRecDepth 100000 in
theorem c_X5_count (l : Launch) (E : GE) (base : Nat) (M : Mem) (ad : AD) (a0 : Int32) (Q : Int32 → Mem → Prop) (hw : w_X5_count M a0 Q) : Con l yX5_count cX5_count 3 (some .int) rm_X5_count 0 0 E base [.int a0] M ad (QcI E base (fun r M1 ad1 => Q r M1 ∧ ad = ad1)) noX := by
  refine con_start (by decide) (Nat.le_of_ble_eq_true rfl) ?_
  intro p e s m args below meth c ls QQ hQQ CT hnx hW hl
  obtain ⟨⟨hx, hb, hml, hown, hts⟩, hr, hlocks, hnm, hT⟩ := CT
  have hS : va_S (fun q : Nat => base ≤ q) s.heap s.heap [] := va_S.rf
  have hl : lv_has ls 3 [(0, .int a0)] := hl
  have L_4 : ∀ (n : Nat) (M : Mem) (x0 : Int32) (x1 : Int32) (x2 : Int32), l_X5_count_4 Q n M x0 x1 x2 → WL p l e rm_X5_count s m args below meth c QQ E base 3 M ad 4 [(0, .int x0), (1, .int x1), (2, .int x2)] [] 0 0 := by
    intro n
    induction n with
    | zero => intro M x0 x1 x2 hw; exact False.elim hw
    | succ n K4 =>
      intro M x0 x1 x2 hw H locs ls hW hS hl
      obtain ⟨k4, hk4⟩ : ∃ z, z = l_X5_count_4 Q n := ⟨_, rfl⟩
      have hw : b_X5_count_4 Q k4 M x0 x1 x2 := by rw [hk4]; exact hw
      rw [← hk4] at K4
      unfold b_X5_count_4 at hw
      refine lv_iload_n hx hb dX5_count_4 rfl (lv_at hl 2 rfl) ?_
      refine lv_bipush (v := 12) hx hb dX5_count_5 (by decide) ?_
      refine lv_icmp_ge (tgt := 24) hx hb dX5_count_7 (by decide) (fun c_1 => ?_) (fun c_1 => ?_)
      · have hw := hw.1 c_1
        refine lv_iload_n hx hb dX5_count_24 rfl (lv_at hl 1 rfl) ?_
        rw [← hQQ]
        exact e_I hx hb hr hlocks hW hS (Nat.le_of_ble_eq_true rfl) (Nat.le_of_ble_eq_true rfl) dX5_count_25 ⟨hw, rfl⟩
      · have hw := hw.2 c_1
        refine lv_iload_n hx hb dX5_count_10 rfl (lv_at hl 1 rfl) ?_
        refine lv_iload_n hx hb dX5_count_11 rfl (lv_at hl 0 rfl) ?_
        refine lv_iload_n hx hb dX5_count_12 rfl (lv_at hl 2 rfl) ?_
        refine lv_ishr hx hb dX5_count_13 ?_
        refine lv_iconst (v := 1) hx hb dX5_count_14 (by decide) ?_
        refine lv_iand hx hb dX5_count_15 ?_
        refine lv_iadd hx hb dX5_count_16 ?_
        refine lv_topi (fun v_2 ev_2 => ?_)
        have hw := hw v_2 ev_2
        refine lv_istore_n (lv' := [(1, .int v_2), (0, .int x0), (2, .int x2)]) hx hb dX5_count_17 rfl hl (by decide) rfl (fun ls hl => ?_)
        obtain ⟨v_3, ev_3⟩ : ∃ y : Int32, y = x2 + 1 := ⟨_, rfl⟩
        have hw := hw v_3 ev_3
        refine lv_iinc (v := v_3) (lv' := [(2, .int v_3), (1, .int v_2), (0, .int x0)]) hx hb dX5_count_18 hl (k := 2) rfl (by rw [ev_3]; rfl) (by decide) rfl (fun ls hl => ?_)
        refine lv_goto (tgt := 4) hx hb dX5_count_21 (by decide) ?_
        exact K4 M x0 v_2 v_3 hw H locs ls hW hS (lv_sub hl [2, 1, 0] rfl)
  unfold w_X5_count at hw
  obtain ⟨H, hH⟩ : ∃ z, z = s.heap := ⟨_, rfl⟩
  obtain ⟨locs, hlo⟩ : ∃ z : List Loc, z = [] := ⟨_, rfl⟩
  have hS : va_S (fun q : Nat => base ≤ q) s.heap H locs := by rw [hlo, hH]; exact hS
  have hW : Wd E base M ad H := by rw [hH]; exact hW
  rw [show W p l e rm_X5_count s m args below meth c s.heap [] 0 0 QQ (F0 m 0 ls []) = W p l e rm_X5_count s m args below meth c H locs 0 0 QQ (F0 m 0 ls []) by rw [hlo, hH]]
  refine lv_iconst (v := 0) hx hb dX5_count_0 (by decide) ?_
  refine lv_istore_n (lv' := [(1, .int 0), (0, .int a0)]) hx hb dX5_count_1 rfl hl (by decide) rfl (fun ls hl => ?_)
  refine lv_iconst (v := 0) hx hb dX5_count_2 (by decide) ?_
  refine lv_istore_n (lv' := [(2, .int 0), (1, .int 0), (0, .int a0)]) hx hb dX5_count_3 rfl hl (by decide) rfl (fun ls hl => ?_)
  obtain ⟨n9, hw⟩ := hw
  exact L_4 n9 M a0 0 0 hw H locs ls hW hS (lv_sub hl [2, 1, 0] rfl)
def rm_X5_leave : Room := { frames := 1, cells := 0, slots := 0, locals := 22 }
set_option maxHeartbeats 4000000 in
set_option maxRecDepth 100000 in
theorem c_X5_leave (l : Launch) (E : GE) (base : Nat) (M : Mem) (ad : AD) (a1 : Int32) (Q : Int32 → Mem → Prop) (hw : w_X5_leave M a1 Q) : Con l yX5_leave cX5_leave 2 (some .int) rm_X5_leave 0 0 E base [.ref (ad 5 0), .int a1] M ad (QcI E base (fun r M1 ad1 => Q r M1 ∧ ad = ad1)) noX := by
  refine con_start (by decide) (Nat.le_of_ble_eq_true rfl) ?_
  intro p e s m args below meth c ls QQ hQQ CT hnx hW hl
  obtain ⟨⟨hx, hb, hml, hown, hts⟩, hr, hlocks, hnm, hT⟩ := CT
  have hS : va_S (fun q : Nat => base ≤ q) s.heap s.heap [] := va_S.rf
  have hl : lv_has ls 2 [(0, .ref (ad 5 0)), (1, .int a1)] := hl
  have L_14 : ∀ (M : Mem) (x1 : Int32) (s0 : Int32), b_X5_leave_14 Q M x1 s0 → WL p l e rm_X5_leave s m args below meth c QQ E base 2 M ad 14 [(0, .ref (ad 5 0)), (1, .int x1)] [.int s0, .ref (ad 5 0)] 0 0 := by
    intro M x1 s0 hw H locs ls hW hS hl
    unfold b_X5_leave_14 at hw
    obtain ⟨g_7, hw⟩ := hw
    refine k_I (rn_V (As := [.int s0]) (rest := []) (κ := 5) (i := 0) ⟨hx, hb, hml, hown, hts⟩ hT hW hS hl (c_X5_fits l E base M ad s0 _ hw) cy_X5_fits k_89 k_90 k_91 g_7 (by decide) rfl rfl rfl rfl ⟨(Nat.le_of_ble_eq_true rfl), (Nat.le_of_ble_eq_true rfl)⟩ rfl rfl (Nat.le_of_ble_eq_true rfl) dX5_leave_14 ⟨(Nat.le_of_ble_eq_true rfl), (Nat.le_of_ble_eq_true rfl)⟩) hS kx_no (fun r_11 M_9 ad_10 H locs hP hW hS => ?_)
    obtain ⟨hw, rfl⟩ := hP
    refine lv_if_ne (tgt := 22) hx hb dX5_leave_17 (by decide) (fun c_12 => ?_) (fun c_12 => ?_)
    · have hw := hw.2 c_12
      refine lv_aload_n hx hb dX5_leave_22 rfl (lv_at hl 0 rfl) ?_
      obtain ⟨g_13, hw⟩ := hw
      obtain ⟨g_14, hw⟩ := hw
      refine r_getR (κ2 := 34) (i2 := 0) hx hb hts hown hT.1 hW clX5 4 (by decide) (hts _ k_16) (fun _ h9 => h9) 34 rfl rfl g_13 g_14 dX5_leave_23 ?_
      refine lv_iload_n hx hb dX5_leave_26 rfl (lv_at hl 1 rfl) ?_
      refine lv_iconst (v := 0) hx hb dX5_leave_27 (by decide) ?_
      obtain ⟨g_15, hw⟩ := hw
      obtain ⟨g_16, hw⟩ := hw
      refine r_zast hx hb hT.1 hW hS (by decide) rfl (fun _ => rfl) 6 rfl (by decide) g_16 g_15 dX5_leave_28 (fun M_17 H locs hM_17 hW hS => ?_)
      have hw := hw M_17 hM_17
      refine lv_aload_n hx hb dX5_leave_29 rfl (lv_at hl 0 rfl) ?_
      obtain ⟨g_18, hw⟩ := hw
      refine r_getR (κ2 := 35) (i2 := 0) hx hb hts hown hT.1 hW clX5 5 (by decide) (hts _ k_17) (fun _ h9 => h9) 35 rfl rfl (by rw [hM_17]; exact g_13) g_18 dX5_leave_30 ?_
      refine lv_iload_n hx hb dX5_leave_33 rfl (lv_at hl 1 rfl) ?_
      obtain ⟨g_19, hw⟩ := hw
      obtain ⟨g_20, hw⟩ := hw
      refine r_iald hx hb hT.1 hW (by decide) rfl (fun _ => rfl) 6 rfl g_20 g_19 dX5_leave_34 ?_
      refine k_I (rn_S (As := [.int (mI M_17 35 0 x1.toNatClampNeg)]) (rest := []) ⟨hx, hb, hml, hown, hts⟩ hT hW hS hl (c_X5_count l E base M_17 ad (mI M_17 35 0 x1.toNatClampNeg) _ hw) cy_X5_count k_115 k_116 rfl rfl ⟨(Nat.le_of_ble_eq_true rfl), (Nat.le_of_ble_eq_true rfl)⟩ rfl rfl (Nat.le_of_ble_eq_true rfl) dX5_leave_35 ⟨(Nat.le_of_ble_eq_true rfl), (Nat.le_of_ble_eq_true rfl)⟩) hS kx_no (fun r_24 M_22 ad_23 H locs hP hW hS => ?_)
      obtain ⟨hw, rfl⟩ := hP
      rw [← hQQ]
      exact e_I hx hb hr hlocks hW hS (Nat.le_of_ble_eq_true rfl) (Nat.le_of_ble_eq_true rfl) dX5_leave_38 ⟨hw, rfl⟩
    · have hw := hw.1 c_12
      refine lv_iconst (v := 0) hx hb dX5_leave_20 (by decide) ?_
      rw [← hQQ]
      exact e_I hx hb hr hlocks hW hS (Nat.le_of_ble_eq_true rfl) (Nat.le_of_ble_eq_true rfl) dX5_leave_21 ⟨hw, rfl⟩
  unfold w_X5_leave at hw
  obtain ⟨H, hH⟩ : ∃ z, z = s.heap := ⟨_, rfl⟩
  obtain ⟨locs, hlo⟩ : ∃ z : List Loc, z = [] := ⟨_, rfl⟩
  have hS : va_S (fun q : Nat => base ≤ q) s.heap H locs := by rw [hlo, hH]; exact hS
  have hW : Wd E base M ad H := by rw [hH]; exact hW
  rw [show W p l e rm_X5_leave s m args below meth c s.heap [] 0 0 QQ (F0 m 0 ls []) = W p l e rm_X5_leave s m args below meth c H locs 0 0 QQ (F0 m 0 ls []) by rw [hlo, hH]]
  refine lv_aload_n hx hb dX5_leave_0 rfl (lv_at hl 0 rfl) ?_
  refine lv_aload_n hx hb dX5_leave_1 rfl (lv_at hl 0 rfl) ?_
  refine lv_iload_n hx hb dX5_leave_2 rfl (lv_at hl 1 rfl) ?_
  obtain ⟨g_1, hw⟩ := hw
  refine k_I (rn_V (As := [.int a1]) (rest := [.ref (ad 5 0)]) (κ := 5) (i := 0) ⟨hx, hb, hml, hown, hts⟩ hT hW hS hl (c_X5_isPeer l E base M ad a1 _ hw) cy_X5_isPeer k_112 k_113 k_114 g_1 (by decide) rfl rfl rfl rfl ⟨(Nat.le_of_ble_eq_true rfl), (Nat.le_of_ble_eq_true rfl)⟩ rfl rfl (Nat.le_of_ble_eq_true rfl) dX5_leave_3 ⟨(Nat.le_of_ble_eq_true rfl), (Nat.le_of_ble_eq_true rfl)⟩) hS kx_no (fun r_5 M_3 ad_4 H locs hP hW hS => ?_)
  obtain ⟨hw, rfl⟩ := hP
  refine lv_if_eq (tgt := 13) hx hb dX5_leave_6 (by decide) (fun c_6 => ?_) (fun c_6 => ?_)
  · have hw := hw.1 c_6
    refine lv_iconst (v := 1) hx hb dX5_leave_13 (by decide) ?_
    exact L_14 M_3 a1 1 hw H locs ls hW hS (lv_sub hl [0, 1] rfl)
  · have hw := hw.2 c_6
    refine lv_iconst (v := 0) hx hb dX5_leave_9 (by decide) ?_
    refine lv_goto (tgt := 14) hx hb dX5_leave_10 (by decide) ?_
    exact L_14 M_3 a1 0 hw H locs ls hW hS (lv_sub hl [0, 1] rfl)
def rm_X4_checkPiece : Room := { frames := 6, cells := 1, slots := 6, locals := 90 }
set_option maxHeartbeats 4000000 in
set_option maxRecDepth 100000 in
theorem c_X4_checkPiece (l : Launch) (hlt : l.stackTraces = false) (E : GE) (base : Nat) (M : Mem) (ad : AD) (a0 : Int32) (Q : Mem → Prop) (X : Nat → Mem → Prop) (hw : w_X4_checkPiece M a0 Q X) : Con l yX4_checkPiece cX4_checkPiece 1 none rm_X4_checkPiece 1 6 E base [.int a0] M ad (QcV E base (fun M1 ad1 => Q M1 ∧ ad = ad1)) (fun k M1 ad1 => X k M1 ∧ ad = ad1) := by
  refine con_start (by decide) (Nat.le_of_ble_eq_true rfl) ?_
  intro p e s m args below meth c ls QQ hQQ CT hnx hW hl
  obtain ⟨⟨hx, hb, hml, hown, hts⟩, hr, hlocks, hnm, hT⟩ := CT
  have hS : va_S (fun q : Nat => base ≤ q) s.heap s.heap [] := va_S.rf
  have hl : lv_has ls 1 [(0, .int a0)] := hl
  have L_10 : ∀ (M : Mem) , b_X4_checkPiece_10 Q X M → WL p l e rm_X4_checkPiece s m args below meth c QQ E base 1 M ad 10 [] [] 0 0 := by
    intro M hw H locs ls hW hS hl
    unfold b_X4_checkPiece_10 at hw
    rw [← hQQ]
    exact e_throw 1 (own := RX4) (text := "no such piece") hx hb hlt hown hts hT (by decide) k_95 k_96 at_X4_150_1 ag_X4_150_1 (by decide +kernel) dX4_checkPiece_10 dX4_checkPiece_13 dX4_checkPiece_14 dX4_checkPiece_16 dX4_checkPiece_19 hnx (Nat.le_of_ble_eq_true rfl) (Nat.le_of_ble_eq_true rfl) (Nat.le_of_ble_eq_true rfl) (Nat.le_of_ble_eq_true rfl) hlocks (by rw [hml]; exact hl.1) hW hS (Nat.le_of_ble_eq_true rfl) (Nat.le_of_ble_eq_true rfl) ⟨hw, rfl⟩
  unfold w_X4_checkPiece at hw
  obtain ⟨H, hH⟩ : ∃ z, z = s.heap := ⟨_, rfl⟩
  obtain ⟨locs, hlo⟩ : ∃ z : List Loc, z = [] := ⟨_, rfl⟩
  have hS : va_S (fun q : Nat => base ≤ q) s.heap H locs := by rw [hlo, hH]; exact hS
  have hW : Wd E base M ad H := by rw [hH]; exact hW
  rw [show W p l e rm_X4_checkPiece s m args below meth c s.heap [] 0 0 QQ (F0 m 0 ls []) = W p l e rm_X4_checkPiece s m args below meth c H locs 0 0 QQ (F0 m 0 ls []) by rw [hlo, hH]]
  refine lv_iload_n hx hb dX4_checkPiece_0 rfl (lv_at hl 0 rfl) ?_
  refine lv_if_lt (tgt := 10) hx hb dX4_checkPiece_1 (by decide) (fun c_1 => ?_) (fun c_1 => ?_)
  · have hw := hw.1 c_1
    exact L_10 M hw H locs ls hW hS (lv_sub hl [] rfl)
  · have hw := hw.2 c_1
    refine lv_iload_n hx hb dX4_checkPiece_4 rfl (lv_at hl 0 rfl) ?_
    refine lv_bipush (v := 12) hx hb dX4_checkPiece_5 (by decide) ?_
    refine lv_icmp_lt (tgt := 20) hx hb dX4_checkPiece_7 (by decide) (fun c_2 => ?_) (fun c_2 => ?_)
    · have hw := hw.1 c_2
      rw [← hQQ]
      exact e_V hx hb hr hlocks hW hS (Nat.le_of_ble_eq_true rfl) (Nat.le_of_ble_eq_true rfl) dX4_checkPiece_20 ⟨hw, rfl⟩
    · have hw := hw.2 c_2
      exact L_10 M hw H locs ls hW hS (lv_sub hl [] rfl)
def rm_X4_setPriority : Room := { frames := 7, cells := 2, slots := 12, locals := 110 }
set_option maxHeartbeats 4000000 in
set_option maxRecDepth 100000 in
theorem c_X4_setPriority (l : Launch) (hlt : l.stackTraces = false) (E : GE) (base : Nat) (M : Mem) (ad : AD) (a1 : Int32) (a2 : Int32) (Q : Int32 → Mem → Prop) (X : Nat → Mem → Prop) (hw : w_X4_setPriority M a1 a2 Q X) : Con l yX4_setPriority cX4_setPriority 4 (some .int) rm_X4_setPriority 2 12 E base [.ref (ad 4 0), .int a1, .int a2] M ad (QcI E base (fun r M1 ad1 => Q r M1 ∧ ad = ad1)) (fun k M1 ad1 => X k M1 ∧ ad = ad1) := by
  refine con_start (by decide) (Nat.le_of_ble_eq_true rfl) ?_
  intro p e s m args below meth c ls QQ hQQ CT hnx hW hl
  obtain ⟨⟨hx, hb, hml, hown, hts⟩, hr, hlocks, hnm, hT⟩ := CT
  have hS : va_S (fun q : Nat => base ≤ q) s.heap s.heap [] := va_S.rf
  have hl : lv_has ls 4 [(0, .ref (ad 4 0)), (1, .int a1), (2, .int a2)] := hl
  have L_13 : ∀ (M : Mem) , b_X4_setPriority_13 Q X M → WL p l e rm_X4_setPriority s m args below meth c QQ E base 4 M ad 13 [] [] 1 6 := by
    intro M hw H locs ls hW hS hl
    unfold b_X4_setPriority_13 at hw
    rw [← hQQ]
    exact e_throw 2 (own := RX4) (text := "no such priority") hx hb hlt hown hts hT (by decide) k_119 k_120 at_X4_75_2 ag_X4_75_2 (by decide +kernel) dX4_setPriority_13 dX4_setPriority_16 dX4_setPriority_17 dX4_setPriority_19 dX4_setPriority_22 hnx (Nat.le_of_ble_eq_true rfl) (Nat.le_of_ble_eq_true rfl) (Nat.le_of_ble_eq_true rfl) (Nat.le_of_ble_eq_true rfl) hlocks (by rw [hml]; exact hl.1) hW hS (Nat.le_of_ble_eq_true rfl) (Nat.le_of_ble_eq_true rfl) ⟨hw, rfl⟩
  unfold w_X4_setPriority at hw
  obtain ⟨H, hH⟩ : ∃ z, z = s.heap := ⟨_, rfl⟩
  obtain ⟨locs, hlo⟩ : ∃ z : List Loc, z = [] := ⟨_, rfl⟩
  have hS : va_S (fun q : Nat => base ≤ q) s.heap H locs := by rw [hlo, hH]; exact hS
  have hW : Wd E base M ad H := by rw [hH]; exact hW
  rw [show W p l e rm_X4_setPriority s m args below meth c s.heap [] 0 0 QQ (F0 m 0 ls []) = W p l e rm_X4_setPriority s m args below meth c H locs 0 0 QQ (F0 m 0 ls []) by rw [hlo, hH]]
  refine lv_iload_n hx hb dX4_setPriority_0 rfl (lv_at hl 1 rfl) ?_
  refine k_V (rn_S (As := [.int a1]) (rest := []) ⟨hx, hb, hml, hown, hts⟩ hT hW hS hl (c_X4_checkPiece l hlt E base M ad a1 _ _ hw) cy_X4_checkPiece k_117 k_118 rfl rfl ⟨(Nat.le_of_ble_eq_true rfl), (Nat.le_of_ble_eq_true rfl)⟩ rfl rfl (Nat.le_of_ble_eq_true rfl) dX4_setPriority_1 ⟨(Nat.le_of_ble_eq_true rfl), (Nat.le_of_ble_eq_true rfl)⟩) hS (by rw [← hQQ]; exact kx_out hnx hlocks (Nat.le_of_ble_eq_true rfl) (Nat.le_of_ble_eq_true rfl) (fun _ _ _ h9 => h9)) (fun M_2 ad_3 H locs hP hW hS => ?_)
  obtain ⟨hw, rfl⟩ := hP
  refine lv_iload_n hx hb dX4_setPriority_4 rfl (lv_at hl 2 rfl) ?_
  refine lv_if_lt (tgt := 13) hx hb dX4_setPriority_5 (by decide) (fun c_5 => ?_) (fun c_5 => ?_)
  · have hw := hw.1 c_5
    exact L_13 M_2 hw H locs ls hW hS (lv_sub hl [] rfl)
  · have hw := hw.2 c_5
    refine lv_iload_n hx hb dX4_setPriority_8 rfl (lv_at hl 2 rfl) ?_
    refine lv_iconst (v := 3) hx hb dX4_setPriority_9 (by decide) ?_
    refine lv_icmp_le (tgt := 23) hx hb dX4_setPriority_10 (by decide) (fun c_6 => ?_) (fun c_6 => ?_)
    · have hw := hw.1 c_6
      refine lv_aload_n hx hb dX4_setPriority_23 rfl (lv_at hl 0 rfl) ?_
      obtain ⟨g_7, hw⟩ := hw
      obtain ⟨g_8, hw⟩ := hw
      refine r_getR (κ2 := 11) (i2 := 0) hx hb hts hown hT.1 hW clX4 1 (by decide) (hts _ k_7) (fun _ h9 => h9) 11 rfl rfl g_7 g_8 dX4_setPriority_24 ?_
      refine lv_iload_n hx hb dX4_setPriority_27 rfl (lv_at hl 1 rfl) ?_
      obtain ⟨g_9, hw⟩ := hw
      obtain ⟨g_10, hw⟩ := hw
      refine r_iald hx hb hT.1 hW (by decide) rfl (fun _ => rfl) 12 rfl g_10 g_9 dX4_setPriority_28 ?_
      refine lv_topi (fun v_11 ev_11 => ?_)
      have hw := hw v_11 ev_11
      refine lv_istore_n (lv' := [(3, .int v_11), (0, .ref (ad 4 0)), (1, .int a1), (2, .int a2)]) hx hb dX4_setPriority_29 rfl hl (by decide) rfl (fun ls hl => ?_)
      refine lv_aload_n hx hb dX4_setPriority_30 rfl (lv_at hl 1 rfl) ?_
      refine r_getR (κ2 := 11) (i2 := 0) hx hb hts hown hT.1 hW clX4 1 (by decide) (hts _ k_7) (fun _ h9 => h9) 11 rfl rfl g_7 g_8 dX4_setPriority_31 ?_
      refine lv_iload_n hx hb dX4_setPriority_34 rfl (lv_at hl 2 rfl) ?_
      refine lv_iload_n hx hb dX4_setPriority_35 rfl (lv_at hl 3 rfl) ?_
      obtain ⟨g_12, hw⟩ := hw
      refine r_iast hx hb hT.1 hW hS (by decide) rfl (fun _ => rfl) 12 rfl g_12 g_9 dX4_setPriority_36 (fun M_13 H locs hM_13 hW hS => ?_)
      have hw := hw M_13 hM_13
      refine lv_iload_n hx hb dX4_setPriority_37 rfl (lv_at hl 0 rfl) ?_
      rw [← hQQ]
      exact e_I hx hb hr hlocks hW hS (Nat.le_of_ble_eq_true rfl) (Nat.le_of_ble_eq_true rfl) dX4_setPriority_38 ⟨hw, rfl⟩
    · have hw := hw.2 c_6
      exact L_13 M_2 hw H locs ls hW hS (lv_sub hl [] rfl)
