def rm_X4_askOthers : Room := { frames := 5, cells := 0, slots := 0, locals := 119 }
set_option maxHeartbeats 4000000 in
set_option maxRecDepth 100000 in
theorem c_X4_askOthers (l : Launch) (E : GE) (base : Nat) (M : Mem) (ad : AD) (a1 : Nat) (a2 : Int32) (Q : Mem → Prop) (hw : w_X4_askOthers M a1 a2 Q) : Con l yX4_askOthers cX4_askOthers 9 none rm_X4_askOthers 0 0 E base [.ref (ad 4 0), .ref (ad 2 a1), .int a2] M ad (QcV E base (fun M1 ad1 => Q M1 ∧ ad = ad1)) noX := by
  refine con_start (by decide) (Nat.le_of_ble_eq_true rfl) ?_
  intro p e s m args below meth c ls QQ hQQ CT hnx hW hl
  obtain ⟨⟨hx, hb, hml, hown, hts⟩, hr, hlocks, hnm, hT⟩ := CT
  have hS : va_S (fun q : Nat => base ≤ q) s.heap s.heap [] := va_S.rf
  have hl : lv_has ls 9 [(0, .ref (ad 4 0)), (1, .ref (ad 2 a1)), (2, .int a2)] := hl
  have L_84 : ∀ (k41 : Mem → Nat → Int64 → Int32 → Int32 → Prop) (K41 : ∀ (M : Mem) (x1 : Nat) (x3 : Int64) (x6 : Int32) (x7 : Int32), k41 M x1 x3 x6 x7 → WL p l e rm_X4_askOthers s m args below meth c QQ E base 9 M ad 41 [(0, .ref (ad 4 0)), (1, .ref (ad 2 x1)), (3, .long x3), (5, .ref (ad 10 0)), (6, .int x6), (7, .int x7)] [] 0 0) (M : Mem) (x1 : Nat) (x3 : Int64) (x6 : Int32) (x7 : Int32), b_X4_askOthers_84 k41 Q M x1 x3 x6 x7 → WL p l e rm_X4_askOthers s m args below meth c QQ E base 9 M ad 84 [(0, .ref (ad 4 0)), (1, .ref (ad 2 x1)), (3, .long x3), (5, .ref (ad 10 0)), (6, .int x6), (7, .int x7)] [] 0 0 := by
    intro k41 K41 M x1 x3 x6 x7 hw H locs ls hW hS hl
    unfold b_X4_askOthers_84 at hw
    obtain ⟨v_26, ev_26⟩ : ∃ y : Int32, y = x7 + 1 := ⟨_, rfl⟩
    have hw := hw v_26 ev_26
    refine lv_iinc (v := v_26) (lv' := [(7, .int v_26), (0, .ref (ad 4 0)), (1, .ref (ad 2 x1)), (3, .long x3), (5, .ref (ad 10 0)), (6, .int x6)]) hx hb dX4_askOthers_84 hl (k := 5) rfl (by rw [ev_26]; rfl) (by decide) rfl (fun ls hl => ?_)
    refine lv_goto (tgt := 41) hx hb dX4_askOthers_87 (by decide) ?_
    exact K41 M x1 x3 x6 v_26 hw H locs ls hW hS (lv_sub hl [1, 2, 3, 4, 5, 0] rfl)
  have L_41 : ∀ (n : Nat) (M : Mem) (x1 : Nat) (x3 : Int64) (x6 : Int32) (x7 : Int32), l_X4_askOthers_41 Q n M x1 x3 x6 x7 → WL p l e rm_X4_askOthers s m args below meth c QQ E base 9 M ad 41 [(0, .ref (ad 4 0)), (1, .ref (ad 2 x1)), (3, .long x3), (5, .ref (ad 10 0)), (6, .int x6), (7, .int x7)] [] 0 0 := by
    intro n
    induction n with
    | zero => intro M x1 x3 x6 x7 hw; exact False.elim hw
    | succ n K41 =>
      intro M x1 x3 x6 x7 hw H locs ls hW hS hl
      obtain ⟨k41, hk41⟩ : ∃ z, z = l_X4_askOthers_41 Q n := ⟨_, rfl⟩
      have hw : b_X4_askOthers_41 Q k41 M x1 x3 x6 x7 := by rw [hk41]; exact hw
      rw [← hk41] at K41
      unfold b_X4_askOthers_41 at hw
      refine lv_iload hx hb dX4_askOthers_41 (lv_at hl 5 rfl) ?_
      refine lv_iload hx hb dX4_askOthers_43 (lv_at hl 4 rfl) ?_
      refine lv_icmp_ge (tgt := 90) hx hb dX4_askOthers_45 (by decide) (fun c_15 => ?_) (fun c_15 => ?_)
      · have hw := hw.1 c_15
        rw [← hQQ]
        exact e_V hx hb hr hlocks hW hS (Nat.le_of_ble_eq_true rfl) (Nat.le_of_ble_eq_true rfl) dX4_askOthers_90 ⟨hw, rfl⟩
      · have hw := hw.2 c_15
        refine lv_aload hx hb dX4_askOthers_48 (lv_at hl 3 rfl) ?_
        refine lv_iload hx hb dX4_askOthers_50 (lv_at hl 5 rfl) ?_
        obtain ⟨g_16, hw⟩ := hw
        obtain ⟨g_17, hw⟩ := hw
        refine r_aald hx hb hT.1 hW g_17 g_16 dX4_askOthers_52 (fun g_18 => ?_) (fun g_18 => ?_)
        · have hw := hw.1 g_18
          refine lv_astore (lv' := [(8, .ref (ad 2 x7.toNatClampNeg)), (0, .ref (ad 4 0)), (1, .ref (ad 2 x1)), (3, .long x3), (5, .ref (ad 10 0)), (6, .int x6), (7, .int x7)]) hx hb dX4_askOthers_53 hl (by decide) rfl (fun ls hl => ?_)
          refine lv_aload hx hb dX4_askOthers_55 (lv_at hl 0 rfl) ?_
          refine lv_ifnull hx hb dX4_askOthers_57 ?_
          refine lv_aload hx hb dX4_askOthers_60 (lv_at hl 0 rfl) ?_
          obtain ⟨g_19, hw⟩ := hw
          refine r_getI hx hb hts hown hT.1 hW clX2 13 (by decide) (hts _ k_175) (fun _ h9 => h9) rfl g_19 dX4_askOthers_62 ?_
          refine lv_i2l hx hb dX4_askOthers_65 rfl ?_
          refine lv_aload_n hx hb dX4_askOthers_66 rfl (lv_at hl 2 rfl) ?_
          obtain ⟨g_20, hw⟩ := hw
          refine r_getI hx hb hts hown hT.1 hW clX2 0 (by decide) (hts _ k_100) (fun _ h9 => h9) rfl g_20 dX4_askOthers_67 ?_
          refine k_I (rn_S (As := [.long ((mI M 2 x7.toNatClampNeg 13).toInt64), .int (mI M 2 x1 0)]) (rest := []) ⟨hx, hb, hml, hown, hts⟩ hT hW hS hl (c_X4_isIn l E base M ad ((mI M 2 x7.toNatClampNeg 13).toInt64) (mI M 2 x1 0) _ hw) cy_X4_isIn k_136 k_137 rfl rfl ⟨(Nat.le_of_ble_eq_true rfl), (Nat.le_of_ble_eq_true rfl)⟩ rfl rfl (Nat.le_of_ble_eq_true rfl) dX4_askOthers_70 ⟨(Nat.le_of_ble_eq_true rfl), (Nat.le_of_ble_eq_true rfl)⟩) hS kx_no (fun r_24 M_22 ad_23 H locs hP hW hS => ?_)
          obtain ⟨hw, rfl⟩ := hP
          refine lv_if_eq (tgt := 84) hx hb dX4_askOthers_73 (by decide) (fun c_25 => ?_) (fun c_25 => ?_)
          · have hw := hw.1 c_25
            exact L_84 k41 K41 M_22 x1 x3 x6 x7 hw H locs ls hW hS (lv_sub hl [1, 2, 3, 4, 5, 6] rfl)
          · have hw := hw.2 c_25
            refine lv_aload_n hx hb dX4_askOthers_76 rfl (lv_at hl 1 rfl) ?_
            refine lv_aload_n hx hb dX4_askOthers_77 rfl (lv_at hl 2 rfl) ?_
            refine lv_aload hx hb dX4_askOthers_78 (lv_at hl 0 rfl) ?_
            refine lv_lload_n hx hb dX4_askOthers_80 rfl (lv_at hl 3 rfl) ?_
            obtain ⟨g_27, hw⟩ := hw
            refine k_V (rn_V (As := [.ref (ad 2 x1), .ref (ad 2 x7.toNatClampNeg), .long x3]) (rest := []) (κ := 4) (i := 0) ⟨hx, hb, hml, hown, hts⟩ hT hW hS hl (c_X4_askOne l E base M_22 ad x1 x7.toNatClampNeg x3 _ hw) cy_X4_askOne k_200 k_201 k_202 g_27 (by decide) rfl rfl rfl rfl ⟨(Nat.le_of_ble_eq_true rfl), (Nat.le_of_ble_eq_true rfl)⟩ rfl rfl (Nat.le_of_ble_eq_true rfl) dX4_askOthers_81 ⟨(Nat.le_of_ble_eq_true rfl), (Nat.le_of_ble_eq_true rfl)⟩) hS kx_no (fun M_29 ad_30 H locs hP hW hS => ?_)
            obtain ⟨hw, rfl⟩ := hP
            exact L_84 k41 K41 M_29 x1 x3 x6 x7 hw H locs ls hW hS (lv_sub hl [1, 2, 3, 4, 5, 6] rfl)
        · have hw := hw.2 g_18
          refine lv_astoreN (lv' := [(8, .null), (0, .ref (ad 4 0)), (1, .ref (ad 2 x1)), (3, .long x3), (5, .ref (ad 10 0)), (6, .int x6), (7, .int x7)]) hx hb dX4_askOthers_53 hl (by decide) rfl (fun ls hl => ?_)
          refine lv_aloadN hx hb dX4_askOthers_55 (lv_at hl 0 rfl) ?_
          refine lv_ifnullN (tgt := 84) hx hb dX4_askOthers_57 (by decide) ?_
          exact L_84 k41 K41 M x1 x3 x6 x7 hw H locs ls hW hS (lv_sub hl [1, 2, 3, 4, 5, 6] rfl)
  unfold w_X4_askOthers at hw
  obtain ⟨H, hH⟩ : ∃ z, z = s.heap := ⟨_, rfl⟩
  obtain ⟨locs, hlo⟩ : ∃ z : List Loc, z = [] := ⟨_, rfl⟩
  have hS : va_S (fun q : Nat => base ≤ q) s.heap H locs := by rw [hlo, hH]; exact hS
  have hW : Wd E base M ad H := by rw [hH]; exact hW
  rw [show W p l e rm_X4_askOthers s m args below meth c s.heap [] 0 0 QQ (F0 m 0 ls []) = W p l e rm_X4_askOthers s m args below meth c H locs 0 0 QQ (F0 m 0 ls []) by rw [hlo, hH]]
  refine lv_iload_n hx hb dX4_askOthers_0 rfl (lv_at hl 2 rfl) ?_
  refine lv_aload_n hx hb dX4_askOthers_1 rfl (lv_at hl 1 rfl) ?_
  obtain ⟨g_1, hw⟩ := hw
  obtain ⟨g_2, hw⟩ := hw
  refine r_getR (κ2 := 3) (i2 := a1) hx hb hts hown hT.1 hW clX2 1 (by decide) (hts _ k_101) (fun _ h9 => h9) 3 rfl rfl g_1 g_2 dX4_askOthers_2 ?_
  obtain ⟨g_3, hw⟩ := hw
  refine r_getI hx hb hts hown hT.1 hW clX3 0 (by decide) (hts _ k_102) (fun _ h9 => h9) rfl g_3 dX4_askOthers_5 ?_
  refine lv_iconst (v := (-1)) hx hb dX4_askOthers_8 (by decide) ?_
  refine lv_ixor hx hb dX4_askOthers_9 ?_
  refine lv_iand hx hb dX4_askOthers_10 ?_
  refine k_L (rn_S (As := [.int (a2 &&& ((mI M 3 a1 0) ^^^ (-1)))]) (rest := []) ⟨hx, hb, hml, hown, hts⟩ hT hW hS hl (c_X4_blocksOf l E base M ad (a2 &&& ((mI M 3 a1 0) ^^^ (-1))) _ hw) cy_X4_blocksOf k_189 k_190 rfl rfl ⟨(Nat.le_of_ble_eq_true rfl), (Nat.le_of_ble_eq_true rfl)⟩ rfl rfl (Nat.le_of_ble_eq_true rfl) dX4_askOthers_11 ⟨(Nat.le_of_ble_eq_true rfl), (Nat.le_of_ble_eq_true rfl)⟩) hS kx_no (fun r_7 M_5 ad_6 H locs hP hW hS => ?_)
  obtain ⟨hw, rfl⟩ := hP
  refine lv_aload_n hx hb dX4_askOthers_14 rfl (lv_at hl 1 rfl) ?_
  obtain ⟨g_8, hw⟩ := hw
  obtain ⟨g_9, hw⟩ := hw
  refine r_getR (κ2 := 3) (i2 := a1) hx hb hts hown hT.1 hW clX2 1 (by decide) (hts _ k_101) (fun _ h9 => h9) 3 rfl rfl g_8 g_9 dX4_askOthers_15 ?_
  obtain ⟨g_10, hw⟩ := hw
  refine r_getL hx hb hts hown hT.1 hW clX3 1 (by decide) (hts _ k_182) (fun _ h9 => h9) rfl g_10 dX4_askOthers_18 ?_
  refine lv_ldc2 hx hb hown (hts _ k_191) dX4_askOthers_21 ?_
  refine lv_lxor hx hb dX4_askOthers_24 ?_
  refine lv_land hx hb dX4_askOthers_25 ?_
  refine lv_topl (fun v_11 ev_11 => ?_)
  have hw := hw v_11 ev_11
  refine lv_lstore_n (lv' := [(3, .long v_11), (0, .ref (ad 4 0)), (1, .ref (ad 2 a1)), (2, .int a2)]) hx hb dX4_askOthers_26 rfl hl (by decide) rfl (fun ls hl => ?_)
  refine lv_aload_n hx hb dX4_askOthers_27 rfl (lv_at hl 1 rfl) ?_
  obtain ⟨g_12, hw⟩ := hw
  obtain ⟨g_13, hw⟩ := hw
  refine r_getR (κ2 := 10) (i2 := 0) hx hb hts hown hT.1 hW clX4 0 (by decide) (hts _ k_5) (fun _ h9 => h9) 10 rfl rfl g_12 g_13 dX4_askOthers_28 ?_
  refine lv_astore (lv' := [(5, .ref (ad 10 0)), (3, .long v_11), (0, .ref (ad 4 0)), (1, .ref (ad 2 a1)), (2, .int a2)]) hx hb dX4_askOthers_31 hl (by decide) rfl (fun ls hl => ?_)
  refine lv_aload hx hb dX4_askOthers_33 (lv_at hl 0 rfl) ?_
  obtain ⟨g_14, hw⟩ := hw
  refine r_alen (v := 6) hx hb hT.1 hW (by decide) 3 rfl (kTy 3) rfl (by decide) g_14 dX4_askOthers_35 ?_
  refine lv_istore (lv' := [(6, .int 6), (5, .ref (ad 10 0)), (3, .long v_11), (0, .ref (ad 4 0)), (1, .ref (ad 2 a1)), (2, .int a2)]) hx hb dX4_askOthers_36 hl (by decide) rfl (fun ls hl => ?_)
  refine lv_iconst (v := 0) hx hb dX4_askOthers_38 (by decide) ?_
  refine lv_istore (lv' := [(7, .int 0), (6, .int 6), (5, .ref (ad 10 0)), (3, .long v_11), (0, .ref (ad 4 0)), (1, .ref (ad 2 a1)), (2, .int a2)]) hx hb dX4_askOthers_39 hl (by decide) rfl (fun ls hl => ?_)
  obtain ⟨n9, hw⟩ := hw
  exact L_41 n9 M_5 a1 v_11 6 0 hw H locs ls hW hS (lv_sub hl [4, 5, 3, 2, 1, 0] rfl)
def rm_X4_askAll : Room := { frames := 6, cells := 0, slots := 0, locals := 147 }
set_option maxHeartbeats 4000000 in
set_option maxRecDepth 100000 in
theorem c_X4_askAll (l : Launch) (E : GE) (base : Nat) (M : Mem) (ad : AD)  (Q : Mem → Prop) (hw : w_X4_askAll M  Q) : Con l yX4_askAll cX4_askAll 6 none rm_X4_askAll 0 0 E base [.ref (ad 4 0)] M ad (QcV E base (fun M1 ad1 => Q M1 ∧ ad = ad1)) noX := by
  refine con_start (by decide) (Nat.le_of_ble_eq_true rfl) ?_
  intro p e s m args below meth c ls QQ hQQ CT hnx hW hl
  obtain ⟨⟨hx, hb, hml, hown, hts⟩, hr, hlocks, hnm, hT⟩ := CT
  have hS : va_S (fun q : Nat => base ≤ q) s.heap s.heap [] := va_S.rf
  have hl : lv_has ls 6 [(0, .ref (ad 4 0))] := hl
  have L_40 : ∀ (k16 : Mem → Int32 → Int32 → Int32 → Prop) (K16 : ∀ (M : Mem) (x1 : Int32) (x3 : Int32) (x4 : Int32), k16 M x1 x3 x4 → WL p l e rm_X4_askAll s m args below meth c QQ E base 6 M ad 16 [(0, .ref (ad 4 0)), (1, .int x1), (2, .ref (ad 10 0)), (3, .int x3), (4, .int x4)] [] 0 0) (M : Mem) (x1 : Int32) (x3 : Int32) (x4 : Int32), b_X4_askAll_40 k16 Q M x1 x3 x4 → WL p l e rm_X4_askAll s m args below meth c QQ E base 6 M ad 40 [(0, .ref (ad 4 0)), (1, .int x1), (2, .ref (ad 10 0)), (3, .int x3), (4, .int x4)] [] 0 0 := by
    intro k16 K16 M x1 x3 x4 hw H locs ls hW hS hl
    unfold b_X4_askAll_40 at hw
    obtain ⟨v_18, ev_18⟩ : ∃ y : Int32, y = x4 + 1 := ⟨_, rfl⟩
    have hw := hw v_18 ev_18
    refine lv_iinc (v := v_18) (lv' := [(4, .int v_18), (0, .ref (ad 4 0)), (1, .int x1), (2, .ref (ad 10 0)), (3, .int x3)]) hx hb dX4_askAll_40 hl (k := 4) rfl (by rw [ev_18]; rfl) (by decide) rfl (fun ls hl => ?_)
    refine lv_goto (tgt := 16) hx hb dX4_askAll_43 (by decide) ?_
    exact K16 M x1 x3 v_18 hw H locs ls hW hS (lv_sub hl [1, 2, 3, 4, 0] rfl)
  have L_16 : ∀ (n : Nat) (M : Mem) (x1 : Int32) (x3 : Int32) (x4 : Int32), l_X4_askAll_16 Q n M x1 x3 x4 → WL p l e rm_X4_askAll s m args below meth c QQ E base 6 M ad 16 [(0, .ref (ad 4 0)), (1, .int x1), (2, .ref (ad 10 0)), (3, .int x3), (4, .int x4)] [] 0 0 := by
    intro n
    induction n with
    | zero => intro M x1 x3 x4 hw; exact False.elim hw
    | succ n K16 =>
      intro M x1 x3 x4 hw H locs ls hW hS hl
      obtain ⟨k16, hk16⟩ : ∃ z, z = l_X4_askAll_16 Q n := ⟨_, rfl⟩
      have hw : b_X4_askAll_16 Q k16 M x1 x3 x4 := by rw [hk16]; exact hw
      rw [← hk16] at K16
      unfold b_X4_askAll_16 at hw
      refine lv_iload hx hb dX4_askAll_16 (lv_at hl 4 rfl) ?_
      refine lv_iload_n hx hb dX4_askAll_18 rfl (lv_at hl 3 rfl) ?_
      refine lv_icmp_ge (tgt := 46) hx hb dX4_askAll_19 (by decide) (fun c_9 => ?_) (fun c_9 => ?_)
      · have hw := hw.1 c_9
        rw [← hQQ]
        exact e_V hx hb hr hlocks hW hS (Nat.le_of_ble_eq_true rfl) (Nat.le_of_ble_eq_true rfl) dX4_askAll_46 ⟨hw, rfl⟩
      · have hw := hw.2 c_9
        refine lv_aload_n hx hb dX4_askAll_22 rfl (lv_at hl 2 rfl) ?_
        refine lv_iload hx hb dX4_askAll_23 (lv_at hl 4 rfl) ?_
        obtain ⟨g_10, hw⟩ := hw
        obtain ⟨g_11, hw⟩ := hw
        refine r_aald hx hb hT.1 hW g_11 g_10 dX4_askAll_25 (fun g_12 => ?_) (fun g_12 => ?_)
        · have hw := hw.1 g_12
          refine lv_astore (lv' := [(5, .ref (ad 2 x4.toNatClampNeg)), (0, .ref (ad 4 0)), (1, .int x1), (2, .ref (ad 10 0)), (3, .int x3), (4, .int x4)]) hx hb dX4_askAll_26 hl (by decide) rfl (fun ls hl => ?_)
          refine lv_aload hx hb dX4_askAll_28 (lv_at hl 0 rfl) ?_
          refine lv_ifnull hx hb dX4_askAll_30 ?_
          refine lv_aload_n hx hb dX4_askAll_33 rfl (lv_at hl 1 rfl) ?_
          refine lv_aload hx hb dX4_askAll_34 (lv_at hl 0 rfl) ?_
          refine lv_iload_n hx hb dX4_askAll_36 rfl (lv_at hl 2 rfl) ?_
          obtain ⟨g_13, hw⟩ := hw
          refine k_V (rn_V (As := [.ref (ad 2 x4.toNatClampNeg), .int x1]) (rest := []) (κ := 4) (i := 0) ⟨hx, hb, hml, hown, hts⟩ hT hW hS hl (c_X4_askOthers l E base M ad x4.toNatClampNeg x1 _ hw) cy_X4_askOthers k_203 k_204 k_205 g_13 (by decide) rfl rfl rfl rfl ⟨(Nat.le_of_ble_eq_true rfl), (Nat.le_of_ble_eq_true rfl)⟩ rfl rfl (Nat.le_of_ble_eq_true rfl) dX4_askAll_37 ⟨(Nat.le_of_ble_eq_true rfl), (Nat.le_of_ble_eq_true rfl)⟩) hS kx_no (fun M_15 ad_16 H locs hP hW hS => ?_)
          obtain ⟨hw, rfl⟩ := hP
          exact L_40 k16 K16 M_15 x1 x3 x4 hw H locs ls hW hS (lv_sub hl [1, 2, 3, 4, 5] rfl)
        · have hw := hw.2 g_12
          refine lv_astoreN (lv' := [(5, .null), (0, .ref (ad 4 0)), (1, .int x1), (2, .ref (ad 10 0)), (3, .int x3), (4, .int x4)]) hx hb dX4_askAll_26 hl (by decide) rfl (fun ls hl => ?_)
          refine lv_aloadN hx hb dX4_askAll_28 (lv_at hl 0 rfl) ?_
          refine lv_ifnullN (tgt := 40) hx hb dX4_askAll_30 (by decide) ?_
          exact L_40 k16 K16 M x1 x3 x4 hw H locs ls hW hS (lv_sub hl [1, 2, 3, 4, 5] rfl)
  unfold w_X4_askAll at hw
  obtain ⟨H, hH⟩ : ∃ z, z = s.heap := ⟨_, rfl⟩
  obtain ⟨locs, hlo⟩ : ∃ z : List Loc, z = [] := ⟨_, rfl⟩
  have hS : va_S (fun q : Nat => base ≤ q) s.heap H locs := by rw [hlo, hH]; exact hS
  have hW : Wd E base M ad H := by rw [hH]; exact hW
  rw [show W p l e rm_X4_askAll s m args below meth c s.heap [] 0 0 QQ (F0 m 0 ls []) = W p l e rm_X4_askAll s m args below meth c H locs 0 0 QQ (F0 m 0 ls []) by rw [hlo, hH]]
  refine lv_aload_n hx hb dX4_askAll_0 rfl (lv_at hl 0 rfl) ?_
  obtain ⟨g_1, hw⟩ := hw
  refine k_I (rn_V (As := []) (rest := []) (κ := 4) (i := 0) ⟨hx, hb, hml, hown, hts⟩ hT hW hS hl (c_X4_wantedPieces l E base M ad _ hw) cy_X4_wantedPieces k_149 k_150 k_151 g_1 (by decide) rfl rfl rfl rfl ⟨(Nat.le_of_ble_eq_true rfl), (Nat.le_of_ble_eq_true rfl)⟩ rfl rfl (Nat.le_of_ble_eq_true rfl) dX4_askAll_1 ⟨(Nat.le_of_ble_eq_true rfl), (Nat.le_of_ble_eq_true rfl)⟩) hS kx_no (fun r_5 M_3 ad_4 H locs hP hW hS => ?_)
  obtain ⟨hw, rfl⟩ := hP
  refine lv_istore_n (lv' := [(1, .int r_5), (0, .ref (ad 4 0))]) hx hb dX4_askAll_4 rfl hl (by decide) rfl (fun ls hl => ?_)
  refine lv_aload_n hx hb dX4_askAll_5 rfl (lv_at hl 1 rfl) ?_
  obtain ⟨g_6, hw⟩ := hw
  obtain ⟨g_7, hw⟩ := hw
  refine r_getR (κ2 := 10) (i2 := 0) hx hb hts hown hT.1 hW clX4 0 (by decide) (hts _ k_5) (fun _ h9 => h9) 10 rfl rfl g_6 g_7 dX4_askAll_6 ?_
  refine lv_astore_n (lv' := [(2, .ref (ad 10 0)), (1, .int r_5), (0, .ref (ad 4 0))]) hx hb dX4_askAll_9 rfl hl (by decide) rfl (fun ls hl => ?_)
  refine lv_aload_n hx hb dX4_askAll_10 rfl (lv_at hl 0 rfl) ?_
  obtain ⟨g_8, hw⟩ := hw
  refine r_alen (v := 6) hx hb hT.1 hW (by decide) 3 rfl (kTy 3) rfl (by decide) g_8 dX4_askAll_11 ?_
  refine lv_istore_n (lv' := [(3, .int 6), (2, .ref (ad 10 0)), (1, .int r_5), (0, .ref (ad 4 0))]) hx hb dX4_askAll_12 rfl hl (by decide) rfl (fun ls hl => ?_)
  refine lv_iconst (v := 0) hx hb dX4_askAll_13 (by decide) ?_
  refine lv_istore (lv' := [(4, .int 0), (3, .int 6), (2, .ref (ad 10 0)), (1, .int r_5), (0, .ref (ad 4 0))]) hx hb dX4_askAll_14 hl (by decide) rfl (fun ls hl => ?_)
  obtain ⟨n9, hw⟩ := hw
  exact L_16 n9 M_3 r_5 6 0 hw H locs ls hW hS (lv_sub hl [4, 3, 2, 1, 0] rfl)
def rm_X1_add : Room := { frames := 0, cells := 0, slots := 0, locals := 0 }
set_option maxHeartbeats 4000000 in
set_option maxRecDepth 100000 in
theorem c_X1_add (l : Launch) (E : GE) (base : Nat) (M : Mem) (ad : AD) (t : Nat) (a1 : Int32) (a2 : Int32) (a3 : Int32) (Q : Mem → Prop) (hw : w_X1_add M t a1 a2 a3 Q) : Con l yX1_add cX1_add 4 none rm_X1_add 0 0 E base [.ref (ad 1 t), .int a1, .int a2, .int a3] M ad (QcV E base (fun M1 ad1 => Q M1 ∧ ad = ad1)) noX := by
  refine con_start (by decide) (Nat.le_of_ble_eq_true rfl) ?_
  intro p e s m args below meth c ls QQ hQQ CT hnx hW hl
  obtain ⟨⟨hx, hb, hml, hown, hts⟩, hr, hlocks, hnm, hT⟩ := CT
  have hS : va_S (fun q : Nat => base ≤ q) s.heap s.heap [] := va_S.rf
  have hl : lv_has ls 4 [(0, .ref (ad 1 t)), (1, .int a1), (2, .int a2), (3, .int a3)] := hl
  have L_32 : ∀ (M : Mem) (x0 : Nat) (x2 : Int32) (s0 : Int32) (s1 : Int32) (s2 : Int32) (s3 : Nat), b_X1_add_32 Q M x0 x2 s0 s1 s2 s3 → WL p l e rm_X1_add s m args below meth c QQ E base 4 M ad 32 [(0, .ref (ad 1 x0)), (2, .int x2)] [.int s0, .int s1, .int s2, .ref (ad 22 s3)] 0 0 := by
    intro M x0 x2 s0 s1 s2 s3 hw H locs ls hW hS hl
    unfold b_X1_add_32 at hw
    refine lv_iadd hx hb dX1_add_32 ?_
    refine lv_bipush (v := 48) hx hb dX1_add_33 (by decide) ?_
    refine lv_imul hx hb dX1_add_35 ?_
    refine lv_iload_n hx hb dX1_add_36 rfl (lv_at hl 1 rfl) ?_
    refine lv_iadd hx hb dX1_add_37 ?_
    obtain ⟨g_6, hw⟩ := hw
    obtain ⟨g_7, hw⟩ := hw
    refine r_iast hx hb hT.1 hW hS (by decide) rfl (fun _ => rfl) 1000 rfl g_7 g_6 dX1_add_38 (fun M_8 H locs hM_8 hW hS => ?_)
    have hw := hw M_8 hM_8
    refine lv_aload_n hx hb dX1_add_39 rfl (lv_at hl 0 rfl) ?_
    refine lv_dup hx hb dX1_add_40 rfl ?_
    obtain ⟨g_9, hw⟩ := hw
    refine r_getI hx hb hts hown hT.1 hW clX1 2 (by decide) (hts _ k_45) (fun _ h9 => h9) rfl g_9 dX1_add_41 ?_
    refine lv_iconst (v := 1) hx hb dX1_add_44 (by decide) ?_
    refine lv_iadd hx hb dX1_add_45 ?_
    refine r_putI hx hb hts hown hT.1 hW hS clX1 2 (by decide) (hts _ k_45) (fun _ h9 => h9) rfl (by decide +kernel) rfl g_9 dX1_add_46 (fun M_10 H locs hM_10 hW hS => ?_)
    have hw := hw M_10 hM_10
    rw [← hQQ]
    exact e_V hx hb hr hlocks hW hS (Nat.le_of_ble_eq_true rfl) (Nat.le_of_ble_eq_true rfl) dX1_add_49 ⟨hw, rfl⟩
  unfold w_X1_add at hw
  obtain ⟨H, hH⟩ : ∃ z, z = s.heap := ⟨_, rfl⟩
  obtain ⟨locs, hlo⟩ : ∃ z : List Loc, z = [] := ⟨_, rfl⟩
  have hS : va_S (fun q : Nat => base ≤ q) s.heap H locs := by rw [hlo, hH]; exact hS
  have hW : Wd E base M ad H := by rw [hH]; exact hW
  rw [show W p l e rm_X1_add s m args below meth c s.heap [] 0 0 QQ (F0 m 0 ls []) = W p l e rm_X1_add s m args below meth c H locs 0 0 QQ (F0 m 0 ls []) by rw [hlo, hH]]
  refine lv_aload_n hx hb dX1_add_0 rfl (lv_at hl 0 rfl) ?_
  obtain ⟨g_1, hw⟩ := hw
  refine r_getI hx hb hts hown hT.1 hW clX1 2 (by decide) (hts _ k_45) (fun _ h9 => h9) rfl g_1 dX1_add_1 ?_
  refine lv_aload_n hx hb dX1_add_4 rfl (lv_at hl 0 rfl) ?_
  obtain ⟨g_2, hw⟩ := hw
  refine r_getR (κ2 := 22) (i2 := t) hx hb hts hown hT.1 hW clX1 1 (by decide) (hts _ k_44) (fun _ h9 => h9) 22 rfl rfl g_1 g_2 dX1_add_5 ?_
  obtain ⟨g_3, hw⟩ := hw
  refine r_alen (v := 1000) hx hb hT.1 hW (by decide) 0 rfl (kTy 0) rfl (by decide) g_3 dX1_add_8 ?_
  refine lv_icmp_ge (tgt := 49) hx hb dX1_add_9 (by decide) (fun c_4 => ?_) (fun c_4 => ?_)
  · have hw := hw.1 c_4
    rw [← hQQ]
    exact e_V hx hb hr hlocks hW hS (Nat.le_of_ble_eq_true rfl) (Nat.le_of_ble_eq_true rfl) dX1_add_49 ⟨hw, rfl⟩
  · have hw := hw.2 c_4
    refine lv_aload_n hx hb dX1_add_12 rfl (lv_at hl 0 rfl) ?_
    refine r_getR (κ2 := 22) (i2 := t) hx hb hts hown hT.1 hW clX1 1 (by decide) (hts _ k_44) (fun _ h9 => h9) 22 rfl rfl g_1 g_2 dX1_add_13 ?_
    refine lv_aload_n hx hb dX1_add_16 rfl (lv_at hl 0 rfl) ?_
    refine r_getI hx hb hts hown hT.1 hW clX1 2 (by decide) (hts _ k_45) (fun _ h9 => h9) rfl g_1 dX1_add_17 ?_
    refine lv_iload_n hx hb dX1_add_20 rfl (lv_at hl 1 rfl) ?_
    refine lv_iconst (v := 2) hx hb dX1_add_21 (by decide) ?_
    refine lv_imul hx hb dX1_add_22 ?_
    refine lv_iload_n hx hb dX1_add_23 rfl (lv_at hl 3 rfl) ?_
    refine lv_if_eq (tgt := 31) hx hb dX1_add_24 (by decide) (fun c_5 => ?_) (fun c_5 => ?_)
    · have hw := hw.1 c_5
      refine lv_iconst (v := 0) hx hb dX1_add_31 (by decide) ?_
      exact L_32 M t a2 0 (a1 * 2) (mI M 1 t 2) t hw H locs ls hW hS (lv_sub hl [0, 2] rfl)
    · have hw := hw.2 c_5
      refine lv_iconst (v := 1) hx hb dX1_add_27 (by decide) ?_
      refine lv_goto (tgt := 32) hx hb dX1_add_28 (by decide) ?_
      exact L_32 M t a2 1 (a1 * 2) (mI M 1 t 2) t hw H locs ls hW hS (lv_sub hl [0, 2] rfl)
def rm_X3_take : Room := { frames := 1, cells := 0, slots := 0, locals := 22 }
set_option maxHeartbeats 4000000 in
set_option maxRecDepth 100000 in
theorem c_X3_take (l : Launch) (E : GE) (base : Nat) (M : Mem) (ad : AD) (t : Nat) (a1 : Int32) (a2 : Int32) (Q : Int32 → Mem → Prop) (hw : w_X3_take M t a1 a2 Q) : Con l yX3_take cX3_take 3 (some .boolean) rm_X3_take 0 0 E base [.ref (ad 3 t), .int a1, .int a2] M ad (QcI E base (fun r M1 ad1 => Q r M1 ∧ ad = ad1)) noX := by
  refine con_start (by decide) (Nat.le_of_ble_eq_true rfl) ?_
  intro p e s m args below meth c ls QQ hQQ CT hnx hW hl
  obtain ⟨⟨hx, hb, hml, hown, hts⟩, hr, hlocks, hnm, hT⟩ := CT
  have hS : va_S (fun q : Nat => base ≤ q) s.heap s.heap [] := va_S.rf
  have hl : lv_has ls 3 [(0, .ref (ad 3 t)), (1, .int a1), (2, .int a2)] := hl
  unfold w_X3_take at hw
  obtain ⟨H, hH⟩ : ∃ z, z = s.heap := ⟨_, rfl⟩
  obtain ⟨locs, hlo⟩ : ∃ z : List Loc, z = [] := ⟨_, rfl⟩
  have hS : va_S (fun q : Nat => base ≤ q) s.heap H locs := by rw [hlo, hH]; exact hS
  have hW : Wd E base M ad H := by rw [hH]; exact hW
  rw [show W p l e rm_X3_take s m args below meth c s.heap [] 0 0 QQ (F0 m 0 ls []) = W p l e rm_X3_take s m args below meth c H locs 0 0 QQ (F0 m 0 ls []) by rw [hlo, hH]]
  refine lv_aload_n hx hb dX3_take_0 rfl (lv_at hl 0 rfl) ?_
  obtain ⟨g_1, hw⟩ := hw
  refine r_getL hx hb hts hown hT.1 hW clX3 1 (by decide) (hts _ k_40) (fun _ h9 => h9) rfl g_1 dX3_take_1 ?_
  refine lv_iload_n hx hb dX3_take_4 rfl (lv_at hl 1 rfl) ?_
  refine k_I (rn_SN (As := [.long (mL M 3 t 1), .int a1]) (rest := []) ⟨hx, hb, hml, hown, hts⟩ hT hW hS hl (c_X4_isIn l E base M ad (mL M 3 t 1) a1 _ hw) cy_X4_isIn kn_5 k_137 rfl rfl ⟨(Nat.le_of_ble_eq_true rfl), (Nat.le_of_ble_eq_true rfl)⟩ rfl rfl (Nat.le_of_ble_eq_true rfl) dX3_take_5 ⟨(Nat.le_of_ble_eq_true rfl), (Nat.le_of_ble_eq_true rfl)⟩) hS kx_no (fun r_5 M_3 ad_4 H locs hP hW hS => ?_)
  obtain ⟨hw, rfl⟩ := hP
  refine lv_if_eq (tgt := 13) hx hb dX3_take_8 (by decide) (fun c_6 => ?_) (fun c_6 => ?_)
  · have hw := hw.1 c_6
    refine lv_aload_n hx hb dX3_take_13 rfl (lv_at hl 0 rfl) ?_
    refine lv_dup hx hb dX3_take_14 rfl ?_
    obtain ⟨g_7, hw⟩ := hw
    refine r_getL hx hb hts hown hT.1 hW clX3 1 (by decide) (hts _ k_40) (fun _ h9 => h9) rfl g_7 dX3_take_15 ?_
    refine lv_lconst (v := 1) hx hb dX3_take_18 (by decide) ?_
    refine lv_iload_n hx hb dX3_take_19 rfl (lv_at hl 1 rfl) ?_
    refine lv_lshl hx hb dX3_take_20 rfl ?_
    refine lv_lor hx hb dX3_take_21 ?_
    refine r_putL hx hb hts hown hT.1 hW hS clX3 1 (by decide) (hts _ k_40) (fun _ h9 => h9) rfl (by decide +kernel) rfl g_7 dX3_take_22 (fun M_8 H locs hM_8 hW hS => ?_)
    have hw := hw M_8 hM_8
    refine lv_iload_n hx hb dX3_take_25 rfl (lv_at hl 2 rfl) ?_
    refine lv_if_eq (tgt := 41) hx hb dX3_take_26 (by decide) (fun c_9 => ?_) (fun c_9 => ?_)
    · have hw := hw.1 c_9
      refine lv_iconst (v := 1) hx hb dX3_take_41 (by decide) ?_
      rw [← hQQ]
      exact e_Z hx hb hr hlocks hW hS (Nat.le_of_ble_eq_true rfl) (Nat.le_of_ble_eq_true rfl) dX3_take_42 (by decide) ⟨hw, rfl⟩
    · have hw := hw.2 c_9
      refine lv_aload_n hx hb dX3_take_29 rfl (lv_at hl 0 rfl) ?_
      refine lv_dup hx hb dX3_take_30 rfl ?_
      refine r_getL hx hb hts hown hT.1 hW clX3 2 (by decide) (hts _ k_41) (fun _ h9 => h9) rfl (by rw [hM_8]; exact g_7) dX3_take_31 ?_
      refine lv_lconst (v := 1) hx hb dX3_take_34 (by decide) ?_
      refine lv_iload_n hx hb dX3_take_35 rfl (lv_at hl 1 rfl) ?_
      refine lv_lshl hx hb dX3_take_36 rfl ?_
      refine lv_lor hx hb dX3_take_37 ?_
      refine r_putL hx hb hts hown hT.1 hW hS clX3 2 (by decide) (hts _ k_41) (fun _ h9 => h9) rfl (by decide +kernel) rfl (by rw [hM_8]; exact g_7) dX3_take_38 (fun M_10 H locs hM_10 hW hS => ?_)
      have hw := hw M_10 hM_10
      refine lv_iconst (v := 1) hx hb dX3_take_41 (by decide) ?_
      rw [← hQQ]
      exact e_Z hx hb hr hlocks hW hS (Nat.le_of_ble_eq_true rfl) (Nat.le_of_ble_eq_true rfl) dX3_take_42 (by decide) ⟨hw, rfl⟩
  · have hw := hw.2 c_6
    refine lv_iconst (v := 0) hx hb dX3_take_11 (by decide) ?_
    rw [← hQQ]
    exact e_Z hx hb hr hlocks hW hS (Nat.le_of_ble_eq_true rfl) (Nat.le_of_ble_eq_true rfl) dX3_take_12 (by decide) ⟨hw, rfl⟩
def rm_J7_fill_53178_24 : Room := { frames := 0, cells := 0, slots := 0, locals := 0 }
set_option maxHeartbeats 4000000 in
set_option maxRecDepth 100000 in
theorem c_J7_fill_53178_24 (l : Launch) (E : GE) (base : Nat) (M : Mem) (ad : AD) (a0 : Nat) (a1 : Int32) (Q : Mem → Prop) (hw : w_J7_fill_53178_24 M a0 a1 Q) : Con l yJ7_fill_53178 cJ7_fill_53178 4 none rm_J7_fill_53178_24 0 0 E base [.ref (ad 24 a0), .int a1] M ad (QcV E base (fun M1 ad1 => Q M1 ∧ ad = ad1)) noX := by
  refine con_start (by decide) (Nat.le_of_ble_eq_true rfl) ?_
  intro p e s m args below meth c ls QQ hQQ CT hnx hW hl
  obtain ⟨⟨hx, hb, hml, hown, hts⟩, hr, hlocks, hnm, hT⟩ := CT
  have hS : va_S (fun q : Nat => base ≤ q) s.heap s.heap [] := va_S.rf
  have hl : lv_has ls 4 [(0, .ref (ad 24 a0)), (1, .int a1)] := hl
  have L_5 : ∀ (n : Nat) (M : Mem) (x0 : Nat) (x1 : Int32) (x2 : Int32) (x3 : Int32), l_J7_fill_53178_24_5 Q n M x0 x1 x2 x3 → WL p l e rm_J7_fill_53178_24 s m args below meth c QQ E base 4 M ad 5 [(0, .ref (ad 24 x0)), (1, .int x1), (2, .int x2), (3, .int x3)] [] 0 0 := by
    intro n
    induction n with
    | zero => intro M x0 x1 x2 x3 hw; exact False.elim hw
    | succ n K5 =>
      intro M x0 x1 x2 x3 hw H locs ls hW hS hl
      obtain ⟨k5, hk5⟩ : ∃ z, z = l_J7_fill_53178_24_5 Q n := ⟨_, rfl⟩
      have hw : b_J7_fill_53178_24_5 Q k5 M x0 x1 x2 x3 := by rw [hk5]; exact hw
      rw [← hk5] at K5
      unfold b_J7_fill_53178_24_5 at hw
      refine lv_iload_n hx hb dJ7_fill_53178_5 rfl (lv_at hl 2 rfl) ?_
      refine lv_iload_n hx hb dJ7_fill_53178_6 rfl (lv_at hl 3 rfl) ?_
      refine lv_icmp_ge (tgt := 20) hx hb dJ7_fill_53178_7 (by decide) (fun c_2 => ?_) (fun c_2 => ?_)
      · have hw := hw.1 c_2
        rw [← hQQ]
        exact e_V hx hb hr hlocks hW hS (Nat.le_of_ble_eq_true rfl) (Nat.le_of_ble_eq_true rfl) dJ7_fill_53178_20 ⟨hw, rfl⟩
      · have hw := hw.2 c_2
        refine lv_aload_n hx hb dJ7_fill_53178_10 rfl (lv_at hl 0 rfl) ?_
        refine lv_iload_n hx hb dJ7_fill_53178_11 rfl (lv_at hl 2 rfl) ?_
        refine lv_iload_n hx hb dJ7_fill_53178_12 rfl (lv_at hl 1 rfl) ?_
        obtain ⟨g_3, hw⟩ := hw
        obtain ⟨g_4, hw⟩ := hw
        refine r_iast hx hb hT.1 hW hS (by decide) rfl (fun _ => rfl) 6 rfl g_4 g_3 dJ7_fill_53178_13 (fun M_5 H locs hM_5 hW hS => ?_)
        have hw := hw M_5 hM_5
        obtain ⟨v_6, ev_6⟩ : ∃ y : Int32, y = x2 + 1 := ⟨_, rfl⟩
        have hw := hw v_6 ev_6
        refine lv_iinc (v := v_6) (lv' := [(2, .int v_6), (0, .ref (ad 24 x0)), (1, .int x1), (3, .int x3)]) hx hb dJ7_fill_53178_14 hl (k := 2) rfl (by rw [ev_6]; rfl) (by decide) rfl (fun ls hl => ?_)
        refine lv_goto (tgt := 5) hx hb dJ7_fill_53178_17 (by decide) ?_
        exact K5 M_5 x0 x1 v_6 x3 hw H locs ls hW hS (lv_sub hl [1, 2, 0, 3] rfl)
  unfold w_J7_fill_53178_24 at hw
  obtain ⟨H, hH⟩ : ∃ z, z = s.heap := ⟨_, rfl⟩
  obtain ⟨locs, hlo⟩ : ∃ z : List Loc, z = [] := ⟨_, rfl⟩
  have hS : va_S (fun q : Nat => base ≤ q) s.heap H locs := by rw [hlo, hH]; exact hS
  have hW : Wd E base M ad H := by rw [hH]; exact hW
  rw [show W p l e rm_J7_fill_53178_24 s m args below meth c s.heap [] 0 0 QQ (F0 m 0 ls []) = W p l e rm_J7_fill_53178_24 s m args below meth c H locs 0 0 QQ (F0 m 0 ls []) by rw [hlo, hH]]
  refine lv_iconst (v := 0) hx hb dJ7_fill_53178_0 (by decide) ?_
  refine lv_istore_n (lv' := [(2, .int 0), (0, .ref (ad 24 a0)), (1, .int a1)]) hx hb dJ7_fill_53178_1 rfl hl (by decide) rfl (fun ls hl => ?_)
  refine lv_aload_n hx hb dJ7_fill_53178_2 rfl (lv_at hl 1 rfl) ?_
  obtain ⟨g_1, hw⟩ := hw
  refine r_alen (v := 6) hx hb hT.1 hW (by decide) 0 rfl (kTy 0) rfl (by decide) g_1 dJ7_fill_53178_3 ?_
  refine lv_istore_n (lv' := [(3, .int 6), (2, .int 0), (0, .ref (ad 24 a0)), (1, .int a1)]) hx hb dJ7_fill_53178_4 rfl hl (by decide) rfl (fun ls hl => ?_)
  obtain ⟨n9, hw⟩ := hw
  exact L_5 n9 M a0 a1 0 6 hw H locs ls hW hS (lv_sub hl [2, 3, 1, 0] rfl)
def rm_X4_comeTo : Room := { frames := 2, cells := 0, slots := 0, locals := 44 }
set_option maxHeartbeats 4000000 in
set_option maxRecDepth 100000 in
theorem c_X4_comeTo (l : Launch) (E : GE) (base : Nat) (M : Mem) (ad : AD) (a1 : Nat) (Q : Int32 → Mem → Prop) (hw : w_X4_comeTo M a1 Q) : Con l yX4_comeTo cX4_comeTo 8 (some .int) rm_X4_comeTo 0 0 E base [.ref (ad 4 0), .ref (ad 2 a1)] M ad (QcI E base (fun r M1 ad1 => Q r M1 ∧ ad = ad1)) noX := by
  refine con_start (by decide) (Nat.le_of_ble_eq_true rfl) ?_
  intro p e s m args below meth c ls QQ hQQ CT hnx hW hl
  obtain ⟨⟨hx, hb, hml, hown, hts⟩, hr, hlocks, hnm, hT⟩ := CT
  have hS : va_S (fun q : Nat => base ≤ q) s.heap s.heap [] := va_S.rf
  have hl : lv_has ls 8 [(0, .ref (ad 4 0)), (1, .ref (ad 2 a1))] := hl
  have L_151 : ∀ (k12 : Mem → Nat → Int32 → Int32 → Prop) (K12 : ∀ (M : Mem) (x1 : Nat) (x2 : Int32) (x3 : Int32), k12 M x1 x2 x3 → WL p l e rm_X4_comeTo s m args below meth c QQ E base 8 M ad 12 [(0, .ref (ad 4 0)), (1, .ref (ad 2 x1)), (2, .int x2), (3, .int x3)] [] 0 0) (M : Mem) (x1 : Nat) (x2 : Int32) (x3 : Int32), b_X4_comeTo_151 k12 Q M x1 x2 x3 → WL p l e rm_X4_comeTo s m args below meth c QQ E base 8 M ad 151 [(0, .ref (ad 4 0)), (1, .ref (ad 2 x1)), (2, .int x2), (3, .int x3)] [] 0 0 := by
    intro k12 K12 M x1 x2 x3 hw H locs ls hW hS hl
    unfold b_X4_comeTo_151 at hw
    obtain ⟨v_42, ev_42⟩ : ∃ y : Int32, y = x3 + 1 := ⟨_, rfl⟩
    have hw := hw v_42 ev_42
    refine lv_iinc (v := v_42) (lv' := [(3, .int v_42), (0, .ref (ad 4 0)), (1, .ref (ad 2 x1)), (2, .int x2)]) hx hb dX4_comeTo_151 hl (k := 3) rfl (by rw [ev_42]; rfl) (by decide) rfl (fun ls hl => ?_)
    refine lv_goto (tgt := 12) hx hb dX4_comeTo_154 (by decide) ?_
    exact K12 M x1 x2 v_42 hw H locs ls hW hS (lv_sub hl [1, 2, 3, 0] rfl)
  have L_79 : ∀ (k12 : Mem → Nat → Int32 → Int32 → Prop) (K12 : ∀ (M : Mem) (x1 : Nat) (x2 : Int32) (x3 : Int32), k12 M x1 x2 x3 → WL p l e rm_X4_comeTo s m args below meth c QQ E base 8 M ad 12 [(0, .ref (ad 4 0)), (1, .ref (ad 2 x1)), (2, .int x2), (3, .int x3)] [] 0 0) (M : Mem) (x1 : Nat) (x2 : Int32) (x3 : Int32) (x4 : Int32) (x5 : Int32) (s0 : Int32), b_X4_comeTo_79 k12 Q M x1 x2 x3 x4 x5 s0 → WL p l e rm_X4_comeTo s m args below meth c QQ E base 8 M ad 79 [(0, .ref (ad 4 0)), (1, .ref (ad 2 x1)), (2, .int x2), (3, .int x3), (4, .int x4), (5, .int x5)] [.int s0] 0 0 := by
    intro k12 K12 M x1 x2 x3 x4 x5 s0 hw H locs ls hW hS hl
    unfold b_X4_comeTo_79 at hw
    refine lv_istore (lv' := [(7, .int s0), (0, .ref (ad 4 0)), (1, .ref (ad 2 x1)), (2, .int x2), (3, .int x3), (4, .int x4), (5, .int x5)]) hx hb dX4_comeTo_79 hl (by decide) rfl (fun ls hl => ?_)
    refine lv_aload_n hx hb dX4_comeTo_81 rfl (lv_at hl 2 rfl) ?_
    obtain ⟨g_24, hw⟩ := hw
    obtain ⟨g_25, hw⟩ := hw
    refine r_getR (κ2 := 1) (i2 := x1) hx hb hts hown hT.1 hW clX2 2 (by decide) (hts _ k_209) (fun _ h9 => h9) 1 rfl rfl g_24 g_25 dX4_comeTo_82 ?_
    refine lv_aload_n hx hb dX4_comeTo_85 rfl (lv_at hl 1 rfl) ?_
    obtain ⟨g_26, hw⟩ := hw
    refine r_getI hx hb hts hown hT.1 hW clX4 4 (by decide) (hts _ k_10) (fun _ h9 => h9) rfl g_26 dX4_comeTo_86 ?_
    refine lv_iload hx hb dX4_comeTo_89 (lv_at hl 5 rfl) ?_
    refine lv_iload hx hb dX4_comeTo_91 (lv_at hl 0 rfl) ?_
    obtain ⟨g_27, hw⟩ := hw
    refine k_V (rn_V (As := [.int (mI M 4 0 4), .int x4, .int s0]) (rest := []) (κ := 1) (i := x1) ⟨hx, hb, hml, hown, hts⟩ hT hW hS hl (c_X1_add l E base M ad x1 (mI M 4 0 4) x4 s0 _ hw) cy_X1_add k_210 k_211 k_212 g_27 (by decide) rfl rfl rfl rfl ⟨(Nat.le_of_ble_eq_true rfl), (Nat.le_of_ble_eq_true rfl)⟩ rfl rfl (Nat.le_of_ble_eq_true rfl) dX4_comeTo_93 ⟨(Nat.le_of_ble_eq_true rfl), (Nat.le_of_ble_eq_true rfl)⟩) hS kx_no (fun M_29 ad_30 H locs hP hW hS => ?_)
    obtain ⟨hw, rfl⟩ := hP
    refine lv_aload_n hx hb dX4_comeTo_96 rfl (lv_at hl 2 rfl) ?_
    obtain ⟨g_32, hw⟩ := hw
    obtain ⟨g_33, hw⟩ := hw
    refine r_getR (κ2 := 3) (i2 := x1) hx hb hts hown hT.1 hW clX2 1 (by decide) (hts _ k_101) (fun _ h9 => h9) 3 rfl rfl g_32 g_33 dX4_comeTo_97 ?_
    refine lv_iload hx hb dX4_comeTo_100 (lv_at hl 5 rfl) ?_
    refine lv_iload hx hb dX4_comeTo_102 (lv_at hl 0 rfl) ?_
    obtain ⟨g_34, hw⟩ := hw
    refine k_I (rn_V (As := [.int x4, .int s0]) (rest := []) (κ := 3) (i := x1) ⟨hx, hb, hml, hown, hts⟩ hT hW hS hl (c_X3_take l E base M_29 ad x1 x4 s0 _ hw) cy_X3_take k_213 k_214 k_215 g_34 (by decide) rfl rfl rfl rfl ⟨(Nat.le_of_ble_eq_true rfl), (Nat.le_of_ble_eq_true rfl)⟩ rfl rfl (Nat.le_of_ble_eq_true rfl) dX4_comeTo_104 ⟨(Nat.le_of_ble_eq_true rfl), (Nat.le_of_ble_eq_true rfl)⟩) hS kx_no (fun r_38 M_36 ad_37 H locs hP hW hS => ?_)
    obtain ⟨hw, rfl⟩ := hP
    refine lv_if_eq (tgt := 141) hx hb dX4_comeTo_107 (by decide) (fun c_39 => ?_) (fun c_39 => ?_)
    · have hw := hw.1 c_39
      refine lv_aload_n hx hb dX4_comeTo_141 rfl (lv_at hl 2 rfl) ?_
      refine lv_dup hx hb dX4_comeTo_142 rfl ?_
      obtain ⟨g_40, hw⟩ := hw
      refine r_getI hx hb hts hown hT.1 hW clX2 11 (by decide) (hts _ k_216) (fun _ h9 => h9) rfl g_40 dX4_comeTo_143 ?_
      refine lv_iconst (v := 1) hx hb dX4_comeTo_146 (by decide) ?_
      refine lv_iadd hx hb dX4_comeTo_147 ?_
      refine r_putI hx hb hts hown hT.1 hW hS clX2 11 (by decide) (hts _ k_216) (fun _ h9 => h9) rfl (by decide +kernel) rfl g_40 dX4_comeTo_148 (fun M_41 H locs hM_41 hW hS => ?_)
      have hw := hw M_41 hM_41
      exact L_151 k12 K12 M_41 x1 x2 x3 hw H locs ls hW hS (lv_sub hl [1, 2, 3, 4] rfl)
    · have hw := hw.2 c_39
      refine lv_aload_n hx hb dX4_comeTo_110 rfl (lv_at hl 2 rfl) ?_
      obtain ⟨g_43, hw⟩ := hw
      obtain ⟨g_44, hw⟩ := hw
      refine r_getR (κ2 := 23) (i2 := x1) hx hb hts hown hT.1 hW clX2 7 (by decide) (hts _ k_217) (fun _ h9 => h9) 23 rfl rfl g_43 g_44 dX4_comeTo_111 ?_
      refine lv_iload hx hb dX4_comeTo_114 (lv_at hl 6 rfl) ?_
      refine lv_dup2_11 hx hb dX4_comeTo_116 rfl rfl ?_
      obtain ⟨g_45, hw⟩ := hw
      obtain ⟨g_46, hw⟩ := hw
      refine r_lald hx hb hT.1 hW (by decide) rfl (fun _ => rfl) 6 rfl g_46 g_45 dX4_comeTo_117 ?_
      refine lv_lconst (v := 1) hx hb dX4_comeTo_118 (by decide) ?_
      refine lv_iload hx hb dX4_comeTo_119 (lv_at hl 5 rfl) ?_
      refine lv_lshl hx hb dX4_comeTo_121 rfl ?_
      refine lv_lor hx hb dX4_comeTo_122 ?_
      obtain ⟨g_47, hw⟩ := hw
      refine r_last hx hb hT.1 hW hS (by decide) rfl (fun _ => rfl) 6 rfl g_47 g_45 dX4_comeTo_123 (fun M_48 H locs hM_48 hW hS => ?_)
      have hw := hw M_48 hM_48
      refine lv_aload_n hx hb dX4_comeTo_124 rfl (lv_at hl 2 rfl) ?_
      obtain ⟨g_49, hw⟩ := hw
      refine r_getR (κ2 := 24) (i2 := x1) hx hb hts hown hT.1 hW clX2 8 (by decide) (hts _ k_156) (fun _ h9 => h9) 24 rfl rfl (by rw [hM_48]; exact g_43) g_49 dX4_comeTo_125 ?_
      refine lv_iload hx hb dX4_comeTo_128 (lv_at hl 6 rfl) ?_
      refine lv_dup2_11 hx hb dX4_comeTo_130 rfl rfl ?_
      obtain ⟨g_50, hw⟩ := hw
      obtain ⟨g_51, hw⟩ := hw
      refine r_iald hx hb hT.1 hW (by decide) rfl (fun _ => rfl) 6 rfl g_51 g_50 dX4_comeTo_131 ?_
      refine lv_iconst (v := 1) hx hb dX4_comeTo_132 (by decide) ?_
      refine lv_iadd hx hb dX4_comeTo_133 ?_
      obtain ⟨g_52, hw⟩ := hw
      refine r_iast hx hb hT.1 hW hS (by decide) rfl (fun _ => rfl) 6 rfl g_52 g_50 dX4_comeTo_134 (fun M_53 H locs hM_53 hW hS => ?_)
      have hw := hw M_53 hM_53
      obtain ⟨v_54, ev_54⟩ : ∃ y : Int32, y = x2 + 1 := ⟨_, rfl⟩
      have hw := hw v_54 ev_54
      refine lv_iinc (v := v_54) (lv' := [(2, .int v_54), (7, .int s0), (0, .ref (ad 4 0)), (1, .ref (ad 2 x1)), (3, .int x3), (4, .int x4), (5, .int x5)]) hx hb dX4_comeTo_135 hl (k := 3) rfl (by rw [ev_54]; rfl) (by decide) rfl (fun ls hl => ?_)
      refine lv_goto (tgt := 151) hx hb dX4_comeTo_138 (by decide) ?_
      exact L_151 k12 K12 M_53 x1 v_54 x3 hw H locs ls hW hS (lv_sub hl [2, 3, 0, 4] rfl)
  have L_78 : ∀ (k12 : Mem → Nat → Int32 → Int32 → Prop) (K12 : ∀ (M : Mem) (x1 : Nat) (x2 : Int32) (x3 : Int32), k12 M x1 x2 x3 → WL p l e rm_X4_comeTo s m args below meth c QQ E base 8 M ad 12 [(0, .ref (ad 4 0)), (1, .ref (ad 2 x1)), (2, .int x2), (3, .int x3)] [] 0 0) (M : Mem) (x1 : Nat) (x2 : Int32) (x3 : Int32) (x4 : Int32) (x5 : Int32), b_X4_comeTo_78 k12 Q M x1 x2 x3 x4 x5 → WL p l e rm_X4_comeTo s m args below meth c QQ E base 8 M ad 78 [(0, .ref (ad 4 0)), (1, .ref (ad 2 x1)), (2, .int x2), (3, .int x3), (4, .int x4), (5, .int x5)] [] 0 0 := by
    intro k12 K12 M x1 x2 x3 x4 x5 hw H locs ls hW hS hl
    unfold b_X4_comeTo_78 at hw
    refine lv_iconst (v := 0) hx hb dX4_comeTo_78 (by decide) ?_
    exact L_79 k12 K12 M x1 x2 x3 x4 x5 0 hw H locs ls hW hS (lv_sub hl [0, 1, 2, 3, 4, 5] rfl)
  have L_12 : ∀ (n : Nat) (M : Mem) (x1 : Nat) (x2 : Int32) (x3 : Int32), l_X4_comeTo_12 Q n M x1 x2 x3 → WL p l e rm_X4_comeTo s m args below meth c QQ E base 8 M ad 12 [(0, .ref (ad 4 0)), (1, .ref (ad 2 x1)), (2, .int x2), (3, .int x3)] [] 0 0 := by
    intro n
    induction n with
    | zero => intro M x1 x2 x3 hw; exact False.elim hw
    | succ n K12 =>
      intro M x1 x2 x3 hw H locs ls hW hS hl
      obtain ⟨k12, hk12⟩ : ∃ z, z = l_X4_comeTo_12 Q n := ⟨_, rfl⟩
      have hw : b_X4_comeTo_12 Q k12 M x1 x2 x3 := by rw [hk12]; exact hw
      rw [← hk12] at K12
      unfold b_X4_comeTo_12 at hw
      refine lv_iload_n hx hb dX4_comeTo_12 rfl (lv_at hl 3 rfl) ?_
      refine lv_aload_n hx hb dX4_comeTo_13 rfl (lv_at hl 1 rfl) ?_
      obtain ⟨g_7, hw⟩ := hw
      obtain ⟨g_8, hw⟩ := hw
      refine r_getR (κ2 := 0) (i2 := x1) hx hb hts hown hT.1 hW clX2 3 (by decide) (hts _ k_168) (fun _ h9 => h9) 0 rfl rfl g_7 g_8 dX4_comeTo_14 ?_
      obtain ⟨g_9, hw⟩ := hw
      refine r_getI hx hb hts hown hT.1 hW clX0 2 (by decide) (hts _ k_206) (fun _ h9 => h9) rfl g_9 dX4_comeTo_17 ?_
      refine lv_icmp_ge (tgt := 157) hx hb dX4_comeTo_20 (by decide) (fun c_10 => ?_) (fun c_10 => ?_)
      · have hw := hw.1 c_10
        refine lv_iload_n hx hb dX4_comeTo_157 rfl (lv_at hl 2 rfl) ?_
        rw [← hQQ]
        exact e_I hx hb hr hlocks hW hS (Nat.le_of_ble_eq_true rfl) (Nat.le_of_ble_eq_true rfl) dX4_comeTo_158 ⟨hw, rfl⟩
      · have hw := hw.2 c_10
        refine lv_aload_n hx hb dX4_comeTo_23 rfl (lv_at hl 1 rfl) ?_
        refine r_getR (κ2 := 0) (i2 := x1) hx hb hts hown hT.1 hW clX2 3 (by decide) (hts _ k_168) (fun _ h9 => h9) 0 rfl rfl g_7 g_8 dX4_comeTo_24 ?_
        obtain ⟨g_11, hw⟩ := hw
        refine r_getR (κ2 := 20) (i2 := x1) hx hb hts hown hT.1 hW clX0 0 (by decide) (hts _ k_207) (fun _ h9 => h9) 20 rfl rfl g_9 g_11 dX4_comeTo_27 ?_
        refine lv_iload_n hx hb dX4_comeTo_30 rfl (lv_at hl 3 rfl) ?_
        obtain ⟨g_12, hw⟩ := hw
        obtain ⟨g_13, hw⟩ := hw
        refine r_iald hx hb hT.1 hW (by decide) rfl (fun _ => rfl) 6 rfl g_13 g_12 dX4_comeTo_31 ?_
        refine lv_topi (fun v_14 ev_14 => ?_)
        have hw := hw v_14 ev_14
        refine lv_istore (lv' := [(4, .int v_14), (0, .ref (ad 4 0)), (1, .ref (ad 2 x1)), (2, .int x2), (3, .int x3)]) hx hb dX4_comeTo_32 hl (by decide) rfl (fun ls hl => ?_)
        refine lv_aload_n hx hb dX4_comeTo_34 rfl (lv_at hl 2 rfl) ?_
        refine r_getR (κ2 := 0) (i2 := x1) hx hb hts hown hT.1 hW clX2 3 (by decide) (hts _ k_168) (fun _ h9 => h9) 0 rfl rfl g_7 g_8 dX4_comeTo_35 ?_
        obtain ⟨g_15, hw⟩ := hw
        refine r_getR (κ2 := 21) (i2 := x1) hx hb hts hown hT.1 hW clX0 1 (by decide) (hts _ k_208) (fun _ h9 => h9) 21 rfl rfl g_9 g_15 dX4_comeTo_38 ?_
        refine lv_iload_n hx hb dX4_comeTo_41 rfl (lv_at hl 4 rfl) ?_
        obtain ⟨g_16, hw⟩ := hw
        obtain ⟨g_17, hw⟩ := hw
        refine r_iald hx hb hT.1 hW (by decide) rfl (fun _ => rfl) 6 rfl g_17 g_16 dX4_comeTo_42 ?_
        refine lv_topi (fun v_18 ev_18 => ?_)
        have hw := hw v_18 ev_18
        refine lv_istore (lv' := [(5, .int v_18), (4, .int v_14), (0, .ref (ad 4 0)), (1, .ref (ad 2 x1)), (2, .int x2), (3, .int x3)]) hx hb dX4_comeTo_43 hl (by decide) rfl (fun ls hl => ?_)
        refine lv_aload_n hx hb dX4_comeTo_45 rfl (lv_at hl 2 rfl) ?_
        refine lv_iload hx hb dX4_comeTo_46 (lv_at hl 0 rfl) ?_
        obtain ⟨g_19, hw⟩ := hw
        refine k_Q (rn_V (As := [.int v_18]) (rest := []) (κ := 4) (i := 0) ⟨hx, hb, hml, hown, hts⟩ hT hW hS hl (c_X4_find l E base M ad v_18 _ hw) cy_X4_find k_92 k_93 k_94 g_19 (by decide) rfl rfl rfl rfl ⟨(Nat.le_of_ble_eq_true rfl), (Nat.le_of_ble_eq_true rfl)⟩ rfl rfl (Nat.le_of_ble_eq_true rfl) dX4_comeTo_48 ⟨(Nat.le_of_ble_eq_true rfl), (Nat.le_of_ble_eq_true rfl)⟩) hS kx_no (fun M_21 ad_22 H locs hP hW hS => ?_) (fun r_23 M_21 ad_22 H locs hP hW hS => ?_)
        · obtain ⟨hw, rfl⟩ := hP
          have hw := hw.1 rfl
          refine lv_astoreN (lv' := [(6, .null), (5, .int v_18), (4, .int v_14), (0, .ref (ad 4 0)), (1, .ref (ad 2 x1)), (2, .int x2), (3, .int x3)]) hx hb dX4_comeTo_51 hl (by decide) rfl (fun ls hl => ?_)
          refine lv_aloadN hx hb dX4_comeTo_53 (lv_at hl 0 rfl) ?_
          refine lv_ifnullN (tgt := 78) hx hb dX4_comeTo_55 (by decide) ?_
          exact L_78 k12 K12 M_21 x1 x2 x3 v_14 v_18 hw H locs ls hW hS (lv_sub hl [3, 4, 5, 6, 2, 1] rfl)
        · obtain ⟨hw, rfl⟩ := hP
          have hw := hw.2 r_23 rfl
          refine lv_astore (lv' := [(6, .ref (ad 2 r_23)), (5, .int v_18), (4, .int v_14), (0, .ref (ad 4 0)), (1, .ref (ad 2 x1)), (2, .int x2), (3, .int x3)]) hx hb dX4_comeTo_51 hl (by decide) rfl (fun ls hl => ?_)
          refine lv_aload hx hb dX4_comeTo_53 (lv_at hl 0 rfl) ?_
          refine lv_ifnull hx hb dX4_comeTo_55 ?_
          refine lv_aload hx hb dX4_comeTo_58 (lv_at hl 0 rfl) ?_
          obtain ⟨g_55, hw⟩ := hw
          refine r_getI hx hb hts hown hT.1 hW clX2 4 (by decide) (hts _ k_135) (fun _ h9 => h9) rfl g_55 dX4_comeTo_60 ?_
          refine lv_i2l hx hb dX4_comeTo_63 rfl ?_
          refine lv_iload hx hb dX4_comeTo_64 (lv_at hl 2 rfl) ?_
          refine lv_iconst (v := 4) hx hb dX4_comeTo_66 (by decide) ?_
          refine lv_idiv hx hb dX4_comeTo_67 (by decide) ?_
          refine k_I (rn_S (As := [.long ((mI M_21 2 r_23 4).toInt64), .int (v_14 / 4)]) (rest := []) ⟨hx, hb, hml, hown, hts⟩ hT hW hS hl (c_X4_isIn l E base M_21 ad ((mI M_21 2 r_23 4).toInt64) (v_14 / 4) _ hw) cy_X4_isIn k_136 k_137 rfl rfl ⟨(Nat.le_of_ble_eq_true rfl), (Nat.le_of_ble_eq_true rfl)⟩ rfl rfl (Nat.le_of_ble_eq_true rfl) dX4_comeTo_68 ⟨(Nat.le_of_ble_eq_true rfl), (Nat.le_of_ble_eq_true rfl)⟩) hS kx_no (fun r_59 M_57 ad_58 H locs hP hW hS => ?_)
          obtain ⟨hw, rfl⟩ := hP
          refine lv_if_eq (tgt := 78) hx hb dX4_comeTo_71 (by decide) (fun c_60 => ?_) (fun c_60 => ?_)
          · have hw := hw.1 c_60
            exact L_78 k12 K12 M_57 x1 x2 x3 v_14 v_18 hw H locs ls hW hS (lv_sub hl [3, 4, 5, 6, 2, 1] rfl)
          · have hw := hw.2 c_60
            refine lv_iconst (v := 1) hx hb dX4_comeTo_74 (by decide) ?_
            refine lv_goto (tgt := 79) hx hb dX4_comeTo_75 (by decide) ?_
            exact L_79 k12 K12 M_57 x1 x2 x3 v_14 v_18 1 hw H locs ls hW hS (lv_sub hl [3, 4, 5, 6, 2, 1] rfl)
  unfold w_X4_comeTo at hw
  obtain ⟨H, hH⟩ : ∃ z, z = s.heap := ⟨_, rfl⟩
  obtain ⟨locs, hlo⟩ : ∃ z : List Loc, z = [] := ⟨_, rfl⟩
  have hS : va_S (fun q : Nat => base ≤ q) s.heap H locs := by rw [hlo, hH]; exact hS
  have hW : Wd E base M ad H := by rw [hH]; exact hW
  rw [show W p l e rm_X4_comeTo s m args below meth c s.heap [] 0 0 QQ (F0 m 0 ls []) = W p l e rm_X4_comeTo s m args below meth c H locs 0 0 QQ (F0 m 0 ls []) by rw [hlo, hH]]
  refine lv_aload_n hx hb dX4_comeTo_0 rfl (lv_at hl 1 rfl) ?_
  obtain ⟨g_1, hw⟩ := hw
  obtain ⟨g_2, hw⟩ := hw
  refine r_getR (κ2 := 24) (i2 := a1) hx hb hts hown hT.1 hW clX2 8 (by decide) (hts _ k_156) (fun _ h9 => h9) 24 rfl rfl g_1 g_2 dX4_comeTo_1 ?_
  refine lv_iconst (v := 0) hx hb dX4_comeTo_4 (by decide) ?_
  refine k_V (rn_S (As := [.ref (ad 24 a1), .int 0]) (rest := []) ⟨hx, hb, hml, hown, hts⟩ hT hW hS hl (c_J7_fill_53178_24 l E base M ad a1 0 _ hw) cy_J7_fill_53178 k_11 k_12 rfl rfl ⟨(Nat.le_of_ble_eq_true rfl), (Nat.le_of_ble_eq_true rfl)⟩ rfl rfl (Nat.le_of_ble_eq_true rfl) dX4_comeTo_5 ⟨(Nat.le_of_ble_eq_true rfl), (Nat.le_of_ble_eq_true rfl)⟩) hS kx_no (fun M_4 ad_5 H locs hP hW hS => ?_)
  obtain ⟨hw, rfl⟩ := hP
  refine lv_iconst (v := 0) hx hb dX4_comeTo_8 (by decide) ?_
  refine lv_istore_n (lv' := [(2, .int 0), (0, .ref (ad 4 0)), (1, .ref (ad 2 a1))]) hx hb dX4_comeTo_9 rfl hl (by decide) rfl (fun ls hl => ?_)
  refine lv_iconst (v := 0) hx hb dX4_comeTo_10 (by decide) ?_
  refine lv_istore_n (lv' := [(3, .int 0), (2, .int 0), (0, .ref (ad 4 0)), (1, .ref (ad 2 a1))]) hx hb dX4_comeTo_11 rfl hl (by decide) rfl (fun ls hl => ?_)
  obtain ⟨n9, hw⟩ := hw
  exact L_12 n9 M_4 a1 0 0 hw H locs ls hW hS (lv_sub hl [2, 3, 1, 0] rfl)
def rm_X4_comeAll : Room := { frames := 3, cells := 0, slots := 0, locals := 71 }
set_option maxHeartbeats 4000000 in
set_option maxRecDepth 100000 in
theorem c_X4_comeAll (l : Launch) (E : GE) (base : Nat) (M : Mem) (ad : AD)  (Q : Int32 → Mem → Prop) (hw : w_X4_comeAll M  Q) : Con l yX4_comeAll cX4_comeAll 6 (some .int) rm_X4_comeAll 0 0 E base [.ref (ad 4 0)] M ad (QcI E base (fun r M1 ad1 => Q r M1 ∧ ad = ad1)) noX := by
  refine con_start (by decide) (Nat.le_of_ble_eq_true rfl) ?_
  intro p e s m args below meth c ls QQ hQQ CT hnx hW hl
  obtain ⟨⟨hx, hb, hml, hown, hts⟩, hr, hlocks, hnm, hT⟩ := CT
  have hS : va_S (fun q : Nat => base ≤ q) s.heap s.heap [] := va_S.rf
  have hl : lv_has ls 6 [(0, .ref (ad 4 0))] := hl
  have L_39 : ∀ (k13 : Mem → Int32 → Int32 → Int32 → Prop) (K13 : ∀ (M : Mem) (x1 : Int32) (x3 : Int32) (x4 : Int32), k13 M x1 x3 x4 → WL p l e rm_X4_comeAll s m args below meth c QQ E base 6 M ad 13 [(0, .ref (ad 4 0)), (1, .int x1), (2, .ref (ad 10 0)), (3, .int x3), (4, .int x4)] [] 0 0) (M : Mem) (x1 : Int32) (x3 : Int32) (x4 : Int32), b_X4_comeAll_39 k13 Q M x1 x3 x4 → WL p l e rm_X4_comeAll s m args below meth c QQ E base 6 M ad 39 [(0, .ref (ad 4 0)), (1, .int x1), (2, .ref (ad 10 0)), (3, .int x3), (4, .int x4)] [] 0 0 := by
    intro k13 K13 M x1 x3 x4 hw H locs ls hW hS hl
    unfold b_X4_comeAll_39 at hw
    obtain ⟨v_14, ev_14⟩ : ∃ y : Int32, y = x4 + 1 := ⟨_, rfl⟩
    have hw := hw v_14 ev_14
    refine lv_iinc (v := v_14) (lv' := [(4, .int v_14), (0, .ref (ad 4 0)), (1, .int x1), (2, .ref (ad 10 0)), (3, .int x3)]) hx hb dX4_comeAll_39 hl (k := 4) rfl (by rw [ev_14]; rfl) (by decide) rfl (fun ls hl => ?_)
    refine lv_goto (tgt := 13) hx hb dX4_comeAll_42 (by decide) ?_
    exact K13 M x1 x3 v_14 hw H locs ls hW hS (lv_sub hl [1, 2, 3, 4, 0] rfl)
  have L_13 : ∀ (n : Nat) (M : Mem) (x1 : Int32) (x3 : Int32) (x4 : Int32), l_X4_comeAll_13 Q n M x1 x3 x4 → WL p l e rm_X4_comeAll s m args below meth c QQ E base 6 M ad 13 [(0, .ref (ad 4 0)), (1, .int x1), (2, .ref (ad 10 0)), (3, .int x3), (4, .int x4)] [] 0 0 := by
    intro n
    induction n with
    | zero => intro M x1 x3 x4 hw; exact False.elim hw
    | succ n K13 =>
      intro M x1 x3 x4 hw H locs ls hW hS hl
      obtain ⟨k13, hk13⟩ : ∃ z, z = l_X4_comeAll_13 Q n := ⟨_, rfl⟩
      have hw : b_X4_comeAll_13 Q k13 M x1 x3 x4 := by rw [hk13]; exact hw
      rw [← hk13] at K13
      unfold b_X4_comeAll_13 at hw
      refine lv_iload hx hb dX4_comeAll_13 (lv_at hl 4 rfl) ?_
      refine lv_iload_n hx hb dX4_comeAll_15 rfl (lv_at hl 3 rfl) ?_
      refine lv_icmp_ge (tgt := 45) hx hb dX4_comeAll_16 (by decide) (fun c_4 => ?_) (fun c_4 => ?_)
      · have hw := hw.1 c_4
        refine lv_iload_n hx hb dX4_comeAll_45 rfl (lv_at hl 1 rfl) ?_
        rw [← hQQ]
        exact e_I hx hb hr hlocks hW hS (Nat.le_of_ble_eq_true rfl) (Nat.le_of_ble_eq_true rfl) dX4_comeAll_46 ⟨hw, rfl⟩
      · have hw := hw.2 c_4
        refine lv_aload_n hx hb dX4_comeAll_19 rfl (lv_at hl 2 rfl) ?_
        refine lv_iload hx hb dX4_comeAll_20 (lv_at hl 4 rfl) ?_
        obtain ⟨g_5, hw⟩ := hw
        obtain ⟨g_6, hw⟩ := hw
        refine r_aald hx hb hT.1 hW g_6 g_5 dX4_comeAll_22 (fun g_7 => ?_) (fun g_7 => ?_)
        · have hw := hw.1 g_7
          refine lv_astore (lv' := [(5, .ref (ad 2 x4.toNatClampNeg)), (0, .ref (ad 4 0)), (1, .int x1), (2, .ref (ad 10 0)), (3, .int x3), (4, .int x4)]) hx hb dX4_comeAll_23 hl (by decide) rfl (fun ls hl => ?_)
          refine lv_aload hx hb dX4_comeAll_25 (lv_at hl 0 rfl) ?_
          refine lv_ifnull hx hb dX4_comeAll_27 ?_
          refine lv_iload_n hx hb dX4_comeAll_30 rfl (lv_at hl 2 rfl) ?_
          refine lv_aload_n hx hb dX4_comeAll_31 rfl (lv_at hl 1 rfl) ?_
          refine lv_aload hx hb dX4_comeAll_32 (lv_at hl 0 rfl) ?_
          obtain ⟨g_8, hw⟩ := hw
          refine k_I (rn_V (As := [.ref (ad 2 x4.toNatClampNeg)]) (rest := [.int x1]) (κ := 4) (i := 0) ⟨hx, hb, hml, hown, hts⟩ hT hW hS hl (c_X4_comeTo l E base M ad x4.toNatClampNeg _ hw) cy_X4_comeTo k_218 k_219 k_220 g_8 (by decide) rfl rfl rfl rfl ⟨(Nat.le_of_ble_eq_true rfl), (Nat.le_of_ble_eq_true rfl)⟩ rfl rfl (Nat.le_of_ble_eq_true rfl) dX4_comeAll_34 ⟨(Nat.le_of_ble_eq_true rfl), (Nat.le_of_ble_eq_true rfl)⟩) hS kx_no (fun r_12 M_10 ad_11 H locs hP hW hS => ?_)
          obtain ⟨hw, rfl⟩ := hP
          refine lv_iadd hx hb dX4_comeAll_37 ?_
          refine lv_topi (fun v_13 ev_13 => ?_)
          have hw := hw v_13 ev_13
          refine lv_istore_n (lv' := [(1, .int v_13), (5, .ref (ad 2 x4.toNatClampNeg)), (0, .ref (ad 4 0)), (2, .ref (ad 10 0)), (3, .int x3), (4, .int x4)]) hx hb dX4_comeAll_38 rfl hl (by decide) rfl (fun ls hl => ?_)
          exact L_39 k13 K13 M_10 v_13 x3 x4 hw H locs ls hW hS (lv_sub hl [2, 0, 3, 4, 5] rfl)
        · have hw := hw.2 g_7
          refine lv_astoreN (lv' := [(5, .null), (0, .ref (ad 4 0)), (1, .int x1), (2, .ref (ad 10 0)), (3, .int x3), (4, .int x4)]) hx hb dX4_comeAll_23 hl (by decide) rfl (fun ls hl => ?_)
          refine lv_aloadN hx hb dX4_comeAll_25 (lv_at hl 0 rfl) ?_
          refine lv_ifnullN (tgt := 39) hx hb dX4_comeAll_27 (by decide) ?_
          exact L_39 k13 K13 M x1 x3 x4 hw H locs ls hW hS (lv_sub hl [1, 2, 3, 4, 5] rfl)
  unfold w_X4_comeAll at hw
  obtain ⟨H, hH⟩ : ∃ z, z = s.heap := ⟨_, rfl⟩
  obtain ⟨locs, hlo⟩ : ∃ z : List Loc, z = [] := ⟨_, rfl⟩
  have hS : va_S (fun q : Nat => base ≤ q) s.heap H locs := by rw [hlo, hH]; exact hS
  have hW : Wd E base M ad H := by rw [hH]; exact hW
  rw [show W p l e rm_X4_comeAll s m args below meth c s.heap [] 0 0 QQ (F0 m 0 ls []) = W p l e rm_X4_comeAll s m args below meth c H locs 0 0 QQ (F0 m 0 ls []) by rw [hlo, hH]]
  refine lv_iconst (v := 0) hx hb dX4_comeAll_0 (by decide) ?_
  refine lv_istore_n (lv' := [(1, .int 0), (0, .ref (ad 4 0))]) hx hb dX4_comeAll_1 rfl hl (by decide) rfl (fun ls hl => ?_)
  refine lv_aload_n hx hb dX4_comeAll_2 rfl (lv_at hl 1 rfl) ?_
  obtain ⟨g_1, hw⟩ := hw
  obtain ⟨g_2, hw⟩ := hw
  refine r_getR (κ2 := 10) (i2 := 0) hx hb hts hown hT.1 hW clX4 0 (by decide) (hts _ k_5) (fun _ h9 => h9) 10 rfl rfl g_1 g_2 dX4_comeAll_3 ?_
  refine lv_astore_n (lv' := [(2, .ref (ad 10 0)), (1, .int 0), (0, .ref (ad 4 0))]) hx hb dX4_comeAll_6 rfl hl (by decide) rfl (fun ls hl => ?_)
  refine lv_aload_n hx hb dX4_comeAll_7 rfl (lv_at hl 0 rfl) ?_
  obtain ⟨g_3, hw⟩ := hw
  refine r_alen (v := 6) hx hb hT.1 hW (by decide) 3 rfl (kTy 3) rfl (by decide) g_3 dX4_comeAll_8 ?_
  refine lv_istore_n (lv' := [(3, .int 6), (2, .ref (ad 10 0)), (1, .int 0), (0, .ref (ad 4 0))]) hx hb dX4_comeAll_9 rfl hl (by decide) rfl (fun ls hl => ?_)
  refine lv_iconst (v := 0) hx hb dX4_comeAll_10 (by decide) ?_
  refine lv_istore (lv' := [(4, .int 0), (3, .int 6), (2, .ref (ad 10 0)), (1, .int 0), (0, .ref (ad 4 0))]) hx hb dX4_comeAll_11 hl (by decide) rfl (fun ls hl => ?_)
  obtain ⟨n9, hw⟩ := hw
  exact L_13 n9 M 0 6 0 hw H locs ls hW hS (lv_sub hl [4, 3, 2, 1, 0] rfl)
def rm_X3_isComplete : Room := { frames := 1, cells := 0, slots := 0, locals := 20 }
set_option maxHeartbeats 4000000 in
set_option maxRecDepth 100000 in
theorem c_X3_isComplete (l : Launch) (E : GE) (base : Nat) (M : Mem) (ad : AD) (t : Nat) (a1 : Int32) (Q : Int32 → Mem → Prop) (hw : w_X3_isComplete M t a1 Q) : Con l yX3_isComplete cX3_isComplete 2 (some .boolean) rm_X3_isComplete 0 0 E base [.ref (ad 3 t), .int a1] M ad (QcI E base (fun r M1 ad1 => Q r M1 ∧ ad = ad1)) noX := by
  refine con_start (by decide) (Nat.le_of_ble_eq_true rfl) ?_
  intro p e s m args below meth c ls QQ hQQ CT hnx hW hl
  obtain ⟨⟨hx, hb, hml, hown, hts⟩, hr, hlocks, hnm, hT⟩ := CT
  have hS : va_S (fun q : Nat => base ≤ q) s.heap s.heap [] := va_S.rf
  have hl : lv_has ls 2 [(0, .ref (ad 3 t)), (1, .int a1)] := hl
  unfold w_X3_isComplete at hw
  obtain ⟨H, hH⟩ : ∃ z, z = s.heap := ⟨_, rfl⟩
  obtain ⟨locs, hlo⟩ : ∃ z : List Loc, z = [] := ⟨_, rfl⟩
  have hS : va_S (fun q : Nat => base ≤ q) s.heap H locs := by rw [hlo, hH]; exact hS
  have hW : Wd E base M ad H := by rw [hH]; exact hW
  rw [show W p l e rm_X3_isComplete s m args below meth c s.heap [] 0 0 QQ (F0 m 0 ls []) = W p l e rm_X3_isComplete s m args below meth c H locs 0 0 QQ (F0 m 0 ls []) by rw [hlo, hH]]
  refine lv_aload_n hx hb dX3_isComplete_0 rfl (lv_at hl 0 rfl) ?_
  obtain ⟨g_1, hw⟩ := hw
  refine r_getL hx hb hts hown hT.1 hW clX3 1 (by decide) (hts _ k_40) (fun _ h9 => h9) rfl g_1 dX3_isComplete_1 ?_
  refine lv_ldc2 hx hb hown (hts _ k_221) dX3_isComplete_4 ?_
  refine lv_lxor hx hb dX3_isComplete_7 ?_
  refine lv_iload_n hx hb dX3_isComplete_8 rfl (lv_at hl 1 rfl) ?_
  refine k_L (rn_SN (As := [.int a1]) (rest := [.long ((mL M 3 t 1) ^^^ (-1))]) ⟨hx, hb, hml, hown, hts⟩ hT hW hS hl (c_X4_blocksOfPiece l E base M ad a1 _ hw) cy_X4_blocksOfPiece kn_6 k_181 rfl rfl ⟨(Nat.le_of_ble_eq_true rfl), (Nat.le_of_ble_eq_true rfl)⟩ rfl rfl (Nat.le_of_ble_eq_true rfl) dX3_isComplete_9 ⟨(Nat.le_of_ble_eq_true rfl), (Nat.le_of_ble_eq_true rfl)⟩) hS kx_no (fun r_5 M_3 ad_4 H locs hP hW hS => ?_)
  obtain ⟨hw, rfl⟩ := hP
  refine lv_land hx hb dX3_isComplete_12 ?_
  refine lv_lconst (v := 0) hx hb dX3_isComplete_13 (by decide) ?_
  refine W.lcmp hx hb dX3_isComplete_14 ?_
  refine lv_if_ne (tgt := 22) hx hb dX3_isComplete_15 (by decide) (fun c_6 => ?_) (fun c_6 => ?_)
  · have hw := hw.2 c_6
    refine lv_iconst (v := 0) hx hb dX3_isComplete_22 (by decide) ?_
    rw [← hQQ]
    exact e_Z hx hb hr hlocks hW hS (Nat.le_of_ble_eq_true rfl) (Nat.le_of_ble_eq_true rfl) dX3_isComplete_23 (by decide) ⟨hw, rfl⟩
  · have hw := hw.1 c_6
    refine lv_iconst (v := 1) hx hb dX3_isComplete_18 (by decide) ?_
    refine lv_goto (tgt := 23) hx hb dX3_isComplete_19 (by decide) ?_
    rw [← hQQ]
    exact e_Z hx hb hr hlocks hW hS (Nat.le_of_ble_eq_true rfl) (Nat.le_of_ble_eq_true rfl) dX3_isComplete_23 (by decide) ⟨hw, rfl⟩
def rm_X3_isSound : Room := { frames := 1, cells := 0, slots := 0, locals := 20 }
set_option maxHeartbeats 4000000 in
set_option maxRecDepth 100000 in
theorem c_X3_isSound (l : Launch) (E : GE) (base : Nat) (M : Mem) (ad : AD) (t : Nat) (a1 : Int32) (Q : Int32 → Mem → Prop) (hw : w_X3_isSound M t a1 Q) : Con l yX3_isSound cX3_isSound 2 (some .boolean) rm_X3_isSound 0 0 E base [.ref (ad 3 t), .int a1] M ad (QcI E base (fun r M1 ad1 => Q r M1 ∧ ad = ad1)) noX := by
  refine con_start (by decide) (Nat.le_of_ble_eq_true rfl) ?_
  intro p e s m args below meth c ls QQ hQQ CT hnx hW hl
  obtain ⟨⟨hx, hb, hml, hown, hts⟩, hr, hlocks, hnm, hT⟩ := CT
  have hS : va_S (fun q : Nat => base ≤ q) s.heap s.heap [] := va_S.rf
  have hl : lv_has ls 2 [(0, .ref (ad 3 t)), (1, .int a1)] := hl
  unfold w_X3_isSound at hw
  obtain ⟨H, hH⟩ : ∃ z, z = s.heap := ⟨_, rfl⟩
  obtain ⟨locs, hlo⟩ : ∃ z : List Loc, z = [] := ⟨_, rfl⟩
  have hS : va_S (fun q : Nat => base ≤ q) s.heap H locs := by rw [hlo, hH]; exact hS
  have hW : Wd E base M ad H := by rw [hH]; exact hW
  rw [show W p l e rm_X3_isSound s m args below meth c s.heap [] 0 0 QQ (F0 m 0 ls []) = W p l e rm_X3_isSound s m args below meth c H locs 0 0 QQ (F0 m 0 ls []) by rw [hlo, hH]]
  refine lv_aload_n hx hb dX3_isSound_0 rfl (lv_at hl 0 rfl) ?_
  obtain ⟨g_1, hw⟩ := hw
  refine r_getL hx hb hts hown hT.1 hW clX3 2 (by decide) (hts _ k_41) (fun _ h9 => h9) rfl g_1 dX3_isSound_1 ?_
  refine lv_iload_n hx hb dX3_isSound_4 rfl (lv_at hl 1 rfl) ?_
  refine k_L (rn_SN (As := [.int a1]) (rest := [.long (mL M 3 t 2)]) ⟨hx, hb, hml, hown, hts⟩ hT hW hS hl (c_X4_blocksOfPiece l E base M ad a1 _ hw) cy_X4_blocksOfPiece kn_6 k_181 rfl rfl ⟨(Nat.le_of_ble_eq_true rfl), (Nat.le_of_ble_eq_true rfl)⟩ rfl rfl (Nat.le_of_ble_eq_true rfl) dX3_isSound_5 ⟨(Nat.le_of_ble_eq_true rfl), (Nat.le_of_ble_eq_true rfl)⟩) hS kx_no (fun r_5 M_3 ad_4 H locs hP hW hS => ?_)
  obtain ⟨hw, rfl⟩ := hP
  refine lv_land hx hb dX3_isSound_8 ?_
  refine lv_lconst (v := 0) hx hb dX3_isSound_9 (by decide) ?_
  refine W.lcmp hx hb dX3_isSound_10 ?_
  refine lv_if_ne (tgt := 18) hx hb dX3_isSound_11 (by decide) (fun c_6 => ?_) (fun c_6 => ?_)
  · have hw := hw.2 c_6
    refine lv_iconst (v := 0) hx hb dX3_isSound_18 (by decide) ?_
    rw [← hQQ]
    exact e_Z hx hb hr hlocks hW hS (Nat.le_of_ble_eq_true rfl) (Nat.le_of_ble_eq_true rfl) dX3_isSound_19 (by decide) ⟨hw, rfl⟩
  · have hw := hw.1 c_6
    refine lv_iconst (v := 1) hx hb dX3_isSound_14 (by decide) ?_
    refine lv_goto (tgt := 19) hx hb dX3_isSound_15 (by decide) ?_
    rw [← hQQ]
    exact e_Z hx hb hr hlocks hW hS (Nat.le_of_ble_eq_true rfl) (Nat.le_of_ble_eq_true rfl) dX3_isSound_19 (by decide) ⟨hw, rfl⟩
def rm_X2_blame : Room := { frames := 1, cells := 0, slots := 0, locals := 20 }
set_option maxHeartbeats 4000000 in
set_option maxRecDepth 100000 in
theorem c_X2_blame (l : Launch) (E : GE) (base : Nat) (M : Mem) (ad : AD) (t : Nat) (a1 : Int32) (Q : Mem → Prop) (hw : w_X2_blame M t a1 Q) : Con l yX2_blame cX2_blame 7 none rm_X2_blame 0 0 E base [.ref (ad 2 t), .int a1] M ad (QcV E base (fun M1 ad1 => Q M1 ∧ ad = ad1)) noX := by
  refine con_start (by decide) (Nat.le_of_ble_eq_true rfl) ?_
  intro p e s m args below meth c ls QQ hQQ CT hnx hW hl
  obtain ⟨⟨hx, hb, hml, hown, hts⟩, hr, hlocks, hnm, hT⟩ := CT
  have hS : va_S (fun q : Nat => base ≤ q) s.heap s.heap [] := va_S.rf
  have hl : lv_has ls 7 [(0, .ref (ad 2 t)), (1, .int a1)] := hl
  have L_78 : ∀ (k8 : Mem → Nat → Int64 → Int32 → Prop) (K8 : ∀ (M : Mem) (x0 : Nat) (x2 : Int64) (x4 : Int32), k8 M x0 x2 x4 → WL p l e rm_X2_blame s m args below meth c QQ E base 7 M ad 8 [(0, .ref (ad 2 x0)), (2, .long x2), (4, .int x4)] [] 0 0) (M : Mem) (x0 : Nat) (x2 : Int64) (x4 : Int32), b_X2_blame_78 k8 Q M x0 x2 x4 → WL p l e rm_X2_blame s m args below meth c QQ E base 7 M ad 78 [(0, .ref (ad 2 x0)), (2, .long x2), (4, .int x4)] [] 0 0 := by
    intro k8 K8 M x0 x2 x4 hw H locs ls hW hS hl
    unfold b_X2_blame_78 at hw
    obtain ⟨v_12, ev_12⟩ : ∃ y : Int32, y = x4 + 1 := ⟨_, rfl⟩
    have hw := hw v_12 ev_12
    refine lv_iinc (v := v_12) (lv' := [(4, .int v_12), (0, .ref (ad 2 x0)), (2, .long x2)]) hx hb dX2_blame_78 hl (k := 2) rfl (by rw [ev_12]; rfl) (by decide) rfl (fun ls hl => ?_)
    refine lv_goto (tgt := 8) hx hb dX2_blame_81 (by decide) ?_
    exact K8 M x0 x2 v_12 hw H locs ls hW hS (lv_sub hl [1, 2, 0] rfl)
  have L_65 : ∀ (k8 : Mem → Nat → Int64 → Int32 → Prop) (K8 : ∀ (M : Mem) (x0 : Nat) (x2 : Int64) (x4 : Int32), k8 M x0 x2 x4 → WL p l e rm_X2_blame s m args below meth c QQ E base 7 M ad 8 [(0, .ref (ad 2 x0)), (2, .long x2), (4, .int x4)] [] 0 0) (M : Mem) (x0 : Nat) (x2 : Int64) (x4 : Int32), b_X2_blame_65 k8 Q M x0 x2 x4 → WL p l e rm_X2_blame s m args below meth c QQ E base 7 M ad 65 [(0, .ref (ad 2 x0)), (2, .long x2), (4, .int x4)] [] 0 0 := by
    intro k8 K8 M x0 x2 x4 hw H locs ls hW hS hl
    unfold b_X2_blame_65 at hw
    refine lv_aload_n hx hb dX2_blame_65 rfl (lv_at hl 0 rfl) ?_
    refine lv_dup hx hb dX2_blame_66 rfl ?_
    obtain ⟨g_19, hw⟩ := hw
    refine r_getI hx hb hts hown hT.1 hW clX2 10 (by decide) (hts _ k_60) (fun _ h9 => h9) rfl g_19 dX2_blame_67 ?_
    refine lv_iconst (v := 1) hx hb dX2_blame_70 (by decide) ?_
    refine lv_iload hx hb dX2_blame_71 (lv_at hl 2 rfl) ?_
    refine lv_ishl hx hb dX2_blame_73 ?_
    refine lv_ior hx hb dX2_blame_74 ?_
    refine r_putI hx hb hts hown hT.1 hW hS clX2 10 (by decide) (hts _ k_60) (fun _ h9 => h9) rfl (by decide +kernel) rfl g_19 dX2_blame_75 (fun M_20 H locs hM_20 hW hS => ?_)
    have hw := hw M_20 hM_20
    exact L_78 k8 K8 M_20 x0 x2 x4 hw H locs ls hW hS (lv_sub hl [0, 1, 2] rfl)
  have L_8 : ∀ (n : Nat) (M : Mem) (x0 : Nat) (x2 : Int64) (x4 : Int32), l_X2_blame_8 Q n M x0 x2 x4 → WL p l e rm_X2_blame s m args below meth c QQ E base 7 M ad 8 [(0, .ref (ad 2 x0)), (2, .long x2), (4, .int x4)] [] 0 0 := by
    intro n
    induction n with
    | zero => intro M x0 x2 x4 hw; exact False.elim hw
    | succ n K8 =>
      intro M x0 x2 x4 hw H locs ls hW hS hl
      obtain ⟨k8, hk8⟩ : ∃ z, z = l_X2_blame_8 Q n := ⟨_, rfl⟩
      have hw : b_X2_blame_8 Q k8 M x0 x2 x4 := by rw [hk8]; exact hw
      rw [← hk8] at K8
      unfold b_X2_blame_8 at hw
      refine lv_iload hx hb dX2_blame_8 (lv_at hl 2 rfl) ?_
      refine lv_aload_n hx hb dX2_blame_10 rfl (lv_at hl 0 rfl) ?_
      obtain ⟨g_5, hw⟩ := hw
      obtain ⟨g_6, hw⟩ := hw
      refine r_getR (κ2 := 23) (i2 := x0) hx hb hts hown hT.1 hW clX2 7 (by decide) (hts _ k_57) (fun _ h9 => h9) 23 rfl rfl g_5 g_6 dX2_blame_11 ?_
      obtain ⟨g_7, hw⟩ := hw
      refine r_alen (v := 6) hx hb hT.1 hW (by decide) 1 rfl (kTy 1) rfl (by decide) g_7 dX2_blame_14 ?_
      refine lv_icmp_ge (tgt := 84) hx hb dX2_blame_15 (by decide) (fun c_8 => ?_) (fun c_8 => ?_)
      · have hw := hw.1 c_8
        rw [← hQQ]
        exact e_V hx hb hr hlocks hW hS (Nat.le_of_ble_eq_true rfl) (Nat.le_of_ble_eq_true rfl) dX2_blame_84 ⟨hw, rfl⟩
      · have hw := hw.2 c_8
        refine lv_aload_n hx hb dX2_blame_18 rfl (lv_at hl 0 rfl) ?_
        refine r_getR (κ2 := 23) (i2 := x0) hx hb hts hown hT.1 hW clX2 7 (by decide) (hts _ k_57) (fun _ h9 => h9) 23 rfl rfl g_5 g_6 dX2_blame_19 ?_
        refine lv_iload hx hb dX2_blame_22 (lv_at hl 2 rfl) ?_
        obtain ⟨g_9, hw⟩ := hw
        refine r_lald hx hb hT.1 hW (by decide) rfl (fun _ => rfl) 6 rfl g_9 g_7 dX2_blame_24 ?_
        refine lv_lload_n hx hb dX2_blame_25 rfl (lv_at hl 1 rfl) ?_
        refine lv_land hx hb dX2_blame_26 ?_
        refine lv_topl (fun v_10 ev_10 => ?_)
        have hw := hw v_10 ev_10
        refine lv_lstore (lv' := [(5, .long v_10), (0, .ref (ad 2 x0)), (2, .long x2), (4, .int x4)]) hx hb dX2_blame_27 hl (by decide) rfl (fun ls hl => ?_)
        refine lv_lload hx hb dX2_blame_29 (lv_at hl 0 rfl) ?_
        refine lv_lconst (v := 0) hx hb dX2_blame_31 (by decide) ?_
        refine W.lcmp hx hb dX2_blame_32 ?_
        refine lv_if_eq (tgt := 78) hx hb dX2_blame_33 (by decide) (fun c_11 => ?_) (fun c_11 => ?_)
        · have hw := hw.1 c_11
          exact L_78 k8 K8 M x0 x2 x4 hw H locs ls hW hS (lv_sub hl [1, 2, 3] rfl)
        · have hw := hw.2 c_11
          refine lv_aload_n hx hb dX2_blame_36 rfl (lv_at hl 1 rfl) ?_
          obtain ⟨g_13, hw⟩ := hw
          refine r_getR (κ2 := 25) (i2 := x0) hx hb hts hown hT.1 hW clX2 9 (by decide) (hts _ k_59) (fun _ h9 => h9) 25 rfl rfl g_5 g_13 dX2_blame_37 ?_
          refine lv_iload hx hb dX2_blame_40 (lv_at hl 3 rfl) ?_
          refine lv_dup2_11 hx hb dX2_blame_42 rfl rfl ?_
          obtain ⟨g_14, hw⟩ := hw
          obtain ⟨g_15, hw⟩ := hw
          refine r_iald hx hb hT.1 hW (by decide) rfl (fun _ => rfl) 6 rfl g_15 g_14 dX2_blame_43 ?_
          refine lv_iconst (v := 1) hx hb dX2_blame_44 (by decide) ?_
          refine lv_iadd hx hb dX2_blame_45 ?_
          obtain ⟨g_16, hw⟩ := hw
          refine r_iast hx hb hT.1 hW hS (by decide) rfl (fun _ => rfl) 6 rfl g_16 g_14 dX2_blame_46 (fun M_17 H locs hM_17 hW hS => ?_)
          have hw := hw M_17 hM_17
          refine lv_lload hx hb dX2_blame_47 (lv_at hl 0 rfl) ?_
          refine lv_lload_n hx hb dX2_blame_49 rfl (lv_at hl 2 rfl) ?_
          refine W.lcmp hx hb dX2_blame_50 ?_
          refine lv_if_eq (tgt := 65) hx hb dX2_blame_51 (by decide) (fun c_18 => ?_) (fun c_18 => ?_)
          · have hw := hw.1 c_18
            exact L_65 k8 K8 M_17 x0 x2 x4 hw H locs ls hW hS (lv_sub hl [1, 2, 3] rfl)
          · have hw := hw.2 c_18
            refine lv_aload_n hx hb dX2_blame_54 rfl (lv_at hl 1 rfl) ?_
            refine r_getR (κ2 := 25) (i2 := x0) hx hb hts hown hT.1 hW clX2 9 (by decide) (hts _ k_59) (fun _ h9 => h9) 25 rfl rfl (by rw [hM_17]; exact g_5) (by rw [hM_17]; exact g_13) dX2_blame_55 ?_
            refine lv_iload hx hb dX2_blame_58 (lv_at hl 3 rfl) ?_
            obtain ⟨g_21, hw⟩ := hw
            refine r_iald hx hb hT.1 hW (by decide) rfl (fun _ => rfl) 6 rfl g_21 (by rw [hM_17]; exact g_14) dX2_blame_60 ?_
            refine lv_iconst (v := 3) hx hb dX2_blame_61 (by decide) ?_
            refine lv_icmp_lt (tgt := 78) hx hb dX2_blame_62 (by decide) (fun c_22 => ?_) (fun c_22 => ?_)
            · have hw := hw.1 c_22
              exact L_78 k8 K8 M_17 x0 x2 x4 hw H locs ls hW hS (lv_sub hl [1, 2, 3] rfl)
            · have hw := hw.2 c_22
              exact L_65 k8 K8 M_17 x0 x2 x4 hw H locs ls hW hS (lv_sub hl [1, 2, 3] rfl)
  unfold w_X2_blame at hw
  obtain ⟨H, hH⟩ : ∃ z, z = s.heap := ⟨_, rfl⟩
  obtain ⟨locs, hlo⟩ : ∃ z : List Loc, z = [] := ⟨_, rfl⟩
  have hS : va_S (fun q : Nat => base ≤ q) s.heap H locs := by rw [hlo, hH]; exact hS
  have hW : Wd E base M ad H := by rw [hH]; exact hW
  rw [show W p l e rm_X2_blame s m args below meth c s.heap [] 0 0 QQ (F0 m 0 ls []) = W p l e rm_X2_blame s m args below meth c H locs 0 0 QQ (F0 m 0 ls []) by rw [hlo, hH]]
  refine lv_iload_n hx hb dX2_blame_0 rfl (lv_at hl 1 rfl) ?_
  refine k_L (rn_SN (As := [.int a1]) (rest := []) ⟨hx, hb, hml, hown, hts⟩ hT hW hS hl (c_X4_blocksOfPiece l E base M ad a1 _ hw) cy_X4_blocksOfPiece kn_7 k_181 rfl rfl ⟨(Nat.le_of_ble_eq_true rfl), (Nat.le_of_ble_eq_true rfl)⟩ rfl rfl (Nat.le_of_ble_eq_true rfl) dX2_blame_1 ⟨(Nat.le_of_ble_eq_true rfl), (Nat.le_of_ble_eq_true rfl)⟩) hS kx_no (fun r_4 M_2 ad_3 H locs hP hW hS => ?_)
  obtain ⟨hw, rfl⟩ := hP
  refine lv_lstore_n (lv' := [(2, .long r_4), (0, .ref (ad 2 t)), (1, .int a1)]) hx hb dX2_blame_4 rfl hl (by decide) rfl (fun ls hl => ?_)
  refine lv_iconst (v := 0) hx hb dX2_blame_5 (by decide) ?_
  refine lv_istore (lv' := [(4, .int 0), (2, .long r_4), (0, .ref (ad 2 t)), (1, .int a1)]) hx hb dX2_blame_6 hl (by decide) rfl (fun ls hl => ?_)
  obtain ⟨n9, hw⟩ := hw
  exact L_8 n9 M_2 t r_4 0 hw H locs ls hW hS (lv_sub hl [2, 1, 0] rfl)
