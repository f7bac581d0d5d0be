def rm_X4_askOthers : Room := { frames := 5, cells := 0, slots := 0, locals := 119 }
set_option maxHeartbeats 4000000 in
set_option maxRecDepth 100000 in
theorem c_X4_askOthers (l : Launch) (E : GE) (base : Nat) (M : Mem) (ad : AD) (a1 : Nat) (a2 : Int32) (Q : Mem → Prop) (hw : w_X4_askOthers M a1 a2 Q) : Con l yX4_askOthers cX4_askOthers 9 none rm_X4_askOthers 0 0 E base [.ref (ad 4 0), .ref (ad 2 a1), .int a2] M ad (QcV E base (fun M1 ad1 => Q M1 ∧ ad = ad1)) noX := by
  refine con_start (by decide) (Nat.le_of_ble_eq_true rfl) ?_
  intro p e s m args below meth c ls QQ hQQ CT hnx hW hl
  obtain ⟨⟨hx, hb, hml, hown, hts⟩, hr, hlocks, hnm, hT⟩ := CT
  have hS : va_S (fun q : Nat => base ≤ q) s.heap s.heap [] := va_S.rf
  have hl : lv_has ls 9 [(0, .ref (ad 4 0)), (1, .ref (ad 2 a1)), (2, .int a2)] := hl
  have L_84 : ∀ (k41 : Mem → Nat → Int64 → Int32 → Int32 → Prop) (K41 : ∀ (M : Mem) (x1 : Nat) (x3 : Int64) (x6 : Int32) (x7 : Int32), k41 M x1 x3 x6 x7 → WL p l e rm_X4_askOthers s m args below meth c QQ E base 9 M ad 41 [(0, .ref (ad 4 0)), (1, .ref (ad 2 x1)), (3, .long x3), (5, .ref (ad 10 0)), (6, .int x6), (7, .int x7)] [] 0 0) (M : Mem) (x1 : Nat) (x3 : Int64) (x6 : Int32) (x7 : Int32), b_X4_askOthers_84 k41 Q M x1 x3 x6 x7 → WL p l e rm_X4_askOthers s m args below meth c QQ E base 9 M ad 84 [(0, .ref (ad 4 0)), (1, .ref (ad 2 x1)), (3, .long x3), (5, .ref (ad 10 0)), (6, .int x6), (7, .int x7)] [] 0 0 := by
    intro k41 K41 M x1 x3 x6 x7 hw H locs ls hW hS hl
    unfold b_X4_askOthers_84 at hw
    obtain ⟨v_26, ev_26⟩ : ∃ y : Int32, y = x7 + 1 := ⟨_, rfl⟩
    have hw := hw v_26 ev_26
    refine lv_iinc (v := v_26) (lv' := [(7, .int v_26), (0, .ref (ad 4 0)), (1, .ref (ad 2 x1)), (3, .long x3), (5, .ref (ad 10 0)), (6, .int x6)]) hx hb dX4_askOthers_84 hl (k := 5) rfl (by rw [ev_26]; rfl) (by decide) rfl (fun ls hl => ?_)
    refine lv_goto (tgt := 41) hx hb dX4_askOthers_87 (by decide) ?_
    exact K41 M x1 x3 x6 v_26 hw H locs ls hW hS (lv_sub hl [1, 2, 3, 4, 5, 0] rfl)
  have L_41 : ∀ (n : Nat) (M : Mem) (x1 : Nat) (x3 : Int64) (x6 : Int32) (x7 : Int32), l_X4_askOthers_41 Q n M x1 x3 x6 x7 → WL p l e rm_X4_askOthers s m args below meth c QQ E base 9 M ad 41 [(0, .ref (ad 4 0)), (1, .ref (ad 2 x1)), (3, .long x3), (5, .ref (ad 10 0)), (6, .int x6), (7, .int x7)] [] 0 0 := by
    intro n
    induction n with
    | zero => intro M x1 x3 x6 x7 hw; exact False.elim hw
    | succ n K41 =>
      intro M x1 x3 x6 x7 hw H locs ls hW hS hl
      obtain ⟨k41, hk41⟩ : ∃ z, z = l_X4_askOthers_41 Q n := ⟨_, rfl⟩
      have hw : b_X4_askOthers_41 Q k41 M x1 x3 x6 x7 := by rw [hk41]; exact hw
      rw [← hk41] at K41
      unfold b_X4_askOthers_41 at hw
      refine lv_iload hx hb dX4_askOthers_41 (lv_at hl 5 rfl) ?_
      refine lv_iload hx hb dX4_askOthers_43 (lv_at hl 4 rfl) ?_
      refine lv_icmp_ge (tgt := 90) hx hb dX4_askOthers_45 (by decide) (fun c_15 => ?_) (fun c_15 => ?_)
      · have hw := hw.1 c_15
        rw [← hQQ]
        exact e_V hx hb hr hlocks hW hS (Nat.le_of_ble_eq_true rfl) (Nat.le_of_ble_eq_true rfl) dX4_askOthers_90 ⟨hw, rfl⟩
      · have hw := hw.2 c_15
        refine lv_aload hx hb dX4_askOthers_48 (lv_at hl 3 rfl) ?_
        refine lv_iload hx hb dX4_askOthers_50 (lv_at hl 5 rfl) ?_
        obtain ⟨g_16, hw⟩ := hw
        obtain ⟨g_17, hw⟩ := hw
        refine r_aald hx hb hT.1 hW g_17 g_16 dX4_askOthers_52 (fun g_18 => ?_) (fun g_18 => ?_)
        · have hw := hw.1 g_18
          refine lv_astore (lv' := [(8, .ref (ad 2 x7.toNatClampNeg)), (0, .ref (ad 4 0)), (1, .ref (ad 2 x1)), (3, .long x3), (5, .ref (ad 10 0)), (6, .int x6), (7, .int x7)]) hx hb dX4_askOthers_53 hl (by decide) rfl (fun ls hl => ?_)
          refine lv_aload hx hb dX4_askOthers_55 (lv_at hl 0 rfl) ?_
          refine lv_ifnull hx hb dX4_askOthers_57 ?_
          refine lv_aload hx hb dX4_askOthers_60 (lv_at hl 0 rfl) ?_
          obtain ⟨g_19, hw⟩ := hw
          refine r_getI hx hb hts hown hT.1 hW clX2 13 (by decide) (hts _ k_175) (fun _ h9 => h9) rfl g_19 dX4_askOthers_62 ?_
          refine lv_i2l hx hb dX4_askOthers_65 rfl ?_
          refine lv_aload_n hx hb dX4_askOthers_66 rfl (lv_at hl 2 rfl) ?_
          obtain ⟨g_20, hw⟩ := hw
          refine r_getI hx hb hts hown hT.1 hW clX2 0 (by decide) (hts _ k_100) (fun _ h9 => h9) rfl g_20 dX4_askOthers_67 ?_
          refine k_I (rn_S (As := [.long ((mI M 2 x7.toNatClampNeg 13).toInt64), .int (mI M 2 x1 0)]) (rest := []) ⟨hx, hb, hml, hown, hts⟩ hT hW hS hl (c_X4_isIn l E base M ad ((mI M 2 x7.toNatClampNeg 13).toInt64) (mI M 2 x1 0) _ hw) cy_X4_isIn k_136 k_137 rfl rfl ⟨(Nat.le_of_ble_eq_true rfl), (Nat.le_of_ble_eq_true rfl)⟩ rfl rfl (Nat.le_of_ble_eq_true rfl) dX4_askOthers_70 ⟨(Nat.le_of_ble_eq_true rfl), (Nat.le_of_ble_eq_true rfl)⟩) hS kx_no (fun r_24 M_22 ad_23 H locs hP hW hS => ?_)
          obtain ⟨hw, rfl⟩ := hP
          refine lv_if_eq (tgt := 84) hx hb dX4_askOthers_73 (by decide) (fun c_25 => ?_) (fun c_25 => ?_)
          · have hw := hw.1 c_25
            exact L_84 k41 K41 M_22 x1 x3 x6 x7 hw H locs ls hW hS (lv_sub hl [1, 2, 3, 4, 5, 6] rfl)
          · have hw := hw.2 c_25
            refine lv_aload_n hx hb dX4_askOthers_76 rfl (lv_at hl 1 rfl) ?_
            refine lv_aload_n hx hb dX4_askOthers_77 rfl (lv_at hl 2 rfl) ?_
            refine lv_aload hx hb dX4_askOthers_78 (lv_at hl 0 rfl) ?_
            refine lv_lload_n hx hb dX4_askOthers_80 rfl (lv_at hl 3 rfl) ?_
            obtain ⟨g_27, hw⟩ := hw
            refine k_V (rn_V (As := [.ref (ad 2 x1), .ref (ad 2 x7.toNatClampNeg), .long x3]) (rest := []) (κ := 4) (i := 0) ⟨hx, hb, hml, hown, hts⟩ hT hW hS hl (c_X4_askOne l E base M_22 ad x1 x7.toNatClampNeg x3 _ hw) cy_X4_askOne k_200 k_201 k_202 g_27 (by decide) rfl rfl rfl rfl ⟨(Nat.le_of_ble_eq_true rfl), (Nat.le_of_ble_eq_true rfl)⟩ rfl rfl (Nat.le_of_ble_eq_true rfl) dX4_askOthers_81 ⟨(Nat.le_of_ble_eq_true rfl), (Nat.le_of_ble_eq_true rfl)⟩) hS kx_no (fun M_29 ad_30 H locs hP hW hS => ?_)
            obtain ⟨hw, rfl⟩ := hP
            exact L_84 k41 K41 M_29 x1 x3 x6 x7 hw H locs ls hW hS (lv_sub hl [1, 2, 3, 4, 5, 6] rfl)
        · have hw := hw.2 g_18
          refine lv_astoreN (lv' := [(8, .null), (0, .ref (ad 4 0)), (1, .ref (ad 2 x1)), (3, .long x3), (5, .ref (ad 10 0)), (6, .int x6), (7, .int x7)]) hx hb dX4_askOthers_53 hl (by decide) rfl (fun ls hl => ?_)
          refine lv_aloadN hx hb dX4_askOthers_55 (lv_at hl 0 rfl) ?_
          refine lv_ifnullN (tgt := 84) hx hb dX4_askOthers_57 (by decide) ?_
          exact L_84 k41 K41 M x1 x3 x6 x7 hw H locs ls hW hS (lv_sub hl [1, 2, 3, 4, 5, 6] rfl)
  unfold w_X4_askOthers at hw
  obtain ⟨H, hH⟩ : ∃ z, z = s.heap := ⟨_, rfl⟩
  obtain ⟨locs, hlo⟩ : ∃ z : List Loc, z = [] := ⟨_, rfl⟩
  have hS : va_S (fun q : Nat => base ≤ q) s.heap H locs := by rw [hlo, hH]; exact hS
  have hW : Wd E base M ad H := by rw [hH]; exact hW
  rw [show W p l e rm_X4_askOthers s m args below meth c s.heap [] 0 0 QQ (F0 m 0 ls []) = W p l e rm_X4_askOthers s m args below meth c H locs 0 0 QQ (F0 m 0 ls []) by rw [hlo, hH]]
  refine lv_iload_n hx hb dX4_askOthers_0 rfl (lv_at hl 2 rfl) ?_
  refine lv_aload_n hx hb dX4_askOthers_1 rfl (lv_at hl 1 rfl) ?_
  obtain ⟨g_1, hw⟩ := hw
  obtain ⟨g_2, hw⟩ := hw
  refine r_getR (κ2 := 3) (i2 := a1) hx hb hts hown hT.1 hW clX2 1 (by decide) (hts _ k_101) (fun _ h9 => h9) 3 rfl rfl g_1 g_2 dX4_askOthers_2 ?_
  obtain ⟨g_3, hw⟩ := hw
  refine r_getI hx hb hts hown hT.1 hW clX3 0 (by decide) (hts _ k_102) (fun _ h9 => h9) rfl g_3 dX4_askOthers_5 ?_
  refine lv_iconst (v := (-1)) hx hb dX4_askOthers_8 (by decide) ?_
  refine lv_ixor hx hb dX4_askOthers_9 ?_
  refine lv_iand hx hb dX4_askOthers_10 ?_
  refine k_L (rn_S (As := [.int (a2 &&& ((mI M 3 a1 0) ^^^ (-1)))]) (rest := []) ⟨hx, hb, hml, hown, hts⟩ hT hW hS hl (c_X4_blocksOf l E base M ad (a2 &&& ((mI M 3 a1 0) ^^^ (-1))) _ hw) cy_X4_blocksOf k_189 k_190 rfl rfl ⟨(Nat.le_of_ble_eq_true rfl), (Nat.le_of_ble_eq_true rfl)⟩ rfl rfl (Nat.le_of_ble_eq_true rfl) dX4_askOthers_11 ⟨(Nat.le_of_ble_eq_true rfl), (Nat.le_of_ble_eq_true rfl)⟩) hS kx_no (fun r_7 M_5 ad_6 H locs hP hW hS => ?_)
  obtain ⟨hw, rfl⟩ := hP
  refine lv_aload_n hx hb dX4_askOthers_14 rfl (lv_at hl 1 rfl) ?_
  obtain ⟨g_8, hw⟩ := hw
  obtain ⟨g_9, hw⟩ := hw
  refine r_getR (κ2 := 3) (i2 := a1) hx hb hts hown hT.1 hW clX2 1 (by decide) (hts _ k_101) (fun _ h9 => h9) 3 rfl rfl g_8 g_9 dX4_askOthers_15 ?_
  obtain ⟨g_10, hw⟩ := hw
  refine r_getL hx hb hts hown hT.1 hW clX3 1 (by decide) (hts _ k_182) (fun _ h9 => h9) rfl g_10 dX4_askOthers_18 ?_
  refine lv_ldc2 hx hb hown (hts _ k_191) dX4_askOthers_21 ?_
  refine lv_lxor hx hb dX4_askOthers_24 ?_
  refine lv_land hx hb dX4_askOthers_25 ?_
  refine lv_topl (fun v_11 ev_11 => ?_)
  have hw := hw v_11 ev_11
  refine lv_lstore_n (lv' := [(3, .long v_11), (0, .ref (ad 4 0)), (1, .ref (ad 2 a1)), (2, .int a2)]) hx hb dX4_askOthers_26 rfl hl (by decide) rfl (fun ls hl => ?_)
  refine lv_aload_n hx hb dX4_askOthers_27 rfl (lv_at hl 1 rfl) ?_
  obtain ⟨g_12, hw⟩ := hw
  obtain ⟨g_13, hw⟩ := hw
  refine r_getR (κ2 := 10) (i2 := 0) hx hb hts hown hT.1 hW clX4 0 (by decide) (hts _ k_5) (fun _ h9 => h9) 10 rfl rfl g_12 g_13 dX4_askOthers_28 ?_
  refine lv_astore (lv' := [(5, .ref (ad 10 0)), (3, .long v_11), (0, .ref (ad 4 0)), (1, .ref (ad 2 a1)), (2, .int a2)]) hx hb dX4_askOthers_31 hl (by decide) rfl (fun ls hl => ?_)
  refine lv_aload hx hb dX4_askOthers_33 (lv_at hl 0 rfl) ?_
  obtain ⟨g_14, hw⟩ := hw
  refine r_alen (v := 6) hx hb hT.1 hW (by decide) 3 rfl (kTy 3) rfl (by decide) g_14 dX4_askOthers_35 ?_
  refine lv_istore (lv' := [(6, .int 6), (5, .ref (ad 10 0)), (3, .long v_11), (0, .ref (ad 4 0)), (1, .ref (ad 2 a1)), (2, .int a2)]) hx hb dX4_askOthers_36 hl (by decide) rfl (fun ls hl => ?_)
  refine lv_iconst (v := 0) hx hb dX4_askOthers_38 (by decide) ?_
  refine lv_istore (lv' := [(7, .int 0), (6, .int 6), (5, .ref (ad 10 0)), (3, .long v_11), (0, .ref (ad 4 0)), (1, .ref (ad 2 a1)), (2, .int a2)]) hx hb dX4_askOthers_39 hl (by decide) rfl (fun ls hl => ?_)
  obtain ⟨n9, hw⟩ := hw
  exact L_41 n9 M_5 a1 v_11 6 0 hw H locs ls hW hS (lv_sub hl [4, 5, 3, 2, 1, 0] rfl)
def rm_X4_askAll : Room := { frames := 6, cells := 0, slots := 0, locals := 147 }
set_option maxHeartbeats 4000000 in
set_option maxRecDepth 100000 in
theorem c_X4_askAll (l : Launch) (E : GE) (base : Nat) (M : Mem) (ad : AD)  (Q : Mem → Prop) (hw : w_X4_askAll M  Q) : Con l yX4_askAll cX4_askAll 6 none rm_X4_askAll 0 0 E base [.ref (ad 4 0)] M ad (QcV E base (fun M1 ad1 => Q M1 ∧ ad = ad1)) noX := by
  refine con_start (by decide) (Nat.le_of_ble_eq_true rfl) ?_
  intro p e s m args below meth c ls QQ hQQ CT hnx hW hl
  obtain ⟨⟨hx, hb, hml, hown, hts⟩, hr, hlocks, hnm, hT⟩ := CT
  have hS : va_S (fun q : Nat => base ≤ q) s.heap s.heap [] := va_S.rf
  have hl : lv_has ls 6 [(0, .ref (ad 4 0))] := hl
  have L_40 : ∀ (k16 : Mem → Int32 → Int32 → Int32 → Prop) (K16 : ∀ (M : Mem) (x1 : Int32) (x3 : Int32) (x4 : Int32), k16 M x1 x3 x4 → WL p l e rm_X4_askAll s m args below meth c QQ E base 6 M ad 16 [(0, .ref (ad 4 0)), (1, .int x1), (2, .ref (ad 10 0)), (3, .int x3), (4, .int x4)] [] 0 0) (M : Mem) (x1 : Int32) (x3 : Int32) (x4 : Int32), b_X4_askAll_40 k16 Q M x1 x3 x4 → WL p l e rm_X4_askAll s m args below meth c QQ E base 6 M ad 40 [(0, .ref (ad 4 0)), (1, .int x1), (2, .ref (ad 10 0)), (3, .int x3), (4, .int x4)] [] 0 0 := by
    intro k16 K16 M x1 x3 x4 hw H locs ls hW hS hl
    unfold b_X4_askAll_40 at hw
    obtain ⟨v_18, ev_18⟩ : ∃ y : Int32, y = x4 + 1 := ⟨_, rfl⟩
    have hw := hw v_18 ev_18
    refine lv_iinc (v := v_18) (lv' := [(4, .int v_18), (0, .ref (ad 4 0)), (1, .int x1), (2, .ref (ad 10 0)), (3, .int x3)]) hx hb dX4_askAll_40 hl (k := 4) rfl (by rw [ev_18]; rfl) (by decide) rfl (fun ls hl => ?_)
    refine lv_goto (tgt := 16) hx hb dX4_askAll_43 (by decide) ?_
    exact K16 M x1 x3 v_18 hw H locs ls hW hS (lv_sub hl [1, 2, 3, 4, 0] rfl)
  have L_16 : ∀ (n : Nat) (M : Mem) (x1 : Int32) (x3 : Int32) (x4 : Int32), l_X4_askAll_16 Q n M x1 x3 x4 → WL p l e rm_X4_askAll s m args below meth c QQ E base 6 M ad 16 [(0, .ref (ad 4 0)), (1, .int x1), (2, .ref (ad 10 0)), (3, .int x3), (4, .int x4)] [] 0 0 := by
    intro n
    induction n with
    | zero => intro M x1 x3 x4 hw; exact False.elim hw
    | succ n K16 =>
      intro M x1 x3 x4 hw H locs ls hW hS hl
      obtain ⟨k16, hk16⟩ : ∃ z, z = l_X4_askAll_16 Q n := ⟨_, rfl⟩
      have hw : b_X4_askAll_16 Q k16 M x1 x3 x4 := by rw [hk16]; exact hw
      rw [← hk16] at K16
      unfold b_X4_askAll_16 at hw
      refine lv_iload hx hb dX4_askAll_16 (lv_at hl 4 rfl) ?_
      refine lv_iload_n hx hb dX4_askAll_18 rfl (lv_at hl 3 rfl) ?_
      refine lv_icmp_ge (tgt := 46) hx hb dX4_askAll_19 (by decide) (fun c_9 => ?_) (fun c_9 => ?_)
      · have hw := hw.1 c_9
        rw [← hQQ]
        exact e_V hx hb hr hlocks hW hS (Nat.le_of_ble_eq_true rfl) (Nat.le_of_ble_eq_true rfl) dX4_askAll_46 ⟨hw, rfl⟩
      · have hw := hw.2 c_9
        refine lv_aload_n hx hb dX4_askAll_22 rfl (lv_at hl 2 rfl) ?_
        refine lv_iload hx hb dX4_askAll_23 (lv_at hl 4 rfl) ?_
        obtain ⟨g_10, hw⟩ := hw
        obtain ⟨g_11, hw⟩ := hw
        refine r_aald hx hb hT.1 hW g_11 g_10 dX4_askAll_25 (fun g_12 => ?_) (fun g_12 => ?_)
        · have hw := hw.1 g_12
          refine lv_astore (lv' := [(5, .ref (ad 2 x4.toNatClampNeg)), (0, .ref (ad 4 0)), (1, .int x1), (2, .ref (ad 10 0)), (3, .int x3), (4, .int x4)]) hx hb dX4_askAll_26 hl (by decide) rfl (fun ls hl => ?_)
          refine lv_aload hx hb dX4_askAll_28 (lv_at hl 0 rfl) ?_
          refine lv_ifnull hx hb dX4_askAll_30 ?_
          refine lv_aload_n hx hb dX4_askAll_33 rfl (lv_at hl 1 rfl) ?_
          refine lv_aload hx hb dX4_askAll_34 (lv_at hl 0 rfl) ?_
          refine lv_iload_n hx hb dX4_askAll_36 rfl (lv_at hl 2 rfl) ?_
          obtain ⟨g_13, hw⟩ := hw
          refine k_V (rn_V (As := [.ref (ad 2 x4.toNatClampNeg), .int x1]) (rest := []) (κ := 4) (i := 0) ⟨hx, hb, hml, hown, hts⟩ hT hW hS hl (c_X4_askOthers l E base M ad x4.toNatClampNeg x1 _ hw) cy_X4_askOthers k_203 k_204 k_205 g_13 (by decide) rfl rfl rfl rfl ⟨(Nat.le_of_ble_eq_true rfl), (Nat.le_of_ble_eq_true rfl)⟩ rfl rfl (Nat.le_of_ble_eq_true rfl) dX4_askAll_37 ⟨(Nat.le_of_ble_eq_true rfl), (Nat.le_of_ble_eq_true rfl)⟩) hS kx_no (fun M_15 ad_16 H locs hP hW hS => ?_)
          obtain ⟨hw, rfl⟩ := hP
          exact L_40 k16 K16 M_15 x1 x3 x4 hw H locs ls hW hS (lv_sub hl [1, 2, 3, 4, 5] rfl)
        · have hw := hw.2 g_12
          refine lv_astoreN (lv' := [(5, .null), (0, .ref (ad 4 0)), (1, .int x1), (2, .ref (ad 10 0)), (3, .int x3), (4, .int x4)]) hx hb dX4_askAll_26 hl (by decide) rfl (fun ls hl => ?_)
          refine lv_aloadN hx hb dX4_askAll_28 (lv_at hl 0 rfl) ?_
          refine lv_ifnullN (tgt := 40) hx hb dX4_askAll_30 (by decide) ?_
          exact L_40 k16 K16 M x1 x3 x4 hw H locs ls hW hS (lv_sub hl [1, 2, 3, 4, 5] rfl)
  unfold w_X4_askAll at hw
  obtain ⟨H, hH⟩ : ∃ z, z = s.heap := ⟨_, rfl⟩
  obtain ⟨locs, hlo⟩ : ∃ z : List Loc, z = [] := ⟨_, rfl⟩
  have hS : va_S (fun q : Nat => base ≤ q) s.heap H locs := by rw [hlo, hH]; exact hS
  have hW : Wd E base M ad H := by rw [hH]; exact hW
  rw [show W p l e rm_X4_askAll s m args below meth c s.heap [] 0 0 QQ (F0 m 0 ls []) = W p l e rm_X4_askAll s m args below meth c H locs 0 0 QQ (F0 m 0 ls []) by rw [hlo, hH]]
  refine lv_aload_n hx hb dX4_askAll_0 rfl (lv_at hl 0 rfl) ?_
  obtain ⟨g_1, hw⟩ := hw
  refine k_I (rn_V (As := []) (rest := []) (κ := 4) (i := 0) ⟨hx, hb, hml, hown, hts⟩ hT hW hS hl (c_X4_wantedPieces l E base M ad _ hw) cy_X4_wantedPieces k_149 k_150 k_151 g_1 (by decide) rfl rfl rfl rfl ⟨(Nat.le_of_ble_eq_true rfl), (Nat.le_of_ble_eq_true rfl)⟩ rfl rfl (Nat.le_of_ble_eq_true rfl) dX4_askAll_1 ⟨(Nat.le_of_ble_eq_true rfl), (Nat.le_of_ble_eq_true rfl)⟩) hS kx_no (fun r_5 M_3 ad_4 H locs hP hW hS => ?_)
  obtain ⟨hw, rfl⟩ := hP
  refine lv_istore_n (lv' := [(1, .int r_5), (0, .ref (ad 4 0))]) hx hb dX4_askAll_4 rfl hl (by decide) rfl (fun ls hl => ?_)
  refine lv_aload_n hx hb dX4_askAll_5 rfl (lv_at hl 1 rfl) ?_
  obtain ⟨g_6, hw⟩ := hw
  obtain ⟨g_7, hw⟩ := hw
  refine r_getR (κ2 := 10) (i2 := 0) hx hb hts hown hT.1 hW clX4 0 (by decide) (hts _ k_5) (fun _ h9 => h9) 10 rfl rfl g_6 g_7 dX4_askAll_6 ?_
  refine lv_astore_n (lv' := [(2, .ref (ad 10 0)), (1, .int r_5), (0, .ref (ad 4 0))]) hx hb dX4_askAll_9 rfl hl (by decide) rfl (fun ls hl => ?_)
  refine lv_aload_n hx hb dX4_askAll_10 rfl (lv_at hl 0 rfl) ?_
  obtain ⟨g_8, hw⟩ := hw
  refine r_alen (v := 6) hx hb hT.1 hW (by decide) 3 rfl (kTy 3) rfl (by decide) g_8 dX4_askAll_11 ?_
  refine lv_istore_n (lv' := [(3, .int 6), (2, .ref (ad 10 0)), (1, .int r_5), (0, .ref (ad 4 0))]) hx hb dX4_askAll_12 rfl hl (by decide) rfl (fun ls hl => ?_)
  refine lv_iconst (v := 0) hx hb dX4_askAll_13 (by decide) ?_
  refine lv_istore (lv' := [(4, .int 0), (3, .int 6), (2, .ref (ad 10 0)), (1, .int r_5), (0, .ref (ad 4 0))]) hx hb dX4_askAll_14 hl (by decide) rfl (fun ls hl => ?_)
  obtain ⟨n9, hw⟩ := hw
  exact L_16 n9 M_3 r_5 6 0 hw H locs ls hW hS (lv_sub hl [4, 3, 2, 1, 0] rfl)
def rm_X1_add : Room := { frames := 0, cells := 0, slots := 0, locals := 0 }
set_option maxHeartbeats 4000000 in
set_option maxRecDepth 100000 in
theorem c_X1_add (l : Launch) (E : GE) (base : Nat) (M : Mem) (ad : AD) (t : Nat) (a1 : Int32) (a2 : Int32) (a3 : Int32) (Q : Mem → Prop) (hw : w_X1_add M t a1 a2 a3 Q) : Con l yX1_add cX1_add 4 none rm_X1_add 0 0 E base [.ref (ad 1 t), .int a1, .int a2, .int a3] M ad (QcV E base (fun M1 ad1 => Q M1 ∧ ad = ad1)) noX := by
  refine con_start (by decide) (Nat.le_of_ble_eq_true rfl) ?_
  intro p e s m args below meth c ls QQ hQQ CT hnx hW hl
  obtain ⟨⟨hx, hb, hml, hown, hts⟩, hr, hlocks, hnm, hT⟩ := CT
  have hS : va_S (fun q : Nat => base ≤ q) s.heap s.heap [] := va_S.rf
  have hl : lv_has ls 4 [(0, .ref (ad 1 t)), (1, .int a1), (2, .int a2), (3, .int a3)] := hl
  have L_32 : ∀ (M : Mem) (x0 : Nat) (x2 : Int32) (s0 : Int32) (s1 : Int32) (s2 : Int32) (s3 : Nat), b_X1_add_32 Q M x0 x2 s0 s1 s2 s3 → WL p l e rm_X1_add s m args below meth c QQ E base 4 M ad 32 [(0, .ref (ad 1 x0)), (2, .int x2)] [.int s0, .int s1, .int s2, .ref (ad 22 s3)] 0 0 := by
    intro M x0 x2 s0 s1 s2 s3 hw H locs ls hW hS hl
    unfold b_X1_add_32 at hw
    refine lv_iadd hx hb dX1_add_32 ?_
    refine lv_bipush (v := 48) hx hb dX1_add_33 (by decide) ?_
    refine lv_imul hx hb dX1_add_35 ?_
    refine lv_iload_n hx hb dX1_add_36 rfl (lv_at hl 1 rfl) ?_
    refine lv_iadd hx hb dX1_add_37 ?_
    obtain ⟨g_6, hw⟩ := hw
    obtain ⟨g_7, hw⟩ := hw
    refine r_iast hx hb hT.1 hW hS (by decide) rfl (fun _ => rfl) 1000 rfl g_7 g_6 dX1_add_38 (fun M_8 H locs hM_8 hW hS => ?_)
    have hw := hw M_8 hM_8
    refine lv_aload_n hx hb dX1_add_39 rfl (lv_at hl 0 rfl) ?_
    refine lv_dup hx hb dX1_add_40 rfl ?_
    obtain ⟨g_9, hw⟩ := hw
    refine r_getI hx hb hts hown hT.1 hW clX1 2 (by decide) (hts _ k_45) (fun _ h9 => h9) rfl g_9 dX1_add_41 ?_
    refine lv_iconst (v := 1) hx hb dX1_add_44 (by decide) ?_
    refine lv_iadd hx hb dX1_add_45 ?_
    refine r_putI hx hb hts hown hT.1 hW hS clX1 2 (by decide) (hts _ k_45) (fun _ h9 => h9) rfl (by decide +kernel) rfl g_9 dX1_add_46 (fun M_10 H locs hM_10 hW hS => ?_)
    have hw := hw M_10 hM_10
    rw [← hQQ]
    exact e_V hx hb hr hlocks hW hS (Nat.le_of_ble_eq_true rfl) (Nat.le_of_ble_eq_true rfl) dX1_add_49 ⟨hw, rfl⟩
  unfold w_X1_add at hw
  obtain ⟨H, hH⟩ : ∃ z, z = s.heap := ⟨_, rfl⟩
  obtain ⟨locs, hlo⟩ : ∃ z : List Loc, z = [] := ⟨_, rfl⟩
  have hS : va_S (fun q : Nat => base ≤ q) s.heap H locs := by rw [hlo, hH]; exact hS
  have hW : Wd E base M ad H := by rw [hH]; exact hW
  rw [show W p l e rm_X1_add s m args below meth c s.heap [] 0 0 QQ (F0 m 0 ls []) = W p l e rm_X1_add s m args below meth c H locs 0 0 QQ (F0 m 0 ls []) by rw [hlo, hH]]
  refine lv_aload_n hx hb dX1_add_0 rfl (lv_at hl 0 rfl) ?_
  obtain ⟨g_1, hw⟩ := hw
  refine r_getI hx hb hts hown hT.1 hW clX1 2 (by decide) (hts _ k_45) (fun _ h9 => h9) rfl g_1 dX1_add_1 ?_
  refine lv_aload_n hx hb dX1_add_4 rfl (lv_at hl 0 rfl) ?_
  obtain ⟨g_2, hw⟩ := hw
  refine r_getR (κ2 := 22) (i2 := t) hx hb hts hown hT.1 hW clX1 1 (by decide) (hts _ k_44) (fun _ h9 => h9) 22 rfl rfl g_1 g_2 dX1_add_5 ?_
  obtain ⟨g_3, hw⟩ := hw
  refine r_alen (v := 1000) hx hb hT.1 hW (by decide) 0 rfl (kTy 0) rfl (by decide) g_3 dX1_add_8 ?_
  refine lv_icmp_ge (tgt := 49) hx hb dX1_add_9 (by decide) (fun c_4 => ?_) (fun c_4 => ?_)
  · have hw := hw.1 c_4
    rw [← hQQ]
    exact e_V hx hb hr hlocks hW hS (Nat.le_of_ble_eq_true rfl) (Nat.le_of_ble_eq_true rfl) dX1_add_49 ⟨hw, rfl⟩
  · have hw := hw.2 c_4
    refine lv_aload_n hx hb dX1_add_12 rfl (lv_at hl 0 rfl) ?_
    refine r_getR (κ2 := 22) (i2 := t) hx hb hts hown hT.1 hW clX1 1 (by decide) (hts _ k_44) (fun _ h9 => h9) 22 rfl rfl g_1 g_2 dX1_add_13 ?_
    refine lv_aload_n hx hb dX1_add_16 rfl (lv_at hl 0 rfl) ?_
    refine r_getI hx hb hts hown hT.1 hW clX1 2 (by decide) (hts _ k_45) (fun _ h9 => h9) rfl g_1 dX1_add_17 ?_
    refine lv_iload_n hx hb dX1_add_20 rfl (lv_at hl 1 rfl) ?_
    refine lv_iconst (v := 2) hx hb dX1_add_21 (by decide) ?_
    refine lv_imul hx hb dX1_add_22 ?_
    refine lv_iload_n hx hb dX1_add_23 rfl (lv_at hl 3 rfl) ?_
    refine lv_if_eq (tgt := 31) hx hb dX1_add_24 (by decide) (fun c_5 => ?_) (fun c_5 => ?_)
    · have hw := hw.1 c_5
      refine lv_iconst (v := 0) hx hb dX1_add_31 (by decide) ?_
      exact L_32 M t a2 0 (a1 * 2) (mI M 1 t 2) t hw H locs ls hW hS (lv_sub hl [0, 2] rfl)
    · have hw := hw.2 c_5
      refine lv_iconst (v := 1) hx hb dX1_add_27 (by decide) ?_
      refine lv_goto (tgt := 32) hx hb dX1_add_28 (by decide) ?_
      exact L_32 M t a2 1 (a1 * 2) (mI M 1 t 2) t hw H locs ls hW hS (lv_sub hl [0, 2] rfl)
def rm_X3_take : Room := { frames := 1, cells := 0, slots := 0, locals := 22 }
set_option maxHeartbeats 4000000 in
set_option maxRecDepth 100000 in
theorem c_X3_take (l : Launch) (E : GE) (base : Nat) (M : Mem) (ad : AD) (t : Nat) (a1 : Int32) (a2 : Int32) (Q : Int32 → Mem → Prop) (hw : w_X3_take M t a1 a2 Q) : Con l yX3_take cX3_take 3 (some .boolean) rm_X3_take 0 0 E base [.ref (ad 3 t), .int a1, .int a2] M ad (QcI E base (fun r M1 ad1 => Q r M1 ∧ ad = ad1)) noX := by
  refine con_start (by decide) (Nat.le_of_ble_eq_true rfl) ?_
  intro p e s m args below meth c ls QQ hQQ CT hnx hW hl
  obtain ⟨⟨hx, hb, hml, hown, hts⟩, hr, hlocks, hnm, hT⟩ := CT
  have hS : va_S (fun q : Nat => base ≤ q) s.heap s.heap [] := va_S.rf
  have hl : lv_has ls 3 [(0, .ref (ad 3 t)), (1, .int a1), (2, .int a2)] := hl
  unfold w_X3_take at hw
  obtain ⟨H, hH⟩ : ∃ z, z = s.heap := ⟨_, rfl⟩
  obtain ⟨locs, hlo⟩ : ∃ z : List Loc, z = [] := ⟨_, rfl⟩
  have hS : va_S (fun q : Nat => base ≤ q) s.heap H locs := by rw [hlo, hH]; exact hS
  have hW : Wd E base M ad H := by rw [hH]; exact hW
  rw [show W p l e rm_X3_take s m args below meth c s.heap [] 0 0 QQ (F0 m 0 ls []) = W p l e rm_X3_take s m args below meth c H locs 0 0 QQ (F0 m 0 ls []) by rw [hlo, hH]]
  refine lv_aload_n hx hb dX3_take_0 rfl (lv_at hl 0 rfl) ?_
  obtain ⟨g_1, hw⟩ := hw
  refine r_getL hx hb hts hown hT.1 hW clX3 1 (by decide) (hts _ k_40) (fun _ h9 => h9) rfl g_1 dX3_take_1 ?_
  refine lv_iload_n hx hb dX3_take_4 rfl (lv_at hl 1 rfl) ?_
  refine k_I (rn_SN (As := [.long (mL M 3 t 1), .int a1]) (rest := []) ⟨hx, hb, hml, hown, hts⟩ hT hW hS hl (c_X4_isIn l E base M ad (mL M 3 t 1) a1 _ hw) cy_X4_isIn kn_5 k_137 rfl rfl ⟨(Nat.le_of_ble_eq_true rfl), (Nat.le_of_ble_eq_true rfl)⟩ rfl rfl (Nat.le_of_ble_eq_true rfl) dX3_take_5 ⟨(Nat.le_of_ble_eq_true rfl), (Nat.le_of_ble_eq_true rfl)⟩) hS kx_no (fun r_5 M_3 ad_4 H locs hP hW hS => ?_)
  obtain ⟨hw, rfl⟩ := hP
  refine lv_if_eq (tgt := 13) hx hb dX3_take_8 (by decide) (fun c_6 => ?_) (fun c_6 => ?_)
  · have hw := hw.1 c_6
    refine lv_aload_n hx hb dX3_take_13 rfl (lv_at hl 0 rfl) ?_
    refine lv_dup hx hb dX3_take_14 rfl ?_
    obtain ⟨g_7, hw⟩ := hw
    refine r_getL hx hb hts hown hT.1 hW clX3 1 (by decide) (hts _ k_40) (fun _ h9 => h9) rfl g_7 dX3_take_15 ?_
    refine lv_lconst (v := 1) hx hb dX3_take_18 (by decide) ?_
    refine lv_iload_n hx hb dX3_take_19 rfl (lv_at hl 1 rfl) ?_
    refine lv_lshl hx hb dX3_take_20 rfl ?_
    refine lv_lor hx hb dX3_take_21 ?_
    refine r_putL hx hb hts hown hT.1 hW hS clX3 1 (by decide) (hts _ k_40) (fun _ h9 => h9) rfl (by decide +kernel) rfl g_7 dX3_take_22 (fun M_8 H locs hM_8 hW hS => ?_)
    have hw := hw M_8 hM_8
    refine lv_iload_n hx hb dX3_take_25 rfl (lv_at hl 2 rfl) ?_
    refine lv_if_eq (tgt := 41) hx hb dX3_take_26 (by decide) (fun c_9 => ?_) (fun c_9 => ?_)
    · have hw := hw.1 c_9
      refine lv_iconst (v := 1) hx hb dX3_take_41 (by decide) ?_
      rw [← hQQ]
      exact e_Z hx hb hr hlocks hW hS (Nat.le_of_ble_eq_true rfl) (Nat.le_of_ble_eq_true rfl) dX3_take_42 (by decide) ⟨hw, rfl⟩
    · have hw := hw.2 c_9
      refine lv_aload_n hx hb dX3_take_29 rfl (lv_at hl 0 rfl) ?_
      refine lv_dup hx hb dX3_take_30 rfl ?_
      refine r_getL hx hb hts hown hT.1 hW clX3 2 (by decide) (hts _ k_41) (fun _ h9 => h9) rfl (by rw [hM_8]; exact g_7) dX3_take_31 ?_
      refine lv_lconst (v := 1) hx hb dX3_take_34 (by decide) ?_
      refine lv_iload_n hx hb dX3_take_35 rfl (lv_at hl 1 rfl) ?_
      refine lv_lshl hx hb dX3_take_36 rfl ?_
      refine lv_lor hx hb dX3_take_37 ?_
      refine r_putL hx hb hts hown hT.1 hW hS clX3 2 (by decide) (hts _ k_41) (fun _ h9 => h9) rfl (by decide +kernel) rfl (by rw [hM_8]; exact g_7) dX3_take_38 (fun M_10 H locs hM_10 hW hS => ?_)
      have hw := hw M_10 hM_10
      refine lv_iconst (v := 1) hx hb dX3_take_41 (by decide) ?_
      rw [← hQQ]
      exact e_Z hx hb hr hlocks hW hS (Nat.le_of_ble_eq_true rfl) (Nat.le_of_ble_eq_true rfl) dX3_take_42 (by decide) ⟨hw, rfl⟩
  · have hw := hw.2 c_6
    refine lv_iconst (v := 0) hx hb dX3_take_11 (by decide) ?_
    rw [← hQQ]
    exact e_Z hx hb hr hlocks hW hS (Nat.le_of_ble_eq_true rfl) (Nat.le_of_ble_eq_true rfl) dX3_take_12 (by decide) ⟨hw, rfl⟩
def rm_X4_comeOne : Room := { frames := 2, cells := 0, slots := 0, locals := 44 }
set_option maxHeartbeats 4000000 in
set_option maxRecDepth 100000 in
theorem c_X4_comeOne (l : Launch) (E : GE) (base : Nat) (M : Mem) (ad : AD) (a1 : Nat) (a2 : Nat) (a3 : Int32) (Q : Int32 → Mem → Prop) (hw : w_X4_comeOne M a1 a2 a3 Q) : Con l yX4_comeOne cX4_comeOne 5 (some .boolean) rm_X4_comeOne 0 0 E base [.ref (ad 4 0), .ref (ad 2 a1), .ref (ad 2 a2), .int a3] M ad (QcI E base (fun r M1 ad1 => Q r M1 ∧ ad = ad1)) noX := by
  refine con_start (by decide) (Nat.le_of_ble_eq_true rfl) ?_
  intro p e s m args below meth c ls QQ hQQ CT hnx hW hl
  obtain ⟨⟨hx, hb, hml, hown, hts⟩, hr, hlocks, hnm, hT⟩ := CT
  have hS : va_S (fun q : Nat => base ≤ q) s.heap s.heap [] := va_S.rf
  have hl : lv_has ls 5 [(0, .ref (ad 4 0)), (1, .ref (ad 2 a1)), (2, .ref (ad 2 a2)), (3, .int a3)] := hl
  unfold w_X4_comeOne at hw
  obtain ⟨H, hH⟩ : ∃ z, z = s.heap := ⟨_, rfl⟩
  obtain ⟨locs, hlo⟩ : ∃ z : List Loc, z = [] := ⟨_, rfl⟩
  have hS : va_S (fun q : Nat => base ≤ q) s.heap H locs := by rw [hlo, hH]; exact hS
  have hW : Wd E base M ad H := by rw [hH]; exact hW
  rw [show W p l e rm_X4_comeOne s m args below meth c s.heap [] 0 0 QQ (F0 m 0 ls []) = W p l e rm_X4_comeOne s m args below meth c H locs 0 0 QQ (F0 m 0 ls []) by rw [hlo, hH]]
  refine lv_aload_n hx hb dX4_comeOne_0 rfl (lv_at hl 2 rfl) ?_
  obtain ⟨g_1, hw⟩ := hw
  refine r_getI hx hb hts hown hT.1 hW clX2 4 (by decide) (hts _ k_135) (fun _ h9 => h9) rfl g_1 dX4_comeOne_1 ?_
  refine lv_i2l hx hb dX4_comeOne_4 rfl ?_
  refine lv_iload_n hx hb dX4_comeOne_5 rfl (lv_at hl 3 rfl) ?_
  refine lv_iconst (v := 4) hx hb dX4_comeOne_6 (by decide) ?_
  refine lv_idiv hx hb dX4_comeOne_7 (by decide) ?_
  refine k_I (rn_S (As := [.long ((mI M 2 a2 4).toInt64), .int (a3 / 4)]) (rest := []) ⟨hx, hb, hml, hown, hts⟩ hT hW hS hl (c_X4_isIn l E base M ad ((mI M 2 a2 4).toInt64) (a3 / 4) _ hw) cy_X4_isIn k_136 k_137 rfl rfl ⟨(Nat.le_of_ble_eq_true rfl), (Nat.le_of_ble_eq_true rfl)⟩ rfl rfl (Nat.le_of_ble_eq_true rfl) dX4_comeOne_8 ⟨(Nat.le_of_ble_eq_true rfl), (Nat.le_of_ble_eq_true rfl)⟩) hS kx_no (fun r_5 M_3 ad_4 H locs hP hW hS => ?_)
  obtain ⟨hw, rfl⟩ := hP
  refine lv_istore (lv' := [(4, .int r_5), (0, .ref (ad 4 0)), (1, .ref (ad 2 a1)), (2, .ref (ad 2 a2)), (3, .int a3)]) hx hb dX4_comeOne_11 hl (by decide) rfl (fun ls hl => ?_)
  refine lv_aload_n hx hb dX4_comeOne_13 rfl (lv_at hl 2 rfl) ?_
  obtain ⟨g_6, hw⟩ := hw
  obtain ⟨g_7, hw⟩ := hw
  refine r_getR (κ2 := 1) (i2 := a1) hx hb hts hown hT.1 hW clX2 2 (by decide) (hts _ k_206) (fun _ h9 => h9) 1 rfl rfl g_6 g_7 dX4_comeOne_14 ?_
  refine lv_aload_n hx hb dX4_comeOne_17 rfl (lv_at hl 1 rfl) ?_
  obtain ⟨g_8, hw⟩ := hw
  refine r_getI hx hb hts hown hT.1 hW clX4 4 (by decide) (hts _ k_10) (fun _ h9 => h9) rfl g_8 dX4_comeOne_18 ?_
  refine lv_iload_n hx hb dX4_comeOne_21 rfl (lv_at hl 4 rfl) ?_
  refine lv_iload hx hb dX4_comeOne_22 (lv_at hl 0 rfl) ?_
  obtain ⟨g_9, hw⟩ := hw
  refine k_V (rn_V (As := [.int (mI M_3 4 0 4), .int a3, .int r_5]) (rest := []) (κ := 1) (i := a1) ⟨hx, hb, hml, hown, hts⟩ hT hW hS hl (c_X1_add l E base M_3 ad a1 (mI M_3 4 0 4) a3 r_5 _ hw) cy_X1_add k_207 k_208 k_209 g_9 (by decide) rfl rfl rfl rfl ⟨(Nat.le_of_ble_eq_true rfl), (Nat.le_of_ble_eq_true rfl)⟩ rfl rfl (Nat.le_of_ble_eq_true rfl) dX4_comeOne_24 ⟨(Nat.le_of_ble_eq_true rfl), (Nat.le_of_ble_eq_true rfl)⟩) hS kx_no (fun M_11 ad_12 H locs hP hW hS => ?_)
  obtain ⟨hw, rfl⟩ := hP
  refine lv_aload_n hx hb dX4_comeOne_27 rfl (lv_at hl 2 rfl) ?_
  obtain ⟨g_14, hw⟩ := hw
  obtain ⟨g_15, hw⟩ := hw
  refine r_getR (κ2 := 3) (i2 := a1) hx hb hts hown hT.1 hW clX2 1 (by decide) (hts _ k_101) (fun _ h9 => h9) 3 rfl rfl g_14 g_15 dX4_comeOne_28 ?_
  refine lv_iload_n hx hb dX4_comeOne_31 rfl (lv_at hl 4 rfl) ?_
  refine lv_iload hx hb dX4_comeOne_32 (lv_at hl 0 rfl) ?_
  obtain ⟨g_16, hw⟩ := hw
  refine k_I (rn_V (As := [.int a3, .int r_5]) (rest := []) (κ := 3) (i := a1) ⟨hx, hb, hml, hown, hts⟩ hT hW hS hl (c_X3_take l E base M_11 ad a1 a3 r_5 _ hw) cy_X3_take k_210 k_211 k_212 g_16 (by decide) rfl rfl rfl rfl ⟨(Nat.le_of_ble_eq_true rfl), (Nat.le_of_ble_eq_true rfl)⟩ rfl rfl (Nat.le_of_ble_eq_true rfl) dX4_comeOne_34 ⟨(Nat.le_of_ble_eq_true rfl), (Nat.le_of_ble_eq_true rfl)⟩) hS kx_no (fun r_20 M_18 ad_19 H locs hP hW hS => ?_)
  obtain ⟨hw, rfl⟩ := hP
  refine lv_if_ne (tgt := 52) hx hb dX4_comeOne_37 (by decide) (fun c_21 => ?_) (fun c_21 => ?_)
  · have hw := hw.2 c_21
    refine lv_aload_n hx hb dX4_comeOne_52 rfl (lv_at hl 2 rfl) ?_
    obtain ⟨g_22, hw⟩ := hw
    obtain ⟨g_23, hw⟩ := hw
    refine r_getR (κ2 := 23) (i2 := a1) hx hb hts hown hT.1 hW clX2 7 (by decide) (hts _ k_213) (fun _ h9 => h9) 23 rfl rfl g_22 g_23 dX4_comeOne_53 ?_
    refine lv_aload_n hx hb dX4_comeOne_56 rfl (lv_at hl 3 rfl) ?_
    obtain ⟨g_24, hw⟩ := hw
    refine r_getI hx hb hts hown hT.1 hW clX2 0 (by decide) (hts _ k_100) (fun _ h9 => h9) rfl g_24 dX4_comeOne_57 ?_
    refine lv_dup2_11 hx hb dX4_comeOne_60 rfl rfl ?_
    obtain ⟨g_25, hw⟩ := hw
    obtain ⟨g_26, hw⟩ := hw
    refine r_lald hx hb hT.1 hW (by decide) rfl (fun _ => rfl) 6 rfl g_26 g_25 dX4_comeOne_61 ?_
    refine lv_lconst (v := 1) hx hb dX4_comeOne_62 (by decide) ?_
    refine lv_iload_n hx hb dX4_comeOne_63 rfl (lv_at hl 4 rfl) ?_
    refine lv_lshl hx hb dX4_comeOne_64 rfl ?_
    refine lv_lor hx hb dX4_comeOne_65 ?_
    obtain ⟨g_27, hw⟩ := hw
    refine r_last hx hb hT.1 hW hS (by decide) rfl (fun _ => rfl) 6 rfl g_27 g_25 dX4_comeOne_66 (fun M_28 H locs hM_28 hW hS => ?_)
    have hw := hw M_28 hM_28
    refine lv_aload_n hx hb dX4_comeOne_67 rfl (lv_at hl 2 rfl) ?_
    obtain ⟨g_29, hw⟩ := hw
    refine r_getR (κ2 := 24) (i2 := a1) hx hb hts hown hT.1 hW clX2 8 (by decide) (hts _ k_156) (fun _ h9 => h9) 24 rfl rfl (by rw [hM_28]; exact g_22) g_29 dX4_comeOne_68 ?_
    refine lv_aload_n hx hb dX4_comeOne_71 rfl (lv_at hl 3 rfl) ?_
    refine r_getI hx hb hts hown hT.1 hW clX2 0 (by decide) (hts _ k_100) (fun _ h9 => h9) rfl (by rw [hM_28]; exact g_24) dX4_comeOne_72 ?_
    refine lv_dup2_11 hx hb dX4_comeOne_75 rfl rfl ?_
    obtain ⟨g_30, hw⟩ := hw
    obtain ⟨g_31, hw⟩ := hw
    refine r_iald hx hb hT.1 hW (by decide) rfl (fun _ => rfl) 6 rfl g_31 g_30 dX4_comeOne_76 ?_
    refine lv_iconst (v := 1) hx hb dX4_comeOne_77 (by decide) ?_
    refine lv_iadd hx hb dX4_comeOne_78 ?_
    obtain ⟨g_32, hw⟩ := hw
    refine r_iast hx hb hT.1 hW hS (by decide) rfl (fun _ => rfl) 6 rfl g_32 g_30 dX4_comeOne_79 (fun M_33 H locs hM_33 hW hS => ?_)
    have hw := hw M_33 hM_33
    refine lv_iconst (v := 1) hx hb dX4_comeOne_80 (by decide) ?_
    rw [← hQQ]
    exact e_Z hx hb hr hlocks hW hS (Nat.le_of_ble_eq_true rfl) (Nat.le_of_ble_eq_true rfl) dX4_comeOne_81 (by decide) ⟨hw, rfl⟩
  · have hw := hw.1 c_21
    refine lv_aload_n hx hb dX4_comeOne_40 rfl (lv_at hl 2 rfl) ?_
    refine lv_dup hx hb dX4_comeOne_41 rfl ?_
    obtain ⟨g_34, hw⟩ := hw
    refine r_getI hx hb hts hown hT.1 hW clX2 11 (by decide) (hts _ k_214) (fun _ h9 => h9) rfl g_34 dX4_comeOne_42 ?_
    refine lv_iconst (v := 1) hx hb dX4_comeOne_45 (by decide) ?_
    refine lv_iadd hx hb dX4_comeOne_46 ?_
    refine r_putI hx hb hts hown hT.1 hW hS clX2 11 (by decide) (hts _ k_214) (fun _ h9 => h9) rfl (by decide +kernel) rfl g_34 dX4_comeOne_47 (fun M_35 H locs hM_35 hW hS => ?_)
    have hw := hw M_35 hM_35
    refine lv_iconst (v := 0) hx hb dX4_comeOne_50 (by decide) ?_
    rw [← hQQ]
    exact e_Z hx hb hr hlocks hW hS (Nat.le_of_ble_eq_true rfl) (Nat.le_of_ble_eq_true rfl) dX4_comeOne_51 (by decide) ⟨hw, rfl⟩
def rm_J7_fill_53178_24 : Room := { frames := 0, cells := 0, slots := 0, locals := 0 }
set_option maxHeartbeats 4000000 in
set_option maxRecDepth 100000 in
theorem c_J7_fill_53178_24 (l : Launch) (E : GE) (base : Nat) (M : Mem) (ad : AD) (a0 : Nat) (a1 : Int32) (Q : Mem → Prop) (hw : w_J7_fill_53178_24 M a0 a1 Q) : Con l yJ7_fill_53178 cJ7_fill_53178 4 none rm_J7_fill_53178_24 0 0 E base [.ref (ad 24 a0), .int a1] M ad (QcV E base (fun M1 ad1 => Q M1 ∧ ad = ad1)) noX := by
  refine con_start (by decide) (Nat.le_of_ble_eq_true rfl) ?_
  intro p e s m args below meth c ls QQ hQQ CT hnx hW hl
  obtain ⟨⟨hx, hb, hml, hown, hts⟩, hr, hlocks, hnm, hT⟩ := CT
  have hS : va_S (fun q : Nat => base ≤ q) s.heap s.heap [] := va_S.rf
  have hl : lv_has ls 4 [(0, .ref (ad 24 a0)), (1, .int a1)] := hl
  have L_5 : ∀ (n : Nat) (M : Mem) (x0 : Nat) (x1 : Int32) (x2 : Int32) (x3 : Int32), l_J7_fill_53178_24_5 Q n M x0 x1 x2 x3 → WL p l e rm_J7_fill_53178_24 s m args below meth c QQ E base 4 M ad 5 [(0, .ref (ad 24 x0)), (1, .int x1), (2, .int x2), (3, .int x3)] [] 0 0 := by
    intro n
    induction n with
    | zero => intro M x0 x1 x2 x3 hw; exact False.elim hw
    | succ n K5 =>
      intro M x0 x1 x2 x3 hw H locs ls hW hS hl
      obtain ⟨k5, hk5⟩ : ∃ z, z = l_J7_fill_53178_24_5 Q n := ⟨_, rfl⟩
      have hw : b_J7_fill_53178_24_5 Q k5 M x0 x1 x2 x3 := by rw [hk5]; exact hw
      rw [← hk5] at K5
      unfold b_J7_fill_53178_24_5 at hw
      refine lv_iload_n hx hb dJ7_fill_53178_5 rfl (lv_at hl 2 rfl) ?_
      refine lv_iload_n hx hb dJ7_fill_53178_6 rfl (lv_at hl 3 rfl) ?_
      refine lv_icmp_ge (tgt := 20) hx hb dJ7_fill_53178_7 (by decide) (fun c_2 => ?_) (fun c_2 => ?_)
      · have hw := hw.1 c_2
        rw [← hQQ]
        exact e_V hx hb hr hlocks hW hS (Nat.le_of_ble_eq_true rfl) (Nat.le_of_ble_eq_true rfl) dJ7_fill_53178_20 ⟨hw, rfl⟩
      · have hw := hw.2 c_2
        refine lv_aload_n hx hb dJ7_fill_53178_10 rfl (lv_at hl 0 rfl) ?_
        refine lv_iload_n hx hb dJ7_fill_53178_11 rfl (lv_at hl 2 rfl) ?_
        refine lv_iload_n hx hb dJ7_fill_53178_12 rfl (lv_at hl 1 rfl) ?_
        obtain ⟨g_3, hw⟩ := hw
        obtain ⟨g_4, hw⟩ := hw
        refine r_iast hx hb hT.1 hW hS (by decide) rfl (fun _ => rfl) 6 rfl g_4 g_3 dJ7_fill_53178_13 (fun M_5 H locs hM_5 hW hS => ?_)
        have hw := hw M_5 hM_5
        obtain ⟨v_6, ev_6⟩ : ∃ y : Int32, y = x2 + 1 := ⟨_, rfl⟩
        have hw := hw v_6 ev_6
        refine lv_iinc (v := v_6) (lv' := [(2, .int v_6), (0, .ref (ad 24 x0)), (1, .int x1), (3, .int x3)]) hx hb dJ7_fill_53178_14 hl (k := 2) rfl (by rw [ev_6]; rfl) (by decide) rfl (fun ls hl => ?_)
        refine lv_goto (tgt := 5) hx hb dJ7_fill_53178_17 (by decide) ?_
        exact K5 M_5 x0 x1 v_6 x3 hw H locs ls hW hS (lv_sub hl [1, 2, 0, 3] rfl)
  unfold w_J7_fill_53178_24 at hw
  obtain ⟨H, hH⟩ : ∃ z, z = s.heap := ⟨_, rfl⟩
  obtain ⟨locs, hlo⟩ : ∃ z : List Loc, z = [] := ⟨_, rfl⟩
  have hS : va_S (fun q : Nat => base ≤ q) s.heap H locs := by rw [hlo, hH]; exact hS
  have hW : Wd E base M ad H := by rw [hH]; exact hW
  rw [show W p l e rm_J7_fill_53178_24 s m args below meth c s.heap [] 0 0 QQ (F0 m 0 ls []) = W p l e rm_J7_fill_53178_24 s m args below meth c H locs 0 0 QQ (F0 m 0 ls []) by rw [hlo, hH]]
  refine lv_iconst (v := 0) hx hb dJ7_fill_53178_0 (by decide) ?_
  refine lv_istore_n (lv' := [(2, .int 0), (0, .ref (ad 24 a0)), (1, .int a1)]) hx hb dJ7_fill_53178_1 rfl hl (by decide) rfl (fun ls hl => ?_)
  refine lv_aload_n hx hb dJ7_fill_53178_2 rfl (lv_at hl 1 rfl) ?_
  obtain ⟨g_1, hw⟩ := hw
  refine r_alen (v := 6) hx hb hT.1 hW (by decide) 0 rfl (kTy 0) rfl (by decide) g_1 dJ7_fill_53178_3 ?_
  refine lv_istore_n (lv' := [(3, .int 6), (2, .int 0), (0, .ref (ad 24 a0)), (1, .int a1)]) hx hb dJ7_fill_53178_4 rfl hl (by decide) rfl (fun ls hl => ?_)
  obtain ⟨n9, hw⟩ := hw
  exact L_5 n9 M a0 a1 0 6 hw H locs ls hW hS (lv_sub hl [2, 3, 1, 0] rfl)
def rm_X4_comeTo : Room := { frames := 3, cells := 0, slots := 0, locals := 68 }
set_option maxHeartbeats 4000000 in
set_option maxRecDepth 100000 in
theorem c_X4_comeTo (l : Launch) (E : GE) (base : Nat) (M : Mem) (ad : AD) (a1 : Nat) (Q : Int32 → Mem → Prop) (hw : w_X4_comeTo M a1 Q) : Con l yX4_comeTo cX4_comeTo 5 (some .int) rm_X4_comeTo 0 0 E base [.ref (ad 4 0), .ref (ad 2 a1)] M ad (QcI E base (fun r M1 ad1 => Q r M1 ∧ ad = ad1)) noX := by
  refine con_start (by decide) (Nat.le_of_ble_eq_true rfl) ?_
  intro p e s m args below meth c ls QQ hQQ CT hnx hW hl
  obtain ⟨⟨hx, hb, hml, hown, hts⟩, hr, hlocks, hnm, hT⟩ := CT
  have hS : va_S (fun q : Nat => base ≤ q) s.heap s.heap [] := va_S.rf
  have hl : lv_has ls 5 [(0, .ref (ad 4 0)), (1, .ref (ad 2 a1))] := hl
  have L_65 : ∀ (k12 : Mem → Nat → Int32 → Int32 → Prop) (K12 : ∀ (M : Mem) (x1 : Nat) (x2 : Int32) (x3 : Int32), k12 M x1 x2 x3 → WL p l e rm_X4_comeTo s m args below meth c QQ E base 5 M ad 12 [(0, .ref (ad 4 0)), (1, .ref (ad 2 x1)), (2, .int x2), (3, .int x3)] [] 0 0) (M : Mem) (x1 : Nat) (x2 : Int32) (x3 : Int32), b_X4_comeTo_65 k12 Q M x1 x2 x3 → WL p l e rm_X4_comeTo s m args below meth c QQ E base 5 M ad 65 [(0, .ref (ad 4 0)), (1, .ref (ad 2 x1)), (2, .int x2), (3, .int x3)] [] 0 0 := by
    intro k12 K12 M x1 x2 x3 hw H locs ls hW hS hl
    unfold b_X4_comeTo_65 at hw
    obtain ⟨v_19, ev_19⟩ : ∃ y : Int32, y = x3 + 1 := ⟨_, rfl⟩
    have hw := hw v_19 ev_19
    refine lv_iinc (v := v_19) (lv' := [(3, .int v_19), (0, .ref (ad 4 0)), (1, .ref (ad 2 x1)), (2, .int x2)]) hx hb dX4_comeTo_65 hl (k := 3) rfl (by rw [ev_19]; rfl) (by decide) rfl (fun ls hl => ?_)
    refine lv_goto (tgt := 12) hx hb dX4_comeTo_68 (by decide) ?_
    exact K12 M x1 x2 v_19 hw H locs ls hW hS (lv_sub hl [1, 2, 3, 0] rfl)
  have L_12 : ∀ (n : Nat) (M : Mem) (x1 : Nat) (x2 : Int32) (x3 : Int32), l_X4_comeTo_12 Q n M x1 x2 x3 → WL p l e rm_X4_comeTo s m args below meth c QQ E base 5 M ad 12 [(0, .ref (ad 4 0)), (1, .ref (ad 2 x1)), (2, .int x2), (3, .int x3)] [] 0 0 := by
    intro n
    induction n with
    | zero => intro M x1 x2 x3 hw; exact False.elim hw
    | succ n K12 =>
      intro M x1 x2 x3 hw H locs ls hW hS hl
      obtain ⟨k12, hk12⟩ : ∃ z, z = l_X4_comeTo_12 Q n := ⟨_, rfl⟩
      have hw : b_X4_comeTo_12 Q k12 M x1 x2 x3 := by rw [hk12]; exact hw
      rw [← hk12] at K12
      unfold b_X4_comeTo_12 at hw
      refine lv_iload_n hx hb dX4_comeTo_12 rfl (lv_at hl 3 rfl) ?_
      refine lv_aload_n hx hb dX4_comeTo_13 rfl (lv_at hl 1 rfl) ?_
      obtain ⟨g_7, hw⟩ := hw
      obtain ⟨g_8, hw⟩ := hw
      refine r_getR (κ2 := 0) (i2 := x1) hx hb hts hown hT.1 hW clX2 3 (by decide) (hts _ k_168) (fun _ h9 => h9) 0 rfl rfl g_7 g_8 dX4_comeTo_14 ?_
      obtain ⟨g_9, hw⟩ := hw
      refine r_getI hx hb hts hown hT.1 hW clX0 2 (by decide) (hts _ k_215) (fun _ h9 => h9) rfl g_9 dX4_comeTo_17 ?_
      refine lv_icmp_ge (tgt := 71) hx hb dX4_comeTo_20 (by decide) (fun c_10 => ?_) (fun c_10 => ?_)
      · have hw := hw.1 c_10
        refine lv_iload_n hx hb dX4_comeTo_71 rfl (lv_at hl 2 rfl) ?_
        rw [← hQQ]
        exact e_I hx hb hr hlocks hW hS (Nat.le_of_ble_eq_true rfl) (Nat.le_of_ble_eq_true rfl) dX4_comeTo_72 ⟨hw, rfl⟩
      · have hw := hw.2 c_10
        refine lv_aload_n hx hb dX4_comeTo_23 rfl (lv_at hl 0 rfl) ?_
        refine lv_aload_n hx hb dX4_comeTo_24 rfl (lv_at hl 1 rfl) ?_
        refine r_getR (κ2 := 0) (i2 := x1) hx hb hts hown hT.1 hW clX2 3 (by decide) (hts _ k_168) (fun _ h9 => h9) 0 rfl rfl g_7 g_8 dX4_comeTo_25 ?_
        obtain ⟨g_11, hw⟩ := hw
        refine r_getR (κ2 := 21) (i2 := x1) hx hb hts hown hT.1 hW clX0 1 (by decide) (hts _ k_216) (fun _ h9 => h9) 21 rfl rfl g_9 g_11 dX4_comeTo_28 ?_
        refine lv_iload_n hx hb dX4_comeTo_31 rfl (lv_at hl 3 rfl) ?_
        obtain ⟨g_12, hw⟩ := hw
        obtain ⟨g_13, hw⟩ := hw
        refine r_iald hx hb hT.1 hW (by decide) rfl (fun _ => rfl) 6 rfl g_13 g_12 dX4_comeTo_32 ?_
        obtain ⟨g_14, hw⟩ := hw
        refine k_Q (rn_V (As := [.int (mI M 21 x1 x3.toNatClampNeg)]) (rest := []) (κ := 4) (i := 0) ⟨hx, hb, hml, hown, hts⟩ hT hW hS hl (c_X4_find l E base M ad (mI M 21 x1 x3.toNatClampNeg) _ hw) cy_X4_find k_92 k_93 k_94 g_14 (by decide) rfl rfl rfl rfl ⟨(Nat.le_of_ble_eq_true rfl), (Nat.le_of_ble_eq_true rfl)⟩ rfl rfl (Nat.le_of_ble_eq_true rfl) dX4_comeTo_33 ⟨(Nat.le_of_ble_eq_true rfl), (Nat.le_of_ble_eq_true rfl)⟩) hS kx_no (fun M_16 ad_17 H locs hP hW hS => ?_) (fun r_18 M_16 ad_17 H locs hP hW hS => ?_)
        · obtain ⟨hw, rfl⟩ := hP
          have hw := hw.1 rfl
          refine lv_astoreN (lv' := [(4, .null), (0, .ref (ad 4 0)), (1, .ref (ad 2 x1)), (2, .int x2), (3, .int x3)]) hx hb dX4_comeTo_36 hl (by decide) rfl (fun ls hl => ?_)
          refine lv_aloadN hx hb dX4_comeTo_38 (lv_at hl 0 rfl) ?_
          refine lv_ifnullN (tgt := 65) hx hb dX4_comeTo_40 (by decide) ?_
          exact L_65 k12 K12 M_16 x1 x2 x3 hw H locs ls hW hS (lv_sub hl [1, 2, 3, 4] rfl)
        · obtain ⟨hw, rfl⟩ := hP
          have hw := hw.2 r_18 rfl
          refine lv_astore (lv' := [(4, .ref (ad 2 r_18)), (0, .ref (ad 4 0)), (1, .ref (ad 2 x1)), (2, .int x2), (3, .int x3)]) hx hb dX4_comeTo_36 hl (by decide) rfl (fun ls hl => ?_)
          refine lv_aload hx hb dX4_comeTo_38 (lv_at hl 0 rfl) ?_
          refine lv_ifnull hx hb dX4_comeTo_40 ?_
          refine lv_aload_n hx hb dX4_comeTo_43 rfl (lv_at hl 1 rfl) ?_
          refine lv_aload_n hx hb dX4_comeTo_44 rfl (lv_at hl 2 rfl) ?_
          refine lv_aload hx hb dX4_comeTo_45 (lv_at hl 0 rfl) ?_
          refine lv_aload_n hx hb dX4_comeTo_47 rfl (lv_at hl 2 rfl) ?_
          obtain ⟨g_20, hw⟩ := hw
          obtain ⟨g_21, hw⟩ := hw
          refine r_getR (κ2 := 0) (i2 := x1) hx hb hts hown hT.1 hW clX2 3 (by decide) (hts _ k_168) (fun _ h9 => h9) 0 rfl rfl g_20 g_21 dX4_comeTo_48 ?_
          obtain ⟨g_22, hw⟩ := hw
          obtain ⟨g_23, hw⟩ := hw
          refine r_getR (κ2 := 20) (i2 := x1) hx hb hts hown hT.1 hW clX0 0 (by decide) (hts _ k_217) (fun _ h9 => h9) 20 rfl rfl g_22 g_23 dX4_comeTo_51 ?_
          refine lv_iload_n hx hb dX4_comeTo_54 rfl (lv_at hl 4 rfl) ?_
          obtain ⟨g_24, hw⟩ := hw
          obtain ⟨g_25, hw⟩ := hw
          refine r_iald hx hb hT.1 hW (by decide) rfl (fun _ => rfl) 6 rfl g_25 g_24 dX4_comeTo_55 ?_
          obtain ⟨g_26, hw⟩ := hw
          refine k_I (rn_V (As := [.ref (ad 2 x1), .ref (ad 2 r_18), .int (mI M_16 20 x1 x3.toNatClampNeg)]) (rest := []) (κ := 4) (i := 0) ⟨hx, hb, hml, hown, hts⟩ hT hW hS hl (c_X4_comeOne l E base M_16 ad x1 r_18 (mI M_16 20 x1 x3.toNatClampNeg) _ hw) cy_X4_comeOne k_218 k_219 k_220 g_26 (by decide) rfl rfl rfl rfl ⟨(Nat.le_of_ble_eq_true rfl), (Nat.le_of_ble_eq_true rfl)⟩ rfl rfl (Nat.le_of_ble_eq_true rfl) dX4_comeTo_56 ⟨(Nat.le_of_ble_eq_true rfl), (Nat.le_of_ble_eq_true rfl)⟩) hS kx_no (fun r_30 M_28 ad_29 H locs hP hW hS => ?_)
          obtain ⟨hw, rfl⟩ := hP
          refine lv_if_eq (tgt := 65) hx hb dX4_comeTo_59 (by decide) (fun c_31 => ?_) (fun c_31 => ?_)
          · have hw := hw.1 c_31
            exact L_65 k12 K12 M_28 x1 x2 x3 hw H locs ls hW hS (lv_sub hl [1, 2, 3, 4] rfl)
          · have hw := hw.2 c_31
            obtain ⟨v_32, ev_32⟩ : ∃ y : Int32, y = x2 + 1 := ⟨_, rfl⟩
            have hw := hw v_32 ev_32
            refine lv_iinc (v := v_32) (lv' := [(2, .int v_32), (4, .ref (ad 2 r_18)), (0, .ref (ad 4 0)), (1, .ref (ad 2 x1)), (3, .int x3)]) hx hb dX4_comeTo_62 hl (k := 3) rfl (by rw [ev_32]; rfl) (by decide) rfl (fun ls hl => ?_)
            exact L_65 k12 K12 M_28 x1 v_32 x3 hw H locs ls hW hS (lv_sub hl [2, 3, 0, 4] rfl)
  unfold w_X4_comeTo at hw
  obtain ⟨H, hH⟩ : ∃ z, z = s.heap := ⟨_, rfl⟩
  obtain ⟨locs, hlo⟩ : ∃ z : List Loc, z = [] := ⟨_, rfl⟩
  have hS : va_S (fun q : Nat => base ≤ q) s.heap H locs := by rw [hlo, hH]; exact hS
  have hW : Wd E base M ad H := by rw [hH]; exact hW
  rw [show W p l e rm_X4_comeTo s m args below meth c s.heap [] 0 0 QQ (F0 m 0 ls []) = W p l e rm_X4_comeTo s m args below meth c H locs 0 0 QQ (F0 m 0 ls []) by rw [hlo, hH]]
  refine lv_aload_n hx hb dX4_comeTo_0 rfl (lv_at hl 1 rfl) ?_
  obtain ⟨g_1, hw⟩ := hw
  obtain ⟨g_2, hw⟩ := hw
  refine r_getR (κ2 := 24) (i2 := a1) hx hb hts hown hT.1 hW clX2 8 (by decide) (hts _ k_156) (fun _ h9 => h9) 24 rfl rfl g_1 g_2 dX4_comeTo_1 ?_
  refine lv_iconst (v := 0) hx hb dX4_comeTo_4 (by decide) ?_
  refine k_V (rn_S (As := [.ref (ad 24 a1), .int 0]) (rest := []) ⟨hx, hb, hml, hown, hts⟩ hT hW hS hl (c_J7_fill_53178_24 l E base M ad a1 0 _ hw) cy_J7_fill_53178 k_11 k_12 rfl rfl ⟨(Nat.le_of_ble_eq_true rfl), (Nat.le_of_ble_eq_true rfl)⟩ rfl rfl (Nat.le_of_ble_eq_true rfl) dX4_comeTo_5 ⟨(Nat.le_of_ble_eq_true rfl), (Nat.le_of_ble_eq_true rfl)⟩) hS kx_no (fun M_4 ad_5 H locs hP hW hS => ?_)
  obtain ⟨hw, rfl⟩ := hP
  refine lv_iconst (v := 0) hx hb dX4_comeTo_8 (by decide) ?_
  refine lv_istore_n (lv' := [(2, .int 0), (0, .ref (ad 4 0)), (1, .ref (ad 2 a1))]) hx hb dX4_comeTo_9 rfl hl (by decide) rfl (fun ls hl => ?_)
  refine lv_iconst (v := 0) hx hb dX4_comeTo_10 (by decide) ?_
  refine lv_istore_n (lv' := [(3, .int 0), (2, .int 0), (0, .ref (ad 4 0)), (1, .ref (ad 2 a1))]) hx hb dX4_comeTo_11 rfl hl (by decide) rfl (fun ls hl => ?_)
  obtain ⟨n9, hw⟩ := hw
  exact L_12 n9 M_4 a1 0 0 hw H locs ls hW hS (lv_sub hl [2, 3, 1, 0] rfl)
def rm_X4_comeAll : Room := { frames := 4, cells := 0, slots := 0, locals := 92 }
set_option maxHeartbeats 4000000 in
set_option maxRecDepth 100000 in
theorem c_X4_comeAll (l : Launch) (E : GE) (base : Nat) (M : Mem) (ad : AD)  (Q : Int32 → Mem → Prop) (hw : w_X4_comeAll M  Q) : Con l yX4_comeAll cX4_comeAll 6 (some .int) rm_X4_comeAll 0 0 E base [.ref (ad 4 0)] M ad (QcI E base (fun r M1 ad1 => Q r M1 ∧ ad = ad1)) noX := by
  refine con_start (by decide) (Nat.le_of_ble_eq_true rfl) ?_
  intro p e s m args below meth c ls QQ hQQ CT hnx hW hl
  obtain ⟨⟨hx, hb, hml, hown, hts⟩, hr, hlocks, hnm, hT⟩ := CT
  have hS : va_S (fun q : Nat => base ≤ q) s.heap s.heap [] := va_S.rf
  have hl : lv_has ls 6 [(0, .ref (ad 4 0))] := hl
  have L_39 : ∀ (k13 : Mem → Int32 → Int32 → Int32 → Prop) (K13 : ∀ (M : Mem) (x1 : Int32) (x3 : Int32) (x4 : Int32), k13 M x1 x3 x4 → WL p l e rm_X4_comeAll s m args below meth c QQ E base 6 M ad 13 [(0, .ref (ad 4 0)), (1, .int x1), (2, .ref (ad 10 0)), (3, .int x3), (4, .int x4)] [] 0 0) (M : Mem) (x1 : Int32) (x3 : Int32) (x4 : Int32), b_X4_comeAll_39 k13 Q M x1 x3 x4 → WL p l e rm_X4_comeAll s m args below meth c QQ E base 6 M ad 39 [(0, .ref (ad 4 0)), (1, .int x1), (2, .ref (ad 10 0)), (3, .int x3), (4, .int x4)] [] 0 0 := by
    intro k13 K13 M x1 x3 x4 hw H locs ls hW hS hl
    unfold b_X4_comeAll_39 at hw
    obtain ⟨v_14, ev_14⟩ : ∃ y : Int32, y = x4 + 1 := ⟨_, rfl⟩
    have hw := hw v_14 ev_14
    refine lv_iinc (v := v_14) (lv' := [(4, .int v_14), (0, .ref (ad 4 0)), (1, .int x1), (2, .ref (ad 10 0)), (3, .int x3)]) hx hb dX4_comeAll_39 hl (k := 4) rfl (by rw [ev_14]; rfl) (by decide) rfl (fun ls hl => ?_)
    refine lv_goto (tgt := 13) hx hb dX4_comeAll_42 (by decide) ?_
    exact K13 M x1 x3 v_14 hw H locs ls hW hS (lv_sub hl [1, 2, 3, 4, 0] rfl)
  have L_13 : ∀ (n : Nat) (M : Mem) (x1 : Int32) (x3 : Int32) (x4 : Int32), l_X4_comeAll_13 Q n M x1 x3 x4 → WL p l e rm_X4_comeAll s m args below meth c QQ E base 6 M ad 13 [(0, .ref (ad 4 0)), (1, .int x1), (2, .ref (ad 10 0)), (3, .int x3), (4, .int x4)] [] 0 0 := by
    intro n
    induction n with
    | zero => intro M x1 x3 x4 hw; exact False.elim hw
    | succ n K13 =>
      intro M x1 x3 x4 hw H locs ls hW hS hl
      obtain ⟨k13, hk13⟩ : ∃ z, z = l_X4_comeAll_13 Q n := ⟨_, rfl⟩
      have hw : b_X4_comeAll_13 Q k13 M x1 x3 x4 := by rw [hk13]; exact hw
      rw [← hk13] at K13
      unfold b_X4_comeAll_13 at hw
      refine lv_iload hx hb dX4_comeAll_13 (lv_at hl 4 rfl) ?_
      refine lv_iload_n hx hb dX4_comeAll_15 rfl (lv_at hl 3 rfl) ?_
      refine lv_icmp_ge (tgt := 45) hx hb dX4_comeAll_16 (by decide) (fun c_4 => ?_) (fun c_4 => ?_)
      · have hw := hw.1 c_4
        refine lv_iload_n hx hb dX4_comeAll_45 rfl (lv_at hl 1 rfl) ?_
        rw [← hQQ]
        exact e_I hx hb hr hlocks hW hS (Nat.le_of_ble_eq_true rfl) (Nat.le_of_ble_eq_true rfl) dX4_comeAll_46 ⟨hw, rfl⟩
      · have hw := hw.2 c_4
        refine lv_aload_n hx hb dX4_comeAll_19 rfl (lv_at hl 2 rfl) ?_
        refine lv_iload hx hb dX4_comeAll_20 (lv_at hl 4 rfl) ?_
        obtain ⟨g_5, hw⟩ := hw
        obtain ⟨g_6, hw⟩ := hw
        refine r_aald hx hb hT.1 hW g_6 g_5 dX4_comeAll_22 (fun g_7 => ?_) (fun g_7 => ?_)
        · have hw := hw.1 g_7
          refine lv_astore (lv' := [(5, .ref (ad 2 x4.toNatClampNeg)), (0, .ref (ad 4 0)), (1, .int x1), (2, .ref (ad 10 0)), (3, .int x3), (4, .int x4)]) hx hb dX4_comeAll_23 hl (by decide) rfl (fun ls hl => ?_)
          refine lv_aload hx hb dX4_comeAll_25 (lv_at hl 0 rfl) ?_
          refine lv_ifnull hx hb dX4_comeAll_27 ?_
          refine lv_iload_n hx hb dX4_comeAll_30 rfl (lv_at hl 2 rfl) ?_
          refine lv_aload_n hx hb dX4_comeAll_31 rfl (lv_at hl 1 rfl) ?_
          refine lv_aload hx hb dX4_comeAll_32 (lv_at hl 0 rfl) ?_
          obtain ⟨g_8, hw⟩ := hw
          refine k_I (rn_V (As := [.ref (ad 2 x4.toNatClampNeg)]) (rest := [.int x1]) (κ := 4) (i := 0) ⟨hx, hb, hml, hown, hts⟩ hT hW hS hl (c_X4_comeTo l E base M ad x4.toNatClampNeg _ hw) cy_X4_comeTo k_221 k_222 k_223 g_8 (by decide) rfl rfl rfl rfl ⟨(Nat.le_of_ble_eq_true rfl), (Nat.le_of_ble_eq_true rfl)⟩ rfl rfl (Nat.le_of_ble_eq_true rfl) dX4_comeAll_34 ⟨(Nat.le_of_ble_eq_true rfl), (Nat.le_of_ble_eq_true rfl)⟩) hS kx_no (fun r_12 M_10 ad_11 H locs hP hW hS => ?_)
          obtain ⟨hw, rfl⟩ := hP
          refine lv_iadd hx hb dX4_comeAll_37 ?_
          refine lv_topi (fun v_13 ev_13 => ?_)
          have hw := hw v_13 ev_13
          refine lv_istore_n (lv' := [(1, .int v_13), (5, .ref (ad 2 x4.toNatClampNeg)), (0, .ref (ad 4 0)), (2, .ref (ad 10 0)), (3, .int x3), (4, .int x4)]) hx hb dX4_comeAll_38 rfl hl (by decide) rfl (fun ls hl => ?_)
          exact L_39 k13 K13 M_10 v_13 x3 x4 hw H locs ls hW hS (lv_sub hl [2, 0, 3, 4, 5] rfl)
        · have hw := hw.2 g_7
          refine lv_astoreN (lv' := [(5, .null), (0, .ref (ad 4 0)), (1, .int x1), (2, .ref (ad 10 0)), (3, .int x3), (4, .int x4)]) hx hb dX4_comeAll_23 hl (by decide) rfl (fun ls hl => ?_)
          refine lv_aloadN hx hb dX4_comeAll_25 (lv_at hl 0 rfl) ?_
          refine lv_ifnullN (tgt := 39) hx hb dX4_comeAll_27 (by decide) ?_
          exact L_39 k13 K13 M x1 x3 x4 hw H locs ls hW hS (lv_sub hl [1, 2, 3, 4, 5] rfl)
  unfold w_X4_comeAll at hw
  obtain ⟨H, hH⟩ : ∃ z, z = s.heap := ⟨_, rfl⟩
  obtain ⟨locs, hlo⟩ : ∃ z : List Loc, z = [] := ⟨_, rfl⟩
  have hS : va_S (fun q : Nat => base ≤ q) s.heap H locs := by rw [hlo, hH]; exact hS
  have hW : Wd E base M ad H := by rw [hH]; exact hW
  rw [show W p l e rm_X4_comeAll s m args below meth c s.heap [] 0 0 QQ (F0 m 0 ls []) = W p l e rm_X4_comeAll s m args below meth c H locs 0 0 QQ (F0 m 0 ls []) by rw [hlo, hH]]
  refine lv_iconst (v := 0) hx hb dX4_comeAll_0 (by decide) ?_
  refine lv_istore_n (lv' := [(1, .int 0), (0, .ref (ad 4 0))]) hx hb dX4_comeAll_1 rfl hl (by decide) rfl (fun ls hl => ?_)
  refine lv_aload_n hx hb dX4_comeAll_2 rfl (lv_at hl 1 rfl) ?_
  obtain ⟨g_1, hw⟩ := hw
  obtain ⟨g_2, hw⟩ := hw
  refine r_getR (κ2 := 10) (i2 := 0) hx hb hts hown hT.1 hW clX4 0 (by decide) (hts _ k_5) (fun _ h9 => h9) 10 rfl rfl g_1 g_2 dX4_comeAll_3 ?_
  refine lv_astore_n (lv' := [(2, .ref (ad 10 0)), (1, .int 0), (0, .ref (ad 4 0))]) hx hb dX4_comeAll_6 rfl hl (by decide) rfl (fun ls hl => ?_)
  refine lv_aload_n hx hb dX4_comeAll_7 rfl (lv_at hl 0 rfl) ?_
  obtain ⟨g_3, hw⟩ := hw
  refine r_alen (v := 6) hx hb hT.1 hW (by decide) 3 rfl (kTy 3) rfl (by decide) g_3 dX4_comeAll_8 ?_
  refine lv_istore_n (lv' := [(3, .int 6), (2, .ref (ad 10 0)), (1, .int 0), (0, .ref (ad 4 0))]) hx hb dX4_comeAll_9 rfl hl (by decide) rfl (fun ls hl => ?_)
  refine lv_iconst (v := 0) hx hb dX4_comeAll_10 (by decide) ?_
  refine lv_istore (lv' := [(4, .int 0), (3, .int 6), (2, .ref (ad 10 0)), (1, .int 0), (0, .ref (ad 4 0))]) hx hb dX4_comeAll_11 hl (by decide) rfl (fun ls hl => ?_)
  obtain ⟨n9, hw⟩ := hw
  exact L_13 n9 M 0 6 0 hw H locs ls hW hS (lv_sub hl [4, 3, 2, 1, 0] rfl)
def rm_X3_isComplete : Room := { frames := 1, cells := 0, slots := 0, locals := 20 }
set_option maxHeartbeats 4000000 in
set_option maxRecDepth 100000 in
theorem c_X3_isComplete (l : Launch) (E : GE) (base : Nat) (M : Mem) (ad : AD) (t : Nat) (a1 : Int32) (Q : Int32 → Mem → Prop) (hw : w_X3_isComplete M t a1 Q) : Con l yX3_isComplete cX3_isComplete 2 (some .boolean) rm_X3_isComplete 0 0 E base [.ref (ad 3 t), .int a1] M ad (QcI E base (fun r M1 ad1 => Q r M1 ∧ ad = ad1)) noX := by
  refine con_start (by decide) (Nat.le_of_ble_eq_true rfl) ?_
  intro p e s m args below meth c ls QQ hQQ CT hnx hW hl
  obtain ⟨⟨hx, hb, hml, hown, hts⟩, hr, hlocks, hnm, hT⟩ := CT
  have hS : va_S (fun q : Nat => base ≤ q) s.heap s.heap [] := va_S.rf
  have hl : lv_has ls 2 [(0, .ref (ad 3 t)), (1, .int a1)] := hl
  unfold w_X3_isComplete at hw
  obtain ⟨H, hH⟩ : ∃ z, z = s.heap := ⟨_, rfl⟩
  obtain ⟨locs, hlo⟩ : ∃ z : List Loc, z = [] := ⟨_, rfl⟩
  have hS : va_S (fun q : Nat => base ≤ q) s.heap H locs := by rw [hlo, hH]; exact hS
  have hW : Wd E base M ad H := by rw [hH]; exact hW
  rw [show W p l e rm_X3_isComplete s m args below meth c s.heap [] 0 0 QQ (F0 m 0 ls []) = W p l e rm_X3_isComplete s m args below meth c H locs 0 0 QQ (F0 m 0 ls []) by rw [hlo, hH]]
  refine lv_aload_n hx hb dX3_isComplete_0 rfl (lv_at hl 0 rfl) ?_
  obtain ⟨g_1, hw⟩ := hw
  refine r_getL hx hb hts hown hT.1 hW clX3 1 (by decide) (hts _ k_40) (fun _ h9 => h9) rfl g_1 dX3_isComplete_1 ?_
  refine lv_ldc2 hx hb hown (hts _ k_224) dX3_isComplete_4 ?_
  refine lv_lxor hx hb dX3_isComplete_7 ?_
  refine lv_iload_n hx hb dX3_isComplete_8 rfl (lv_at hl 1 rfl) ?_
  refine k_L (rn_SN (As := [.int a1]) (rest := [.long ((mL M 3 t 1) ^^^ (-1))]) ⟨hx, hb, hml, hown, hts⟩ hT hW hS hl (c_X4_blocksOfPiece l E base M ad a1 _ hw) cy_X4_blocksOfPiece kn_6 k_181 rfl rfl ⟨(Nat.le_of_ble_eq_true rfl), (Nat.le_of_ble_eq_true rfl)⟩ rfl rfl (Nat.le_of_ble_eq_true rfl) dX3_isComplete_9 ⟨(Nat.le_of_ble_eq_true rfl), (Nat.le_of_ble_eq_true rfl)⟩) hS kx_no (fun r_5 M_3 ad_4 H locs hP hW hS => ?_)
  obtain ⟨hw, rfl⟩ := hP
  refine lv_land hx hb dX3_isComplete_12 ?_
  refine lv_lconst (v := 0) hx hb dX3_isComplete_13 (by decide) ?_
  refine W.lcmp hx hb dX3_isComplete_14 ?_
  refine lv_if_ne (tgt := 22) hx hb dX3_isComplete_15 (by decide) (fun c_6 => ?_) (fun c_6 => ?_)
  · have hw := hw.2 c_6
    refine lv_iconst (v := 0) hx hb dX3_isComplete_22 (by decide) ?_
    rw [← hQQ]
    exact e_Z hx hb hr hlocks hW hS (Nat.le_of_ble_eq_true rfl) (Nat.le_of_ble_eq_true rfl) dX3_isComplete_23 (by decide) ⟨hw, rfl⟩
  · have hw := hw.1 c_6
    refine lv_iconst (v := 1) hx hb dX3_isComplete_18 (by decide) ?_
    refine lv_goto (tgt := 23) hx hb dX3_isComplete_19 (by decide) ?_
    rw [← hQQ]
    exact e_Z hx hb hr hlocks hW hS (Nat.le_of_ble_eq_true rfl) (Nat.le_of_ble_eq_true rfl) dX3_isComplete_23 (by decide) ⟨hw, rfl⟩
def rm_X3_isSound : Room := { frames := 1, cells := 0, slots := 0, locals := 20 }
set_option maxHeartbeats 4000000 in
set_option maxRecDepth 100000 in
theorem c_X3_isSound (l : Launch) (E : GE) (base : Nat) (M : Mem) (ad : AD) (t : Nat) (a1 : Int32) (Q : Int32 → Mem → Prop) (hw : w_X3_isSound M t a1 Q) : Con l yX3_isSound cX3_isSound 2 (some .boolean) rm_X3_isSound 0 0 E base [.ref (ad 3 t), .int a1] M ad (QcI E base (fun r M1 ad1 => Q r M1 ∧ ad = ad1)) noX := by
  refine con_start (by decide) (Nat.le_of_ble_eq_true rfl) ?_
  intro p e s m args below meth c ls QQ hQQ CT hnx hW hl
  obtain ⟨⟨hx, hb, hml, hown, hts⟩, hr, hlocks, hnm, hT⟩ := CT
  have hS : va_S (fun q : Nat => base ≤ q) s.heap s.heap [] := va_S.rf
  have hl : lv_has ls 2 [(0, .ref (ad 3 t)), (1, .int a1)] := hl
  unfold w_X3_isSound at hw
  obtain ⟨H, hH⟩ : ∃ z, z = s.heap := ⟨_, rfl⟩
  obtain ⟨locs, hlo⟩ : ∃ z : List Loc, z = [] := ⟨_, rfl⟩
  have hS : va_S (fun q : Nat => base ≤ q) s.heap H locs := by rw [hlo, hH]; exact hS
  have hW : Wd E base M ad H := by rw [hH]; exact hW
  rw [show W p l e rm_X3_isSound s m args below meth c s.heap [] 0 0 QQ (F0 m 0 ls []) = W p l e rm_X3_isSound s m args below meth c H locs 0 0 QQ (F0 m 0 ls []) by rw [hlo, hH]]
  refine lv_aload_n hx hb dX3_isSound_0 rfl (lv_at hl 0 rfl) ?_
  obtain ⟨g_1, hw⟩ := hw
  refine r_getL hx hb hts hown hT.1 hW clX3 2 (by decide) (hts _ k_41) (fun _ h9 => h9) rfl g_1 dX3_isSound_1 ?_
  refine lv_iload_n hx hb dX3_isSound_4 rfl (lv_at hl 1 rfl) ?_
  refine k_L (rn_SN (As := [.int a1]) (rest := [.long (mL M 3 t 2)]) ⟨hx, hb, hml, hown, hts⟩ hT hW hS hl (c_X4_blocksOfPiece l E base M ad a1 _ hw) cy_X4_blocksOfPiece kn_6 k_181 rfl rfl ⟨(Nat.le_of_ble_eq_true rfl), (Nat.le_of_ble_eq_true rfl)⟩ rfl rfl (Nat.le_of_ble_eq_true rfl) dX3_isSound_5 ⟨(Nat.le_of_ble_eq_true rfl), (Nat.le_of_ble_eq_true rfl)⟩) hS kx_no (fun r_5 M_3 ad_4 H locs hP hW hS => ?_)
  obtain ⟨hw, rfl⟩ := hP
  refine lv_land hx hb dX3_isSound_8 ?_
  refine lv_lconst (v := 0) hx hb dX3_isSound_9 (by decide) ?_
  refine W.lcmp hx hb dX3_isSound_10 ?_
  refine lv_if_ne (tgt := 18) hx hb dX3_isSound_11 (by decide) (fun c_6 => ?_) (fun c_6 => ?_)
  · have hw := hw.2 c_6
    refine lv_iconst (v := 0) hx hb dX3_isSound_18 (by decide) ?_
    rw [← hQQ]
    exact e_Z hx hb hr hlocks hW hS (Nat.le_of_ble_eq_true rfl) (Nat.le_of_ble_eq_true rfl) dX3_isSound_19 (by decide) ⟨hw, rfl⟩
  · have hw := hw.1 c_6
    refine lv_iconst (v := 1) hx hb dX3_isSound_14 (by decide) ?_
    refine lv_goto (tgt := 19) hx hb dX3_isSound_15 (by decide) ?_
    rw [← hQQ]
    exact e_Z hx hb hr hlocks hW hS (Nat.le_of_ble_eq_true rfl) (Nat.le_of_ble_eq_true rfl) dX3_isSound_19 (by decide) ⟨hw, rfl⟩
