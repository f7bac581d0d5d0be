def rm_X5_holds : Room := { frames := 1, cells := 0, slots := 0, locals := 21 }
set_option maxHeartbeats 4000000 in
set_option maxRecDepth 100000 in
theorem c_X5_holds (l : Launch) (E : GE) (base : Nat) (M : Mem) (ad : AD) (a1 : Int32) (Q : Int32 → Mem → Prop) (hw : w_X5_holds M a1 Q) : Con l yX5_holds cX5_holds 2 (some .int) rm_X5_holds 0 0 E base [.ref (ad 5 0), .int a1] M ad (QcI E base (fun r M1 ad1 => Q r M1 ∧ ad = ad1)) noX := by
  refine con_start (by decide) (Nat.le_of_ble_eq_true rfl) ?_
  intro p e s m args below meth c ls QQ hQQ CT hnx hW hl
  obtain ⟨⟨hx, hb, hml, hown, hts⟩, hr, hlocks, hnm, hT⟩ := CT
  have hS : va_S (fun q : Nat => base ≤ q) s.heap s.heap [] := va_S.rf
  have hl : lv_has ls 2 [(0, .ref (ad 5 0)), (1, .int a1)] := hl
  have L_14 : ∀ (M : Mem) (x1 : Int32) (s0 : Int32), b_X5_holds_14 Q M x1 s0 → WL p l e rm_X5_holds s m args below meth c QQ E base 2 M ad 14 [(0, .ref (ad 5 0)), (1, .int x1)] [.int s0, .ref (ad 5 0)] 0 0 := by
    intro M x1 s0 hw H locs ls hW hS hl
    unfold b_X5_holds_14 at hw
    obtain ⟨g_7, hw⟩ := hw
    refine k_I (rn_V (As := [.int s0]) (rest := []) (κ := 5) (i := 0) ⟨hx, hb, hml, hown, hts⟩ hT hW hS hl (c_X5_fits l E base M ad s0 _ hw) cy_X5_fits k_89 k_90 k_91 g_7 (by decide) rfl rfl rfl rfl ⟨(Nat.le_of_ble_eq_true rfl), (Nat.le_of_ble_eq_true rfl)⟩ rfl rfl (Nat.le_of_ble_eq_true rfl) dX5_holds_14 ⟨(Nat.le_of_ble_eq_true rfl), (Nat.le_of_ble_eq_true rfl)⟩) hS kx_no (fun r_11 M_9 ad_10 H locs hP hW hS => ?_)
    obtain ⟨hw, rfl⟩ := hP
    refine lv_if_eq (tgt := 29) hx hb dX5_holds_17 (by decide) (fun c_12 => ?_) (fun c_12 => ?_)
    · have hw := hw.1 c_12
      refine lv_iconst (v := 0) hx hb dX5_holds_29 (by decide) ?_
      rw [← hQQ]
      exact e_I hx hb hr hlocks hW hS (Nat.le_of_ble_eq_true rfl) (Nat.le_of_ble_eq_true rfl) dX5_holds_30 ⟨hw, rfl⟩
    · have hw := hw.2 c_12
      refine lv_aload_n hx hb dX5_holds_20 rfl (lv_at hl 0 rfl) ?_
      obtain ⟨g_13, hw⟩ := hw
      obtain ⟨g_14, hw⟩ := hw
      refine r_getR (κ2 := 35) (i2 := 0) hx hb hts hown hT.1 hW clX5 5 (by decide) (hts _ k_17) (fun _ h9 => h9) 35 rfl rfl g_13 g_14 dX5_holds_21 ?_
      refine lv_iload_n hx hb dX5_holds_24 rfl (lv_at hl 1 rfl) ?_
      obtain ⟨g_15, hw⟩ := hw
      obtain ⟨g_16, hw⟩ := hw
      refine r_iald hx hb hT.1 hW (by decide) rfl (fun _ => rfl) 6 rfl g_16 g_15 dX5_holds_25 ?_
      refine lv_goto (tgt := 30) hx hb dX5_holds_26 (by decide) ?_
      rw [← hQQ]
      exact e_I hx hb hr hlocks hW hS (Nat.le_of_ble_eq_true rfl) (Nat.le_of_ble_eq_true rfl) dX5_holds_30 ⟨hw, rfl⟩
  unfold w_X5_holds at hw
  obtain ⟨H, hH⟩ : ∃ z, z = s.heap := ⟨_, rfl⟩
  obtain ⟨locs, hlo⟩ : ∃ z : List Loc, z = [] := ⟨_, rfl⟩
  have hS : va_S (fun q : Nat => base ≤ q) s.heap H locs := by rw [hlo, hH]; exact hS
  have hW : Wd E base M ad H := by rw [hH]; exact hW
  rw [show W p l e rm_X5_holds s m args below meth c s.heap [] 0 0 QQ (F0 m 0 ls []) = W p l e rm_X5_holds s m args below meth c H locs 0 0 QQ (F0 m 0 ls []) by rw [hlo, hH]]
  refine lv_aload_n hx hb dX5_holds_0 rfl (lv_at hl 0 rfl) ?_
  refine lv_aload_n hx hb dX5_holds_1 rfl (lv_at hl 0 rfl) ?_
  refine lv_iload_n hx hb dX5_holds_2 rfl (lv_at hl 1 rfl) ?_
  obtain ⟨g_1, hw⟩ := hw
  refine k_I (rn_V (As := [.int a1]) (rest := [.ref (ad 5 0)]) (κ := 5) (i := 0) ⟨hx, hb, hml, hown, hts⟩ hT hW hS hl (c_X5_isPeer l E base M ad a1 _ hw) cy_X5_isPeer k_112 k_113 k_114 g_1 (by decide) rfl rfl rfl rfl ⟨(Nat.le_of_ble_eq_true rfl), (Nat.le_of_ble_eq_true rfl)⟩ rfl rfl (Nat.le_of_ble_eq_true rfl) dX5_holds_3 ⟨(Nat.le_of_ble_eq_true rfl), (Nat.le_of_ble_eq_true rfl)⟩) hS kx_no (fun r_5 M_3 ad_4 H locs hP hW hS => ?_)
  obtain ⟨hw, rfl⟩ := hP
  refine lv_if_eq (tgt := 13) hx hb dX5_holds_6 (by decide) (fun c_6 => ?_) (fun c_6 => ?_)
  · have hw := hw.1 c_6
    refine lv_iconst (v := 1) hx hb dX5_holds_13 (by decide) ?_
    exact L_14 M_3 a1 1 hw H locs ls hW hS (lv_sub hl [0, 1] rfl)
  · have hw := hw.2 c_6
    refine lv_iconst (v := 0) hx hb dX5_holds_9 (by decide) ?_
    refine lv_goto (tgt := 14) hx hb dX5_holds_10 (by decide) ?_
    exact L_14 M_3 a1 0 hw H locs ls hW hS (lv_sub hl [0, 1] rfl)
def rm_X1_replayHeld : Room := { frames := 3, cells := 1, slots := 3, locals := 62 }
def fr_X1_replayHeld : Nat → Nat → Bool := fun a b => (a == 3) && (b == 6)
set_option maxHeartbeats 4000000 in
set_option maxRecDepth 100000 in
theorem c_X1_replayHeld (l : Launch) (E : GE) (base : Nat) (M : Mem) (ad : AD) (t : Nat) (Q : Int32 → Mem → Prop) (hw : w_X1_replayHeld M t Q) : Con l yX1_replayHeld cX1_replayHeld 5 (some .int) rm_X1_replayHeld 1 3 E base [.ref (ad 1 t)] M ad (QcI E base (fun r M1 ad1 => Q r M1 ∧ AG fr_X1_replayHeld ad ad1)) noX := by
  refine con_start (by decide) (Nat.le_of_ble_eq_true rfl) ?_
  intro p e s m args below meth c ls QQ hQQ CT hnx hW hl
  obtain ⟨⟨hx, hb, hml, hown, hts⟩, hr, hlocks, hnm, hT⟩ := CT
  have hS : va_S (fun q : Nat => base ≤ q) s.heap s.heap [] := va_S.rf
  have hl : lv_has ls 5 [(0, .ref (ad 1 t))] := hl
  have L_73 : ∀ (k16 : Mem → Nat → Int32 → Int32 → Prop) (K16 : ∀ (ad9 : AD) (hag9 : AG fr_X1_replayHeld ad ad9) (M : Mem) (x0 : Nat) (x2 : Int32) (x3 : Int32), k16 M x0 x2 x3 → WL p l e rm_X1_replayHeld s m args below meth c QQ E base 5 M ad9 16 [(0, .ref (ad9 1 x0)), (1, .ref (ad9 3 6)), (2, .int x2), (3, .int x3)] [] 1 3) (ad9 : AD) (hag9 : AG fr_X1_replayHeld ad ad9) (M : Mem) (x0 : Nat) (x2 : Int32) (x3 : Int32) (s0 : Int32) (s1 : Int32), b_X1_replayHeld_73 k16 Q M x0 x2 x3 s0 s1 → WL p l e rm_X1_replayHeld s m args below meth c QQ E base 5 M ad9 73 [(0, .ref (ad9 1 x0)), (1, .ref (ad9 3 6)), (2, .int x2), (3, .int x3)] [.int s0, .int s1, .ref (ad9 3 6)] 1 3 := by
    intro k16 K16 ad9 hag9 M x0 x2 x3 s0 s1 hw H locs ls hW hS hl
    unfold b_X1_replayHeld_73 at hw
    obtain ⟨g_25, hw⟩ := hw
    refine k_I (rn_V (As := [.int s1, .int s0]) (rest := []) (κ := 3) (i := 6) ⟨hx, hb, hml, hown, hts⟩ hT hW hS hl (c_X3_take l E base M ad9 6 s1 s0 _ hw) cy_X3_take k_314 k_211 k_212 g_25 (by decide) rfl rfl rfl rfl ⟨(Nat.le_of_ble_eq_true rfl), (Nat.le_of_ble_eq_true rfl)⟩ rfl rfl (Nat.le_of_ble_eq_true rfl) dX1_replayHeld_73 ⟨(Nat.le_of_ble_eq_true rfl), (Nat.le_of_ble_eq_true rfl)⟩) hS kx_no (fun r_29 M_27 ad_28 H locs hP hW hS => ?_)
    obtain ⟨hw, rfl⟩ := hP
    refine lv_pop hx hb dX1_replayHeld_76 rfl ?_
    obtain ⟨v_30, ev_30⟩ : ∃ y : Int32, y = x3 + 1 := ⟨_, rfl⟩
    have hw := hw v_30 ev_30
    refine lv_iinc (v := v_30) (lv' := [(3, .int v_30), (0, .ref (ad9 1 x0)), (1, .ref (ad9 3 6)), (2, .int x2)]) hx hb dX1_replayHeld_77 hl (k := 3) rfl (by rw [ev_30]; rfl) (by decide) rfl (fun ls hl => ?_)
    refine lv_goto (tgt := 16) hx hb dX1_replayHeld_80 (by decide) ?_
    exact K16 ad9 hag9 M_27 x0 x2 v_30 hw H locs ls hW hS (lv_sub hl [1, 2, 3, 0] rfl)
  have L_51 : ∀ (k16 : Mem → Nat → Int32 → Int32 → Prop) (K16 : ∀ (ad9 : AD) (hag9 : AG fr_X1_replayHeld ad ad9) (M : Mem) (x0 : Nat) (x2 : Int32) (x3 : Int32), k16 M x0 x2 x3 → WL p l e rm_X1_replayHeld s m args below meth c QQ E base 5 M ad9 16 [(0, .ref (ad9 1 x0)), (1, .ref (ad9 3 6)), (2, .int x2), (3, .int x3)] [] 1 3) (ad9 : AD) (hag9 : AG fr_X1_replayHeld ad ad9) (M : Mem) (x0 : Nat) (x2 : Int32) (x3 : Int32) (x4 : Int32), b_X1_replayHeld_51 k16 Q M x0 x2 x3 x4 → WL p l e rm_X1_replayHeld s m args below meth c QQ E base 5 M ad9 51 [(0, .ref (ad9 1 x0)), (1, .ref (ad9 3 6)), (2, .int x2), (3, .int x3), (4, .int x4)] [] 1 3 := by
    intro k16 K16 ad9 hag9 M x0 x2 x3 x4 hw H locs ls hW hS hl
    unfold b_X1_replayHeld_51 at hw
    refine lv_aload_n hx hb dX1_replayHeld_51 rfl (lv_at hl 1 rfl) ?_
    refine lv_iload hx hb dX1_replayHeld_52 (lv_at hl 4 rfl) ?_
    refine lv_bipush (v := 48) hx hb dX1_replayHeld_54 (by decide) ?_
    refine lv_irem hx hb dX1_replayHeld_56 (by decide) ?_
    refine lv_iload hx hb dX1_replayHeld_57 (lv_at hl 4 rfl) ?_
    refine lv_bipush (v := 48) hx hb dX1_replayHeld_59 (by decide) ?_
    refine lv_idiv hx hb dX1_replayHeld_61 (by decide) ?_
    refine lv_iconst (v := 2) hx hb dX1_replayHeld_62 (by decide) ?_
    refine lv_irem hx hb dX1_replayHeld_63 (by decide) ?_
    refine lv_iconst (v := 1) hx hb dX1_replayHeld_64 (by decide) ?_
    refine lv_icmp_ne (tgt := 72) hx hb dX1_replayHeld_65 (by decide) (fun c_24 => ?_) (fun c_24 => ?_)
    · have hw := hw.2 c_24
      refine lv_iconst (v := 0) hx hb dX1_replayHeld_72 (by decide) ?_
      exact L_73 k16 K16 ad9 hag9 M x0 x2 x3 0 (x4 - x4 / 48 * 48) hw H locs ls hW hS (lv_sub hl [0, 1, 2, 3] rfl)
    · have hw := hw.1 c_24
      refine lv_iconst (v := 1) hx hb dX1_replayHeld_68 (by decide) ?_
      refine lv_goto (tgt := 73) hx hb dX1_replayHeld_69 (by decide) ?_
      exact L_73 k16 K16 ad9 hag9 M x0 x2 x3 1 (x4 - x4 / 48 * 48) hw H locs ls hW hS (lv_sub hl [0, 1, 2, 3] rfl)
  have L_16 : ∀ (n : Nat) (ad9 : AD) (hag9 : AG fr_X1_replayHeld ad ad9) (M : Mem) (x0 : Nat) (x2 : Int32) (x3 : Int32), l_X1_replayHeld_16 Q n M x0 x2 x3 → WL p l e rm_X1_replayHeld s m args below meth c QQ E base 5 M ad9 16 [(0, .ref (ad9 1 x0)), (1, .ref (ad9 3 6)), (2, .int x2), (3, .int x3)] [] 1 3 := by
    intro n
    induction n with
    | zero => intro ad9 hag9 M x0 x2 x3 hw; exact False.elim hw
    | succ n K16 =>
      intro ad9 hag9 M x0 x2 x3 hw H locs ls hW hS hl
      obtain ⟨k16, hk16⟩ : ∃ z, z = l_X1_replayHeld_16 Q n := ⟨_, rfl⟩
      have hw : b_X1_replayHeld_16 Q k16 M x0 x2 x3 := by rw [hk16]; exact hw
      rw [← hk16] at K16
      unfold b_X1_replayHeld_16 at hw
      refine lv_iload_n hx hb dX1_replayHeld_16 rfl (lv_at hl 3 rfl) ?_
      refine lv_aload_n hx hb dX1_replayHeld_17 rfl (lv_at hl 0 rfl) ?_
      obtain ⟨g_11, hw⟩ := hw
      refine r_getI hx hb hts hown hT.1 hW clX1 2 (by decide) (hts _ k_45) (fun _ h9 => h9) rfl g_11 dX1_replayHeld_18 ?_
      refine lv_icmp_ge (tgt := 83) hx hb dX1_replayHeld_21 (by decide) (fun c_12 => ?_) (fun c_12 => ?_)
      · have hw := hw.1 c_12
        refine lv_aload_n hx hb dX1_replayHeld_83 rfl (lv_at hl 1 rfl) ?_
        obtain ⟨g_13, hw⟩ := hw
        refine k_V (rn_V (As := []) (rest := []) (κ := 3) (i := 6) ⟨hx, hb, hml, hown, hts⟩ hT hW hS hl (c_X3_endPieces l E base M ad9 6 _ hw) cy_X3_endPieces k_312 k_233 k_234 g_13 (by decide) rfl rfl rfl rfl ⟨(Nat.le_of_ble_eq_true rfl), (Nat.le_of_ble_eq_true rfl)⟩ rfl rfl (Nat.le_of_ble_eq_true rfl) dX1_replayHeld_84 ⟨(Nat.le_of_ble_eq_true rfl), (Nat.le_of_ble_eq_true rfl)⟩) hS kx_no (fun M_15 ad_16 H locs hP hW hS => ?_)
        obtain ⟨hw, rfl⟩ := hP
        refine lv_aload_n hx hb dX1_replayHeld_87 rfl (lv_at hl 1 rfl) ?_
        obtain ⟨g_18, hw⟩ := hw
        refine r_getI hx hb hts hown hT.1 hW clX3 0 (by decide) (hts _ k_313) (fun _ h9 => h9) rfl g_18 dX1_replayHeld_88 ?_
        obtain ⟨g_d, hw⟩ := hw
        have hW := Wd.drop hW g_d
        rw [← hQQ]
        exact e_I hx hb hr hlocks hW hS (Nat.le_of_ble_eq_true rfl) (Nat.le_of_ble_eq_true rfl) dX1_replayHeld_91 ⟨hw, hag9⟩
      · have hw := hw.2 c_12
        refine lv_aload_n hx hb dX1_replayHeld_24 rfl (lv_at hl 0 rfl) ?_
        obtain ⟨g_19, hw⟩ := hw
        refine r_getR (κ2 := 22) (i2 := x0) hx hb hts hown hT.1 hW clX1 1 (by decide) (hts _ k_44) (fun _ h9 => h9) 22 rfl rfl g_11 g_19 dX1_replayHeld_25 ?_
        refine lv_iload_n hx hb dX1_replayHeld_28 rfl (lv_at hl 3 rfl) ?_
        obtain ⟨g_20, hw⟩ := hw
        obtain ⟨g_21, hw⟩ := hw
        refine r_iald hx hb hT.1 hW (by decide) rfl (fun _ => rfl) 1000 rfl g_21 g_20 dX1_replayHeld_29 ?_
        refine lv_topi (fun v_22 ev_22 => ?_)
        have hw := hw v_22 ev_22
        refine lv_istore (lv' := [(4, .int v_22), (0, .ref (ad9 1 x0)), (1, .ref (ad9 3 6)), (2, .int x2), (3, .int x3)]) hx hb dX1_replayHeld_30 hl (by decide) rfl (fun ls hl => ?_)
        refine lv_iload hx hb dX1_replayHeld_32 (lv_at hl 0 rfl) ?_
        refine lv_bipush (v := 96) hx hb dX1_replayHeld_34 (by decide) ?_
        refine lv_idiv hx hb dX1_replayHeld_36 (by decide) ?_
        refine lv_iload_n hx hb dX1_replayHeld_37 rfl (lv_at hl 3 rfl) ?_
        refine lv_icmp_eq (tgt := 51) hx hb dX1_replayHeld_38 (by decide) (fun c_23 => ?_) (fun c_23 => ?_)
        · have hw := hw.1 c_23
          exact L_51 k16 K16 ad9 hag9 M x0 x2 x3 v_22 hw H locs ls hW hS (lv_sub hl [1, 2, 3, 4, 0] rfl)
        · have hw := hw.2 c_23
          refine lv_aload_n hx hb dX1_replayHeld_41 rfl (lv_at hl 2 rfl) ?_
          obtain ⟨g_31, hw⟩ := hw
          refine k_V (rn_V (As := []) (rest := []) (κ := 3) (i := 6) ⟨hx, hb, hml, hown, hts⟩ hT hW hS hl (c_X3_endPieces l E base M ad9 6 _ hw) cy_X3_endPieces k_312 k_233 k_234 g_31 (by decide) rfl rfl rfl rfl ⟨(Nat.le_of_ble_eq_true rfl), (Nat.le_of_ble_eq_true rfl)⟩ rfl rfl (Nat.le_of_ble_eq_true rfl) dX1_replayHeld_42 ⟨(Nat.le_of_ble_eq_true rfl), (Nat.le_of_ble_eq_true rfl)⟩) hS kx_no (fun M_33 ad_34 H locs hP hW hS => ?_)
          obtain ⟨hw, rfl⟩ := hP
          refine lv_iload hx hb dX1_replayHeld_45 (lv_at hl 0 rfl) ?_
          refine lv_bipush (v := 96) hx hb dX1_replayHeld_47 (by decide) ?_
          refine lv_idiv hx hb dX1_replayHeld_49 (by decide) ?_
          refine lv_topi (fun v_36 ev_36 => ?_)
          have hw := hw v_36 ev_36
          refine lv_istore_n (lv' := [(2, .int v_36), (4, .int v_22), (0, .ref (ad9 1 x0)), (1, .ref (ad9 3 6)), (3, .int x3)]) hx hb dX1_replayHeld_50 rfl hl (by decide) rfl (fun ls hl => ?_)
          exact L_51 k16 K16 ad9 hag9 M_33 x0 v_36 x3 v_22 hw H locs ls hW hS (lv_sub hl [2, 3, 0, 4, 1] rfl)
  unfold w_X1_replayHeld at hw
  obtain ⟨H, hH⟩ : ∃ z, z = s.heap := ⟨_, rfl⟩
  obtain ⟨locs, hlo⟩ : ∃ z : List Loc, z = [] := ⟨_, rfl⟩
  have hS : va_S (fun q : Nat => base ≤ q) s.heap H locs := by rw [hlo, hH]; exact hS
  have hW : Wd E base M ad H := by rw [hH]; exact hW
  rw [show W p l e rm_X1_replayHeld s m args below meth c s.heap [] 0 0 QQ (F0 m 0 ls []) = W p l e rm_X1_replayHeld s m args below meth c H locs 0 0 QQ (F0 m 0 ls []) by rw [hlo, hH]]
  obtain ⟨g_1, hw⟩ := hw
  refine r_new (dv := fun _ => .null) hx hb hts hown (hts _ k_310) (hts _ k_66) (hts _ k_67) hT.1 hW hS hT.2.2.2.2.2.2.2 clX3 tyX3 tyX3_ok (by decide) (Nat.le_of_ble_eq_true rfl) (Nat.le_of_ble_eq_true rfl) g_1 dX1_replayHeld_0 (fun q_2 M_3 ad_4 H hM_3 had_4 hW hS => ?_)
  have hw := hw M_3 hM_3
  rw [upA_ne (a := 1) (b := t) had_4 (by decide)] at hl
  have g_5 : mE M_3 3 6 = true := mE_wN1 hM_3
  refine lv_dup hx hb dX1_replayHeld_3 rfl ?_
  refine lv_aload_n hx hb dX1_replayHeld_4 rfl (lv_at hl 0 rfl) ?_
  obtain ⟨g_6, hw⟩ := hw
  refine r_getI hx hb hts hown hT.1 hW clX1 0 (by decide) (hts _ k_46) (fun _ h9 => h9) rfl g_6 dX1_replayHeld_5 ?_
  refine k_V (rn_I (As := [.int (mI M_3 1 t 0)]) (rest := [.ref (ad_4 3 6)]) (κ := 3) (i := 6) ⟨hx, hb, hml, hown, hts⟩ hT hW hS hl (c_X3_init l E base M_3 ad_4 6 (mI M_3 1 t 0) _ hw) cy_X3_init rfl k_311 k_69 rfl rfl ⟨(Nat.le_of_ble_eq_true rfl), (Nat.le_of_ble_eq_true rfl)⟩ rfl rfl (Nat.le_of_ble_eq_true rfl) dX1_replayHeld_8 ⟨(Nat.le_of_ble_eq_true rfl), (Nat.le_of_ble_eq_true rfl)⟩) hS kx_no (fun M_8 ad_9 H locs hP hW hS => ?_)
  obtain ⟨hw, rfl⟩ := hP
  refine lv_astore_n (lv' := [(1, .ref (ad_4 3 6)), (0, .ref (ad_4 1 t))]) hx hb dX1_replayHeld_11 rfl hl (by decide) rfl (fun ls hl => ?_)
  refine lv_iconst (v := 0) hx hb dX1_replayHeld_12 (by decide) ?_
  refine lv_istore_n (lv' := [(2, .int 0), (1, .ref (ad_4 3 6)), (0, .ref (ad_4 1 t))]) hx hb dX1_replayHeld_13 rfl hl (by decide) rfl (fun ls hl => ?_)
  refine lv_iconst (v := 0) hx hb dX1_replayHeld_14 (by decide) ?_
  refine lv_istore_n (lv' := [(3, .int 0), (2, .int 0), (1, .ref (ad_4 3 6)), (0, .ref (ad_4 1 t))]) hx hb dX1_replayHeld_15 rfl hl (by decide) rfl (fun ls hl => ?_)
  obtain ⟨n9, hw⟩ := hw
  exact L_16 n9 ad_4 (AG_new AG_refl rfl had_4) M_8 t 0 0 hw H locs ls hW hS (lv_sub hl [3, 2, 1, 0] rfl)
def rm_X4_holdsByLog : Room := { frames := 7, cells := 2, slots := 9, locals := 112 }
def fr_X4_holdsByLog : Nat → Nat → Bool := fun a b => (a == 3) && (b == 6)
set_option maxHeartbeats 4000000 in
set_option maxRecDepth 100000 in
theorem c_X4_holdsByLog (l : Launch) (hlt : l.stackTraces = false) (E : GE) (base : Nat) (M : Mem) (ad : AD) (a1 : Int32) (Q : Int32 → Mem → Prop) (X : Nat → Mem → Prop) (hw : w_X4_holdsByLog M a1 Q X) : Con l yX4_holdsByLog cX4_holdsByLog 2 (some .int) rm_X4_holdsByLog 2 9 E base [.ref (ad 4 0), .int a1] M ad (QcI E base (fun r M1 ad1 => Q r M1 ∧ AG fr_X4_holdsByLog ad ad1)) (fun k M1 ad1 => X k M1 ∧ AG fr_X4_holdsByLog ad ad1) := by
  refine con_start (by decide) (Nat.le_of_ble_eq_true rfl) ?_
  intro p e s m args below meth c ls QQ hQQ CT hnx hW hl
  obtain ⟨⟨hx, hb, hml, hown, hts⟩, hr, hlocks, hnm, hT⟩ := CT
  have hS : va_S (fun q : Nat => base ≤ q) s.heap s.heap [] := va_S.rf
  have hl : lv_has ls 2 [(0, .ref (ad 4 0)), (1, .int a1)] := hl
  unfold w_X4_holdsByLog at hw
  obtain ⟨H, hH⟩ : ∃ z, z = s.heap := ⟨_, rfl⟩
  obtain ⟨locs, hlo⟩ : ∃ z : List Loc, z = [] := ⟨_, rfl⟩
  have hS : va_S (fun q : Nat => base ≤ q) s.heap H locs := by rw [hlo, hH]; exact hS
  have hW : Wd E base M ad H := by rw [hH]; exact hW
  rw [show W p l e rm_X4_holdsByLog s m args below meth c s.heap [] 0 0 QQ (F0 m 0 ls []) = W p l e rm_X4_holdsByLog s m args below meth c H locs 0 0 QQ (F0 m 0 ls []) by rw [hlo, hH]]
  refine lv_aload_n hx hb dX4_holdsByLog_0 rfl (lv_at hl 0 rfl) ?_
  refine lv_iload_n hx hb dX4_holdsByLog_1 rfl (lv_at hl 1 rfl) ?_
  obtain ⟨g_1, hw⟩ := hw
  refine k_Q (rn_V (As := [.int a1]) (rest := []) (κ := 4) (i := 0) ⟨hx, hb, hml, hown, hts⟩ hT hW hS hl (c_X4_known l hlt E base M ad a1 _ _ hw) cy_X4_known k_97 k_98 k_99 g_1 (by decide) rfl rfl rfl rfl ⟨(Nat.le_of_ble_eq_true rfl), (Nat.le_of_ble_eq_true rfl)⟩ rfl rfl (Nat.le_of_ble_eq_true rfl) dX4_holdsByLog_2 ⟨(Nat.le_of_ble_eq_true rfl), (Nat.le_of_ble_eq_true rfl)⟩) hS (by rw [← hQQ]; exact kx_out hnx hlocks (Nat.le_of_ble_eq_true rfl) (Nat.le_of_ble_eq_true rfl) (fun _ _ _ h9 => ⟨h9.1, AG_call AG_refl (AG_eq h9.2) (fun _ _ h => rfl)⟩)) (fun M_3 ad_4 H locs hP hW hS => absurd hP (fun ⟨_, h9, _⟩ => by cases h9)) (fun r_5 M_3 ad_4 H locs hP hW hS => ?_)
  obtain ⟨_, h9, hw, rfl⟩ := hP
  cases h9
  obtain ⟨g_6, hw⟩ := hw
  obtain ⟨g_7, hw⟩ := hw
  refine r_getR (κ2 := 1) (i2 := r_5) hx hb hts hown hT.1 hW clX2 2 (by decide) (hts _ k_206) (fun _ h9 => h9) 1 rfl rfl g_6 g_7 dX4_holdsByLog_5 ?_
  obtain ⟨g_8, hw⟩ := hw
  refine k_I (rn_V (As := []) (rest := []) (κ := 1) (i := r_5) ⟨hx, hb, hml, hown, hts⟩ hT hW hS hl (c_X1_replayHeld l E base M_3 ad r_5 _ hw) cy_X1_replayHeld k_315 k_316 k_317 g_8 (by decide) rfl rfl rfl rfl ⟨(Nat.le_of_ble_eq_true rfl), (Nat.le_of_ble_eq_true rfl)⟩ rfl rfl (Nat.le_of_ble_eq_true rfl) dX4_holdsByLog_8 ⟨(Nat.le_of_ble_eq_true rfl), (Nat.le_of_ble_eq_true rfl)⟩) hS kx_no (fun r_12 M_10 ad_11 H locs hP hW hS => ?_)
  obtain ⟨hw, hag⟩ := hP
  have hag_13 := hag
  rw [hag_13 4 0 (by rfl)] at hl
  rw [← hQQ]
  exact e_I hx hb hr hlocks hW hS (Nat.le_of_ble_eq_true rfl) (Nat.le_of_ble_eq_true rfl) dX4_holdsByLog_11 ⟨hw, (AG_call AG_refl hag_13 (fun a b h => h))⟩
def rm_L_holdsByLog : Room := { frames := 8, cells := 2, slots := 9, locals := 133 }
def fr_L_holdsByLog : Nat → Nat → Bool := fun a b => (a == 3) && (b == 6)
set_option maxHeartbeats 4000000 in
set_option maxRecDepth 100000 in
theorem c_L_holdsByLog (l : Launch) (hlt : l.stackTraces = false) (E : GE) (base : Nat) (M : Mem) (ad : AD) (a1 : Int32) (Q : Int32 → Mem → Prop) (hw : w_L_holdsByLog M a1 Q) : ConW l yL_holdsByLog cL_holdsByLog 4 (some .int) [(0, 9, 12, 19)] rm_L_holdsByLog 2 9 E base [.ref (ad 4 0), .int a1, .ref (ad 60 0)] M ad (QcI E base (fun r M1 ad1 => Q r M1 ∧ AG fr_L_holdsByLog ad ad1)) noX := by
  refine conW_start (by decide) (Nat.le_of_ble_eq_true rfl) ?_
  intro p e s m args below meth c ls QQ hQQ CT htab hW hl
  obtain ⟨⟨hx, hb, hml, hown, hts⟩, hr, hlocks, hnm, hT⟩ := CT
  have hS : va_S (fun q : Nat => base ≤ q) s.heap s.heap [] := va_S.rf
  have hl : lv_has ls 4 [(0, .ref (ad 4 0)), (1, .int a1), (2, .ref (ad 60 0))] := hl
  unfold w_L_holdsByLog at hw
  obtain ⟨H, hH⟩ : ∃ z, z = s.heap := ⟨_, rfl⟩
  obtain ⟨locs, hlo⟩ : ∃ z : List Loc, z = [] := ⟨_, rfl⟩
  have hS : va_S (fun q : Nat => base ≤ q) s.heap H locs := by rw [hlo, hH]; exact hS
  have hW : Wd E base M ad H := by rw [hH]; exact hW
  rw [show W p l e rm_L_holdsByLog s m args below meth c s.heap [] 0 0 QQ (F0 m 0 ls []) = W p l e rm_L_holdsByLog s m args below meth c H locs 0 0 QQ (F0 m 0 ls []) by rw [hlo, hH]]
  refine lv_aload_n hx hb dL_holdsByLog_0 rfl (lv_at hl 2 rfl) ?_
  refine lv_iconst (v := 0) hx hb dL_holdsByLog_1 (by decide) ?_
  refine lv_aload_n hx hb dL_holdsByLog_2 rfl (lv_at hl 0 rfl) ?_
  refine lv_iload_n hx hb dL_holdsByLog_3 rfl (lv_at hl 1 rfl) ?_
  obtain ⟨g_1, hw⟩ := hw
  refine k_I (rn_V (As := [.int a1]) (rest := [.int 0, .ref (ad 60 0)]) (κ := 4) (i := 0) ⟨hx, hb, hml, hown, hts⟩ hT hW hS hl (c_X4_holdsByLog l hlt E base M ad a1 _ _ hw) cy_X4_holdsByLog k_318 k_319 k_320 g_1 (by decide) rfl rfl rfl rfl ⟨(Nat.le_of_ble_eq_true rfl), (Nat.le_of_ble_eq_true rfl)⟩ rfl rfl (Nat.le_of_ble_eq_true rfl) dL_holdsByLog_4 ⟨(Nat.le_of_ble_eq_true rfl), (Nat.le_of_ble_eq_true rfl)⟩) hS (fun k9 M_2 adx q9 ce9 H locs hP hW hS hce hcv hcl => ?_) (fun r_5 M_3 ad_4 H locs hP hW hS => ?_)
  · obtain ⟨hw, hag⟩ := hP
    obtain ⟨rfl, hw⟩ := hw
    refine vx_catch (name := exN 1) (E := exN 1) hown [] ⟨0, 9, 12, 19⟩ [] (by rw [htab]; rfl) (fun z hz => nomatch hz) rfl (by decide) (hts _ k_111) (va_Nw.use rfl (hT.2.1 _ kn_3)) hce hcv hcl ?_
    have hag_6 := hag
    rw [hag_6 4 0 (by rfl)] at hl
    rw [hag_6 60 0 (by rfl)] at hl
    refine lv_astore_n (lv' := [(3, .ref q9), (0, .ref (adx 4 0)), (1, .int a1), (2, .ref (adx 60 0))]) hx hb dL_holdsByLog_12 rfl hl (by decide) rfl (fun ls hl => ?_)
    refine lv_iconst (v := 1) hx hb dL_holdsByLog_13 (by decide) ?_
    rw [← hQQ]
    exact e_I hx hb hr hlocks hW hS (Nat.le_of_ble_eq_true rfl) (Nat.le_of_ble_eq_true rfl) dL_holdsByLog_14 ⟨hw, (AG_call AG_refl hag_6 (fun a b h => h))⟩
  · obtain ⟨hw, hag⟩ := hP
    have hag_7 := hag
    rw [hag_7 4 0 (by rfl)] at hl
    rw [hag_7 60 0 (by rfl)] at hl ⊢
    refine lv_i2l hx hb dL_holdsByLog_7 rfl ?_
    obtain ⟨g_8, hw⟩ := hw
    obtain ⟨g_9, hw⟩ := hw
    refine r_last hx hb hT.1 hW hS (by decide) rfl (fun _ => rfl) 1 rfl g_9 g_8 dL_holdsByLog_8 (fun M_10 H locs hM_10 hW hS => ?_)
    have hw := hw M_10 hM_10
    refine lv_goto (tgt := 15) hx hb dL_holdsByLog_9 (by decide) ?_
    refine lv_iconst (v := 0) hx hb dL_holdsByLog_15 (by decide) ?_
    rw [← hQQ]
    exact e_I hx hb hr hlocks hW hS (Nat.le_of_ble_eq_true rfl) (Nat.le_of_ble_eq_true rfl) dL_holdsByLog_16 ⟨hw, (AG_call AG_refl hag_7 (fun a b h => h))⟩
def rm_X5_holdsByLog : Room := { frames := 1, cells := 0, slots := 0, locals := 21 }
set_option maxHeartbeats 4000000 in
set_option maxRecDepth 100000 in
theorem c_X5_holdsByLog (l : Launch) (E : GE) (base : Nat) (M : Mem) (ad : AD) (a1 : Int32) (Q : Int32 → Mem → Prop) (hw : w_X5_holdsByLog M a1 Q) : Con l yX5_holdsByLog cX5_holdsByLog 2 (some .int) rm_X5_holdsByLog 0 0 E base [.ref (ad 5 0), .int a1] M ad (QcI E base (fun r M1 ad1 => Q r M1 ∧ ad = ad1)) noX := by
  refine con_start (by decide) (Nat.le_of_ble_eq_true rfl) ?_
  intro p e s m args below meth c ls QQ hQQ CT hnx hW hl
  obtain ⟨⟨hx, hb, hml, hown, hts⟩, hr, hlocks, hnm, hT⟩ := CT
  have hS : va_S (fun q : Nat => base ≤ q) s.heap s.heap [] := va_S.rf
  have hl : lv_has ls 2 [(0, .ref (ad 5 0)), (1, .int a1)] := hl
  have L_14 : ∀ (M : Mem) (x1 : Int32) (s0 : Int32), b_X5_holdsByLog_14 Q M x1 s0 → WL p l e rm_X5_holdsByLog s m args below meth c QQ E base 2 M ad 14 [(0, .ref (ad 5 0)), (1, .int x1)] [.int s0, .ref (ad 5 0)] 0 0 := by
    intro M x1 s0 hw H locs ls hW hS hl
    unfold b_X5_holdsByLog_14 at hw
    obtain ⟨g_7, hw⟩ := hw
    refine k_I (rn_V (As := [.int s0]) (rest := []) (κ := 5) (i := 0) ⟨hx, hb, hml, hown, hts⟩ hT hW hS hl (c_X5_fits l E base M ad s0 _ hw) cy_X5_fits k_89 k_90 k_91 g_7 (by decide) rfl rfl rfl rfl ⟨(Nat.le_of_ble_eq_true rfl), (Nat.le_of_ble_eq_true rfl)⟩ rfl rfl (Nat.le_of_ble_eq_true rfl) dX5_holdsByLog_14 ⟨(Nat.le_of_ble_eq_true rfl), (Nat.le_of_ble_eq_true rfl)⟩) hS kx_no (fun r_11 M_9 ad_10 H locs hP hW hS => ?_)
    obtain ⟨hw, rfl⟩ := hP
    refine lv_if_eq (tgt := 29) hx hb dX5_holdsByLog_17 (by decide) (fun c_12 => ?_) (fun c_12 => ?_)
    · have hw := hw.1 c_12
      refine lv_iconst (v := 0) hx hb dX5_holdsByLog_29 (by decide) ?_
      rw [← hQQ]
      exact e_I hx hb hr hlocks hW hS (Nat.le_of_ble_eq_true rfl) (Nat.le_of_ble_eq_true rfl) dX5_holdsByLog_30 ⟨hw, rfl⟩
    · have hw := hw.2 c_12
      refine lv_aload_n hx hb dX5_holdsByLog_20 rfl (lv_at hl 0 rfl) ?_
      obtain ⟨g_13, hw⟩ := hw
      obtain ⟨g_14, hw⟩ := hw
      refine r_getR (κ2 := 35) (i2 := 0) hx hb hts hown hT.1 hW clX5 5 (by decide) (hts _ k_17) (fun _ h9 => h9) 35 rfl rfl g_13 g_14 dX5_holdsByLog_21 ?_
      refine lv_iload_n hx hb dX5_holdsByLog_24 rfl (lv_at hl 1 rfl) ?_
      obtain ⟨g_15, hw⟩ := hw
      obtain ⟨g_16, hw⟩ := hw
      refine r_iald hx hb hT.1 hW (by decide) rfl (fun _ => rfl) 6 rfl g_16 g_15 dX5_holdsByLog_25 ?_
      refine lv_goto (tgt := 30) hx hb dX5_holdsByLog_26 (by decide) ?_
      rw [← hQQ]
      exact e_I hx hb hr hlocks hW hS (Nat.le_of_ble_eq_true rfl) (Nat.le_of_ble_eq_true rfl) dX5_holdsByLog_30 ⟨hw, rfl⟩
  unfold w_X5_holdsByLog at hw
  obtain ⟨H, hH⟩ : ∃ z, z = s.heap := ⟨_, rfl⟩
  obtain ⟨locs, hlo⟩ : ∃ z : List Loc, z = [] := ⟨_, rfl⟩
  have hS : va_S (fun q : Nat => base ≤ q) s.heap H locs := by rw [hlo, hH]; exact hS
  have hW : Wd E base M ad H := by rw [hH]; exact hW
  rw [show W p l e rm_X5_holdsByLog s m args below meth c s.heap [] 0 0 QQ (F0 m 0 ls []) = W p l e rm_X5_holdsByLog s m args below meth c H locs 0 0 QQ (F0 m 0 ls []) by rw [hlo, hH]]
  refine lv_aload_n hx hb dX5_holdsByLog_0 rfl (lv_at hl 0 rfl) ?_
  refine lv_aload_n hx hb dX5_holdsByLog_1 rfl (lv_at hl 0 rfl) ?_
  refine lv_iload_n hx hb dX5_holdsByLog_2 rfl (lv_at hl 1 rfl) ?_
  obtain ⟨g_1, hw⟩ := hw
  refine k_I (rn_V (As := [.int a1]) (rest := [.ref (ad 5 0)]) (κ := 5) (i := 0) ⟨hx, hb, hml, hown, hts⟩ hT hW hS hl (c_X5_isPeer l E base M ad a1 _ hw) cy_X5_isPeer k_112 k_113 k_114 g_1 (by decide) rfl rfl rfl rfl ⟨(Nat.le_of_ble_eq_true rfl), (Nat.le_of_ble_eq_true rfl)⟩ rfl rfl (Nat.le_of_ble_eq_true rfl) dX5_holdsByLog_3 ⟨(Nat.le_of_ble_eq_true rfl), (Nat.le_of_ble_eq_true rfl)⟩) hS kx_no (fun r_5 M_3 ad_4 H locs hP hW hS => ?_)
  obtain ⟨hw, rfl⟩ := hP
  refine lv_if_eq (tgt := 13) hx hb dX5_holdsByLog_6 (by decide) (fun c_6 => ?_) (fun c_6 => ?_)
  · have hw := hw.1 c_6
    refine lv_iconst (v := 1) hx hb dX5_holdsByLog_13 (by decide) ?_
    exact L_14 M_3 a1 1 hw H locs ls hW hS (lv_sub hl [0, 1] rfl)
  · have hw := hw.2 c_6
    refine lv_iconst (v := 0) hx hb dX5_holdsByLog_9 (by decide) ?_
    refine lv_goto (tgt := 14) hx hb dX5_holdsByLog_10 (by decide) ?_
    exact L_14 M_3 a1 0 hw H locs ls hW hS (lv_sub hl [0, 1] rfl)
def rm_X4_blocks : Room := { frames := 7, cells := 2, slots := 12, locals := 112 }
set_option maxHeartbeats 4000000 in
set_option maxRecDepth 100000 in
theorem c_X4_blocks (l : Launch) (hlt : l.stackTraces = false) (E : GE) (base : Nat) (M : Mem) (ad : AD) (a1 : Int32) (a2 : Int32) (Q : Int32 → Mem → Prop) (X : Nat → Mem → Prop) (hw : w_X4_blocks M a1 a2 Q X) : Con l yX4_blocks cX4_blocks 4 (some .int) rm_X4_blocks 2 12 E base [.ref (ad 4 0), .int a1, .int a2] M ad (QcI E base (fun r M1 ad1 => Q r M1 ∧ ad = ad1)) (fun k M1 ad1 => X k M1 ∧ ad = ad1) := by
  refine con_start (by decide) (Nat.le_of_ble_eq_true rfl) ?_
  intro p e s m args below meth c ls QQ hQQ CT hnx hW hl
  obtain ⟨⟨hx, hb, hml, hown, hts⟩, hr, hlocks, hnm, hT⟩ := CT
  have hS : va_S (fun q : Nat => base ≤ q) s.heap s.heap [] := va_S.rf
  have hl : lv_has ls 4 [(0, .ref (ad 4 0)), (1, .int a1), (2, .int a2)] := hl
  unfold w_X4_blocks at hw
  obtain ⟨H, hH⟩ : ∃ z, z = s.heap := ⟨_, rfl⟩
  obtain ⟨locs, hlo⟩ : ∃ z : List Loc, z = [] := ⟨_, rfl⟩
  have hS : va_S (fun q : Nat => base ≤ q) s.heap H locs := by rw [hlo, hH]; exact hS
  have hW : Wd E base M ad H := by rw [hH]; exact hW
  rw [show W p l e rm_X4_blocks s m args below meth c s.heap [] 0 0 QQ (F0 m 0 ls []) = W p l e rm_X4_blocks s m args below meth c H locs 0 0 QQ (F0 m 0 ls []) by rw [hlo, hH]]
  refine lv_aload_n hx hb dX4_blocks_0 rfl (lv_at hl 0 rfl) ?_
  refine lv_iload_n hx hb dX4_blocks_1 rfl (lv_at hl 1 rfl) ?_
  obtain ⟨g_1, hw⟩ := hw
  refine k_Q (rn_V (As := [.int a1]) (rest := []) (κ := 4) (i := 0) ⟨hx, hb, hml, hown, hts⟩ hT hW hS hl (c_X4_known l hlt E base M ad a1 _ _ hw) cy_X4_known k_97 k_98 k_99 g_1 (by decide) rfl rfl rfl rfl ⟨(Nat.le_of_ble_eq_true rfl), (Nat.le_of_ble_eq_true rfl)⟩ rfl rfl (Nat.le_of_ble_eq_true rfl) dX4_blocks_2 ⟨(Nat.le_of_ble_eq_true rfl), (Nat.le_of_ble_eq_true rfl)⟩) hS (by rw [← hQQ]; exact kx_out hnx hlocks (Nat.le_of_ble_eq_true rfl) (Nat.le_of_ble_eq_true rfl) (fun _ _ _ h9 => h9)) (fun M_3 ad_4 H locs hP hW hS => absurd hP (fun ⟨_, h9, _⟩ => by cases h9)) (fun r_5 M_3 ad_4 H locs hP hW hS => ?_)
  obtain ⟨_, h9, hw, rfl⟩ := hP
  cases h9
  obtain ⟨g_6, hw⟩ := hw
  obtain ⟨g_7, hw⟩ := hw
  refine r_getR (κ2 := 3) (i2 := r_5) hx hb hts hown hT.1 hW clX2 1 (by decide) (hts _ k_101) (fun _ h9 => h9) 3 rfl rfl g_6 g_7 dX4_blocks_5 ?_
  refine lv_astore_n (lv' := [(3, .ref (ad 3 r_5)), (0, .ref (ad 4 0)), (1, .int a1), (2, .int a2)]) hx hb dX4_blocks_8 rfl hl (by decide) rfl (fun ls hl => ?_)
  refine lv_iload_n hx hb dX4_blocks_9 rfl (lv_at hl 3 rfl) ?_
  refine k_V (rn_S (As := [.int a2]) (rest := []) ⟨hx, hb, hml, hown, hts⟩ hT hW hS hl (c_X4_checkPiece l hlt E base M_3 ad a2 _ _ hw) cy_X4_checkPiece k_117 k_118 rfl rfl ⟨(Nat.le_of_ble_eq_true rfl), (Nat.le_of_ble_eq_true rfl)⟩ rfl rfl (Nat.le_of_ble_eq_true rfl) dX4_blocks_10 ⟨(Nat.le_of_ble_eq_true rfl), (Nat.le_of_ble_eq_true rfl)⟩) hS (by rw [← hQQ]; exact kx_out hnx hlocks (Nat.le_of_ble_eq_true rfl) (Nat.le_of_ble_eq_true rfl) (fun _ _ _ h9 => h9)) (fun M_9 ad_10 H locs hP hW hS => ?_)
  obtain ⟨hw, rfl⟩ := hP
  refine lv_aload_n hx hb dX4_blocks_13 rfl (lv_at hl 0 rfl) ?_
  obtain ⟨g_12, hw⟩ := hw
  refine r_getI hx hb hts hown hT.1 hW clX3 0 (by decide) (hts _ k_102) (fun _ h9 => h9) rfl g_12 dX4_blocks_14 ?_
  refine lv_i2l hx hb dX4_blocks_17 rfl ?_
  refine lv_iload_n hx hb dX4_blocks_18 rfl (lv_at hl 3 rfl) ?_
  refine k_I (rn_S (As := [.long ((mI M_9 3 r_5 0).toInt64), .int a2]) (rest := []) ⟨hx, hb, hml, hown, hts⟩ hT hW hS hl (c_X4_isIn l E base M_9 ad ((mI M_9 3 r_5 0).toInt64) a2 _ hw) cy_X4_isIn k_136 k_137 rfl rfl ⟨(Nat.le_of_ble_eq_true rfl), (Nat.le_of_ble_eq_true rfl)⟩ rfl rfl (Nat.le_of_ble_eq_true rfl) dX4_blocks_19 ⟨(Nat.le_of_ble_eq_true rfl), (Nat.le_of_ble_eq_true rfl)⟩) hS kx_no (fun r_16 M_14 ad_15 H locs hP hW hS => ?_)
  obtain ⟨hw, rfl⟩ := hP
  refine lv_if_eq (tgt := 28) hx hb dX4_blocks_22 (by decide) (fun c_17 => ?_) (fun c_17 => ?_)
  · have hw := hw.1 c_17
    refine lv_aload_n hx hb dX4_blocks_28 rfl (lv_at hl 0 rfl) ?_
    obtain ⟨g_18, hw⟩ := hw
    refine r_getL hx hb hts hown hT.1 hW clX3 1 (by decide) (hts _ k_182) (fun _ h9 => h9) rfl g_18 dX4_blocks_29 ?_
    refine lv_iload_n hx hb dX4_blocks_32 rfl (lv_at hl 3 rfl) ?_
    refine lv_iconst (v := 4) hx hb dX4_blocks_33 (by decide) ?_
    refine lv_imul hx hb dX4_blocks_34 ?_
    refine lv_lshr hx hb dX4_blocks_35 rfl ?_
    refine lv_l2i hx hb dX4_blocks_36 rfl ?_
    refine lv_bipush (v := 15) hx hb dX4_blocks_37 (by decide) ?_
    refine lv_iand hx hb dX4_blocks_39 ?_
    rw [← hQQ]
    exact e_I hx hb hr hlocks hW hS (Nat.le_of_ble_eq_true rfl) (Nat.le_of_ble_eq_true rfl) dX4_blocks_40 ⟨hw, rfl⟩
  · have hw := hw.2 c_17
    refine lv_bipush (v := 15) hx hb dX4_blocks_25 (by decide) ?_
    rw [← hQQ]
    exact e_I hx hb hr hlocks hW hS (Nat.le_of_ble_eq_true rfl) (Nat.le_of_ble_eq_true rfl) dX4_blocks_27 ⟨hw, rfl⟩
def rm_L_blocks : Room := { frames := 8, cells := 2, slots := 12, locals := 135 }
set_option maxHeartbeats 4000000 in
set_option maxRecDepth 100000 in
theorem c_L_blocks (l : Launch) (hlt : l.stackTraces = false) (E : GE) (base : Nat) (M : Mem) (ad : AD) (a1 : Int32) (a2 : Int32) (Q : Int32 → Mem → Prop) (hw : w_L_blocks M a1 a2 Q) : ConW l yL_blocks cL_blocks 5 (some .int) [(0, 10, 13, 19)] rm_L_blocks 2 12 E base [.ref (ad 4 0), .int a1, .int a2, .ref (ad 60 0)] M ad (QcI E base (fun r M1 ad1 => Q r M1 ∧ ad = ad1)) noX := by
  refine conW_start (by decide) (Nat.le_of_ble_eq_true rfl) ?_
  intro p e s m args below meth c ls QQ hQQ CT htab hW hl
  obtain ⟨⟨hx, hb, hml, hown, hts⟩, hr, hlocks, hnm, hT⟩ := CT
  have hS : va_S (fun q : Nat => base ≤ q) s.heap s.heap [] := va_S.rf
  have hl : lv_has ls 5 [(0, .ref (ad 4 0)), (1, .int a1), (2, .int a2), (3, .ref (ad 60 0))] := hl
  unfold w_L_blocks at hw
  obtain ⟨H, hH⟩ : ∃ z, z = s.heap := ⟨_, rfl⟩
  obtain ⟨locs, hlo⟩ : ∃ z : List Loc, z = [] := ⟨_, rfl⟩
  have hS : va_S (fun q : Nat => base ≤ q) s.heap H locs := by rw [hlo, hH]; exact hS
  have hW : Wd E base M ad H := by rw [hH]; exact hW
  rw [show W p l e rm_L_blocks s m args below meth c s.heap [] 0 0 QQ (F0 m 0 ls []) = W p l e rm_L_blocks s m args below meth c H locs 0 0 QQ (F0 m 0 ls []) by rw [hlo, hH]]
  refine lv_aload_n hx hb dL_blocks_0 rfl (lv_at hl 3 rfl) ?_
  refine lv_iconst (v := 0) hx hb dL_blocks_1 (by decide) ?_
  refine lv_aload_n hx hb dL_blocks_2 rfl (lv_at hl 0 rfl) ?_
  refine lv_iload_n hx hb dL_blocks_3 rfl (lv_at hl 1 rfl) ?_
  refine lv_iload_n hx hb dL_blocks_4 rfl (lv_at hl 2 rfl) ?_
  obtain ⟨g_1, hw⟩ := hw
  refine k_I (rn_V (As := [.int a1, .int a2]) (rest := [.int 0, .ref (ad 60 0)]) (κ := 4) (i := 0) ⟨hx, hb, hml, hown, hts⟩ hT hW hS hl (c_X4_blocks l hlt E base M ad a1 a2 _ _ hw) cy_X4_blocks k_321 k_322 k_323 g_1 (by decide) rfl rfl rfl rfl ⟨(Nat.le_of_ble_eq_true rfl), (Nat.le_of_ble_eq_true rfl)⟩ rfl rfl (Nat.le_of_ble_eq_true rfl) dL_blocks_5 ⟨(Nat.le_of_ble_eq_true rfl), (Nat.le_of_ble_eq_true rfl)⟩) hS (fun k9 M_2 adx q9 ce9 H locs hP hW hS hce hcv hcl => ?_) (fun r_5 M_3 ad_4 H locs hP hW hS => ?_)
  · obtain ⟨hw, rfl⟩ := hP
    obtain ⟨rfl, hw⟩ := hw
    refine vx_catch (name := exN 1) (E := exN 1) hown [] ⟨0, 10, 13, 19⟩ [] (by rw [htab]; rfl) (fun z hz => nomatch hz) rfl (by decide) (hts _ k_111) (va_Nw.use rfl (hT.2.1 _ kn_3)) hce hcv hcl ?_
    refine lv_astore (lv' := [(4, .ref q9), (0, .ref (ad 4 0)), (1, .int a1), (2, .int a2), (3, .ref (ad 60 0))]) hx hb dL_blocks_13 hl (by decide) rfl (fun ls hl => ?_)
    refine lv_iconst (v := 1) hx hb dL_blocks_15 (by decide) ?_
    rw [← hQQ]
    exact e_I hx hb hr hlocks hW hS (Nat.le_of_ble_eq_true rfl) (Nat.le_of_ble_eq_true rfl) dL_blocks_16 ⟨hw, rfl⟩
  · obtain ⟨hw, rfl⟩ := hP
    refine lv_i2l hx hb dL_blocks_8 rfl ?_
    obtain ⟨g_6, hw⟩ := hw
    obtain ⟨g_7, hw⟩ := hw
    refine r_last hx hb hT.1 hW hS (by decide) rfl (fun _ => rfl) 1 rfl g_7 g_6 dL_blocks_9 (fun M_8 H locs hM_8 hW hS => ?_)
    have hw := hw M_8 hM_8
    refine lv_goto (tgt := 17) hx hb dL_blocks_10 (by decide) ?_
    refine lv_iconst (v := 0) hx hb dL_blocks_17 (by decide) ?_
    rw [← hQQ]
    exact e_I hx hb hr hlocks hW hS (Nat.le_of_ble_eq_true rfl) (Nat.le_of_ble_eq_true rfl) dL_blocks_18 ⟨hw, rfl⟩
def rm_X5_blocks : Room := { frames := 1, cells := 0, slots := 0, locals := 21 }
set_option maxHeartbeats 4000000 in
set_option maxRecDepth 100000 in
theorem c_X5_blocks (l : Launch) (E : GE) (base : Nat) (M : Mem) (ad : AD) (a1 : Int32) (a2 : Int32) (Q : Int32 → Mem → Prop) (hw : w_X5_blocks M a1 a2 Q) : Con l yX5_blocks cX5_blocks 3 (some .int) rm_X5_blocks 0 0 E base [.ref (ad 5 0), .int a1, .int a2] M ad (QcI E base (fun r M1 ad1 => Q r M1 ∧ ad = ad1)) noX := by
  refine con_start (by decide) (Nat.le_of_ble_eq_true rfl) ?_
  intro p e s m args below meth c ls QQ hQQ CT hnx hW hl
  obtain ⟨⟨hx, hb, hml, hown, hts⟩, hr, hlocks, hnm, hT⟩ := CT
  have hS : va_S (fun q : Nat => base ≤ q) s.heap s.heap [] := va_S.rf
  have hl : lv_has ls 3 [(0, .ref (ad 5 0)), (1, .int a1), (2, .int a2)] := hl
  have L_21 : ∀ (M : Mem) (x1 : Int32) (x2 : Int32) (s0 : Int32), b_X5_blocks_21 Q M x1 x2 s0 → WL p l e rm_X5_blocks s m args below meth c QQ E base 3 M ad 21 [(0, .ref (ad 5 0)), (1, .int x1), (2, .int x2)] [.int s0, .ref (ad 5 0)] 0 0 := by
    intro M x1 x2 s0 hw H locs ls hW hS hl
    unfold b_X5_blocks_21 at hw
    obtain ⟨g_7, hw⟩ := hw
    refine k_I (rn_V (As := [.int s0]) (rest := []) (κ := 5) (i := 0) ⟨hx, hb, hml, hown, hts⟩ hT hW hS hl (c_X5_fits l E base M ad s0 _ hw) cy_X5_fits k_89 k_90 k_91 g_7 (by decide) rfl rfl rfl rfl ⟨(Nat.le_of_ble_eq_true rfl), (Nat.le_of_ble_eq_true rfl)⟩ rfl rfl (Nat.le_of_ble_eq_true rfl) dX5_blocks_21 ⟨(Nat.le_of_ble_eq_true rfl), (Nat.le_of_ble_eq_true rfl)⟩) hS kx_no (fun r_11 M_9 ad_10 H locs hP hW hS => ?_)
    obtain ⟨hw, rfl⟩ := hP
    refine lv_if_ne (tgt := 29) hx hb dX5_blocks_24 (by decide) (fun c_12 => ?_) (fun c_12 => ?_)
    · have hw := hw.2 c_12
      refine lv_aload_n hx hb dX5_blocks_29 rfl (lv_at hl 0 rfl) ?_
      obtain ⟨g_13, hw⟩ := hw
      obtain ⟨g_14, hw⟩ := hw
      refine r_getR (κ2 := 35) (i2 := 0) hx hb hts hown hT.1 hW clX5 5 (by decide) (hts _ k_17) (fun _ h9 => h9) 35 rfl rfl g_13 g_14 dX5_blocks_30 ?_
      refine lv_iload_n hx hb dX5_blocks_33 rfl (lv_at hl 1 rfl) ?_
      obtain ⟨g_15, hw⟩ := hw
      obtain ⟨g_16, hw⟩ := hw
      refine r_iald hx hb hT.1 hW (by decide) rfl (fun _ => rfl) 6 rfl g_16 g_15 dX5_blocks_34 ?_
      refine lv_iload_n hx hb dX5_blocks_35 rfl (lv_at hl 2 rfl) ?_
      refine k_I (rn_S (As := [.int (mI M_9 35 0 x1.toNatClampNeg), .int x2]) (rest := []) ⟨hx, hb, hml, hown, hts⟩ hT hW hS hl (c_X5_has l E base M_9 ad (mI M_9 35 0 x1.toNatClampNeg) x2 _ hw) cy_X5_has k_141 k_142 rfl rfl ⟨(Nat.le_of_ble_eq_true rfl), (Nat.le_of_ble_eq_true rfl)⟩ rfl rfl (Nat.le_of_ble_eq_true rfl) dX5_blocks_36 ⟨(Nat.le_of_ble_eq_true rfl), (Nat.le_of_ble_eq_true rfl)⟩) hS kx_no (fun r_20 M_18 ad_19 H locs hP hW hS => ?_)
      obtain ⟨hw, rfl⟩ := hP
      refine lv_if_eq (tgt := 47) hx hb dX5_blocks_39 (by decide) (fun c_21 => ?_) (fun c_21 => ?_)
      · have hw := hw.1 c_21
        refine lv_aload_n hx hb dX5_blocks_47 rfl (lv_at hl 0 rfl) ?_
        obtain ⟨g_22, hw⟩ := hw
        obtain ⟨g_23, hw⟩ := hw
        refine r_getR (κ2 := 40) (i2 := 0) hx hb hts hown hT.1 hW clX5 10 (by decide) (hts _ k_22) (fun _ h9 => h9) 40 rfl rfl g_22 g_23 dX5_blocks_48 ?_
        refine lv_iload_n hx hb dX5_blocks_51 rfl (lv_at hl 1 rfl) ?_
        refine lv_iload_n hx hb dX5_blocks_52 rfl (lv_at hl 2 rfl) ?_
        refine k_I (rn_S (As := [.int x1, .int x2]) (rest := [.ref (ad 40 0)]) ⟨hx, hb, hml, hown, hts⟩ hT hW hS hl (c_X5_at l E base M_18 ad x1 x2 _ hw) cy_X5_at k_278 k_279 rfl rfl ⟨(Nat.le_of_ble_eq_true rfl), (Nat.le_of_ble_eq_true rfl)⟩ rfl rfl (Nat.le_of_ble_eq_true rfl) dX5_blocks_53 ⟨(Nat.le_of_ble_eq_true rfl), (Nat.le_of_ble_eq_true rfl)⟩) hS kx_no (fun r_27 M_25 ad_26 H locs hP hW hS => ?_)
        obtain ⟨hw, rfl⟩ := hP
        obtain ⟨g_28, hw⟩ := hw
        obtain ⟨g_29, hw⟩ := hw
        refine r_iald hx hb hT.1 hW (by decide) rfl (fun _ => rfl) 72 rfl g_29 g_28 dX5_blocks_56 ?_
        rw [← hQQ]
        exact e_I hx hb hr hlocks hW hS (Nat.le_of_ble_eq_true rfl) (Nat.le_of_ble_eq_true rfl) dX5_blocks_57 ⟨hw, rfl⟩
      · have hw := hw.2 c_21
        refine lv_bipush (v := 15) hx hb dX5_blocks_42 (by decide) ?_
        refine lv_goto (tgt := 57) hx hb dX5_blocks_44 (by decide) ?_
        rw [← hQQ]
        exact e_I hx hb hr hlocks hW hS (Nat.le_of_ble_eq_true rfl) (Nat.le_of_ble_eq_true rfl) dX5_blocks_57 ⟨hw, rfl⟩
    · have hw := hw.1 c_12
      refine lv_iconst (v := 0) hx hb dX5_blocks_27 (by decide) ?_
      rw [← hQQ]
      exact e_I hx hb hr hlocks hW hS (Nat.le_of_ble_eq_true rfl) (Nat.le_of_ble_eq_true rfl) dX5_blocks_28 ⟨hw, rfl⟩
  have L_20 : ∀ (M : Mem) (x1 : Int32) (x2 : Int32), b_X5_blocks_20 Q M x1 x2 → WL p l e rm_X5_blocks s m args below meth c QQ E base 3 M ad 20 [(0, .ref (ad 5 0)), (1, .int x1), (2, .int x2)] [.ref (ad 5 0)] 0 0 := by
    intro M x1 x2 hw H locs ls hW hS hl
    unfold b_X5_blocks_20 at hw
    refine lv_iconst (v := 1) hx hb dX5_blocks_20 (by decide) ?_
    exact L_21 M x1 x2 1 hw H locs ls hW hS (lv_sub hl [0, 1, 2] rfl)
  unfold w_X5_blocks at hw
  obtain ⟨H, hH⟩ : ∃ z, z = s.heap := ⟨_, rfl⟩
  obtain ⟨locs, hlo⟩ : ∃ z : List Loc, z = [] := ⟨_, rfl⟩
  have hS : va_S (fun q : Nat => base ≤ q) s.heap H locs := by rw [hlo, hH]; exact hS
  have hW : Wd E base M ad H := by rw [hH]; exact hW
  rw [show W p l e rm_X5_blocks s m args below meth c s.heap [] 0 0 QQ (F0 m 0 ls []) = W p l e rm_X5_blocks s m args below meth c H locs 0 0 QQ (F0 m 0 ls []) by rw [hlo, hH]]
  refine lv_aload_n hx hb dX5_blocks_0 rfl (lv_at hl 0 rfl) ?_
  refine lv_aload_n hx hb dX5_blocks_1 rfl (lv_at hl 0 rfl) ?_
  refine lv_iload_n hx hb dX5_blocks_2 rfl (lv_at hl 1 rfl) ?_
  obtain ⟨g_1, hw⟩ := hw
  refine k_I (rn_V (As := [.int a1]) (rest := [.ref (ad 5 0)]) (κ := 5) (i := 0) ⟨hx, hb, hml, hown, hts⟩ hT hW hS hl (c_X5_isPeer l E base M ad a1 _ hw) cy_X5_isPeer k_112 k_113 k_114 g_1 (by decide) rfl rfl rfl rfl ⟨(Nat.le_of_ble_eq_true rfl), (Nat.le_of_ble_eq_true rfl)⟩ rfl rfl (Nat.le_of_ble_eq_true rfl) dX5_blocks_3 ⟨(Nat.le_of_ble_eq_true rfl), (Nat.le_of_ble_eq_true rfl)⟩) hS kx_no (fun r_5 M_3 ad_4 H locs hP hW hS => ?_)
  obtain ⟨hw, rfl⟩ := hP
  refine lv_if_eq (tgt := 20) hx hb dX5_blocks_6 (by decide) (fun c_6 => ?_) (fun c_6 => ?_)
  · have hw := hw.1 c_6
    exact L_20 M_3 a1 a2 hw H locs ls hW hS (lv_sub hl [0, 1, 2] rfl)
  · have hw := hw.2 c_6
    refine lv_iload_n hx hb dX5_blocks_9 rfl (lv_at hl 2 rfl) ?_
    refine k_I (rn_S (As := [.int a2]) (rest := [.ref (ad 5 0)]) ⟨hx, hb, hml, hown, hts⟩ hT hW hS hl (c_X5_isPiece l E base M_3 ad a2 _ hw) cy_X5_isPiece k_125 k_126 rfl rfl ⟨(Nat.le_of_ble_eq_true rfl), (Nat.le_of_ble_eq_true rfl)⟩ rfl rfl (Nat.le_of_ble_eq_true rfl) dX5_blocks_10 ⟨(Nat.le_of_ble_eq_true rfl), (Nat.le_of_ble_eq_true rfl)⟩) hS kx_no (fun r_33 M_31 ad_32 H locs hP hW hS => ?_)
    obtain ⟨hw, rfl⟩ := hP
    refine lv_if_eq (tgt := 20) hx hb dX5_blocks_13 (by decide) (fun c_34 => ?_) (fun c_34 => ?_)
    · have hw := hw.1 c_34
      exact L_20 M_31 a1 a2 hw H locs ls hW hS (lv_sub hl [0, 1, 2] rfl)
    · have hw := hw.2 c_34
      refine lv_iconst (v := 0) hx hb dX5_blocks_16 (by decide) ?_
      refine lv_goto (tgt := 21) hx hb dX5_blocks_17 (by decide) ?_
      exact L_21 M_31 a1 a2 0 hw H locs ls hW hS (lv_sub hl [0, 1, 2] rfl)
def rm_X4_holders : Room := { frames := 7, cells := 1, slots := 6, locals := 110 }
set_option maxHeartbeats 4000000 in
set_option maxRecDepth 100000 in
theorem c_X4_holders (l : Launch) (hlt : l.stackTraces = false) (E : GE) (base : Nat) (M : Mem) (ad : AD) (a1 : Int32) (Q : Int32 → Mem → Prop) (X : Nat → Mem → Prop) (hw : w_X4_holders M a1 Q X) : Con l yX4_holders cX4_holders 2 (some .int) rm_X4_holders 1 6 E base [.ref (ad 4 0), .int a1] M ad (QcI E base (fun r M1 ad1 => Q r M1 ∧ ad = ad1)) (fun k M1 ad1 => X k M1 ∧ ad = ad1) := by
  refine con_start (by decide) (Nat.le_of_ble_eq_true rfl) ?_
  intro p e s m args below meth c ls QQ hQQ CT hnx hW hl
  obtain ⟨⟨hx, hb, hml, hown, hts⟩, hr, hlocks, hnm, hT⟩ := CT
  have hS : va_S (fun q : Nat => base ≤ q) s.heap s.heap [] := va_S.rf
  have hl : lv_has ls 2 [(0, .ref (ad 4 0)), (1, .int a1)] := hl
  unfold w_X4_holders at hw
  obtain ⟨H, hH⟩ : ∃ z, z = s.heap := ⟨_, rfl⟩
  obtain ⟨locs, hlo⟩ : ∃ z : List Loc, z = [] := ⟨_, rfl⟩
  have hS : va_S (fun q : Nat => base ≤ q) s.heap H locs := by rw [hlo, hH]; exact hS
  have hW : Wd E base M ad H := by rw [hH]; exact hW
  rw [show W p l e rm_X4_holders s m args below meth c s.heap [] 0 0 QQ (F0 m 0 ls []) = W p l e rm_X4_holders s m args below meth c H locs 0 0 QQ (F0 m 0 ls []) by rw [hlo, hH]]
  refine lv_iload_n hx hb dX4_holders_0 rfl (lv_at hl 1 rfl) ?_
  refine k_V (rn_S (As := [.int a1]) (rest := []) ⟨hx, hb, hml, hown, hts⟩ hT hW hS hl (c_X4_checkPiece l hlt E base M ad a1 _ _ hw) cy_X4_checkPiece k_117 k_118 rfl rfl ⟨(Nat.le_of_ble_eq_true rfl), (Nat.le_of_ble_eq_true rfl)⟩ rfl rfl (Nat.le_of_ble_eq_true rfl) dX4_holders_1 ⟨(Nat.le_of_ble_eq_true rfl), (Nat.le_of_ble_eq_true rfl)⟩) hS (by rw [← hQQ]; exact kx_out hnx hlocks (Nat.le_of_ble_eq_true rfl) (Nat.le_of_ble_eq_true rfl) (fun _ _ _ h9 => h9)) (fun M_2 ad_3 H locs hP hW hS => ?_)
  obtain ⟨hw, rfl⟩ := hP
  refine lv_aload_n hx hb dX4_holders_4 rfl (lv_at hl 0 rfl) ?_
  refine lv_iload_n hx hb dX4_holders_5 rfl (lv_at hl 1 rfl) ?_
  obtain ⟨g_5, hw⟩ := hw
  refine k_I (rn_V (As := [.int a1]) (rest := []) (κ := 4) (i := 0) ⟨hx, hb, hml, hown, hts⟩ hT hW hS hl (c_X4_countHolders l E base M_2 ad a1 _ hw) cy_X4_countHolders k_143 k_144 k_145 g_5 (by decide) rfl rfl rfl rfl ⟨(Nat.le_of_ble_eq_true rfl), (Nat.le_of_ble_eq_true rfl)⟩ rfl rfl (Nat.le_of_ble_eq_true rfl) dX4_holders_6 ⟨(Nat.le_of_ble_eq_true rfl), (Nat.le_of_ble_eq_true rfl)⟩) hS kx_no (fun r_9 M_7 ad_8 H locs hP hW hS => ?_)
  obtain ⟨hw, rfl⟩ := hP
  rw [← hQQ]
  exact e_I hx hb hr hlocks hW hS (Nat.le_of_ble_eq_true rfl) (Nat.le_of_ble_eq_true rfl) dX4_holders_9 ⟨hw, rfl⟩
def rm_L_holders : Room := { frames := 8, cells := 1, slots := 6, locals := 131 }
set_option maxHeartbeats 4000000 in
set_option maxRecDepth 100000 in
theorem c_L_holders (l : Launch) (hlt : l.stackTraces = false) (E : GE) (base : Nat) (M : Mem) (ad : AD) (a1 : Int32) (Q : Int32 → Mem → Prop) (hw : w_L_holders M a1 Q) : ConW l yL_holders cL_holders 4 (some .int) [(0, 9, 12, 19)] rm_L_holders 1 6 E base [.ref (ad 4 0), .int a1, .ref (ad 60 0)] M ad (QcI E base (fun r M1 ad1 => Q r M1 ∧ ad = ad1)) noX := by
  refine conW_start (by decide) (Nat.le_of_ble_eq_true rfl) ?_
  intro p e s m args below meth c ls QQ hQQ CT htab hW hl
  obtain ⟨⟨hx, hb, hml, hown, hts⟩, hr, hlocks, hnm, hT⟩ := CT
  have hS : va_S (fun q : Nat => base ≤ q) s.heap s.heap [] := va_S.rf
  have hl : lv_has ls 4 [(0, .ref (ad 4 0)), (1, .int a1), (2, .ref (ad 60 0))] := hl
  unfold w_L_holders at hw
  obtain ⟨H, hH⟩ : ∃ z, z = s.heap := ⟨_, rfl⟩
  obtain ⟨locs, hlo⟩ : ∃ z : List Loc, z = [] := ⟨_, rfl⟩
  have hS : va_S (fun q : Nat => base ≤ q) s.heap H locs := by rw [hlo, hH]; exact hS
  have hW : Wd E base M ad H := by rw [hH]; exact hW
  rw [show W p l e rm_L_holders s m args below meth c s.heap [] 0 0 QQ (F0 m 0 ls []) = W p l e rm_L_holders s m args below meth c H locs 0 0 QQ (F0 m 0 ls []) by rw [hlo, hH]]
  refine lv_aload_n hx hb dL_holders_0 rfl (lv_at hl 2 rfl) ?_
  refine lv_iconst (v := 0) hx hb dL_holders_1 (by decide) ?_
  refine lv_aload_n hx hb dL_holders_2 rfl (lv_at hl 0 rfl) ?_
  refine lv_iload_n hx hb dL_holders_3 rfl (lv_at hl 1 rfl) ?_
  obtain ⟨g_1, hw⟩ := hw
  refine k_I (rn_V (As := [.int a1]) (rest := [.int 0, .ref (ad 60 0)]) (κ := 4) (i := 0) ⟨hx, hb, hml, hown, hts⟩ hT hW hS hl (c_X4_holders l hlt E base M ad a1 _ _ hw) cy_X4_holders k_324 k_325 k_326 g_1 (by decide) rfl rfl rfl rfl ⟨(Nat.le_of_ble_eq_true rfl), (Nat.le_of_ble_eq_true rfl)⟩ rfl rfl (Nat.le_of_ble_eq_true rfl) dL_holders_4 ⟨(Nat.le_of_ble_eq_true rfl), (Nat.le_of_ble_eq_true rfl)⟩) hS (fun k9 M_2 adx q9 ce9 H locs hP hW hS hce hcv hcl => ?_) (fun r_5 M_3 ad_4 H locs hP hW hS => ?_)
  · obtain ⟨hw, rfl⟩ := hP
    obtain ⟨rfl, hw⟩ := hw
    refine vx_catch (name := exN 1) (E := exN 1) hown [] ⟨0, 9, 12, 19⟩ [] (by rw [htab]; rfl) (fun z hz => nomatch hz) rfl (by decide) (hts _ k_111) (va_Nw.use rfl (hT.2.1 _ kn_3)) hce hcv hcl ?_
    refine lv_astore_n (lv' := [(3, .ref q9), (0, .ref (ad 4 0)), (1, .int a1), (2, .ref (ad 60 0))]) hx hb dL_holders_12 rfl hl (by decide) rfl (fun ls hl => ?_)
    refine lv_iconst (v := 1) hx hb dL_holders_13 (by decide) ?_
    rw [← hQQ]
    exact e_I hx hb hr hlocks hW hS (Nat.le_of_ble_eq_true rfl) (Nat.le_of_ble_eq_true rfl) dL_holders_14 ⟨hw, rfl⟩
  · obtain ⟨hw, rfl⟩ := hP
    refine lv_i2l hx hb dL_holders_7 rfl ?_
    obtain ⟨g_6, hw⟩ := hw
    obtain ⟨g_7, hw⟩ := hw
    refine r_last hx hb hT.1 hW hS (by decide) rfl (fun _ => rfl) 1 rfl g_7 g_6 dL_holders_8 (fun M_8 H locs hM_8 hW hS => ?_)
    have hw := hw M_8 hM_8
    refine lv_goto (tgt := 15) hx hb dL_holders_9 (by decide) ?_
    refine lv_iconst (v := 0) hx hb dL_holders_15 (by decide) ?_
    rw [← hQQ]
    exact e_I hx hb hr hlocks hW hS (Nat.le_of_ble_eq_true rfl) (Nat.le_of_ble_eq_true rfl) dL_holders_16 ⟨hw, rfl⟩
def rm_X5_holders : Room := { frames := 2, cells := 0, slots := 0, locals := 44 }
set_option maxHeartbeats 4000000 in
set_option maxRecDepth 100000 in
theorem c_X5_holders (l : Launch) (E : GE) (base : Nat) (M : Mem) (ad : AD) (a1 : Int32) (Q : Int32 → Mem → Prop) (hw : w_X5_holders M a1 Q) : Con l yX5_holders cX5_holders 2 (some .int) rm_X5_holders 0 0 E base [.ref (ad 5 0), .int a1] M ad (QcI E base (fun r M1 ad1 => Q r M1 ∧ ad = ad1)) noX := by
  refine con_start (by decide) (Nat.le_of_ble_eq_true rfl) ?_
  intro p e s m args below meth c ls QQ hQQ CT hnx hW hl
  obtain ⟨⟨hx, hb, hml, hown, hts⟩, hr, hlocks, hnm, hT⟩ := CT
  have hS : va_S (fun q : Nat => base ≤ q) s.heap s.heap [] := va_S.rf
  have hl : lv_has ls 2 [(0, .ref (ad 5 0)), (1, .int a1)] := hl
  have L_13 : ∀ (M : Mem) (x1 : Int32) (s0 : Int32), b_X5_holders_13 Q M x1 s0 → WL p l e rm_X5_holders s m args below meth c QQ E base 2 M ad 13 [(0, .ref (ad 5 0)), (1, .int x1)] [.int s0, .ref (ad 5 0)] 0 0 := by
    intro M x1 s0 hw H locs ls hW hS hl
    unfold b_X5_holders_13 at hw
    obtain ⟨g_6, hw⟩ := hw
    refine k_I (rn_V (As := [.int s0]) (rest := []) (κ := 5) (i := 0) ⟨hx, hb, hml, hown, hts⟩ hT hW hS hl (c_X5_fits l E base M ad s0 _ hw) cy_X5_fits k_89 k_90 k_91 g_6 (by decide) rfl rfl rfl rfl ⟨(Nat.le_of_ble_eq_true rfl), (Nat.le_of_ble_eq_true rfl)⟩ rfl rfl (Nat.le_of_ble_eq_true rfl) dX5_holders_13 ⟨(Nat.le_of_ble_eq_true rfl), (Nat.le_of_ble_eq_true rfl)⟩) hS kx_no (fun r_10 M_8 ad_9 H locs hP hW hS => ?_)
    obtain ⟨hw, rfl⟩ := hP
    refine lv_if_eq (tgt := 27) hx hb dX5_holders_16 (by decide) (fun c_11 => ?_) (fun c_11 => ?_)
    · have hw := hw.1 c_11
      refine lv_iconst (v := 0) hx hb dX5_holders_27 (by decide) ?_
      rw [← hQQ]
      exact e_I hx hb hr hlocks hW hS (Nat.le_of_ble_eq_true rfl) (Nat.le_of_ble_eq_true rfl) dX5_holders_28 ⟨hw, rfl⟩
    · have hw := hw.2 c_11
      refine lv_aload_n hx hb dX5_holders_19 rfl (lv_at hl 0 rfl) ?_
      refine lv_iload_n hx hb dX5_holders_20 rfl (lv_at hl 1 rfl) ?_
      obtain ⟨g_12, hw⟩ := hw
      refine k_I (rn_V (As := [.int x1]) (rest := []) (κ := 5) (i := 0) ⟨hx, hb, hml, hown, hts⟩ hT hW hS hl (c_X5_holdersOf l E base M_8 ad x1 _ hw) cy_X5_holdersOf k_260 k_261 k_262 g_12 (by decide) rfl rfl rfl rfl ⟨(Nat.le_of_ble_eq_true rfl), (Nat.le_of_ble_eq_true rfl)⟩ rfl rfl (Nat.le_of_ble_eq_true rfl) dX5_holders_21 ⟨(Nat.le_of_ble_eq_true rfl), (Nat.le_of_ble_eq_true rfl)⟩) hS kx_no (fun r_16 M_14 ad_15 H locs hP hW hS => ?_)
      obtain ⟨hw, rfl⟩ := hP
      refine lv_goto (tgt := 28) hx hb dX5_holders_24 (by decide) ?_
      rw [← hQQ]
      exact e_I hx hb hr hlocks hW hS (Nat.le_of_ble_eq_true rfl) (Nat.le_of_ble_eq_true rfl) dX5_holders_28 ⟨hw, rfl⟩
  unfold w_X5_holders at hw
  obtain ⟨H, hH⟩ : ∃ z, z = s.heap := ⟨_, rfl⟩
  obtain ⟨locs, hlo⟩ : ∃ z : List Loc, z = [] := ⟨_, rfl⟩
  have hS : va_S (fun q : Nat => base ≤ q) s.heap H locs := by rw [hlo, hH]; exact hS
  have hW : Wd E base M ad H := by rw [hH]; exact hW
  rw [show W p l e rm_X5_holders s m args below meth c s.heap [] 0 0 QQ (F0 m 0 ls []) = W p l e rm_X5_holders s m args below meth c H locs 0 0 QQ (F0 m 0 ls []) by rw [hlo, hH]]
  refine lv_aload_n hx hb dX5_holders_0 rfl (lv_at hl 0 rfl) ?_
  refine lv_iload_n hx hb dX5_holders_1 rfl (lv_at hl 1 rfl) ?_
  refine k_I (rn_S (As := [.int a1]) (rest := [.ref (ad 5 0)]) ⟨hx, hb, hml, hown, hts⟩ hT hW hS hl (c_X5_isPiece l E base M ad a1 _ hw) cy_X5_isPiece k_125 k_126 rfl rfl ⟨(Nat.le_of_ble_eq_true rfl), (Nat.le_of_ble_eq_true rfl)⟩ rfl rfl (Nat.le_of_ble_eq_true rfl) dX5_holders_2 ⟨(Nat.le_of_ble_eq_true rfl), (Nat.le_of_ble_eq_true rfl)⟩) hS kx_no (fun r_4 M_2 ad_3 H locs hP hW hS => ?_)
  obtain ⟨hw, rfl⟩ := hP
  refine lv_if_eq (tgt := 12) hx hb dX5_holders_5 (by decide) (fun c_5 => ?_) (fun c_5 => ?_)
  · have hw := hw.1 c_5
    refine lv_iconst (v := 1) hx hb dX5_holders_12 (by decide) ?_
    exact L_13 M_2 a1 1 hw H locs ls hW hS (lv_sub hl [0, 1] rfl)
  · have hw := hw.2 c_5
    refine lv_iconst (v := 0) hx hb dX5_holders_8 (by decide) ?_
    refine lv_goto (tgt := 13) hx hb dX5_holders_9 (by decide) ?_
    exact L_13 M_2 a1 0 hw H locs ls hW hS (lv_sub hl [0, 1] rfl)
def rm_X4_shown : Room := { frames := 7, cells := 2, slots := 12, locals := 112 }
set_option maxHeartbeats 4000000 in
set_option maxRecDepth 100000 in
theorem c_X4_shown (l : Launch) (hlt : l.stackTraces = false) (E : GE) (base : Nat) (M : Mem) (ad : AD) (a1 : Int32) (a2 : Int32) (Q : Int32 → Mem → Prop) (X : Nat → Mem → Prop) (hw : w_X4_shown M a1 a2 Q X) : Con l yX4_shown cX4_shown 3 (some .int) rm_X4_shown 2 12 E base [.ref (ad 4 0), .int a1, .int a2] M ad (QcI E base (fun r M1 ad1 => Q r M1 ∧ ad = ad1)) (fun k M1 ad1 => X k M1 ∧ ad = ad1) := by
  refine con_start (by decide) (Nat.le_of_ble_eq_true rfl) ?_
  intro p e s m args below meth c ls QQ hQQ CT hnx hW hl
  obtain ⟨⟨hx, hb, hml, hown, hts⟩, hr, hlocks, hnm, hT⟩ := CT
  have hS : va_S (fun q : Nat => base ≤ q) s.heap s.heap [] := va_S.rf
  have hl : lv_has ls 3 [(0, .ref (ad 4 0)), (1, .int a1), (2, .int a2)] := hl
  unfold w_X4_shown at hw
  obtain ⟨H, hH⟩ : ∃ z, z = s.heap := ⟨_, rfl⟩
  obtain ⟨locs, hlo⟩ : ∃ z : List Loc, z = [] := ⟨_, rfl⟩
  have hS : va_S (fun q : Nat => base ≤ q) s.heap H locs := by rw [hlo, hH]; exact hS
  have hW : Wd E base M ad H := by rw [hH]; exact hW
  rw [show W p l e rm_X4_shown s m args below meth c s.heap [] 0 0 QQ (F0 m 0 ls []) = W p l e rm_X4_shown s m args below meth c H locs 0 0 QQ (F0 m 0 ls []) by rw [hlo, hH]]
  refine lv_aload_n hx hb dX4_shown_0 rfl (lv_at hl 0 rfl) ?_
  refine lv_aload_n hx hb dX4_shown_1 rfl (lv_at hl 0 rfl) ?_
  refine lv_iload_n hx hb dX4_shown_2 rfl (lv_at hl 1 rfl) ?_
  obtain ⟨g_1, hw⟩ := hw
  refine k_Q (rn_V (As := [.int a1]) (rest := [.ref (ad 4 0)]) (κ := 4) (i := 0) ⟨hx, hb, hml, hown, hts⟩ hT hW hS hl (c_X4_known l hlt E base M ad a1 _ _ hw) cy_X4_known k_97 k_98 k_99 g_1 (by decide) rfl rfl rfl rfl ⟨(Nat.le_of_ble_eq_true rfl), (Nat.le_of_ble_eq_true rfl)⟩ rfl rfl (Nat.le_of_ble_eq_true rfl) dX4_shown_3 ⟨(Nat.le_of_ble_eq_true rfl), (Nat.le_of_ble_eq_true rfl)⟩) hS (by rw [← hQQ]; exact kx_out hnx hlocks (Nat.le_of_ble_eq_true rfl) (Nat.le_of_ble_eq_true rfl) (fun _ _ _ h9 => h9)) (fun M_3 ad_4 H locs hP hW hS => absurd hP (fun ⟨_, h9, _⟩ => by cases h9)) (fun r_5 M_3 ad_4 H locs hP hW hS => ?_)
  obtain ⟨_, h9, hw, rfl⟩ := hP
  cases h9
  refine lv_aload_n hx hb dX4_shown_6 rfl (lv_at hl 0 rfl) ?_
  refine lv_iload_n hx hb dX4_shown_7 rfl (lv_at hl 2 rfl) ?_
  obtain ⟨g_6, hw⟩ := hw
  refine k_Q (rn_V (As := [.int a2]) (rest := [.ref (ad 2 r_5), .ref (ad 4 0)]) (κ := 4) (i := 0) ⟨hx, hb, hml, hown, hts⟩ hT hW hS hl (c_X4_known l hlt E base M_3 ad a2 _ _ hw) cy_X4_known k_97 k_98 k_99 g_6 (by decide) rfl rfl rfl rfl ⟨(Nat.le_of_ble_eq_true rfl), (Nat.le_of_ble_eq_true rfl)⟩ rfl rfl (Nat.le_of_ble_eq_true rfl) dX4_shown_8 ⟨(Nat.le_of_ble_eq_true rfl), (Nat.le_of_ble_eq_true rfl)⟩) hS (by rw [← hQQ]; exact kx_out hnx hlocks (Nat.le_of_ble_eq_true rfl) (Nat.le_of_ble_eq_true rfl) (fun _ _ _ h9 => h9)) (fun M_8 ad_9 H locs hP hW hS => absurd hP (fun ⟨_, h9, _⟩ => by cases h9)) (fun r_10 M_8 ad_9 H locs hP hW hS => ?_)
  obtain ⟨_, h9, hw, rfl⟩ := hP
  cases h9
  obtain ⟨g_11, hw⟩ := hw
  refine k_I (rn_V (As := [.ref (ad 2 r_5), .ref (ad 2 r_10)]) (rest := []) (κ := 4) (i := 0) ⟨hx, hb, hml, hown, hts⟩ hT hW hS hl (c_X4_findShown l E base M_8 ad r_5 r_10 _ hw) cy_X4_findShown k_153 k_154 k_155 g_11 (by decide) rfl rfl rfl rfl ⟨(Nat.le_of_ble_eq_true rfl), (Nat.le_of_ble_eq_true rfl)⟩ rfl rfl (Nat.le_of_ble_eq_true rfl) dX4_shown_11 ⟨(Nat.le_of_ble_eq_true rfl), (Nat.le_of_ble_eq_true rfl)⟩) hS kx_no (fun r_15 M_13 ad_14 H locs hP hW hS => ?_)
  obtain ⟨hw, rfl⟩ := hP
  rw [← hQQ]
  exact e_I hx hb hr hlocks hW hS (Nat.le_of_ble_eq_true rfl) (Nat.le_of_ble_eq_true rfl) dX4_shown_14 ⟨hw, rfl⟩
def rm_L_shown : Room := { frames := 8, cells := 2, slots := 12, locals := 134 }
set_option maxHeartbeats 4000000 in
set_option maxRecDepth 100000 in
theorem c_L_shown (l : Launch) (hlt : l.stackTraces = false) (E : GE) (base : Nat) (M : Mem) (ad : AD) (a1 : Int32) (a2 : Int32) (Q : Int32 → Mem → Prop) (hw : w_L_shown M a1 a2 Q) : ConW l yL_shown cL_shown 5 (some .int) [(0, 10, 13, 19)] rm_L_shown 2 12 E base [.ref (ad 4 0), .int a1, .int a2, .ref (ad 60 0)] M ad (QcI E base (fun r M1 ad1 => Q r M1 ∧ ad = ad1)) noX := by
  refine conW_start (by decide) (Nat.le_of_ble_eq_true rfl) ?_
  intro p e s m args below meth c ls QQ hQQ CT htab hW hl
  obtain ⟨⟨hx, hb, hml, hown, hts⟩, hr, hlocks, hnm, hT⟩ := CT
  have hS : va_S (fun q : Nat => base ≤ q) s.heap s.heap [] := va_S.rf
  have hl : lv_has ls 5 [(0, .ref (ad 4 0)), (1, .int a1), (2, .int a2), (3, .ref (ad 60 0))] := hl
  unfold w_L_shown at hw
  obtain ⟨H, hH⟩ : ∃ z, z = s.heap := ⟨_, rfl⟩
  obtain ⟨locs, hlo⟩ : ∃ z : List Loc, z = [] := ⟨_, rfl⟩
  have hS : va_S (fun q : Nat => base ≤ q) s.heap H locs := by rw [hlo, hH]; exact hS
  have hW : Wd E base M ad H := by rw [hH]; exact hW
  rw [show W p l e rm_L_shown s m args below meth c s.heap [] 0 0 QQ (F0 m 0 ls []) = W p l e rm_L_shown s m args below meth c H locs 0 0 QQ (F0 m 0 ls []) by rw [hlo, hH]]
  refine lv_aload_n hx hb dL_shown_0 rfl (lv_at hl 3 rfl) ?_
  refine lv_iconst (v := 0) hx hb dL_shown_1 (by decide) ?_
  refine lv_aload_n hx hb dL_shown_2 rfl (lv_at hl 0 rfl) ?_
  refine lv_iload_n hx hb dL_shown_3 rfl (lv_at hl 1 rfl) ?_
  refine lv_iload_n hx hb dL_shown_4 rfl (lv_at hl 2 rfl) ?_
  obtain ⟨g_1, hw⟩ := hw
  refine k_I (rn_V (As := [.int a1, .int a2]) (rest := [.int 0, .ref (ad 60 0)]) (κ := 4) (i := 0) ⟨hx, hb, hml, hown, hts⟩ hT hW hS hl (c_X4_shown l hlt E base M ad a1 a2 _ _ hw) cy_X4_shown k_327 k_328 k_329 g_1 (by decide) rfl rfl rfl rfl ⟨(Nat.le_of_ble_eq_true rfl), (Nat.le_of_ble_eq_true rfl)⟩ rfl rfl (Nat.le_of_ble_eq_true rfl) dL_shown_5 ⟨(Nat.le_of_ble_eq_true rfl), (Nat.le_of_ble_eq_true rfl)⟩) hS (fun k9 M_2 adx q9 ce9 H locs hP hW hS hce hcv hcl => ?_) (fun r_5 M_3 ad_4 H locs hP hW hS => ?_)
  · obtain ⟨hw, rfl⟩ := hP
    obtain ⟨rfl, hw⟩ := hw
    refine vx_catch (name := exN 1) (E := exN 1) hown [] ⟨0, 10, 13, 19⟩ [] (by rw [htab]; rfl) (fun z hz => nomatch hz) rfl (by decide) (hts _ k_111) (va_Nw.use rfl (hT.2.1 _ kn_3)) hce hcv hcl ?_
    refine lv_astore (lv' := [(4, .ref q9), (0, .ref (ad 4 0)), (1, .int a1), (2, .int a2), (3, .ref (ad 60 0))]) hx hb dL_shown_13 hl (by decide) rfl (fun ls hl => ?_)
    refine lv_iconst (v := 1) hx hb dL_shown_15 (by decide) ?_
    rw [← hQQ]
    exact e_I hx hb hr hlocks hW hS (Nat.le_of_ble_eq_true rfl) (Nat.le_of_ble_eq_true rfl) dL_shown_16 ⟨hw, rfl⟩
  · obtain ⟨hw, rfl⟩ := hP
    refine lv_i2l hx hb dL_shown_8 rfl ?_
    obtain ⟨g_6, hw⟩ := hw
    obtain ⟨g_7, hw⟩ := hw
    refine r_last hx hb hT.1 hW hS (by decide) rfl (fun _ => rfl) 1 rfl g_7 g_6 dL_shown_9 (fun M_8 H locs hM_8 hW hS => ?_)
    have hw := hw M_8 hM_8
    refine lv_goto (tgt := 17) hx hb dL_shown_10 (by decide) ?_
    refine lv_iconst (v := 0) hx hb dL_shown_17 (by decide) ?_
    rw [← hQQ]
    exact e_I hx hb hr hlocks hW hS (Nat.le_of_ble_eq_true rfl) (Nat.le_of_ble_eq_true rfl) dL_shown_18 ⟨hw, rfl⟩
def rm_X5_arePeers : Room := { frames := 1, cells := 0, slots := 0, locals := 21 }
set_option maxHeartbeats 4000000 in
set_option maxRecDepth 100000 in
theorem c_X5_arePeers (l : Launch) (E : GE) (base : Nat) (M : Mem) (ad : AD) (a1 : Int32) (a2 : Int32) (Q : Int32 → Mem → Prop) (hw : w_X5_arePeers M a1 a2 Q) : Con l yX5_arePeers cX5_arePeers 3 (some .boolean) rm_X5_arePeers 0 0 E base [.ref (ad 5 0), .int a1, .int a2] M ad (QcI E base (fun r M1 ad1 => Q r M1 ∧ ad = ad1)) noX := by
  refine con_start (by decide) (Nat.le_of_ble_eq_true rfl) ?_
  intro p e s m args below meth c ls QQ hQQ CT hnx hW hl
  obtain ⟨⟨hx, hb, hml, hown, hts⟩, hr, hlocks, hnm, hT⟩ := CT
  have hS : va_S (fun q : Nat => base ≤ q) s.heap s.heap [] := va_S.rf
  have hl : lv_has ls 3 [(0, .ref (ad 5 0)), (1, .int a1), (2, .int a2)] := hl
  have L_22 : ∀ (M : Mem) (s0 : Int32), b_X5_arePeers_22 Q M s0 → WL p l e rm_X5_arePeers s m args below meth c QQ E base 3 M ad 22 [] [.int s0, .ref (ad 5 0)] 0 0 := by
    intro M s0 hw H locs ls hW hS hl
    unfold b_X5_arePeers_22 at hw
    obtain ⟨g_7, hw⟩ := hw
    refine k_I (rn_V (As := [.int s0]) (rest := []) (κ := 5) (i := 0) ⟨hx, hb, hml, hown, hts⟩ hT hW hS hl (c_X5_fits l E base M ad s0 _ hw) cy_X5_fits k_89 k_90 k_91 g_7 (by decide) rfl rfl rfl rfl ⟨(Nat.le_of_ble_eq_true rfl), (Nat.le_of_ble_eq_true rfl)⟩ rfl rfl (Nat.le_of_ble_eq_true rfl) dX5_arePeers_22 ⟨(Nat.le_of_ble_eq_true rfl), (Nat.le_of_ble_eq_true rfl)⟩) hS kx_no (fun r_11 M_9 ad_10 H locs hP hW hS => ?_)
    obtain ⟨hw, rfl⟩ := hP
    obtain ⟨g_12, hw⟩ := hw
    rw [← hQQ]
    exact e_Z hx hb hr hlocks hW hS (Nat.le_of_ble_eq_true rfl) (Nat.le_of_ble_eq_true rfl) dX5_arePeers_25 g_12 ⟨hw, rfl⟩
  have L_21 : ∀ (M : Mem) , b_X5_arePeers_21 Q M → WL p l e rm_X5_arePeers s m args below meth c QQ E base 3 M ad 21 [] [.ref (ad 5 0)] 0 0 := by
    intro M hw H locs ls hW hS hl
    unfold b_X5_arePeers_21 at hw
    refine lv_iconst (v := 1) hx hb dX5_arePeers_21 (by decide) ?_
    exact L_22 M 1 hw H locs ls hW hS (lv_sub hl [] rfl)
  unfold w_X5_arePeers at hw
  obtain ⟨H, hH⟩ : ∃ z, z = s.heap := ⟨_, rfl⟩
  obtain ⟨locs, hlo⟩ : ∃ z : List Loc, z = [] := ⟨_, rfl⟩
  have hS : va_S (fun q : Nat => base ≤ q) s.heap H locs := by rw [hlo, hH]; exact hS
  have hW : Wd E base M ad H := by rw [hH]; exact hW
  rw [show W p l e rm_X5_arePeers s m args below meth c s.heap [] 0 0 QQ (F0 m 0 ls []) = W p l e rm_X5_arePeers s m args below meth c H locs 0 0 QQ (F0 m 0 ls []) by rw [hlo, hH]]
  refine lv_aload_n hx hb dX5_arePeers_0 rfl (lv_at hl 0 rfl) ?_
  refine lv_aload_n hx hb dX5_arePeers_1 rfl (lv_at hl 0 rfl) ?_
  refine lv_iload_n hx hb dX5_arePeers_2 rfl (lv_at hl 1 rfl) ?_
  obtain ⟨g_1, hw⟩ := hw
  refine k_I (rn_V (As := [.int a1]) (rest := [.ref (ad 5 0)]) (κ := 5) (i := 0) ⟨hx, hb, hml, hown, hts⟩ hT hW hS hl (c_X5_isPeer l E base M ad a1 _ hw) cy_X5_isPeer k_112 k_113 k_114 g_1 (by decide) rfl rfl rfl rfl ⟨(Nat.le_of_ble_eq_true rfl), (Nat.le_of_ble_eq_true rfl)⟩ rfl rfl (Nat.le_of_ble_eq_true rfl) dX5_arePeers_3 ⟨(Nat.le_of_ble_eq_true rfl), (Nat.le_of_ble_eq_true rfl)⟩) hS kx_no (fun r_5 M_3 ad_4 H locs hP hW hS => ?_)
  obtain ⟨hw, rfl⟩ := hP
  refine lv_if_eq (tgt := 21) hx hb dX5_arePeers_6 (by decide) (fun c_6 => ?_) (fun c_6 => ?_)
  · have hw := hw.1 c_6
    exact L_21 M_3 hw H locs ls hW hS (lv_sub hl [] rfl)
  · have hw := hw.2 c_6
    refine lv_aload_n hx hb dX5_arePeers_9 rfl (lv_at hl 0 rfl) ?_
    refine lv_iload_n hx hb dX5_arePeers_10 rfl (lv_at hl 2 rfl) ?_
    obtain ⟨g_13, hw⟩ := hw
    refine k_I (rn_V (As := [.int a2]) (rest := [.ref (ad 5 0)]) (κ := 5) (i := 0) ⟨hx, hb, hml, hown, hts⟩ hT hW hS hl (c_X5_isPeer l E base M_3 ad a2 _ hw) cy_X5_isPeer k_112 k_113 k_114 g_13 (by decide) rfl rfl rfl rfl ⟨(Nat.le_of_ble_eq_true rfl), (Nat.le_of_ble_eq_true rfl)⟩ rfl rfl (Nat.le_of_ble_eq_true rfl) dX5_arePeers_11 ⟨(Nat.le_of_ble_eq_true rfl), (Nat.le_of_ble_eq_true rfl)⟩) hS kx_no (fun r_17 M_15 ad_16 H locs hP hW hS => ?_)
    obtain ⟨hw, rfl⟩ := hP
    refine lv_if_eq (tgt := 21) hx hb dX5_arePeers_14 (by decide) (fun c_18 => ?_) (fun c_18 => ?_)
    · have hw := hw.1 c_18
      exact L_21 M_15 hw H locs ls hW hS (lv_sub hl [] rfl)
    · have hw := hw.2 c_18
      refine lv_iconst (v := 0) hx hb dX5_arePeers_17 (by decide) ?_
      refine lv_goto (tgt := 22) hx hb dX5_arePeers_18 (by decide) ?_
      exact L_22 M_15 0 hw H locs ls hW hS (lv_sub hl [] rfl)
def rm_X5_shown : Room := { frames := 3, cells := 0, slots := 0, locals := 70 }
set_option maxHeartbeats 4000000 in
set_option maxRecDepth 100000 in
theorem c_X5_shown (l : Launch) (E : GE) (base : Nat) (M : Mem) (ad : AD) (a1 : Int32) (a2 : Int32) (Q : Int32 → Mem → Prop) (hw : w_X5_shown M a1 a2 Q) : Con l yX5_shown cX5_shown 3 (some .int) rm_X5_shown 0 0 E base [.ref (ad 5 0), .int a1, .int a2] M ad (QcI E base (fun r M1 ad1 => Q r M1 ∧ ad = ad1)) noX := by
  refine con_start (by decide) (Nat.le_of_ble_eq_true rfl) ?_
  intro p e s m args below meth c ls QQ hQQ CT hnx hW hl
  obtain ⟨⟨hx, hb, hml, hown, hts⟩, hr, hlocks, hnm, hT⟩ := CT
  have hS : va_S (fun q : Nat => base ≤ q) s.heap s.heap [] := va_S.rf
  have hl : lv_has ls 3 [(0, .ref (ad 5 0)), (1, .int a1), (2, .int a2)] := hl
  unfold w_X5_shown at hw
  obtain ⟨H, hH⟩ : ∃ z, z = s.heap := ⟨_, rfl⟩
  obtain ⟨locs, hlo⟩ : ∃ z : List Loc, z = [] := ⟨_, rfl⟩
  have hS : va_S (fun q : Nat => base ≤ q) s.heap H locs := by rw [hlo, hH]; exact hS
  have hW : Wd E base M ad H := by rw [hH]; exact hW
  rw [show W p l e rm_X5_shown s m args below meth c s.heap [] 0 0 QQ (F0 m 0 ls []) = W p l e rm_X5_shown s m args below meth c H locs 0 0 QQ (F0 m 0 ls []) by rw [hlo, hH]]
  refine lv_aload_n hx hb dX5_shown_0 rfl (lv_at hl 0 rfl) ?_
  refine lv_iload_n hx hb dX5_shown_1 rfl (lv_at hl 1 rfl) ?_
  refine lv_iload_n hx hb dX5_shown_2 rfl (lv_at hl 2 rfl) ?_
  obtain ⟨g_1, hw⟩ := hw
  refine k_I (rn_V (As := [.int a1, .int a2]) (rest := []) (κ := 5) (i := 0) ⟨hx, hb, hml, hown, hts⟩ hT hW hS hl (c_X5_arePeers l E base M ad a1 a2 _ hw) cy_X5_arePeers k_330 k_331 k_332 g_1 (by decide) rfl rfl rfl rfl ⟨(Nat.le_of_ble_eq_true rfl), (Nat.le_of_ble_eq_true rfl)⟩ rfl rfl (Nat.le_of_ble_eq_true rfl) dX5_shown_3 ⟨(Nat.le_of_ble_eq_true rfl), (Nat.le_of_ble_eq_true rfl)⟩) hS kx_no (fun r_5 M_3 ad_4 H locs hP hW hS => ?_)
  obtain ⟨hw, rfl⟩ := hP
  refine lv_if_eq (tgt := 18) hx hb dX5_shown_6 (by decide) (fun c_6 => ?_) (fun c_6 => ?_)
  · have hw := hw.1 c_6
    refine lv_iconst (v := 0) hx hb dX5_shown_18 (by decide) ?_
    rw [← hQQ]
    exact e_I hx hb hr hlocks hW hS (Nat.le_of_ble_eq_true rfl) (Nat.le_of_ble_eq_true rfl) dX5_shown_19 ⟨hw, rfl⟩
  · have hw := hw.2 c_6
    refine lv_aload_n hx hb dX5_shown_9 rfl (lv_at hl 0 rfl) ?_
    refine lv_iload_n hx hb dX5_shown_10 rfl (lv_at hl 1 rfl) ?_
    refine lv_iload_n hx hb dX5_shown_11 rfl (lv_at hl 2 rfl) ?_
    obtain ⟨g_7, hw⟩ := hw
    refine k_I (rn_V (As := [.int a1, .int a2]) (rest := []) (κ := 5) (i := 0) ⟨hx, hb, hml, hown, hts⟩ hT hW hS hl (c_X5_shownBy l E base M_3 ad a1 a2 _ hw) cy_X5_shownBy k_265 k_266 k_267 g_7 (by decide) rfl rfl rfl rfl ⟨(Nat.le_of_ble_eq_true rfl), (Nat.le_of_ble_eq_true rfl)⟩ rfl rfl (Nat.le_of_ble_eq_true rfl) dX5_shown_12 ⟨(Nat.le_of_ble_eq_true rfl), (Nat.le_of_ble_eq_true rfl)⟩) hS kx_no (fun r_11 M_9 ad_10 H locs hP hW hS => ?_)
    obtain ⟨hw, rfl⟩ := hP
    refine lv_goto (tgt := 19) hx hb dX5_shown_15 (by decide) ?_
    rw [← hQQ]
    exact e_I hx hb hr hlocks hW hS (Nat.le_of_ble_eq_true rfl) (Nat.le_of_ble_eq_true rfl) dX5_shown_19 ⟨hw, rfl⟩
