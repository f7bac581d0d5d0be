def rm_X1_replayHeld : Room := { frames := 3, cells := 1, slots := 3, locals := 62 }
def fr_X1_replayHeld : Nat → Nat → Bool := fun a b => (a == 3) && (b == 6)
set_option maxHeartbeats 4000000 in
set_option maxRecDepth 100000 in
theorem c_X1_replayHeld (l : Launch) (E : GE) (base : Nat) (M : Mem) (ad : AD) (t : Nat) (Q : Int32 → Mem → Prop) (hw : w_X1_replayHeld M t Q) : Con l yX1_replayHeld cX1_replayHeld 5 (some .int) rm_X1_replayHeld 1 3 E base [.ref (ad 1 t)] M ad (QcI E base (fun r M1 ad1 => Q r M1 ∧ AG fr_X1_replayHeld ad ad1)) noX := by
  refine con_start (by decide) (Nat.le_of_ble_eq_true rfl) ?_
  intro p e s m args below meth c ls QQ hQQ CT hnx hW hl
  obtain ⟨⟨hx, hb, hml, hown, hts⟩, hr, hlocks, hnm, hT⟩ := CT
  have hS : va_S (fun q : Nat => base ≤ q) s.heap s.heap [] := va_S.rf
  have hl : lv_has ls 5 [(0, .ref (ad 1 t))] := hl
  have L_73 : ∀ (k16 : Mem → Nat → Int32 → Int32 → Prop) (K16 : ∀ (ad9 : AD) (hag9 : AG fr_X1_replayHeld ad ad9) (M : Mem) (x0 : Nat) (x2 : Int32) (x3 : Int32), k16 M x0 x2 x3 → WL p l e rm_X1_replayHeld s m args below meth c QQ E base 5 M ad9 16 [(0, .ref (ad9 1 x0)), (1, .ref (ad9 3 6)), (2, .int x2), (3, .int x3)] [] 1 3) (ad9 : AD) (hag9 : AG fr_X1_replayHeld ad ad9) (M : Mem) (x0 : Nat) (x2 : Int32) (x3 : Int32) (s0 : Int32) (s1 : Int32), b_X1_replayHeld_73 k16 Q M x0 x2 x3 s0 s1 → WL p l e rm_X1_replayHeld s m args below meth c QQ E base 5 M ad9 73 [(0, .ref (ad9 1 x0)), (1, .ref (ad9 3 6)), (2, .int x2), (3, .int x3)] [.int s0, .int s1, .ref (ad9 3 6)] 1 3 := by
    intro k16 K16 ad9 hag9 M x0 x2 x3 s0 s1 hw H locs ls hW hS hl
    unfold b_X1_replayHeld_73 at hw
    obtain ⟨g_25, hw⟩ := hw
    refine k_I (rn_V (As := [.int s1, .int s0]) (rest := []) (κ := 3) (i := 6) ⟨hx, hb, hml, hown, hts⟩ hT hW hS hl (c_X3_take l E base M ad9 6 s1 s0 _ hw) cy_X3_take k_260 k_162 k_163 g_25 (by decide) rfl rfl rfl rfl ⟨(Nat.le_of_ble_eq_true rfl), (Nat.le_of_ble_eq_true rfl)⟩ rfl rfl (Nat.le_of_ble_eq_true rfl) dX1_replayHeld_73 ⟨(Nat.le_of_ble_eq_true rfl), (Nat.le_of_ble_eq_true rfl)⟩) hS kx_no (fun r_29 M_27 ad_28 H locs hP hW hS => ?_)
    obtain ⟨hw, rfl⟩ := hP
    refine lv_pop hx hb dX1_replayHeld_76 rfl ?_
    obtain ⟨v_30, ev_30⟩ : ∃ y : Int32, y = x3 + 1 := ⟨_, rfl⟩
    have hw := hw v_30 ev_30
    refine lv_iinc (v := v_30) (lv' := [(3, .int v_30), (0, .ref (ad9 1 x0)), (1, .ref (ad9 3 6)), (2, .int x2)]) hx hb dX1_replayHeld_77 hl (k := 3) rfl (by rw [ev_30]; rfl) (by decide) rfl (fun ls hl => ?_)
    refine lv_goto (tgt := 16) hx hb dX1_replayHeld_80 (by decide) ?_
    exact K16 ad9 hag9 M_27 x0 x2 v_30 hw H locs ls hW hS (lv_sub hl [1, 2, 3, 0] rfl)
  have L_51 : ∀ (k16 : Mem → Nat → Int32 → Int32 → Prop) (K16 : ∀ (ad9 : AD) (hag9 : AG fr_X1_replayHeld ad ad9) (M : Mem) (x0 : Nat) (x2 : Int32) (x3 : Int32), k16 M x0 x2 x3 → WL p l e rm_X1_replayHeld s m args below meth c QQ E base 5 M ad9 16 [(0, .ref (ad9 1 x0)), (1, .ref (ad9 3 6)), (2, .int x2), (3, .int x3)] [] 1 3) (ad9 : AD) (hag9 : AG fr_X1_replayHeld ad ad9) (M : Mem) (x0 : Nat) (x2 : Int32) (x3 : Int32) (x4 : Int32), b_X1_replayHeld_51 k16 Q M x0 x2 x3 x4 → WL p l e rm_X1_replayHeld s m args below meth c QQ E base 5 M ad9 51 [(0, .ref (ad9 1 x0)), (1, .ref (ad9 3 6)), (2, .int x2), (3, .int x3), (4, .int x4)] [] 1 3 := by
    intro k16 K16 ad9 hag9 M x0 x2 x3 x4 hw H locs ls hW hS hl
    unfold b_X1_replayHeld_51 at hw
    refine lv_aload_n hx hb dX1_replayHeld_51 rfl (lv_at hl 1 rfl) ?_
    refine lv_iload hx hb dX1_replayHeld_52 (lv_at hl 4 rfl) ?_
    refine lv_bipush (v := 48) hx hb dX1_replayHeld_54 (by decide) ?_
    refine lv_irem hx hb dX1_replayHeld_56 (by decide) ?_
    refine lv_iload hx hb dX1_replayHeld_57 (lv_at hl 4 rfl) ?_
    refine lv_bipush (v := 48) hx hb dX1_replayHeld_59 (by decide) ?_
    refine lv_idiv hx hb dX1_replayHeld_61 (by decide) ?_
    refine lv_iconst (v := 2) hx hb dX1_replayHeld_62 (by decide) ?_
    refine lv_irem hx hb dX1_replayHeld_63 (by decide) ?_
    refine lv_iconst (v := 1) hx hb dX1_replayHeld_64 (by decide) ?_
    refine lv_icmp_ne (tgt := 72) hx hb dX1_replayHeld_65 (by decide) (fun c_24 => ?_) (fun c_24 => ?_)
    · have hw := hw.2 c_24
      refine lv_iconst (v := 0) hx hb dX1_replayHeld_72 (by decide) ?_
      exact L_73 k16 K16 ad9 hag9 M x0 x2 x3 0 (x4 - x4 / 48 * 48) hw H locs ls hW hS (lv_sub hl [0, 1, 2, 3] rfl)
    · have hw := hw.1 c_24
      refine lv_iconst (v := 1) hx hb dX1_replayHeld_68 (by decide) ?_
      refine lv_goto (tgt := 73) hx hb dX1_replayHeld_69 (by decide) ?_
      exact L_73 k16 K16 ad9 hag9 M x0 x2 x3 1 (x4 - x4 / 48 * 48) hw H locs ls hW hS (lv_sub hl [0, 1, 2, 3] rfl)
  have L_16 : ∀ (n : Nat) (ad9 : AD) (hag9 : AG fr_X1_replayHeld ad ad9) (M : Mem) (x0 : Nat) (x2 : Int32) (x3 : Int32), l_X1_replayHeld_16 Q n M x0 x2 x3 → WL p l e rm_X1_replayHeld s m args below meth c QQ E base 5 M ad9 16 [(0, .ref (ad9 1 x0)), (1, .ref (ad9 3 6)), (2, .int x2), (3, .int x3)] [] 1 3 := by
    intro n
    induction n with
    | zero => intro ad9 hag9 M x0 x2 x3 hw; exact False.elim hw
    | succ n K16 =>
      intro ad9 hag9 M x0 x2 x3 hw H locs ls hW hS hl
      obtain ⟨k16, hk16⟩ : ∃ z, z = l_X1_replayHeld_16 Q n := ⟨_, rfl⟩
      have hw : b_X1_replayHeld_16 Q k16 M x0 x2 x3 := by rw [hk16]; exact hw
      rw [← hk16] at K16
      unfold b_X1_replayHeld_16 at hw
      refine lv_iload_n hx hb dX1_replayHeld_16 rfl (lv_at hl 3 rfl) ?_
      refine lv_aload_n hx hb dX1_replayHeld_17 rfl (lv_at hl 0 rfl) ?_
      obtain ⟨g_11, hw⟩ := hw
      refine r_getI hx hb hts hown hT.1 hW clX1 2 (by decide) (hts _ k_38) (fun _ h9 => h9) rfl g_11 dX1_replayHeld_18 ?_
      refine lv_icmp_ge (tgt := 83) hx hb dX1_replayHeld_21 (by decide) (fun c_12 => ?_) (fun c_12 => ?_)
      · have hw := hw.1 c_12
        refine lv_aload_n hx hb dX1_replayHeld_83 rfl (lv_at hl 1 rfl) ?_
        obtain ⟨g_13, hw⟩ := hw
        refine k_V (rn_V (As := []) (rest := []) (κ := 3) (i := 6) ⟨hx, hb, hml, hown, hts⟩ hT hW hS hl (c_X3_endPieces l E base M ad9 6 _ hw) cy_X3_endPieces k_258 k_183 k_184 g_13 (by decide) rfl rfl rfl rfl ⟨(Nat.le_of_ble_eq_true rfl), (Nat.le_of_ble_eq_true rfl)⟩ rfl rfl (Nat.le_of_ble_eq_true rfl) dX1_replayHeld_84 ⟨(Nat.le_of_ble_eq_true rfl), (Nat.le_of_ble_eq_true rfl)⟩) hS kx_no (fun M_15 ad_16 H locs hP hW hS => ?_)
        obtain ⟨hw, rfl⟩ := hP
        refine lv_aload_n hx hb dX1_replayHeld_87 rfl (lv_at hl 1 rfl) ?_
        obtain ⟨g_18, hw⟩ := hw
        refine r_getI hx hb hts hown hT.1 hW clX3 0 (by decide) (hts _ k_259) (fun _ h9 => h9) rfl g_18 dX1_replayHeld_88 ?_
        obtain ⟨g_d, hw⟩ := hw
        have hW := Wd.drop hW g_d
        rw [← hQQ]
        exact e_I hx hb hr hlocks hW hS (Nat.le_of_ble_eq_true rfl) (Nat.le_of_ble_eq_true rfl) dX1_replayHeld_91 ⟨hw, hag9⟩
      · have hw := hw.2 c_12
        refine lv_aload_n hx hb dX1_replayHeld_24 rfl (lv_at hl 0 rfl) ?_
        obtain ⟨g_19, hw⟩ := hw
        refine r_getR (κ2 := 22) (i2 := x0) hx hb hts hown hT.1 hW clX1 1 (by decide) (hts _ k_37) (fun _ h9 => h9) 22 rfl rfl g_11 g_19 dX1_replayHeld_25 ?_
        refine lv_iload_n hx hb dX1_replayHeld_28 rfl (lv_at hl 3 rfl) ?_
        obtain ⟨g_20, hw⟩ := hw
        obtain ⟨g_21, hw⟩ := hw
        refine r_iald hx hb hT.1 hW (by decide) rfl (fun _ => rfl) 1000 rfl g_21 g_20 dX1_replayHeld_29 ?_
        refine lv_topi (fun v_22 ev_22 => ?_)
        have hw := hw v_22 ev_22
        refine lv_istore (lv' := [(4, .int v_22), (0, .ref (ad9 1 x0)), (1, .ref (ad9 3 6)), (2, .int x2), (3, .int x3)]) hx hb dX1_replayHeld_30 hl (by decide) rfl (fun ls hl => ?_)
        refine lv_iload hx hb dX1_replayHeld_32 (lv_at hl 0 rfl) ?_
        refine lv_bipush (v := 96) hx hb dX1_replayHeld_34 (by decide) ?_
        refine lv_idiv hx hb dX1_replayHeld_36 (by decide) ?_
        refine lv_iload_n hx hb dX1_replayHeld_37 rfl (lv_at hl 3 rfl) ?_
        refine lv_icmp_eq (tgt := 51) hx hb dX1_replayHeld_38 (by decide) (fun c_23 => ?_) (fun c_23 => ?_)
        · have hw := hw.1 c_23
          exact L_51 k16 K16 ad9 hag9 M x0 x2 x3 v_22 hw H locs ls hW hS (lv_sub hl [1, 2, 3, 4, 0] rfl)
        · have hw := hw.2 c_23
          refine lv_aload_n hx hb dX1_replayHeld_41 rfl (lv_at hl 2 rfl) ?_
          obtain ⟨g_31, hw⟩ := hw
          refine k_V (rn_V (As := []) (rest := []) (κ := 3) (i := 6) ⟨hx, hb, hml, hown, hts⟩ hT hW hS hl (c_X3_endPieces l E base M ad9 6 _ hw) cy_X3_endPieces k_258 k_183 k_184 g_31 (by decide) rfl rfl rfl rfl ⟨(Nat.le_of_ble_eq_true rfl), (Nat.le_of_ble_eq_true rfl)⟩ rfl rfl (Nat.le_of_ble_eq_true rfl) dX1_replayHeld_42 ⟨(Nat.le_of_ble_eq_true rfl), (Nat.le_of_ble_eq_true rfl)⟩) hS kx_no (fun M_33 ad_34 H locs hP hW hS => ?_)
          obtain ⟨hw, rfl⟩ := hP
          refine lv_iload hx hb dX1_replayHeld_45 (lv_at hl 0 rfl) ?_
          refine lv_bipush (v := 96) hx hb dX1_replayHeld_47 (by decide) ?_
          refine lv_idiv hx hb dX1_replayHeld_49 (by decide) ?_
          refine lv_topi (fun v_36 ev_36 => ?_)
          have hw := hw v_36 ev_36
          refine lv_istore_n (lv' := [(2, .int v_36), (4, .int v_22), (0, .ref (ad9 1 x0)), (1, .ref (ad9 3 6)), (3, .int x3)]) hx hb dX1_replayHeld_50 rfl hl (by decide) rfl (fun ls hl => ?_)
          exact L_51 k16 K16 ad9 hag9 M_33 x0 v_36 x3 v_22 hw H locs ls hW hS (lv_sub hl [2, 3, 0, 4, 1] rfl)
  unfold w_X1_replayHeld at hw
  obtain ⟨H, hH⟩ : ∃ z, z = s.heap := ⟨_, rfl⟩
  obtain ⟨locs, hlo⟩ : ∃ z : List Loc, z = [] := ⟨_, rfl⟩
  have hS : va_S (fun q : Nat => base ≤ q) s.heap H locs := by rw [hlo, hH]; exact hS
  have hW : Wd E base M ad H := by rw [hH]; exact hW
  rw [show W p l e rm_X1_replayHeld s m args below meth c s.heap [] 0 0 QQ (F0 m 0 ls []) = W p l e rm_X1_replayHeld s m args below meth c H locs 0 0 QQ (F0 m 0 ls []) by rw [hlo, hH]]
  obtain ⟨g_1, hw⟩ := hw
  refine r_new (dv := fun _ => .null) hx hb hts hown (hts _ k_256) (hts _ k_59) (hts _ k_60) hT.1 hW hS hT.2.2.2.2.2.2.2 clX3 tyX3 tyX3_ok (by decide) (Nat.le_of_ble_eq_true rfl) (Nat.le_of_ble_eq_true rfl) g_1 dX1_replayHeld_0 (fun q_2 M_3 ad_4 H hM_3 had_4 hW hS => ?_)
  have hw := hw M_3 hM_3
  rw [upA_ne (a := 1) (b := t) had_4 (by decide)] at hl
  have g_5 : mE M_3 3 6 = true := mE_wN1 hM_3
  refine lv_dup hx hb dX1_replayHeld_3 rfl ?_
  refine lv_aload_n hx hb dX1_replayHeld_4 rfl (lv_at hl 0 rfl) ?_
  obtain ⟨g_6, hw⟩ := hw
  refine r_getI hx hb hts hown hT.1 hW clX1 0 (by decide) (hts _ k_39) (fun _ h9 => h9) rfl g_6 dX1_replayHeld_5 ?_
  refine k_V (rn_I (As := [.int (mI M_3 1 t 0)]) (rest := [.ref (ad_4 3 6)]) (κ := 3) (i := 6) ⟨hx, hb, hml, hown, hts⟩ hT hW hS hl (c_X3_init l E base M_3 ad_4 6 (mI M_3 1 t 0) _ hw) cy_X3_init rfl k_257 k_62 rfl rfl ⟨(Nat.le_of_ble_eq_true rfl), (Nat.le_of_ble_eq_true rfl)⟩ rfl rfl (Nat.le_of_ble_eq_true rfl) dX1_replayHeld_8 ⟨(Nat.le_of_ble_eq_true rfl), (Nat.le_of_ble_eq_true rfl)⟩) hS kx_no (fun M_8 ad_9 H locs hP hW hS => ?_)
  obtain ⟨hw, rfl⟩ := hP
  refine lv_astore_n (lv' := [(1, .ref (ad_4 3 6)), (0, .ref (ad_4 1 t))]) hx hb dX1_replayHeld_11 rfl hl (by decide) rfl (fun ls hl => ?_)
  refine lv_iconst (v := 0) hx hb dX1_replayHeld_12 (by decide) ?_
  refine lv_istore_n (lv' := [(2, .int 0), (1, .ref (ad_4 3 6)), (0, .ref (ad_4 1 t))]) hx hb dX1_replayHeld_13 rfl hl (by decide) rfl (fun ls hl => ?_)
  refine lv_iconst (v := 0) hx hb dX1_replayHeld_14 (by decide) ?_
  refine lv_istore_n (lv' := [(3, .int 0), (2, .int 0), (1, .ref (ad_4 3 6)), (0, .ref (ad_4 1 t))]) hx hb dX1_replayHeld_15 rfl hl (by decide) rfl (fun ls hl => ?_)
  obtain ⟨n9, hw⟩ := hw
  exact L_16 n9 ad_4 (AG_new AG_refl rfl had_4) M_8 t 0 0 hw H locs ls hW hS (lv_sub hl [3, 2, 1, 0] rfl)
def rm_X4_holdsByLog : Room := { frames := 7, cells := 2, slots := 9, locals := 112 }
def fr_X4_holdsByLog : Nat → Nat → Bool := fun a b => (a == 3) && (b == 6)
set_option maxHeartbeats 4000000 in
set_option maxRecDepth 100000 in
theorem c_X4_holdsByLog (l : Launch) (hlt : l.stackTraces = false) (E : GE) (base : Nat) (M : Mem) (ad : AD) (a1 : Int32) (Q : Int32 → Mem → Prop) (X : Nat → Mem → Prop) (hw : w_X4_holdsByLog M a1 Q X) : Con l yX4_holdsByLog cX4_holdsByLog 2 (some .int) rm_X4_holdsByLog 2 9 E base [.ref (ad 4 0), .int a1] M ad (QcI E base (fun r M1 ad1 => Q r M1 ∧ AG fr_X4_holdsByLog ad ad1)) (fun k M1 ad1 => X k M1 ∧ AG fr_X4_holdsByLog ad ad1) := by
  refine con_start (by decide) (Nat.le_of_ble_eq_true rfl) ?_
  intro p e s m args below meth c ls QQ hQQ CT hnx hW hl
  obtain ⟨⟨hx, hb, hml, hown, hts⟩, hr, hlocks, hnm, hT⟩ := CT
  have hS : va_S (fun q : Nat => base ≤ q) s.heap s.heap [] := va_S.rf
  have hl : lv_has ls 2 [(0, .ref (ad 4 0)), (1, .int a1)] := hl
  unfold w_X4_holdsByLog at hw
  obtain ⟨H, hH⟩ : ∃ z, z = s.heap := ⟨_, rfl⟩
  obtain ⟨locs, hlo⟩ : ∃ z : List Loc, z = [] := ⟨_, rfl⟩
  have hS : va_S (fun q : Nat => base ≤ q) s.heap H locs := by rw [hlo, hH]; exact hS
  have hW : Wd E base M ad H := by rw [hH]; exact hW
  rw [show W p l e rm_X4_holdsByLog s m args below meth c s.heap [] 0 0 QQ (F0 m 0 ls []) = W p l e rm_X4_holdsByLog s m args below meth c H locs 0 0 QQ (F0 m 0 ls []) by rw [hlo, hH]]
  refine lv_aload_n hx hb dX4_holdsByLog_0 rfl (lv_at hl 0 rfl) ?_
  refine lv_iload_n hx hb dX4_holdsByLog_1 rfl (lv_at hl 1 rfl) ?_
  obtain ⟨g_1, hw⟩ := hw
  refine k_Q (rn_V (As := [.int a1]) (rest := []) (κ := 4) (i := 0) ⟨hx, hb, hml, hown, hts⟩ hT hW hS hl (c_X4_known l hlt E base M ad a1 _ _ hw) cy_X4_known k_79 k_80 k_81 g_1 (by decide) rfl rfl rfl rfl ⟨(Nat.le_of_ble_eq_true rfl), (Nat.le_of_ble_eq_true rfl)⟩ rfl rfl (Nat.le_of_ble_eq_true rfl) dX4_holdsByLog_2 ⟨(Nat.le_of_ble_eq_true rfl), (Nat.le_of_ble_eq_true rfl)⟩) hS (by rw [← hQQ]; exact kx_out hnx hlocks (Nat.le_of_ble_eq_true rfl) (Nat.le_of_ble_eq_true rfl) (fun _ _ _ h9 => ⟨h9.1, AG_call AG_refl (AG_eq h9.2) (fun _ _ h => rfl)⟩)) (fun M_3 ad_4 H locs hP hW hS => absurd hP (fun ⟨_, h9, _⟩ => by cases h9)) (fun r_5 M_3 ad_4 H locs hP hW hS => ?_)
  obtain ⟨_, h9, hw, rfl⟩ := hP
  cases h9
  obtain ⟨g_6, hw⟩ := hw
  obtain ⟨g_7, hw⟩ := hw
  refine r_getR (κ2 := 1) (i2 := r_5) hx hb hts hown hT.1 hW clX2 2 (by decide) (hts _ k_157) (fun _ h9 => h9) 1 rfl rfl g_6 g_7 dX4_holdsByLog_5 ?_
  obtain ⟨g_8, hw⟩ := hw
  refine k_I (rn_V (As := []) (rest := []) (κ := 1) (i := r_5) ⟨hx, hb, hml, hown, hts⟩ hT hW hS hl (c_X1_replayHeld l E base M_3 ad r_5 _ hw) cy_X1_replayHeld k_261 k_262 k_263 g_8 (by decide) rfl rfl rfl rfl ⟨(Nat.le_of_ble_eq_true rfl), (Nat.le_of_ble_eq_true rfl)⟩ rfl rfl (Nat.le_of_ble_eq_true rfl) dX4_holdsByLog_8 ⟨(Nat.le_of_ble_eq_true rfl), (Nat.le_of_ble_eq_true rfl)⟩) hS kx_no (fun r_12 M_10 ad_11 H locs hP hW hS => ?_)
  obtain ⟨hw, hag⟩ := hP
  have hag_13 := hag
  rw [hag_13 4 0 (by rfl)] at hl
  rw [← hQQ]
  exact e_I hx hb hr hlocks hW hS (Nat.le_of_ble_eq_true rfl) (Nat.le_of_ble_eq_true rfl) dX4_holdsByLog_11 ⟨hw, (AG_call AG_refl hag_13 (fun a b h => h))⟩
def rm_X4_blocks : Room := { frames := 7, cells := 2, slots := 12, locals := 112 }
set_option maxHeartbeats 4000000 in
set_option maxRecDepth 100000 in
theorem c_X4_blocks (l : Launch) (hlt : l.stackTraces = false) (E : GE) (base : Nat) (M : Mem) (ad : AD) (a1 : Int32) (a2 : Int32) (Q : Int32 → Mem → Prop) (X : Nat → Mem → Prop) (hw : w_X4_blocks M a1 a2 Q X) : Con l yX4_blocks cX4_blocks 4 (some .int) rm_X4_blocks 2 12 E base [.ref (ad 4 0), .int a1, .int a2] M ad (QcI E base (fun r M1 ad1 => Q r M1 ∧ ad = ad1)) (fun k M1 ad1 => X k M1 ∧ ad = ad1) := by
  refine con_start (by decide) (Nat.le_of_ble_eq_true rfl) ?_
  intro p e s m args below meth c ls QQ hQQ CT hnx hW hl
  obtain ⟨⟨hx, hb, hml, hown, hts⟩, hr, hlocks, hnm, hT⟩ := CT
  have hS : va_S (fun q : Nat => base ≤ q) s.heap s.heap [] := va_S.rf
  have hl : lv_has ls 4 [(0, .ref (ad 4 0)), (1, .int a1), (2, .int a2)] := hl
  unfold w_X4_blocks at hw
  obtain ⟨H, hH⟩ : ∃ z, z = s.heap := ⟨_, rfl⟩
  obtain ⟨locs, hlo⟩ : ∃ z : List Loc, z = [] := ⟨_, rfl⟩
  have hS : va_S (fun q : Nat => base ≤ q) s.heap H locs := by rw [hlo, hH]; exact hS
  have hW : Wd E base M ad H := by rw [hH]; exact hW
  rw [show W p l e rm_X4_blocks s m args below meth c s.heap [] 0 0 QQ (F0 m 0 ls []) = W p l e rm_X4_blocks s m args below meth c H locs 0 0 QQ (F0 m 0 ls []) by rw [hlo, hH]]
  refine lv_aload_n hx hb dX4_blocks_0 rfl (lv_at hl 0 rfl) ?_
  refine lv_iload_n hx hb dX4_blocks_1 rfl (lv_at hl 1 rfl) ?_
  obtain ⟨g_1, hw⟩ := hw
  refine k_Q (rn_V (As := [.int a1]) (rest := []) (κ := 4) (i := 0) ⟨hx, hb, hml, hown, hts⟩ hT hW hS hl (c_X4_known l hlt E base M ad a1 _ _ hw) cy_X4_known k_79 k_80 k_81 g_1 (by decide) rfl rfl rfl rfl ⟨(Nat.le_of_ble_eq_true rfl), (Nat.le_of_ble_eq_true rfl)⟩ rfl rfl (Nat.le_of_ble_eq_true rfl) dX4_blocks_2 ⟨(Nat.le_of_ble_eq_true rfl), (Nat.le_of_ble_eq_true rfl)⟩) hS (by rw [← hQQ]; exact kx_out hnx hlocks (Nat.le_of_ble_eq_true rfl) (Nat.le_of_ble_eq_true rfl) (fun _ _ _ h9 => h9)) (fun M_3 ad_4 H locs hP hW hS => absurd hP (fun ⟨_, h9, _⟩ => by cases h9)) (fun r_5 M_3 ad_4 H locs hP hW hS => ?_)
  obtain ⟨_, h9, hw, rfl⟩ := hP
  cases h9
  obtain ⟨g_6, hw⟩ := hw
  obtain ⟨g_7, hw⟩ := hw
  refine r_getR (κ2 := 3) (i2 := r_5) hx hb hts hown hT.1 hW clX2 1 (by decide) (hts _ k_15) (fun _ h9 => h9) 3 rfl rfl g_6 g_7 dX4_blocks_5 ?_
  refine lv_astore_n (lv' := [(3, .ref (ad 3 r_5)), (0, .ref (ad 4 0)), (1, .int a1), (2, .int a2)]) hx hb dX4_blocks_8 rfl hl (by decide) rfl (fun ls hl => ?_)
  refine lv_iload_n hx hb dX4_blocks_9 rfl (lv_at hl 3 rfl) ?_
  refine k_V (rn_S (As := [.int a2]) (rest := []) ⟨hx, hb, hml, hown, hts⟩ hT hW hS hl (c_X4_checkPiece l hlt E base M_3 ad a2 _ _ hw) cy_X4_checkPiece k_19 k_20 rfl rfl ⟨(Nat.le_of_ble_eq_true rfl), (Nat.le_of_ble_eq_true rfl)⟩ rfl rfl (Nat.le_of_ble_eq_true rfl) dX4_blocks_10 ⟨(Nat.le_of_ble_eq_true rfl), (Nat.le_of_ble_eq_true rfl)⟩) hS (by rw [← hQQ]; exact kx_out hnx hlocks (Nat.le_of_ble_eq_true rfl) (Nat.le_of_ble_eq_true rfl) (fun _ _ _ h9 => h9)) (fun M_9 ad_10 H locs hP hW hS => ?_)
  obtain ⟨hw, rfl⟩ := hP
  refine lv_aload_n hx hb dX4_blocks_13 rfl (lv_at hl 0 rfl) ?_
  obtain ⟨g_12, hw⟩ := hw
  refine r_getI hx hb hts hown hT.1 hW clX3 0 (by decide) (hts _ k_16) (fun _ h9 => h9) rfl g_12 dX4_blocks_14 ?_
  refine lv_i2l hx hb dX4_blocks_17 rfl ?_
  refine lv_iload_n hx hb dX4_blocks_18 rfl (lv_at hl 3 rfl) ?_
  refine k_I (rn_S (As := [.long ((mI M_9 3 r_5 0).toInt64), .int a2]) (rest := []) ⟨hx, hb, hml, hown, hts⟩ hT hW hS hl (c_X4_isIn l E base M_9 ad ((mI M_9 3 r_5 0).toInt64) a2 _ hw) cy_X4_isIn k_17 k_18 rfl rfl ⟨(Nat.le_of_ble_eq_true rfl), (Nat.le_of_ble_eq_true rfl)⟩ rfl rfl (Nat.le_of_ble_eq_true rfl) dX4_blocks_19 ⟨(Nat.le_of_ble_eq_true rfl), (Nat.le_of_ble_eq_true rfl)⟩) hS kx_no (fun r_16 M_14 ad_15 H locs hP hW hS => ?_)
  obtain ⟨hw, rfl⟩ := hP
  refine lv_if_eq (tgt := 28) hx hb dX4_blocks_22 (by decide) (fun c_17 => ?_) (fun c_17 => ?_)
  · have hw := hw.1 c_17
    refine lv_aload_n hx hb dX4_blocks_28 rfl (lv_at hl 0 rfl) ?_
    obtain ⟨g_18, hw⟩ := hw
    refine r_getL hx hb hts hown hT.1 hW clX3 1 (by decide) (hts _ k_133) (fun _ h9 => h9) rfl g_18 dX4_blocks_29 ?_
    refine lv_iload_n hx hb dX4_blocks_32 rfl (lv_at hl 3 rfl) ?_
    refine lv_iconst (v := 4) hx hb dX4_blocks_33 (by decide) ?_
    refine lv_imul hx hb dX4_blocks_34 ?_
    refine lv_lshr hx hb dX4_blocks_35 rfl ?_
    refine lv_l2i hx hb dX4_blocks_36 rfl ?_
    refine lv_bipush (v := 15) hx hb dX4_blocks_37 (by decide) ?_
    refine lv_iand hx hb dX4_blocks_39 ?_
    rw [← hQQ]
    exact e_I hx hb hr hlocks hW hS (Nat.le_of_ble_eq_true rfl) (Nat.le_of_ble_eq_true rfl) dX4_blocks_40 ⟨hw, rfl⟩
  · have hw := hw.2 c_17
    refine lv_bipush (v := 15) hx hb dX4_blocks_25 (by decide) ?_
    rw [← hQQ]
    exact e_I hx hb hr hlocks hW hS (Nat.le_of_ble_eq_true rfl) (Nat.le_of_ble_eq_true rfl) dX4_blocks_27 ⟨hw, rfl⟩
def rm_L_areHeld : Room := { frames := 9, cells := 2600, slots := 15600, locals := 162 }
def fr_L_areHeld : Nat → Nat → Bool := fun a b => ((a == 3) && (b == 6)) || (a == 62)
set_option maxHeartbeats 4000000 in
set_option maxRecDepth 100000 in
theorem c_L_areHeld (l : Launch) (hlt : l.stackTraces = false) (E : GE) (base : Nat) (M : Mem) (ad : AD)  (Q : Int32 → Mem → Prop) (X : Nat → Mem → Prop) (hw : w_L_areHeld M  Q X) : Con l yL_areHeld cL_areHeld 9 (some .boolean) rm_L_areHeld 2600 15600 E base [.ref (ad 4 0), .ref (ad 61 0)] M ad (QcI E base (fun r M1 ad1 => Q r M1 ∧ AG fr_L_areHeld ad ad1)) (fun k M1 ad1 => X k M1 ∧ AG fr_L_areHeld ad ad1) := by
  refine con_start (by decide) (Nat.le_of_ble_eq_true rfl) ?_
  intro p e s m args below meth c ls QQ hQQ CT hnx hW hl
  obtain ⟨⟨hx, hb, hml, hown, hts⟩, hr, hlocks, hnm, hT⟩ := CT
  have hS : va_S (fun q : Nat => base ≤ q) s.heap s.heap [] := va_S.rf
  have hl : lv_has ls 9 [(0, .ref (ad 4 0)), (1, .ref (ad 61 0))] := hl
  have L_286 : ∀ (k257 : Mem → Nat → Int32 → Int32 → Prop) (K257 : ∀ (ad9 : AD) (hag9 : AG fr_L_areHeld ad ad9) (M : Mem) (it : Nat) (x2 : Int32) (x4 : Int32), k257 M it x2 x4 → WL p l e rm_L_areHeld s m args below meth c QQ E base 9 M ad9 257 [(0, .ref (ad9 4 0)), (2, .int x2), (3, .ref (ad9 62 0)), (4, .int x4)] [] (20 + 20 * it + 0) (120 + 120 * it + 0)) (ad9 : AD) (hag9 : AG fr_L_areHeld ad ad9) (M : Mem) (it : Nat) (x4 : Int32) (s0 : Int32), b_L_areHeld_286 k257 Q X M it x4 s0 → WL p l e rm_L_areHeld s m args below meth c QQ E base 9 M ad9 286 [(0, .ref (ad9 4 0)), (3, .ref (ad9 62 0)), (4, .int x4)] [.int s0] (20 + 20 * it + 1) (120 + 120 * it + 6) := by
    intro k257 K257 ad9 hag9 M it x4 s0 hw H locs ls hW hS hl
    unfold b_L_areHeld_286 at hw
    obtain ⟨hit, hw⟩ := hw
    refine lv_istore_n (lv' := [(2, .int s0), (0, .ref (ad9 4 0)), (3, .ref (ad9 62 0)), (4, .int x4)]) hx hb dL_areHeld_286 rfl hl (by decide) rfl (fun ls hl => ?_)
    obtain ⟨v_32, ev_32⟩ : ∃ y : Int32, y = x4 + 1 := ⟨_, rfl⟩
    have hw := hw v_32 ev_32
    refine lv_iinc (v := v_32) (lv' := [(4, .int v_32), (2, .int s0), (0, .ref (ad9 4 0)), (3, .ref (ad9 62 0))]) hx hb dL_areHeld_287 hl (k := 3) rfl (by rw [ev_32]; rfl) (by decide) rfl (fun ls hl => ?_)
    refine lv_goto (tgt := 257) hx hb dL_areHeld_290 (by decide) ?_
    refine W.widen (k := 20 + 20 * (it + 1) + 0) (n := 120 + 120 * (it + 1) + 0) (by omega) (by omega) ?_
    exact K257 ad9 hag9 M (it + 1) s0 v_32 hw H locs ls hW hS (lv_sub hl [2, 1, 3, 0] rfl)
  have L_257 : ∀ (n : Nat) (ad9 : AD) (hag9 : AG fr_L_areHeld ad ad9) (M : Mem) (it : Nat) (x2 : Int32) (x4 : Int32), l_L_areHeld_257 Q X n M it x2 x4 → WL p l e rm_L_areHeld s m args below meth c QQ E base 9 M ad9 257 [(0, .ref (ad9 4 0)), (2, .int x2), (3, .ref (ad9 62 0)), (4, .int x4)] [] (20 + 20 * it + 0) (120 + 120 * it + 0) := by
    intro n
    induction n with
    | zero => intro ad9 hag9 M it x2 x4 hw; exact False.elim hw
    | succ n K257 =>
      intro ad9 hag9 M it x2 x4 hw H locs ls hW hS hl
      obtain ⟨k257, hk257⟩ : ∃ z, z = l_L_areHeld_257 Q X n := ⟨_, rfl⟩
      have hw : b_L_areHeld_257 Q X k257 M it x2 x4 := by rw [hk257]; exact hw
      rw [← hk257] at K257
      unfold b_L_areHeld_257 at hw
      obtain ⟨hit, hw⟩ := hw
      refine lv_iload hx hb dL_areHeld_257 (lv_at hl 3 rfl) ?_
      refine lv_bipush (v := 12) hx hb dL_areHeld_259 (by decide) ?_
      refine lv_icmp_ge (tgt := 293) hx hb dL_areHeld_261 (by decide) (fun c_20 => ?_) (fun c_20 => ?_)
      · have hw := hw.1 c_20
        refine lv_iload_n hx hb dL_areHeld_293 rfl (lv_at hl 1 rfl) ?_
        obtain ⟨g_21, hw⟩ := hw
        have hW := Wd.drop hW (fun a b k _ _ _ => kR62 a b k)
        rw [← hQQ]
        exact e_Z hx hb hr hlocks hW hS (by omega) (by omega) dL_areHeld_294 g_21 ⟨hw, hag9⟩
      · have hw := hw.2 c_20
        refine lv_iload_n hx hb dL_areHeld_264 rfl (lv_at hl 1 rfl) ?_
        refine lv_if_eq (tgt := 293) hx hb dL_areHeld_265 (by decide) (fun c_22 => ?_) (fun c_22 => ?_)
        · have hw := hw.1 c_22
          refine lv_iload_n hx hb dL_areHeld_293 rfl (lv_at hl 1 rfl) ?_
          obtain ⟨g_23, hw⟩ := hw
          have hW := Wd.drop hW (fun a b k _ _ _ => kR62 a b k)
          rw [← hQQ]
          exact e_Z hx hb hr hlocks hW hS (by omega) (by omega) dL_areHeld_294 g_23 ⟨hw, hag9⟩
        · have hw := hw.2 c_22
          refine lv_aload_n hx hb dL_areHeld_268 rfl (lv_at hl 0 rfl) ?_
          refine lv_iload hx hb dL_areHeld_269 (lv_at hl 3 rfl) ?_
          obtain ⟨g_24, hw⟩ := hw
          refine k_I (rn_V (As := [.int x4]) (rest := []) (κ := 4) (i := 0) ⟨hx, hb, hml, hown, hts⟩ hT hW hS hl (c_X4_holders l hlt E base M ad9 x4 _ _ hw) cy_X4_holders k_264 k_265 k_266 g_24 (by decide) rfl rfl rfl rfl ⟨(Nat.le_of_ble_eq_true rfl), (Nat.le_of_ble_eq_true rfl)⟩ rfl rfl (Nat.le_of_ble_eq_true rfl) dL_areHeld_271 ⟨by show _ + 1 ≤ 2600; omega, by show _ + 6 ≤ 15600; omega⟩) hS (by rw [← hQQ]; exact kx_out hnx hlocks (by omega) (by omega) (fun _ _ _ h9 => ⟨h9.1, AG_call hag9 (AG_eq h9.2) (fun _ _ h => rfl)⟩)) (fun r_28 M_26 ad_27 H locs hP hW hS => ?_)
          obtain ⟨hw, rfl⟩ := hP
          refine lv_aload_n hx hb dL_areHeld_274 rfl (lv_at hl 2 rfl) ?_
          refine lv_iload hx hb dL_areHeld_275 (lv_at hl 3 rfl) ?_
          obtain ⟨g_29, hw⟩ := hw
          obtain ⟨g_30, hw⟩ := hw
          refine r_iald hx hb hT.1 hW (by decide) rfl (fun _ => rfl) 12 rfl g_30 g_29 dL_areHeld_277 ?_
          refine lv_icmp_ne (tgt := 285) hx hb dL_areHeld_278 (by decide) (fun c_31 => ?_) (fun c_31 => ?_)
          · have hw := hw.2 c_31
            refine lv_iconst (v := 0) hx hb dL_areHeld_285 (by decide) ?_
            refine W.widen (k := 20 + 20 * it + 1) (n := 120 + 120 * it + 6) (by omega) (by omega) ?_
            exact L_286 k257 K257 ad9 hag9 M_26 it x4 0 hw H locs ls hW hS (lv_sub hl [0, 2, 3] rfl)
          · have hw := hw.1 c_31
            refine lv_iconst (v := 1) hx hb dL_areHeld_281 (by decide) ?_
            refine lv_goto (tgt := 286) hx hb dL_areHeld_282 (by decide) ?_
            refine W.widen (k := 20 + 20 * it + 1) (n := 120 + 120 * it + 6) (by omega) (by omega) ?_
            exact L_286 k257 K257 ad9 hag9 M_26 it x4 1 hw H locs ls hW hS (lv_sub hl [0, 2, 3] rfl)
  have L_254 : ∀ (ad9 : AD) (hag9 : AG fr_L_areHeld ad ad9) (M : Mem) (it : Nat) (x2 : Int32), b_L_areHeld_254 Q X M it x2 → WL p l e rm_L_areHeld s m args below meth c QQ E base 9 M ad9 254 [(0, .ref (ad9 4 0)), (2, .int x2), (3, .ref (ad9 62 0))] [] (20 + 20 * it + 0) (120 + 120 * it + 0) := by
    intro ad9 hag9 M it x2 hw H locs ls hW hS hl
    unfold b_L_areHeld_254 at hw
    obtain ⟨hit, hw⟩ := hw
    refine lv_iconst (v := 0) hx hb dL_areHeld_254 (by decide) ?_
    refine lv_istore (lv' := [(4, .int 0), (0, .ref (ad9 4 0)), (2, .int x2), (3, .ref (ad9 62 0))]) hx hb dL_areHeld_255 hl (by decide) rfl (fun ls hl => ?_)
    refine W.widen (k := 20 + 20 * (it + 1) + 0) (n := 120 + 120 * (it + 1) + 0) (by omega) (by omega) ?_
    obtain ⟨n9, hw⟩ := hw
    exact L_257 n9 ad9 hag9 M (it + 1) x2 0 hw H locs ls hW hS (lv_sub hl [1, 2, 3, 0] rfl)
  have L_247 : ∀ (k209 : Mem → Nat → Int32 → Int32 → Prop) (K209 : ∀ (ad9 : AD) (hag9 : AG fr_L_areHeld ad ad9) (M : Mem) (it : Nat) (x2 : Int32) (x4 : Int32), k209 M it x2 x4 → WL p l e rm_L_areHeld s m args below meth c QQ E base 9 M ad9 209 [(0, .ref (ad9 4 0)), (1, .ref (ad9 61 0)), (2, .int x2), (3, .ref (ad9 62 0)), (4, .int x4)] [] (20 + 20 * it + 0) (120 + 120 * it + 0)) (ad9 : AD) (hag9 : AG fr_L_areHeld ad ad9) (M : Mem) (it : Nat) (x4 : Int32) (s0 : Int32), b_L_areHeld_247 k209 Q X M it x4 s0 → WL p l e rm_L_areHeld s m args below meth c QQ E base 9 M ad9 247 [(0, .ref (ad9 4 0)), (1, .ref (ad9 61 0)), (3, .ref (ad9 62 0)), (4, .int x4)] [.int s0] (20 + 20 * it + 20) (120 + 120 * it + 120) := by
    intro k209 K209 ad9 hag9 M it x4 s0 hw H locs ls hW hS hl
    unfold b_L_areHeld_247 at hw
    obtain ⟨hit, hw⟩ := hw
    refine lv_istore_n (lv' := [(2, .int s0), (0, .ref (ad9 4 0)), (1, .ref (ad9 61 0)), (3, .ref (ad9 62 0)), (4, .int x4)]) hx hb dL_areHeld_247 rfl hl (by decide) rfl (fun ls hl => ?_)
    obtain ⟨v_36, ev_36⟩ : ∃ y : Int32, y = x4 + 1 := ⟨_, rfl⟩
    have hw := hw v_36 ev_36
    refine lv_iinc (v := v_36) (lv' := [(4, .int v_36), (2, .int s0), (0, .ref (ad9 4 0)), (1, .ref (ad9 61 0)), (3, .ref (ad9 62 0))]) hx hb dL_areHeld_248 hl (k := 4) rfl (by rw [ev_36]; rfl) (by decide) rfl (fun ls hl => ?_)
    refine lv_goto (tgt := 209) hx hb dL_areHeld_251 (by decide) ?_
    refine W.widen (k := 20 + 20 * (it + 1) + 0) (n := 120 + 120 * (it + 1) + 0) (by omega) (by omega) ?_
    exact K209 ad9 hag9 M (it + 1) s0 v_36 hw H locs ls hW hS (lv_sub hl [2, 3, 1, 4, 0] rfl)
  have L_242 : ∀ (k209 : Mem → Nat → Int32 → Int32 → Prop) (K209 : ∀ (ad9 : AD) (hag9 : AG fr_L_areHeld ad ad9) (M : Mem) (it : Nat) (x2 : Int32) (x4 : Int32), k209 M it x2 x4 → WL p l e rm_L_areHeld s m args below meth c QQ E base 9 M ad9 209 [(0, .ref (ad9 4 0)), (1, .ref (ad9 61 0)), (2, .int x2), (3, .ref (ad9 62 0)), (4, .int x4)] [] (20 + 20 * it + 0) (120 + 120 * it + 0)) (ad9 : AD) (hag9 : AG fr_L_areHeld ad ad9) (M : Mem) (it : Nat) (x4 : Int32), b_L_areHeld_242 k209 Q X M it x4 → WL p l e rm_L_areHeld s m args below meth c QQ E base 9 M ad9 242 [(0, .ref (ad9 4 0)), (1, .ref (ad9 61 0)), (3, .ref (ad9 62 0)), (4, .int x4)] [] (20 + 20 * it + 20) (120 + 120 * it + 120) := by
    intro k209 K209 ad9 hag9 M it x4 hw H locs ls hW hS hl
    unfold b_L_areHeld_242 at hw
    obtain ⟨hit, hw⟩ := hw
    refine lv_iconst (v := 1) hx hb dL_areHeld_242 (by decide) ?_
    refine lv_goto (tgt := 247) hx hb dL_areHeld_243 (by decide) ?_
    refine W.widen (k := 20 + 20 * it + 20) (n := 120 + 120 * it + 120) (by omega) (by omega) ?_
    exact L_247 k209 K209 ad9 hag9 M it x4 1 hw H locs ls hW hS (lv_sub hl [0, 1, 2, 3] rfl)
  have L_209 : ∀ (n : Nat) (ad9 : AD) (hag9 : AG fr_L_areHeld ad ad9) (M : Mem) (it : Nat) (x2 : Int32) (x4 : Int32), l_L_areHeld_209 Q X n M it x2 x4 → WL p l e rm_L_areHeld s m args below meth c QQ E base 9 M ad9 209 [(0, .ref (ad9 4 0)), (1, .ref (ad9 61 0)), (2, .int x2), (3, .ref (ad9 62 0)), (4, .int x4)] [] (20 + 20 * it + 0) (120 + 120 * it + 0) := by
    intro n
    induction n with
    | zero => intro ad9 hag9 M it x2 x4 hw; exact False.elim hw
    | succ n K209 =>
      intro ad9 hag9 M it x2 x4 hw H locs ls hW hS hl
      obtain ⟨k209, hk209⟩ : ∃ z, z = l_L_areHeld_209 Q X n := ⟨_, rfl⟩
      have hw : b_L_areHeld_209 Q X k209 M it x2 x4 := by rw [hk209]; exact hw
      rw [← hk209] at K209
      unfold b_L_areHeld_209 at hw
      obtain ⟨hit, hw⟩ := hw
      refine lv_iload hx hb dL_areHeld_209 (lv_at hl 4 rfl) ?_
      refine lv_aload_n hx hb dL_areHeld_211 rfl (lv_at hl 1 rfl) ?_
      refine lv_iconst (v := 0) hx hb dL_areHeld_212 (by decide) ?_
      obtain ⟨g_17, hw⟩ := hw
      obtain ⟨g_18, hw⟩ := hw
      refine r_iald hx hb hT.1 hW (by decide) rfl (fun _ => rfl) 29 rfl g_18 g_17 dL_areHeld_213 ?_
      refine lv_icmp_ge (tgt := 254) hx hb dL_areHeld_214 (by decide) (fun c_19 => ?_) (fun c_19 => ?_)
      · have hw := hw.1 c_19
        refine W.widen (k := 20 + 20 * it + 0) (n := 120 + 120 * it + 0) (by omega) (by omega) ?_
        exact L_254 ad9 hag9 M it x2 hw H locs ls hW hS (lv_sub hl [0, 2, 3] rfl)
      · have hw := hw.2 c_19
        refine lv_iload_n hx hb dL_areHeld_217 rfl (lv_at hl 2 rfl) ?_
        refine lv_if_eq (tgt := 254) hx hb dL_areHeld_218 (by decide) (fun c_33 => ?_) (fun c_33 => ?_)
        · have hw := hw.1 c_33
          refine W.widen (k := 20 + 20 * it + 0) (n := 120 + 120 * it + 0) (by omega) (by omega) ?_
          exact L_254 ad9 hag9 M it x2 hw H locs ls hW hS (lv_sub hl [0, 2, 3] rfl)
        · have hw := hw.2 c_33
          refine lv_aload_n hx hb dL_areHeld_221 rfl (lv_at hl 1 rfl) ?_
          refine lv_iconst (v := 1) hx hb dL_areHeld_222 (by decide) ?_
          obtain ⟨g_34, hw⟩ := hw
          refine r_iald hx hb hT.1 hW (by decide) rfl (fun _ => rfl) 29 rfl g_34 g_17 dL_areHeld_223 ?_
          refine lv_iload hx hb dL_areHeld_224 (lv_at hl 4 rfl) ?_
          refine lv_ishr hx hb dL_areHeld_226 ?_
          refine lv_iconst (v := 1) hx hb dL_areHeld_227 (by decide) ?_
          refine lv_iand hx hb dL_areHeld_228 ?_
          refine lv_if_eq (tgt := 242) hx hb dL_areHeld_229 (by decide) (fun c_35 => ?_) (fun c_35 => ?_)
          · have hw := hw.1 c_35
            refine W.widen (k := 20 + 20 * it + 20) (n := 120 + 120 * it + 120) (by omega) (by omega) ?_
            exact L_242 k209 K209 ad9 hag9 M it x4 hw H locs ls hW hS (lv_sub hl [0, 1, 3, 4] rfl)
          · have hw := hw.2 c_35
            refine lv_aload_n hx hb dL_areHeld_232 rfl (lv_at hl 0 rfl) ?_
            refine lv_aload_n hx hb dL_areHeld_233 rfl (lv_at hl 1 rfl) ?_
            refine lv_iload hx hb dL_areHeld_234 (lv_at hl 4 rfl) ?_
            refine k_I (rn_S (As := [.ref (ad9 4 0), .ref (ad9 61 0), .int x4]) (rest := []) ⟨hx, hb, hml, hown, hts⟩ hT hW hS hl (c_L_areShown l hlt E base M ad9 x4 _ _ hw) cy_L_areShown k_249 k_250 rfl rfl ⟨(Nat.le_of_ble_eq_true rfl), (Nat.le_of_ble_eq_true rfl)⟩ rfl rfl (Nat.le_of_ble_eq_true rfl) dL_areHeld_236 ⟨by show _ + 20 ≤ 2600; omega, by show _ + 120 ≤ 15600; omega⟩) hS (by rw [← hQQ]; exact kx_out hnx hlocks (by omega) (by omega) (fun _ _ _ h9 => ⟨h9.1, AG_call hag9 (AG_eq h9.2) (fun _ _ h => rfl)⟩)) (fun r_40 M_38 ad_39 H locs hP hW hS => ?_)
            obtain ⟨hw, rfl⟩ := hP
            refine lv_if_eq (tgt := 246) hx hb dL_areHeld_239 (by decide) (fun c_41 => ?_) (fun c_41 => ?_)
            · have hw := hw.1 c_41
              refine lv_iconst (v := 0) hx hb dL_areHeld_246 (by decide) ?_
              refine W.widen (k := 20 + 20 * it + 20) (n := 120 + 120 * it + 120) (by omega) (by omega) ?_
              exact L_247 k209 K209 ad9 hag9 M_38 it x4 0 hw H locs ls hW hS (lv_sub hl [0, 1, 3, 4] rfl)
            · have hw := hw.2 c_41
              refine W.widen (k := 20 + 20 * it + 20) (n := 120 + 120 * it + 120) (by omega) (by omega) ?_
              exact L_242 k209 K209 ad9 hag9 M_38 it x4 hw H locs ls hW hS (lv_sub hl [0, 1, 3, 4] rfl)
  have L_206 : ∀ (ad9 : AD) (hag9 : AG fr_L_areHeld ad ad9) (M : Mem) (it : Nat) (x2 : Int32), b_L_areHeld_206 Q X M it x2 → WL p l e rm_L_areHeld s m args below meth c QQ E base 9 M ad9 206 [(0, .ref (ad9 4 0)), (1, .ref (ad9 61 0)), (2, .int x2), (3, .ref (ad9 62 0))] [] (20 + 20 * it + 0) (120 + 120 * it + 0) := by
    intro ad9 hag9 M it x2 hw H locs ls hW hS hl
    unfold b_L_areHeld_206 at hw
    obtain ⟨hit, hw⟩ := hw
    refine lv_iconst (v := 0) hx hb dL_areHeld_206 (by decide) ?_
    refine lv_istore (lv' := [(4, .int 0), (0, .ref (ad9 4 0)), (1, .ref (ad9 61 0)), (2, .int x2), (3, .ref (ad9 62 0))]) hx hb dL_areHeld_207 hl (by decide) rfl (fun ls hl => ?_)
    refine W.widen (k := 20 + 20 * (it + 1) + 0) (n := 120 + 120 * (it + 1) + 0) (by omega) (by omega) ?_
    obtain ⟨n9, hw⟩ := hw
    exact L_209 n9 ad9 hag9 M (it + 1) x2 0 hw H locs ls hW hS (lv_sub hl [1, 2, 3, 4, 0] rfl)
  have L_200 : ∀ (k24 : Mem → Nat → Int32 → Int32 → Prop) (K24 : ∀ (ad9 : AD) (hag9 : AG fr_L_areHeld ad ad9) (M : Mem) (it : Nat) (x2 : Int32) (x4 : Int32), k24 M it x2 x4 → WL p l e rm_L_areHeld s m args below meth c QQ E base 9 M ad9 24 [(0, .ref (ad9 4 0)), (1, .ref (ad9 61 0)), (2, .int x2), (3, .ref (ad9 62 0)), (4, .int x4)] [] (20 + 20 * it + 0) (120 + 120 * it + 0)) (ad9 : AD) (hag9 : AG fr_L_areHeld ad ad9) (M : Mem) (it : Nat) (x2 : Int32) (x4 : Int32), b_L_areHeld_200 k24 Q X M it x2 x4 → WL p l e rm_L_areHeld s m args below meth c QQ E base 9 M ad9 200 [(0, .ref (ad9 4 0)), (1, .ref (ad9 61 0)), (2, .int x2), (3, .ref (ad9 62 0)), (4, .int x4)] [] (20 + 20 * it + 0) (120 + 120 * it + 0) := by
    intro k24 K24 ad9 hag9 M it x2 x4 hw H locs ls hW hS hl
    unfold b_L_areHeld_200 at hw
    obtain ⟨hit, hw⟩ := hw
    obtain ⟨v_45, ev_45⟩ : ∃ y : Int32, y = x4 + 1 := ⟨_, rfl⟩
    have hw := hw v_45 ev_45
    refine lv_iinc (v := v_45) (lv' := [(4, .int v_45), (0, .ref (ad9 4 0)), (1, .ref (ad9 61 0)), (2, .int x2), (3, .ref (ad9 62 0))]) hx hb dL_areHeld_200 hl (k := 4) rfl (by rw [ev_45]; rfl) (by decide) rfl (fun ls hl => ?_)
    refine lv_goto (tgt := 24) hx hb dL_areHeld_203 (by decide) ?_
    refine W.widen (k := 20 + 20 * (it + 1) + 0) (n := 120 + 120 * (it + 1) + 0) (by omega) (by omega) ?_
    exact K24 ad9 hag9 M (it + 1) x2 v_45 hw H locs ls hW hS (lv_sub hl [1, 2, 3, 4, 0] rfl)
  have L_193 : ∀ (k24 : Mem → Nat → Int32 → Int32 → Prop) (K24 : ∀ (ad9 : AD) (hag9 : AG fr_L_areHeld ad ad9) (M : Mem) (it : Nat) (x2 : Int32) (x4 : Int32), k24 M it x2 x4 → WL p l e rm_L_areHeld s m args below meth c QQ E base 9 M ad9 24 [(0, .ref (ad9 4 0)), (1, .ref (ad9 61 0)), (2, .int x2), (3, .ref (ad9 62 0)), (4, .int x4)] [] (20 + 20 * it + 0) (120 + 120 * it + 0)) (k100 : Mem → Nat → Int32 → Int32 → Int32 → Int32 → Prop) (K100 : ∀ (ad9 : AD) (hag9 : AG fr_L_areHeld ad ad9) (M : Mem) (it : Nat) (x2 : Int32) (x4 : Int32) (x5 : Int32) (x6 : Int32), k100 M it x2 x4 x5 x6 → WL p l e rm_L_areHeld s m args below meth c QQ E base 9 M ad9 100 [(0, .ref (ad9 4 0)), (1, .ref (ad9 61 0)), (2, .int x2), (3, .ref (ad9 62 0)), (4, .int x4), (5, .int x5), (6, .int x6)] [] (20 + 20 * it + 0) (120 + 120 * it + 0)) (ad9 : AD) (hag9 : AG fr_L_areHeld ad ad9) (M : Mem) (it : Nat) (x4 : Int32) (x5 : Int32) (x6 : Int32) (s0 : Int32), b_L_areHeld_193 k24 k100 Q X M it x4 x5 x6 s0 → WL p l e rm_L_areHeld s m args below meth c QQ E base 9 M ad9 193 [(0, .ref (ad9 4 0)), (1, .ref (ad9 61 0)), (3, .ref (ad9 62 0)), (4, .int x4), (5, .int x5), (6, .int x6)] [.int s0] (20 + 20 * it + 2) (120 + 120 * it + 12) := by
    intro k24 K24 k100 K100 ad9 hag9 M it x4 x5 x6 s0 hw H locs ls hW hS hl
    unfold b_L_areHeld_193 at hw
    obtain ⟨hit, hw⟩ := hw
    refine lv_istore_n (lv' := [(2, .int s0), (0, .ref (ad9 4 0)), (1, .ref (ad9 61 0)), (3, .ref (ad9 62 0)), (4, .int x4), (5, .int x5), (6, .int x6)]) hx hb dL_areHeld_193 rfl hl (by decide) rfl (fun ls hl => ?_)
    obtain ⟨v_73, ev_73⟩ : ∃ y : Int32, y = x6 + 1 := ⟨_, rfl⟩
    have hw := hw v_73 ev_73
    refine lv_iinc (v := v_73) (lv' := [(6, .int v_73), (2, .int s0), (0, .ref (ad9 4 0)), (1, .ref (ad9 61 0)), (3, .ref (ad9 62 0)), (4, .int x4), (5, .int x5)]) hx hb dL_areHeld_194 hl (k := 6) rfl (by rw [ev_73]; rfl) (by decide) rfl (fun ls hl => ?_)
    refine lv_goto (tgt := 100) hx hb dL_areHeld_197 (by decide) ?_
    refine W.widen (k := 20 + 20 * (it + 1) + 0) (n := 120 + 120 * (it + 1) + 0) (by omega) (by omega) ?_
    exact K100 ad9 hag9 M (it + 1) s0 x4 x5 v_73 hw H locs ls hW hS (lv_sub hl [2, 3, 1, 4, 5, 6, 0] rfl)
  have L_192 : ∀ (k24 : Mem → Nat → Int32 → Int32 → Prop) (K24 : ∀ (ad9 : AD) (hag9 : AG fr_L_areHeld ad ad9) (M : Mem) (it : Nat) (x2 : Int32) (x4 : Int32), k24 M it x2 x4 → WL p l e rm_L_areHeld s m args below meth c QQ E base 9 M ad9 24 [(0, .ref (ad9 4 0)), (1, .ref (ad9 61 0)), (2, .int x2), (3, .ref (ad9 62 0)), (4, .int x4)] [] (20 + 20 * it + 0) (120 + 120 * it + 0)) (k100 : Mem → Nat → Int32 → Int32 → Int32 → Int32 → Prop) (K100 : ∀ (ad9 : AD) (hag9 : AG fr_L_areHeld ad ad9) (M : Mem) (it : Nat) (x2 : Int32) (x4 : Int32) (x5 : Int32) (x6 : Int32), k100 M it x2 x4 x5 x6 → WL p l e rm_L_areHeld s m args below meth c QQ E base 9 M ad9 100 [(0, .ref (ad9 4 0)), (1, .ref (ad9 61 0)), (2, .int x2), (3, .ref (ad9 62 0)), (4, .int x4), (5, .int x5), (6, .int x6)] [] (20 + 20 * it + 0) (120 + 120 * it + 0)) (ad9 : AD) (hag9 : AG fr_L_areHeld ad ad9) (M : Mem) (it : Nat) (x4 : Int32) (x5 : Int32) (x6 : Int32), b_L_areHeld_192 k24 k100 Q X M it x4 x5 x6 → WL p l e rm_L_areHeld s m args below meth c QQ E base 9 M ad9 192 [(0, .ref (ad9 4 0)), (1, .ref (ad9 61 0)), (3, .ref (ad9 62 0)), (4, .int x4), (5, .int x5), (6, .int x6)] [] (20 + 20 * it + 2) (120 + 120 * it + 12) := by
    intro k24 K24 k100 K100 ad9 hag9 M it x4 x5 x6 hw H locs ls hW hS hl
    unfold b_L_areHeld_192 at hw
    obtain ⟨hit, hw⟩ := hw
    refine lv_iconst (v := 0) hx hb dL_areHeld_192 (by decide) ?_
    refine W.widen (k := 20 + 20 * it + 2) (n := 120 + 120 * it + 12) (by omega) (by omega) ?_
    exact L_193 k24 K24 k100 K100 ad9 hag9 M it x4 x5 x6 0 hw H locs ls hW hS (lv_sub hl [0, 1, 2, 3, 4, 5] rfl)
  have L_154 : ∀ (k24 : Mem → Nat → Int32 → Int32 → Prop) (K24 : ∀ (ad9 : AD) (hag9 : AG fr_L_areHeld ad ad9) (M : Mem) (it : Nat) (x2 : Int32) (x4 : Int32), k24 M it x2 x4 → WL p l e rm_L_areHeld s m args below meth c QQ E base 9 M ad9 24 [(0, .ref (ad9 4 0)), (1, .ref (ad9 61 0)), (2, .int x2), (3, .ref (ad9 62 0)), (4, .int x4)] [] (20 + 20 * it + 0) (120 + 120 * it + 0)) (k100 : Mem → Nat → Int32 → Int32 → Int32 → Int32 → Prop) (K100 : ∀ (ad9 : AD) (hag9 : AG fr_L_areHeld ad ad9) (M : Mem) (it : Nat) (x2 : Int32) (x4 : Int32) (x5 : Int32) (x6 : Int32), k100 M it x2 x4 x5 x6 → WL p l e rm_L_areHeld s m args below meth c QQ E base 9 M ad9 100 [(0, .ref (ad9 4 0)), (1, .ref (ad9 61 0)), (2, .int x2), (3, .ref (ad9 62 0)), (4, .int x4), (5, .int x5), (6, .int x6)] [] (20 + 20 * it + 0) (120 + 120 * it + 0)) (ad9 : AD) (hag9 : AG fr_L_areHeld ad ad9) (M : Mem) (it : Nat) (x4 : Int32) (x5 : Int32) (x6 : Int32) (x7 : Int32) (x8 : Int32) (s0 : Int32) (s1 : Int32) (s2 : Int32), b_L_areHeld_154 k24 k100 Q X M it x4 x5 x6 x7 x8 s0 s1 s2 → WL p l e rm_L_areHeld s m args below meth c QQ E base 9 M ad9 154 [(0, .ref (ad9 4 0)), (1, .ref (ad9 61 0)), (3, .ref (ad9 62 0)), (4, .int x4), (5, .int x5), (6, .int x6), (7, .int x7), (8, .int x8)] [.int s0, .int s1, .int s2, .ref (ad9 62 0)] (20 + 20 * it + 2) (120 + 120 * it + 12) := by
    intro k24 K24 k100 K100 ad9 hag9 M it x4 x5 x6 x7 x8 s0 s1 s2 hw H locs ls hW hS hl
    unfold b_L_areHeld_154 at hw
    obtain ⟨hit, hw⟩ := hw
    refine lv_iadd hx hb dL_areHeld_154 ?_
    obtain ⟨g_68, hw⟩ := hw
    obtain ⟨g_69, hw⟩ := hw
    refine r_iast hx hb hT.1 hW hS (by decide) rfl (fun _ => rfl) 12 rfl g_69 g_68 dL_areHeld_155 (fun M_70 H locs hM_70 hW hS => ?_)
    have hw := hw M_70 hM_70
    refine lv_iload hx hb dL_areHeld_156 (lv_at hl 6 rfl) ?_
    refine lv_if_eq (tgt := 176) hx hb dL_areHeld_158 (by decide) (fun c_71 => ?_) (fun c_71 => ?_)
    · have hw := hw.1 c_71
      refine lv_iload hx hb dL_areHeld_176 (lv_at hl 7 rfl) ?_
      refine lv_if_lt (tgt := 192) hx hb dL_areHeld_178 (by decide) (fun c_72 => ?_) (fun c_72 => ?_)
      · have hw := hw.1 c_72
        refine W.widen (k := 20 + 20 * it + 2) (n := 120 + 120 * it + 12) (by omega) (by omega) ?_
        exact L_192 k24 K24 k100 K100 ad9 hag9 M_70 it x4 x5 x6 hw H locs ls hW hS (lv_sub hl [0, 1, 2, 3, 4, 5] rfl)
      · have hw := hw.2 c_72
        refine lv_iload hx hb dL_areHeld_181 (lv_at hl 7 rfl) ?_
        refine lv_bipush (v := 15) hx hb dL_areHeld_183 (by decide) ?_
        refine lv_icmp_ge (tgt := 192) hx hb dL_areHeld_185 (by decide) (fun c_74 => ?_) (fun c_74 => ?_)
        · have hw := hw.1 c_74
          refine W.widen (k := 20 + 20 * it + 2) (n := 120 + 120 * it + 12) (by omega) (by omega) ?_
          exact L_192 k24 K24 k100 K100 ad9 hag9 M_70 it x4 x5 x6 hw H locs ls hW hS (lv_sub hl [0, 1, 2, 3, 4, 5] rfl)
        · have hw := hw.2 c_74
          refine lv_iconst (v := 1) hx hb dL_areHeld_188 (by decide) ?_
          refine lv_goto (tgt := 193) hx hb dL_areHeld_189 (by decide) ?_
          refine W.widen (k := 20 + 20 * it + 2) (n := 120 + 120 * it + 12) (by omega) (by omega) ?_
          exact L_193 k24 K24 k100 K100 ad9 hag9 M_70 it x4 x5 x6 1 hw H locs ls hW hS (lv_sub hl [0, 1, 2, 3, 4, 5] rfl)
    · have hw := hw.2 c_71
      refine lv_iload hx hb dL_areHeld_161 (lv_at hl 7 rfl) ?_
      refine lv_bipush (v := 15) hx hb dL_areHeld_163 (by decide) ?_
      refine lv_icmp_ne (tgt := 172) hx hb dL_areHeld_165 (by decide) (fun c_75 => ?_) (fun c_75 => ?_)
      · have hw := hw.2 c_75
        refine lv_iconst (v := 0) hx hb dL_areHeld_172 (by decide) ?_
        refine lv_goto (tgt := 193) hx hb dL_areHeld_173 (by decide) ?_
        refine W.widen (k := 20 + 20 * it + 2) (n := 120 + 120 * it + 12) (by omega) (by omega) ?_
        exact L_193 k24 K24 k100 K100 ad9 hag9 M_70 it x4 x5 x6 0 hw H locs ls hW hS (lv_sub hl [0, 1, 2, 3, 4, 5] rfl)
      · have hw := hw.1 c_75
        refine lv_iconst (v := 1) hx hb dL_areHeld_168 (by decide) ?_
        refine lv_goto (tgt := 193) hx hb dL_areHeld_169 (by decide) ?_
        refine W.widen (k := 20 + 20 * it + 2) (n := 120 + 120 * it + 12) (by omega) (by omega) ?_
        exact L_193 k24 K24 k100 K100 ad9 hag9 M_70 it x4 x5 x6 1 hw H locs ls hW hS (lv_sub hl [0, 1, 2, 3, 4, 5] rfl)
  have L_127 : ∀ (k24 : Mem → Nat → Int32 → Int32 → Prop) (K24 : ∀ (ad9 : AD) (hag9 : AG fr_L_areHeld ad ad9) (M : Mem) (it : Nat) (x2 : Int32) (x4 : Int32), k24 M it x2 x4 → WL p l e rm_L_areHeld s m args below meth c QQ E base 9 M ad9 24 [(0, .ref (ad9 4 0)), (1, .ref (ad9 61 0)), (2, .int x2), (3, .ref (ad9 62 0)), (4, .int x4)] [] (20 + 20 * it + 0) (120 + 120 * it + 0)) (k100 : Mem → Nat → Int32 → Int32 → Int32 → Int32 → Prop) (K100 : ∀ (ad9 : AD) (hag9 : AG fr_L_areHeld ad ad9) (M : Mem) (it : Nat) (x2 : Int32) (x4 : Int32) (x5 : Int32) (x6 : Int32), k100 M it x2 x4 x5 x6 → WL p l e rm_L_areHeld s m args below meth c QQ E base 9 M ad9 100 [(0, .ref (ad9 4 0)), (1, .ref (ad9 61 0)), (2, .int x2), (3, .ref (ad9 62 0)), (4, .int x4), (5, .int x5), (6, .int x6)] [] (20 + 20 * it + 0) (120 + 120 * it + 0)) (ad9 : AD) (hag9 : AG fr_L_areHeld ad ad9) (M : Mem) (it : Nat) (x4 : Int32) (x5 : Int32) (x6 : Int32) (s0 : Int32), b_L_areHeld_127 k24 k100 Q X M it x4 x5 x6 s0 → WL p l e rm_L_areHeld s m args below meth c QQ E base 9 M ad9 127 [(0, .ref (ad9 4 0)), (1, .ref (ad9 61 0)), (3, .ref (ad9 62 0)), (4, .int x4), (5, .int x5), (6, .int x6)] [.int s0] (20 + 20 * it + 0) (120 + 120 * it + 0) := by
    intro k24 K24 k100 K100 ad9 hag9 M it x4 x5 x6 s0 hw H locs ls hW hS hl
    unfold b_L_areHeld_127 at hw
    obtain ⟨hit, hw⟩ := hw
    refine lv_istore (lv' := [(7, .int s0), (0, .ref (ad9 4 0)), (1, .ref (ad9 61 0)), (3, .ref (ad9 62 0)), (4, .int x4), (5, .int x5), (6, .int x6)]) hx hb dL_areHeld_127 hl (by decide) rfl (fun ls hl => ?_)
    refine lv_aload_n hx hb dL_areHeld_129 rfl (lv_at hl 1 rfl) ?_
    refine lv_iload hx hb dL_areHeld_130 (lv_at hl 4 rfl) ?_
    refine lv_iload hx hb dL_areHeld_132 (lv_at hl 6 rfl) ?_
    obtain ⟨g_60, hw⟩ := hw
    refine k_I (rn_V (As := [.int x4, .int x6]) (rest := []) (κ := 4) (i := 0) ⟨hx, hb, hml, hown, hts⟩ hT hW hS hl (c_X4_blocks l hlt E base M ad9 x4 x6 _ _ hw) cy_X4_blocks k_267 k_268 k_269 g_60 (by decide) rfl rfl rfl rfl ⟨(Nat.le_of_ble_eq_true rfl), (Nat.le_of_ble_eq_true rfl)⟩ rfl rfl (Nat.le_of_ble_eq_true rfl) dL_areHeld_134 ⟨by show _ + 2 ≤ 2600; omega, by show _ + 12 ≤ 15600; omega⟩) hS (by rw [← hQQ]; exact kx_out hnx hlocks (by omega) (by omega) (fun _ _ _ h9 => ⟨h9.1, AG_call hag9 (AG_eq h9.2) (fun _ _ h => rfl)⟩)) (fun r_64 M_62 ad_63 H locs hP hW hS => ?_)
    obtain ⟨hw, rfl⟩ := hP
    refine lv_istore (lv' := [(8, .int r_64), (7, .int s0), (0, .ref (ad9 4 0)), (1, .ref (ad9 61 0)), (3, .ref (ad9 62 0)), (4, .int x4), (5, .int x5), (6, .int x6)]) hx hb dL_areHeld_137 hl (by decide) rfl (fun ls hl => ?_)
    refine lv_aload_n hx hb dL_areHeld_139 rfl (lv_at hl 4 rfl) ?_
    refine lv_iload hx hb dL_areHeld_140 (lv_at hl 7 rfl) ?_
    refine lv_dup2_11 hx hb dL_areHeld_142 rfl rfl ?_
    obtain ⟨g_65, hw⟩ := hw
    obtain ⟨g_66, hw⟩ := hw
    refine r_iald hx hb hT.1 hW (by decide) rfl (fun _ => rfl) 12 rfl g_66 g_65 dL_areHeld_143 ?_
    refine lv_iload hx hb dL_areHeld_144 (lv_at hl 1 rfl) ?_
    refine lv_if_eq (tgt := 153) hx hb dL_areHeld_146 (by decide) (fun c_67 => ?_) (fun c_67 => ?_)
    · have hw := hw.1 c_67
      refine lv_iconst (v := 0) hx hb dL_areHeld_153 (by decide) ?_
      refine W.widen (k := 20 + 20 * it + 2) (n := 120 + 120 * it + 12) (by omega) (by omega) ?_
      exact L_154 k24 K24 k100 K100 ad9 hag9 M_62 it x4 x5 x6 s0 r_64 0 (mI M_62 62 0 x6.toNatClampNeg) x6 hw H locs ls hW hS (lv_sub hl [2, 3, 4, 5, 6, 7, 1, 0] rfl)
    · have hw := hw.2 c_67
      refine lv_iconst (v := 1) hx hb dL_areHeld_149 (by decide) ?_
      refine lv_goto (tgt := 154) hx hb dL_areHeld_150 (by decide) ?_
      refine W.widen (k := 20 + 20 * it + 2) (n := 120 + 120 * it + 12) (by omega) (by omega) ?_
      exact L_154 k24 K24 k100 K100 ad9 hag9 M_62 it x4 x5 x6 s0 r_64 1 (mI M_62 62 0 x6.toNatClampNeg) x6 hw H locs ls hW hS (lv_sub hl [2, 3, 4, 5, 6, 7, 1, 0] rfl)
  have L_100 : ∀ (k24 : Mem → Nat → Int32 → Int32 → Prop) (K24 : ∀ (ad9 : AD) (hag9 : AG fr_L_areHeld ad ad9) (M : Mem) (it : Nat) (x2 : Int32) (x4 : Int32), k24 M it x2 x4 → WL p l e rm_L_areHeld s m args below meth c QQ E base 9 M ad9 24 [(0, .ref (ad9 4 0)), (1, .ref (ad9 61 0)), (2, .int x2), (3, .ref (ad9 62 0)), (4, .int x4)] [] (20 + 20 * it + 0) (120 + 120 * it + 0)) (n : Nat) (ad9 : AD) (hag9 : AG fr_L_areHeld ad ad9) (M : Mem) (it : Nat) (x2 : Int32) (x4 : Int32) (x5 : Int32) (x6 : Int32), l_L_areHeld_100 k24 Q X n M it x2 x4 x5 x6 → WL p l e rm_L_areHeld s m args below meth c QQ E base 9 M ad9 100 [(0, .ref (ad9 4 0)), (1, .ref (ad9 61 0)), (2, .int x2), (3, .ref (ad9 62 0)), (4, .int x4), (5, .int x5), (6, .int x6)] [] (20 + 20 * it + 0) (120 + 120 * it + 0) := by
    intro k24 K24 n
    induction n with
    | zero => intro ad9 hag9 M it x2 x4 x5 x6 hw; exact False.elim hw
    | succ n K100 =>
      intro ad9 hag9 M it x2 x4 x5 x6 hw H locs ls hW hS hl
      obtain ⟨k100, hk100⟩ : ∃ z, z = l_L_areHeld_100 k24 Q X n := ⟨_, rfl⟩
      have hw : b_L_areHeld_100 k24 Q X k100 M it x2 x4 x5 x6 := by rw [hk100]; exact hw
      rw [← hk100] at K100
      unfold b_L_areHeld_100 at hw
      obtain ⟨hit, hw⟩ := hw
      refine lv_iload hx hb dL_areHeld_100 (lv_at hl 6 rfl) ?_
      refine lv_bipush (v := 12) hx hb dL_areHeld_102 (by decide) ?_
      refine lv_icmp_ge (tgt := 200) hx hb dL_areHeld_104 (by decide) (fun c_57 => ?_) (fun c_57 => ?_)
      · have hw := hw.1 c_57
        refine W.widen (k := 20 + 20 * it + 0) (n := 120 + 120 * it + 0) (by omega) (by omega) ?_
        exact L_200 k24 K24 ad9 hag9 M it x2 x4 hw H locs ls hW hS (lv_sub hl [0, 1, 2, 3, 4] rfl)
      · have hw := hw.2 c_57
        refine lv_iload_n hx hb dL_areHeld_107 rfl (lv_at hl 2 rfl) ?_
        refine lv_if_eq (tgt := 200) hx hb dL_areHeld_108 (by decide) (fun c_58 => ?_) (fun c_58 => ?_)
        · have hw := hw.1 c_58
          refine W.widen (k := 20 + 20 * it + 0) (n := 120 + 120 * it + 0) (by omega) (by omega) ?_
          exact L_200 k24 K24 ad9 hag9 M it x2 x4 hw H locs ls hW hS (lv_sub hl [0, 1, 2, 3, 4] rfl)
        · have hw := hw.2 c_58
          refine lv_iload hx hb dL_areHeld_111 (lv_at hl 5 rfl) ?_
          refine lv_iload hx hb dL_areHeld_113 (lv_at hl 6 rfl) ?_
          refine lv_ishr hx hb dL_areHeld_115 ?_
          refine lv_iconst (v := 1) hx hb dL_areHeld_116 (by decide) ?_
          refine lv_iand hx hb dL_areHeld_117 ?_
          refine lv_iconst (v := 1) hx hb dL_areHeld_118 (by decide) ?_
          refine lv_icmp_ne (tgt := 126) hx hb dL_areHeld_119 (by decide) (fun c_59 => ?_) (fun c_59 => ?_)
          · have hw := hw.2 c_59
            refine lv_iconst (v := 0) hx hb dL_areHeld_126 (by decide) ?_
            refine W.widen (k := 20 + 20 * it + 0) (n := 120 + 120 * it + 0) (by omega) (by omega) ?_
            exact L_127 k24 K24 k100 K100 ad9 hag9 M it x4 x5 x6 0 hw H locs ls hW hS (lv_sub hl [0, 1, 3, 4, 5, 6] rfl)
          · have hw := hw.1 c_59
            refine lv_iconst (v := 1) hx hb dL_areHeld_122 (by decide) ?_
            refine lv_goto (tgt := 127) hx hb dL_areHeld_123 (by decide) ?_
            refine W.widen (k := 20 + 20 * it + 0) (n := 120 + 120 * it + 0) (by omega) (by omega) ?_
            exact L_127 k24 K24 k100 K100 ad9 hag9 M it x4 x5 x6 1 hw H locs ls hW hS (lv_sub hl [0, 1, 3, 4, 5, 6] rfl)
  have L_87 : ∀ (k24 : Mem → Nat → Int32 → Int32 → Prop) (K24 : ∀ (ad9 : AD) (hag9 : AG fr_L_areHeld ad ad9) (M : Mem) (it : Nat) (x2 : Int32) (x4 : Int32), k24 M it x2 x4 → WL p l e rm_L_areHeld s m args below meth c QQ E base 9 M ad9 24 [(0, .ref (ad9 4 0)), (1, .ref (ad9 61 0)), (2, .int x2), (3, .ref (ad9 62 0)), (4, .int x4)] [] (20 + 20 * it + 0) (120 + 120 * it + 0)) (ad9 : AD) (hag9 : AG fr_L_areHeld ad ad9) (M : Mem) (it : Nat) (x4 : Int32) (x5 : Int32) (s0 : Int32), b_L_areHeld_87 k24 Q X M it x4 x5 s0 → WL p l e rm_L_areHeld s m args below meth c QQ E base 9 M ad9 87 [(0, .ref (ad9 4 0)), (1, .ref (ad9 61 0)), (3, .ref (ad9 62 0)), (4, .int x4), (5, .int x5)] [.int s0] (20 + 20 * it + 3) (120 + 120 * it + 15) := by
    intro k24 K24 ad9 hag9 M it x4 x5 s0 hw H locs ls hW hS hl
    unfold b_L_areHeld_87 at hw
    obtain ⟨hit, hw⟩ := hw
    refine lv_istore_n (lv' := [(2, .int s0), (0, .ref (ad9 4 0)), (1, .ref (ad9 61 0)), (3, .ref (ad9 62 0)), (4, .int x4), (5, .int x5)]) hx hb dL_areHeld_87 rfl hl (by decide) rfl (fun ls hl => ?_)
    refine lv_aload_n hx hb dL_areHeld_88 rfl (lv_at hl 2 rfl) ?_
    refine lv_bipush (v := 23) hx hb dL_areHeld_89 (by decide) ?_
    refine lv_iload hx hb dL_areHeld_91 (lv_at hl 4 rfl) ?_
    refine lv_iadd hx hb dL_areHeld_93 ?_
    refine lv_iload hx hb dL_areHeld_94 (lv_at hl 5 rfl) ?_
    obtain ⟨g_54, hw⟩ := hw
    obtain ⟨g_55, hw⟩ := hw
    refine r_iast hx hb hT.1 hW hS (by decide) rfl (fun _ => rfl) 29 rfl g_55 g_54 dL_areHeld_96 (fun M_56 H locs hM_56 hW hS => ?_)
    have hw := hw M_56 hM_56
    refine lv_iconst (v := 0) hx hb dL_areHeld_97 (by decide) ?_
    refine lv_istore (lv' := [(6, .int 0), (2, .int s0), (0, .ref (ad9 4 0)), (1, .ref (ad9 61 0)), (3, .ref (ad9 62 0)), (4, .int x4), (5, .int x5)]) hx hb dL_areHeld_98 hl (by decide) rfl (fun ls hl => ?_)
    refine W.widen (k := 20 + 20 * (it + 1) + 0) (n := 120 + 120 * (it + 1) + 0) (by omega) (by omega) ?_
    obtain ⟨n9, hw⟩ := hw
    exact L_100 k24 K24 n9 ad9 hag9 M_56 (it + 1) s0 x4 x5 0 hw H locs ls hW hS (lv_sub hl [2, 3, 1, 4, 5, 6, 0] rfl)
  have L_86 : ∀ (k24 : Mem → Nat → Int32 → Int32 → Prop) (K24 : ∀ (ad9 : AD) (hag9 : AG fr_L_areHeld ad ad9) (M : Mem) (it : Nat) (x2 : Int32) (x4 : Int32), k24 M it x2 x4 → WL p l e rm_L_areHeld s m args below meth c QQ E base 9 M ad9 24 [(0, .ref (ad9 4 0)), (1, .ref (ad9 61 0)), (2, .int x2), (3, .ref (ad9 62 0)), (4, .int x4)] [] (20 + 20 * it + 0) (120 + 120 * it + 0)) (ad9 : AD) (hag9 : AG fr_L_areHeld ad ad9) (M : Mem) (it : Nat) (x4 : Int32) (x5 : Int32), b_L_areHeld_86 k24 Q X M it x4 x5 → WL p l e rm_L_areHeld s m args below meth c QQ E base 9 M ad9 86 [(0, .ref (ad9 4 0)), (1, .ref (ad9 61 0)), (3, .ref (ad9 62 0)), (4, .int x4), (5, .int x5)] [] (20 + 20 * it + 3) (120 + 120 * it + 15) := by
    intro k24 K24 ad9 hag9 M it x4 x5 hw H locs ls hW hS hl
    unfold b_L_areHeld_86 at hw
    obtain ⟨hit, hw⟩ := hw
    refine lv_iconst (v := 0) hx hb dL_areHeld_86 (by decide) ?_
    refine W.widen (k := 20 + 20 * it + 3) (n := 120 + 120 * it + 15) (by omega) (by omega) ?_
    exact L_87 k24 K24 ad9 hag9 M it x4 x5 0 hw H locs ls hW hS (lv_sub hl [0, 1, 2, 3, 4] rfl)
  have L_24 : ∀ (n : Nat) (ad9 : AD) (hag9 : AG fr_L_areHeld ad ad9) (M : Mem) (it : Nat) (x2 : Int32) (x4 : Int32), l_L_areHeld_24 Q X n M it x2 x4 → WL p l e rm_L_areHeld s m args below meth c QQ E base 9 M ad9 24 [(0, .ref (ad9 4 0)), (1, .ref (ad9 61 0)), (2, .int x2), (3, .ref (ad9 62 0)), (4, .int x4)] [] (20 + 20 * it + 0) (120 + 120 * it + 0) := by
    intro n
    induction n with
    | zero => intro ad9 hag9 M it x2 x4 hw; exact False.elim hw
    | succ n K24 =>
      intro ad9 hag9 M it x2 x4 hw H locs ls hW hS hl
      obtain ⟨k24, hk24⟩ : ∃ z, z = l_L_areHeld_24 Q X n := ⟨_, rfl⟩
      have hw : b_L_areHeld_24 Q X k24 M it x2 x4 := by rw [hk24]; exact hw
      rw [← hk24] at K24
      unfold b_L_areHeld_24 at hw
      obtain ⟨hit, hw⟩ := hw
      refine lv_iload hx hb dL_areHeld_24 (lv_at hl 4 rfl) ?_
      refine lv_aload_n hx hb dL_areHeld_26 rfl (lv_at hl 1 rfl) ?_
      refine lv_iconst (v := 0) hx hb dL_areHeld_27 (by decide) ?_
      obtain ⟨g_14, hw⟩ := hw
      obtain ⟨g_15, hw⟩ := hw
      refine r_iald hx hb hT.1 hW (by decide) rfl (fun _ => rfl) 29 rfl g_15 g_14 dL_areHeld_28 ?_
      refine lv_icmp_ge (tgt := 206) hx hb dL_areHeld_29 (by decide) (fun c_16 => ?_) (fun c_16 => ?_)
      · have hw := hw.1 c_16
        refine W.widen (k := 20 + 20 * it + 0) (n := 120 + 120 * it + 0) (by omega) (by omega) ?_
        exact L_206 ad9 hag9 M it x2 hw H locs ls hW hS (lv_sub hl [0, 1, 2, 3] rfl)
      · have hw := hw.2 c_16
        refine lv_iload_n hx hb dL_areHeld_32 rfl (lv_at hl 2 rfl) ?_
        refine lv_if_eq (tgt := 206) hx hb dL_areHeld_33 (by decide) (fun c_42 => ?_) (fun c_42 => ?_)
        · have hw := hw.1 c_42
          refine W.widen (k := 20 + 20 * it + 0) (n := 120 + 120 * it + 0) (by omega) (by omega) ?_
          exact L_206 ad9 hag9 M it x2 hw H locs ls hW hS (lv_sub hl [0, 1, 2, 3] rfl)
        · have hw := hw.2 c_42
          refine lv_aload_n hx hb dL_areHeld_36 rfl (lv_at hl 1 rfl) ?_
          refine lv_iconst (v := 1) hx hb dL_areHeld_37 (by decide) ?_
          obtain ⟨g_43, hw⟩ := hw
          refine r_iald hx hb hT.1 hW (by decide) rfl (fun _ => rfl) 29 rfl g_43 g_14 dL_areHeld_38 ?_
          refine lv_iload hx hb dL_areHeld_39 (lv_at hl 4 rfl) ?_
          refine lv_ishr hx hb dL_areHeld_41 ?_
          refine lv_iconst (v := 1) hx hb dL_areHeld_42 (by decide) ?_
          refine lv_iand hx hb dL_areHeld_43 ?_
          refine lv_iconst (v := 1) hx hb dL_areHeld_44 (by decide) ?_
          refine lv_icmp_ne (tgt := 200) hx hb dL_areHeld_45 (by decide) (fun c_44 => ?_) (fun c_44 => ?_)
          · have hw := hw.2 c_44
            refine W.widen (k := 20 + 20 * it + 0) (n := 120 + 120 * it + 0) (by omega) (by omega) ?_
            exact L_200 k24 K24 ad9 hag9 M it x2 x4 hw H locs ls hW hS (lv_sub hl [0, 1, 2, 3, 4] rfl)
          · have hw := hw.1 c_44
            refine lv_aload_n hx hb dL_areHeld_48 rfl (lv_at hl 0 rfl) ?_
            refine lv_iload hx hb dL_areHeld_49 (lv_at hl 4 rfl) ?_
            obtain ⟨g_46, hw⟩ := hw
            refine k_I (rn_V (As := [.int x4]) (rest := []) (κ := 4) (i := 0) ⟨hx, hb, hml, hown, hts⟩ hT hW hS hl (c_X4_holds l hlt E base M ad9 x4 _ _ hw) cy_X4_holds k_228 k_229 k_230 g_46 (by decide) rfl rfl rfl rfl ⟨(Nat.le_of_ble_eq_true rfl), (Nat.le_of_ble_eq_true rfl)⟩ rfl rfl (Nat.le_of_ble_eq_true rfl) dL_areHeld_51 ⟨by show _ + 1 ≤ 2600; omega, by show _ + 6 ≤ 15600; omega⟩) hS (by rw [← hQQ]; exact kx_out hnx hlocks (by omega) (by omega) (fun _ _ _ h9 => ⟨h9.1, AG_call hag9 (AG_eq h9.2) (fun _ _ h => rfl)⟩)) (fun r_50 M_48 ad_49 H locs hP hW hS => ?_)
            obtain ⟨hw, rfl⟩ := hP
            refine lv_istore (lv' := [(5, .int r_50), (0, .ref (ad9 4 0)), (1, .ref (ad9 61 0)), (2, .int x2), (3, .ref (ad9 62 0)), (4, .int x4)]) hx hb dL_areHeld_54 hl (by decide) rfl (fun ls hl => ?_)
            refine lv_aload_n hx hb dL_areHeld_56 rfl (lv_at hl 2 rfl) ?_
            refine lv_bipush (v := 23) hx hb dL_areHeld_57 (by decide) ?_
            refine lv_iload hx hb dL_areHeld_59 (lv_at hl 5 rfl) ?_
            refine lv_iadd hx hb dL_areHeld_61 ?_
            obtain ⟨g_51, hw⟩ := hw
            obtain ⟨g_52, hw⟩ := hw
            refine r_iald hx hb hT.1 hW (by decide) rfl (fun _ => rfl) 29 rfl g_52 g_51 dL_areHeld_62 ?_
            refine lv_iload hx hb dL_areHeld_63 (lv_at hl 0 rfl) ?_
            refine lv_iconst (v := (-1)) hx hb dL_areHeld_65 (by decide) ?_
            refine lv_ixor hx hb dL_areHeld_66 ?_
            refine lv_iand hx hb dL_areHeld_67 ?_
            refine lv_if_ne (tgt := 86) hx hb dL_areHeld_68 (by decide) (fun c_53 => ?_) (fun c_53 => ?_)
            · have hw := hw.2 c_53
              refine W.widen (k := 20 + 20 * it + 3) (n := 120 + 120 * it + 15) (by omega) (by omega) ?_
              exact L_86 k24 K24 ad9 hag9 M_48 it x4 r_50 hw H locs ls hW hS (lv_sub hl [1, 2, 4, 5, 0] rfl)
            · have hw := hw.1 c_53
              refine lv_aload_n hx hb dL_areHeld_71 rfl (lv_at hl 1 rfl) ?_
              refine lv_iload hx hb dL_areHeld_72 (lv_at hl 5 rfl) ?_
              obtain ⟨g_76, hw⟩ := hw
              refine k_I (rn_V (As := [.int x4]) (rest := []) (κ := 4) (i := 0) ⟨hx, hb, hml, hown, hts⟩ hT hW hS hl (c_X4_holdsByLog l hlt E base M_48 ad9 x4 _ _ hw) cy_X4_holdsByLog k_270 k_271 k_272 g_76 (by decide) rfl rfl rfl rfl ⟨(Nat.le_of_ble_eq_true rfl), (Nat.le_of_ble_eq_true rfl)⟩ rfl rfl (Nat.le_of_ble_eq_true rfl) dL_areHeld_74 ⟨by show _ + 2 ≤ 2600; omega, by show _ + 9 ≤ 15600; omega⟩) hS (by rw [← hQQ]; exact kx_out hnx hlocks (by omega) (by omega) (fun _ _ _ h9 => ⟨h9.1, AG_call hag9 h9.2 (fun a b h => by revert h; simp [fr_L_areHeld, fr_X4_holdsByLog]; omega)⟩)) (fun r_80 M_78 ad_79 H locs hP hW hS => ?_)
              obtain ⟨hw, hag⟩ := hP
              have hag_81 := hag
              rw [hag_81 4 0 (by rfl)] at hl
              rw [hag_81 61 0 (by rfl)] at hl
              rw [hag_81 62 0 (by rfl)] at hl
              refine lv_iload hx hb dL_areHeld_77 (lv_at hl 0 rfl) ?_
              refine lv_icmp_ne (tgt := 86) hx hb dL_areHeld_79 (by decide) (fun c_82 => ?_) (fun c_82 => ?_)
              · have hw := hw.2 c_82
                refine W.widen (k := 20 + 20 * it + 3) (n := 120 + 120 * it + 15) (by omega) (by omega) ?_
                exact L_86 k24 K24 ad_79 (AG_call hag9 hag_81 (fun a b h => by revert h; simp [fr_L_areHeld, fr_X4_holdsByLog]; omega)) M_78 it x4 r_50 hw H locs ls hW hS (lv_sub hl [1, 2, 4, 5, 0] rfl)
              · have hw := hw.1 c_82
                refine lv_iconst (v := 1) hx hb dL_areHeld_82 (by decide) ?_
                refine lv_goto (tgt := 87) hx hb dL_areHeld_83 (by decide) ?_
                refine W.widen (k := 20 + 20 * it + 3) (n := 120 + 120 * it + 15) (by omega) (by omega) ?_
                exact L_87 k24 K24 ad_79 (AG_call hag9 hag_81 (fun a b h => by revert h; simp [fr_L_areHeld, fr_X4_holdsByLog]; omega)) M_78 it x4 r_50 1 hw H locs ls hW hS (lv_sub hl [1, 2, 4, 5, 0] rfl)
  have L_15 : ∀ (ad9 : AD) (hag9 : AG fr_L_areHeld ad ad9) (M : Mem) (it : Nat) (s0 : Int32), b_L_areHeld_15 Q X M it s0 → WL p l e rm_L_areHeld s m args below meth c QQ E base 9 M ad9 15 [(0, .ref (ad9 4 0)), (1, .ref (ad9 61 0))] [.int s0] (20 + 20 * it + 0) (120 + 120 * it + 0) := by
    intro ad9 hag9 M it s0 hw H locs ls hW hS hl
    unfold b_L_areHeld_15 at hw
    obtain ⟨hit, hw⟩ := hw
    refine lv_istore_n (lv' := [(2, .int s0), (0, .ref (ad9 4 0)), (1, .ref (ad9 61 0))]) hx hb dL_areHeld_15 rfl hl (by decide) rfl (fun ls hl => ?_)
    refine lv_bipush (v := 12) hx hb dL_areHeld_16 (by decide) ?_
    obtain ⟨g_9, hw⟩ := hw
    refine r_newa hx hb .int (hts _ k_6) hT.1 hW hS hT.2.2.2.2.2.2.2 (by decide) rfl rfl (fun h9 => h9) _ rfl (fun _ => Or.inl ⟨rfl, rfl⟩) 12 rfl (by decide) (by decide) (Nat.le_of_ble_eq_true rfl) (by show _ ≤ 2600; omega) (by show _ ≤ 15600; omega) g_9 dL_areHeld_18 (fun q_10 M_11 ad_12 H hM_11 had_12 hW hS => ?_)
    have hw := hw M_11 hM_11
    rw [upA_ne (a := 4) (b := 0) had_12 (by decide)] at hl
    rw [upA_ne (a := 61) (b := 0) had_12 (by decide)] at hl
    have g_13 : mE M_11 62 0 = true := mE_wN1 hM_11
    refine lv_astore_n (lv' := [(3, .ref (ad_12 62 0)), (2, .int s0), (0, .ref (ad_12 4 0)), (1, .ref (ad_12 61 0))]) hx hb dL_areHeld_20 rfl hl (by decide) rfl (fun ls hl => ?_)
    refine lv_iconst (v := 0) hx hb dL_areHeld_21 (by decide) ?_
    refine lv_istore (lv' := [(4, .int 0), (3, .ref (ad_12 62 0)), (2, .int s0), (0, .ref (ad_12 4 0)), (1, .ref (ad_12 61 0))]) hx hb dL_areHeld_22 hl (by decide) rfl (fun ls hl => ?_)
    refine W.widen (k := 20 + 20 * (it + 1) + 0) (n := 120 + 120 * (it + 1) + 0) (by omega) (by omega) ?_
    obtain ⟨n9, hw⟩ := hw
    exact L_24 n9 ad_12 (AG_new hag9 rfl had_12) M_11 (it + 1) s0 0 hw H locs ls hW hS (lv_sub hl [3, 4, 2, 1, 0] rfl)
  unfold w_L_areHeld at hw
  obtain ⟨H, hH⟩ : ∃ z, z = s.heap := ⟨_, rfl⟩
  obtain ⟨locs, hlo⟩ : ∃ z : List Loc, z = [] := ⟨_, rfl⟩
  have hS : va_S (fun q : Nat => base ≤ q) s.heap H locs := by rw [hlo, hH]; exact hS
  have hW : Wd E base M ad H := by rw [hH]; exact hW
  rw [show W p l e rm_L_areHeld s m args below meth c s.heap [] 0 0 QQ (F0 m 0 ls []) = W p l e rm_L_areHeld s m args below meth c H locs 0 0 QQ (F0 m 0 ls []) by rw [hlo, hH]]
  refine lv_aload_n hx hb dL_areHeld_0 rfl (lv_at hl 0 rfl) ?_
  obtain ⟨g_1, hw⟩ := hw
  refine k_I (rn_V (As := []) (rest := []) (κ := 4) (i := 0) ⟨hx, hb, hml, hown, hts⟩ hT hW hS hl (c_X4_peers l E base M ad _ hw) cy_X4_peers k_234 k_235 k_236 g_1 (by decide) rfl rfl rfl rfl ⟨(Nat.le_of_ble_eq_true rfl), (Nat.le_of_ble_eq_true rfl)⟩ rfl rfl (Nat.le_of_ble_eq_true rfl) dL_areHeld_1 ⟨(Nat.le_of_ble_eq_true rfl), (Nat.le_of_ble_eq_true rfl)⟩) hS kx_no (fun r_5 M_3 ad_4 H locs hP hW hS => ?_)
  obtain ⟨hw, rfl⟩ := hP
  refine lv_aload_n hx hb dL_areHeld_4 rfl (lv_at hl 1 rfl) ?_
  refine lv_iconst (v := 1) hx hb dL_areHeld_5 (by decide) ?_
  obtain ⟨g_6, hw⟩ := hw
  obtain ⟨g_7, hw⟩ := hw
  refine r_iald hx hb hT.1 hW (by decide) rfl (fun _ => rfl) 29 rfl g_7 g_6 dL_areHeld_6 ?_
  refine lv_icmp_ne (tgt := 14) hx hb dL_areHeld_7 (by decide) (fun c_8 => ?_) (fun c_8 => ?_)
  · have hw := hw.2 c_8
    refine lv_iconst (v := 0) hx hb dL_areHeld_14 (by decide) ?_
    refine W.widen (k := 20 + 20 * 0 + 0) (n := 120 + 120 * 0 + 0) (by omega) (by omega) ?_
    exact L_15 ad AG_refl M_3 0 0 hw H locs ls hW hS (lv_sub hl [0, 1] rfl)
  · have hw := hw.1 c_8
    refine lv_iconst (v := 1) hx hb dL_areHeld_10 (by decide) ?_
    refine lv_goto (tgt := 15) hx hb dL_areHeld_11 (by decide) ?_
    refine W.widen (k := 20 + 20 * 0 + 0) (n := 120 + 120 * 0 + 0) (by omega) (by omega) ?_
    exact L_15 ad AG_refl M_3 0 1 hw H locs ls hW hS (lv_sub hl [0, 1] rfl)
def rm_X4_isBanned : Room := { frames := 7, cells := 2, slots := 12, locals := 112 }
set_option maxHeartbeats 4000000 in
set_option maxRecDepth 100000 in
theorem c_X4_isBanned (l : Launch) (hlt : l.stackTraces = false) (E : GE) (base : Nat) (M : Mem) (ad : AD) (a1 : Int32) (a2 : Int32) (Q : Int32 → Mem → Prop) (X : Nat → Mem → Prop) (hw : w_X4_isBanned M a1 a2 Q X) : Con l yX4_isBanned cX4_isBanned 3 (some .boolean) rm_X4_isBanned 2 12 E base [.ref (ad 4 0), .int a1, .int a2] M ad (QcI E base (fun r M1 ad1 => Q r M1 ∧ ad = ad1)) (fun k M1 ad1 => X k M1 ∧ ad = ad1) := by
  refine con_start (by decide) (Nat.le_of_ble_eq_true rfl) ?_
  intro p e s m args below meth c ls QQ hQQ CT hnx hW hl
  obtain ⟨⟨hx, hb, hml, hown, hts⟩, hr, hlocks, hnm, hT⟩ := CT
  have hS : va_S (fun q : Nat => base ≤ q) s.heap s.heap [] := va_S.rf
  have hl : lv_has ls 3 [(0, .ref (ad 4 0)), (1, .int a1), (2, .int a2)] := hl
  unfold w_X4_isBanned at hw
  obtain ⟨H, hH⟩ : ∃ z, z = s.heap := ⟨_, rfl⟩
  obtain ⟨locs, hlo⟩ : ∃ z : List Loc, z = [] := ⟨_, rfl⟩
  have hS : va_S (fun q : Nat => base ≤ q) s.heap H locs := by rw [hlo, hH]; exact hS
  have hW : Wd E base M ad H := by rw [hH]; exact hW
  rw [show W p l e rm_X4_isBanned s m args below meth c s.heap [] 0 0 QQ (F0 m 0 ls []) = W p l e rm_X4_isBanned s m args below meth c H locs 0 0 QQ (F0 m 0 ls []) by rw [hlo, hH]]
  refine lv_aload_n hx hb dX4_isBanned_0 rfl (lv_at hl 0 rfl) ?_
  refine lv_iload_n hx hb dX4_isBanned_1 rfl (lv_at hl 1 rfl) ?_
  obtain ⟨g_1, hw⟩ := hw
  refine k_Q (rn_V (As := [.int a1]) (rest := []) (κ := 4) (i := 0) ⟨hx, hb, hml, hown, hts⟩ hT hW hS hl (c_X4_known l hlt E base M ad a1 _ _ hw) cy_X4_known k_79 k_80 k_81 g_1 (by decide) rfl rfl rfl rfl ⟨(Nat.le_of_ble_eq_true rfl), (Nat.le_of_ble_eq_true rfl)⟩ rfl rfl (Nat.le_of_ble_eq_true rfl) dX4_isBanned_2 ⟨(Nat.le_of_ble_eq_true rfl), (Nat.le_of_ble_eq_true rfl)⟩) hS (by rw [← hQQ]; exact kx_out hnx hlocks (Nat.le_of_ble_eq_true rfl) (Nat.le_of_ble_eq_true rfl) (fun _ _ _ h9 => h9)) (fun M_3 ad_4 H locs hP hW hS => absurd hP (fun ⟨_, h9, _⟩ => by cases h9)) (fun r_5 M_3 ad_4 H locs hP hW hS => ?_)
  obtain ⟨_, h9, hw, rfl⟩ := hP
  cases h9
  obtain ⟨g_6, hw⟩ := hw
  refine r_getI hx hb hts hown hT.1 hW clX2 10 (by decide) (hts _ k_107) (fun _ h9 => h9) rfl g_6 dX4_isBanned_5 ?_
  refine lv_i2l hx hb dX4_isBanned_8 rfl ?_
  refine lv_aload_n hx hb dX4_isBanned_9 rfl (lv_at hl 0 rfl) ?_
  refine lv_iload_n hx hb dX4_isBanned_10 rfl (lv_at hl 2 rfl) ?_
  obtain ⟨g_7, hw⟩ := hw
  refine k_Q (rn_V (As := [.int a2]) (rest := [.long ((mI M_3 2 r_5 10).toInt64)]) (κ := 4) (i := 0) ⟨hx, hb, hml, hown, hts⟩ hT hW hS hl (c_X4_known l hlt E base M_3 ad a2 _ _ hw) cy_X4_known k_79 k_80 k_81 g_7 (by decide) rfl rfl rfl rfl ⟨(Nat.le_of_ble_eq_true rfl), (Nat.le_of_ble_eq_true rfl)⟩ rfl rfl (Nat.le_of_ble_eq_true rfl) dX4_isBanned_11 ⟨(Nat.le_of_ble_eq_true rfl), (Nat.le_of_ble_eq_true rfl)⟩) hS (by rw [← hQQ]; exact kx_out hnx hlocks (Nat.le_of_ble_eq_true rfl) (Nat.le_of_ble_eq_true rfl) (fun _ _ _ h9 => h9)) (fun M_9 ad_10 H locs hP hW hS => absurd hP (fun ⟨_, h9, _⟩ => by cases h9)) (fun r_11 M_9 ad_10 H locs hP hW hS => ?_)
  obtain ⟨_, h9, hw, rfl⟩ := hP
  cases h9
  obtain ⟨g_12, hw⟩ := hw
  refine r_getI hx hb hts hown hT.1 hW clX2 0 (by decide) (hts _ k_83) (fun _ h9 => h9) rfl g_12 dX4_isBanned_14 ?_
  refine k_I (rn_S (As := [.long ((mI M_3 2 r_5 10).toInt64), .int (mI M_9 2 r_11 0)]) (rest := []) ⟨hx, hb, hml, hown, hts⟩ hT hW hS hl (c_X4_isIn l E base M_9 ad ((mI M_3 2 r_5 10).toInt64) (mI M_9 2 r_11 0) _ hw) cy_X4_isIn k_17 k_18 rfl rfl ⟨(Nat.le_of_ble_eq_true rfl), (Nat.le_of_ble_eq_true rfl)⟩ rfl rfl (Nat.le_of_ble_eq_true rfl) dX4_isBanned_17 ⟨(Nat.le_of_ble_eq_true rfl), (Nat.le_of_ble_eq_true rfl)⟩) hS kx_no (fun r_16 M_14 ad_15 H locs hP hW hS => ?_)
  obtain ⟨hw, rfl⟩ := hP
  obtain ⟨g_17, hw⟩ := hw
  rw [← hQQ]
  exact e_Z hx hb hr hlocks hW hS (Nat.le_of_ble_eq_true rfl) (Nat.le_of_ble_eq_true rfl) dX4_isBanned_20 g_17 ⟨hw, rfl⟩
def rm_L_wanted : Room := { frames := 0, cells := 0, slots := 0, locals := 0 }
set_option maxHeartbeats 4000000 in
set_option maxRecDepth 100000 in
theorem c_L_wanted (l : Launch) (E : GE) (base : Nat) (M : Mem) (ad : AD)  (Q : Int32 → Mem → Prop) (hw : w_L_wanted M  Q) : Con l yL_wanted cL_wanted 3 (some .int) rm_L_wanted 0 0 E base [.ref (ad 61 0)] M ad (QcI E base (fun r M1 ad1 => Q r M1 ∧ ad = ad1)) noX := by
  refine con_start (by decide) (Nat.le_of_ble_eq_true rfl) ?_
  intro p e s m args below meth c ls QQ hQQ CT hnx hW hl
  obtain ⟨⟨hx, hb, hml, hown, hts⟩, hr, hlocks, hnm, hT⟩ := CT
  have hS : va_S (fun q : Nat => base ≤ q) s.heap s.heap [] := va_S.rf
  have hl : lv_has ls 3 [(0, .ref (ad 61 0))] := hl
  have L_26 : ∀ (k4 : Mem → Int32 → Int32 → Prop) (K4 : ∀ (M : Mem) (x1 : Int32) (x2 : Int32), k4 M x1 x2 → WL p l e rm_L_wanted s m args below meth c QQ E base 3 M ad 4 [(0, .ref (ad 61 0)), (1, .int x1), (2, .int x2)] [] 0 0) (M : Mem) (x2 : Int32) (s0 : Int32) (s1 : Int32), b_L_wanted_26 k4 Q M x2 s0 s1 → WL p l e rm_L_wanted s m args below meth c QQ E base 3 M ad 26 [(0, .ref (ad 61 0)), (2, .int x2)] [.int s0, .int s1] 0 0 := by
    intro k4 K4 M x2 s0 s1 hw H locs ls hW hS hl
    unfold b_L_wanted_26 at hw
    refine lv_ior hx hb dL_wanted_26 ?_
    refine lv_topi (fun v_5 ev_5 => ?_)
    have hw := hw v_5 ev_5
    refine lv_istore_n (lv' := [(1, .int v_5), (0, .ref (ad 61 0)), (2, .int x2)]) hx hb dL_wanted_27 rfl hl (by decide) rfl (fun ls hl => ?_)
    obtain ⟨v_6, ev_6⟩ : ∃ y : Int32, y = x2 + 1 := ⟨_, rfl⟩
    have hw := hw v_6 ev_6
    refine lv_iinc (v := v_6) (lv' := [(2, .int v_6), (1, .int v_5), (0, .ref (ad 61 0))]) hx hb dL_wanted_28 hl (k := 2) rfl (by rw [ev_6]; rfl) (by decide) rfl (fun ls hl => ?_)
    refine lv_goto (tgt := 4) hx hb dL_wanted_31 (by decide) ?_
    exact K4 M v_5 v_6 hw H locs ls hW hS (lv_sub hl [2, 1, 0] rfl)
  have L_4 : ∀ (n : Nat) (M : Mem) (x1 : Int32) (x2 : Int32), l_L_wanted_4 Q n M x1 x2 → WL p l e rm_L_wanted s m args below meth c QQ E base 3 M ad 4 [(0, .ref (ad 61 0)), (1, .int x1), (2, .int x2)] [] 0 0 := by
    intro n
    induction n with
    | zero => intro M x1 x2 hw; exact False.elim hw
    | succ n K4 =>
      intro M x1 x2 hw H locs ls hW hS hl
      obtain ⟨k4, hk4⟩ : ∃ z, z = l_L_wanted_4 Q n := ⟨_, rfl⟩
      have hw : b_L_wanted_4 Q k4 M x1 x2 := by rw [hk4]; exact hw
      rw [← hk4] at K4
      unfold b_L_wanted_4 at hw
      refine lv_iload_n hx hb dL_wanted_4 rfl (lv_at hl 2 rfl) ?_
      refine lv_bipush (v := 12) hx hb dL_wanted_5 (by decide) ?_
      refine lv_icmp_ge (tgt := 34) hx hb dL_wanted_7 (by decide) (fun c_1 => ?_) (fun c_1 => ?_)
      · have hw := hw.1 c_1
        refine lv_iload_n hx hb dL_wanted_34 rfl (lv_at hl 1 rfl) ?_
        rw [← hQQ]
        exact e_I hx hb hr hlocks hW hS (Nat.le_of_ble_eq_true rfl) (Nat.le_of_ble_eq_true rfl) dL_wanted_35 ⟨hw, rfl⟩
      · have hw := hw.2 c_1
        refine lv_iload_n hx hb dL_wanted_10 rfl (lv_at hl 1 rfl) ?_
        refine lv_aload_n hx hb dL_wanted_11 rfl (lv_at hl 0 rfl) ?_
        refine lv_iconst (v := 3) hx hb dL_wanted_12 (by decide) ?_
        refine lv_iload_n hx hb dL_wanted_13 rfl (lv_at hl 2 rfl) ?_
        refine lv_iadd hx hb dL_wanted_14 ?_
        obtain ⟨g_2, hw⟩ := hw
        obtain ⟨g_3, hw⟩ := hw
        refine r_iald hx hb hT.1 hW (by decide) rfl (fun _ => rfl) 29 rfl g_3 g_2 dL_wanted_15 ?_
        refine lv_if_le (tgt := 25) hx hb dL_wanted_16 (by decide) (fun c_4 => ?_) (fun c_4 => ?_)
        · have hw := hw.1 c_4
          refine lv_iconst (v := 0) hx hb dL_wanted_25 (by decide) ?_
          exact L_26 k4 K4 M x2 0 x1 hw H locs ls hW hS (lv_sub hl [0, 2] rfl)
        · have hw := hw.2 c_4
          refine lv_iconst (v := 1) hx hb dL_wanted_19 (by decide) ?_
          refine lv_iload_n hx hb dL_wanted_20 rfl (lv_at hl 2 rfl) ?_
          refine lv_ishl hx hb dL_wanted_21 ?_
          refine lv_goto (tgt := 26) hx hb dL_wanted_22 (by decide) ?_
          exact L_26 k4 K4 M x2 (1 <<< (x2 &&& 31)) x1 hw H locs ls hW hS (lv_sub hl [0, 2] rfl)
  unfold w_L_wanted at hw
  obtain ⟨H, hH⟩ : ∃ z, z = s.heap := ⟨_, rfl⟩
  obtain ⟨locs, hlo⟩ : ∃ z : List Loc, z = [] := ⟨_, rfl⟩
  have hS : va_S (fun q : Nat => base ≤ q) s.heap H locs := by rw [hlo, hH]; exact hS
  have hW : Wd E base M ad H := by rw [hH]; exact hW
  rw [show W p l e rm_L_wanted s m args below meth c s.heap [] 0 0 QQ (F0 m 0 ls []) = W p l e rm_L_wanted s m args below meth c H locs 0 0 QQ (F0 m 0 ls []) by rw [hlo, hH]]
  refine lv_iconst (v := 0) hx hb dL_wanted_0 (by decide) ?_
  refine lv_istore_n (lv' := [(1, .int 0), (0, .ref (ad 61 0))]) hx hb dL_wanted_1 rfl hl (by decide) rfl (fun ls hl => ?_)
  refine lv_iconst (v := 0) hx hb dL_wanted_2 (by decide) ?_
  refine lv_istore_n (lv' := [(2, .int 0), (1, .int 0), (0, .ref (ad 61 0))]) hx hb dL_wanted_3 rfl hl (by decide) rfl (fun ls hl => ?_)
  obtain ⟨n9, hw⟩ := hw
  exact L_4 n9 M 0 0 hw H locs ls hW hS (lv_sub hl [2, 1, 0] rfl)
