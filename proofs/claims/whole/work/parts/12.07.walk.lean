def rm_X5_lackedBy : Room := { frames := 1, cells := 0, slots := 0, locals := 21 }
set_option maxHeartbeats 4000000 in
set_option maxRecDepth 100000 in
theorem c_X5_lackedBy (l : Launch) (E : GE) (base : Nat) (M : Mem) (ad : AD) (a1 : Int32) (Q : Int32 → Mem → Prop) (hw : w_X5_lackedBy M a1 Q) : Con l yX5_lackedBy cX5_lackedBy 4 (some .int) rm_X5_lackedBy 0 0 E base [.ref (ad 5 0), .int a1] M ad (QcI E base (fun r M1 ad1 => Q r M1 ∧ ad = ad1)) noX := by
  refine con_start (by decide) (Nat.le_of_ble_eq_true rfl) ?_
  intro p e s m args below meth c ls QQ hQQ CT hnx hW hl
  obtain ⟨⟨hx, hb, hml, hown, hts⟩, hr, hlocks, hnm, hT⟩ := CT
  have hS : va_S (fun q : Nat => base ≤ q) s.heap s.heap [] := va_S.rf
  have hl : lv_has ls 4 [(0, .ref (ad 5 0)), (1, .int a1)] := hl
  have L_40 : ∀ (k4 : Mem → Int32 → Int32 → Int32 → Prop) (K4 : ∀ (M : Mem) (x1 : Int32) (x2 : Int32) (x3 : Int32), k4 M x1 x2 x3 → WL p l e rm_X5_lackedBy s m args below meth c QQ E base 4 M ad 4 [(0, .ref (ad 5 0)), (1, .int x1), (2, .int x2), (3, .int x3)] [] 0 0) (M : Mem) (x1 : Int32) (x3 : Int32) (s0 : Int32) (s1 : Int32), b_X5_lackedBy_40 k4 Q M x1 x3 s0 s1 → WL p l e rm_X5_lackedBy s m args below meth c QQ E base 4 M ad 40 [(0, .ref (ad 5 0)), (1, .int x1), (3, .int x3)] [.int s0, .int s1] 0 0 := by
    intro k4 K4 M x1 x3 s0 s1 hw H locs ls hW hS hl
    unfold b_X5_lackedBy_40 at hw
    refine lv_ior hx hb dX5_lackedBy_40 ?_
    refine lv_topi (fun v_7 ev_7 => ?_)
    have hw := hw v_7 ev_7
    refine lv_istore_n (lv' := [(2, .int v_7), (0, .ref (ad 5 0)), (1, .int x1), (3, .int x3)]) hx hb dX5_lackedBy_41 rfl hl (by decide) rfl (fun ls hl => ?_)
    obtain ⟨v_8, ev_8⟩ : ∃ y : Int32, y = x3 + 1 := ⟨_, rfl⟩
    have hw := hw v_8 ev_8
    refine lv_iinc (v := v_8) (lv' := [(3, .int v_8), (2, .int v_7), (0, .ref (ad 5 0)), (1, .int x1)]) hx hb dX5_lackedBy_42 hl (k := 3) rfl (by rw [ev_8]; rfl) (by decide) rfl (fun ls hl => ?_)
    refine lv_goto (tgt := 4) hx hb dX5_lackedBy_45 (by decide) ?_
    exact K4 M x1 v_7 v_8 hw H locs ls hW hS (lv_sub hl [2, 3, 1, 0] rfl)
  have L_39 : ∀ (k4 : Mem → Int32 → Int32 → Int32 → Prop) (K4 : ∀ (M : Mem) (x1 : Int32) (x2 : Int32) (x3 : Int32), k4 M x1 x2 x3 → WL p l e rm_X5_lackedBy s m args below meth c QQ E base 4 M ad 4 [(0, .ref (ad 5 0)), (1, .int x1), (2, .int x2), (3, .int x3)] [] 0 0) (M : Mem) (x1 : Int32) (x3 : Int32) (s0 : Int32), b_X5_lackedBy_39 k4 Q M x1 x3 s0 → WL p l e rm_X5_lackedBy s m args below meth c QQ E base 4 M ad 39 [(0, .ref (ad 5 0)), (1, .int x1), (3, .int x3)] [.int s0] 0 0 := by
    intro k4 K4 M x1 x3 s0 hw H locs ls hW hS hl
    unfold b_X5_lackedBy_39 at hw
    refine lv_iconst (v := 0) hx hb dX5_lackedBy_39 (by decide) ?_
    exact L_40 k4 K4 M x1 x3 0 s0 hw H locs ls hW hS (lv_sub hl [0, 1, 2] rfl)
  have L_4 : ∀ (n : Nat) (M : Mem) (x1 : Int32) (x2 : Int32) (x3 : Int32), l_X5_lackedBy_4 Q n M x1 x2 x3 → WL p l e rm_X5_lackedBy s m args below meth c QQ E base 4 M ad 4 [(0, .ref (ad 5 0)), (1, .int x1), (2, .int x2), (3, .int x3)] [] 0 0 := by
    intro n
    induction n with
    | zero => intro M x1 x2 x3 hw; exact False.elim hw
    | succ n K4 =>
      intro M x1 x2 x3 hw H locs ls hW hS hl
      obtain ⟨k4, hk4⟩ : ∃ z, z = l_X5_lackedBy_4 Q n := ⟨_, rfl⟩
      have hw : b_X5_lackedBy_4 Q k4 M x1 x2 x3 := by rw [hk4]; exact hw
      rw [← hk4] at K4
      unfold b_X5_lackedBy_4 at hw
      refine lv_iload_n hx hb dX5_lackedBy_4 rfl (lv_at hl 3 rfl) ?_
      refine lv_bipush (v := 12) hx hb dX5_lackedBy_5 (by decide) ?_
      refine lv_icmp_ge (tgt := 48) hx hb dX5_lackedBy_7 (by decide) (fun c_1 => ?_) (fun c_1 => ?_)
      · have hw := hw.1 c_1
        refine lv_iload_n hx hb dX5_lackedBy_48 rfl (lv_at hl 2 rfl) ?_
        rw [← hQQ]
        exact e_I hx hb hr hlocks hW hS (Nat.le_of_ble_eq_true rfl) (Nat.le_of_ble_eq_true rfl) dX5_lackedBy_49 ⟨hw, rfl⟩
      · have hw := hw.2 c_1
        refine lv_iload_n hx hb dX5_lackedBy_10 rfl (lv_at hl 2 rfl) ?_
        refine lv_aload_n hx hb dX5_lackedBy_11 rfl (lv_at hl 0 rfl) ?_
        obtain ⟨g_2, hw⟩ := hw
        obtain ⟨g_3, hw⟩ := hw
        refine r_getR (κ2 := 32) (i2 := 0) hx hb hts hown hT.1 hW clX5 2 (by decide) (hts _ k_14) (fun _ h9 => h9) 32 rfl rfl g_2 g_3 dX5_lackedBy_12 ?_
        refine lv_iload_n hx hb dX5_lackedBy_15 rfl (lv_at hl 3 rfl) ?_
        obtain ⟨g_4, hw⟩ := hw
        obtain ⟨g_5, hw⟩ := hw
        refine r_iald hx hb hT.1 hW (by decide) rfl (fun _ => rfl) 12 rfl g_5 g_4 dX5_lackedBy_16 ?_
        refine lv_if_le (tgt := 39) hx hb dX5_lackedBy_17 (by decide) (fun c_6 => ?_) (fun c_6 => ?_)
        · have hw := hw.1 c_6
          exact L_39 k4 K4 M x1 x3 x2 hw H locs ls hW hS (lv_sub hl [0, 1, 3] rfl)
        · have hw := hw.2 c_6
          refine lv_aload_n hx hb dX5_lackedBy_20 rfl (lv_at hl 0 rfl) ?_
          obtain ⟨g_9, hw⟩ := hw
          refine r_getR (κ2 := 35) (i2 := 0) hx hb hts hown hT.1 hW clX5 5 (by decide) (hts _ k_17) (fun _ h9 => h9) 35 rfl rfl g_2 g_9 dX5_lackedBy_21 ?_
          refine lv_iload_n hx hb dX5_lackedBy_24 rfl (lv_at hl 1 rfl) ?_
          obtain ⟨g_10, hw⟩ := hw
          obtain ⟨g_11, hw⟩ := hw
          refine r_iald hx hb hT.1 hW (by decide) rfl (fun _ => rfl) 6 rfl g_11 g_10 dX5_lackedBy_25 ?_
          refine lv_iload_n hx hb dX5_lackedBy_26 rfl (lv_at hl 3 rfl) ?_
          refine k_I (rn_S (As := [.int (mI M 35 0 x1.toNatClampNeg), .int x3]) (rest := [.int x2]) ⟨hx, hb, hml, hown, hts⟩ hT hW hS hl (c_X5_has l E base M ad (mI M 35 0 x1.toNatClampNeg) x3 _ hw) cy_X5_has k_141 k_142 rfl rfl ⟨(Nat.le_of_ble_eq_true rfl), (Nat.le_of_ble_eq_true rfl)⟩ rfl rfl (Nat.le_of_ble_eq_true rfl) dX5_lackedBy_27 ⟨(Nat.le_of_ble_eq_true rfl), (Nat.le_of_ble_eq_true rfl)⟩) hS kx_no (fun r_15 M_13 ad_14 H locs hP hW hS => ?_)
          obtain ⟨hw, rfl⟩ := hP
          refine lv_if_ne (tgt := 39) hx hb dX5_lackedBy_30 (by decide) (fun c_16 => ?_) (fun c_16 => ?_)
          · have hw := hw.2 c_16
            exact L_39 k4 K4 M_13 x1 x3 x2 hw H locs ls hW hS (lv_sub hl [0, 1, 3] rfl)
          · have hw := hw.1 c_16
            refine lv_iconst (v := 1) hx hb dX5_lackedBy_33 (by decide) ?_
            refine lv_iload_n hx hb dX5_lackedBy_34 rfl (lv_at hl 3 rfl) ?_
            refine lv_ishl hx hb dX5_lackedBy_35 ?_
            refine lv_goto (tgt := 40) hx hb dX5_lackedBy_36 (by decide) ?_
            exact L_40 k4 K4 M_13 x1 x3 (1 <<< (x3 &&& 31)) x2 hw H locs ls hW hS (lv_sub hl [0, 1, 3] rfl)
  unfold w_X5_lackedBy at hw
  obtain ⟨H, hH⟩ : ∃ z, z = s.heap := ⟨_, rfl⟩
  obtain ⟨locs, hlo⟩ : ∃ z : List Loc, z = [] := ⟨_, rfl⟩
  have hS : va_S (fun q : Nat => base ≤ q) s.heap H locs := by rw [hlo, hH]; exact hS
  have hW : Wd E base M ad H := by rw [hH]; exact hW
  rw [show W p l e rm_X5_lackedBy s m args below meth c s.heap [] 0 0 QQ (F0 m 0 ls []) = W p l e rm_X5_lackedBy s m args below meth c H locs 0 0 QQ (F0 m 0 ls []) by rw [hlo, hH]]
  refine lv_iconst (v := 0) hx hb dX5_lackedBy_0 (by decide) ?_
  refine lv_istore_n (lv' := [(2, .int 0), (0, .ref (ad 5 0)), (1, .int a1)]) hx hb dX5_lackedBy_1 rfl hl (by decide) rfl (fun ls hl => ?_)
  refine lv_iconst (v := 0) hx hb dX5_lackedBy_2 (by decide) ?_
  refine lv_istore_n (lv' := [(3, .int 0), (2, .int 0), (0, .ref (ad 5 0)), (1, .int a1)]) hx hb dX5_lackedBy_3 rfl hl (by decide) rfl (fun ls hl => ?_)
  obtain ⟨n9, hw⟩ := hw
  exact L_4 n9 M a1 0 0 hw H locs ls hW hS (lv_sub hl [2, 3, 1, 0] rfl)
def rm_X5_wants : Room := { frames := 3, cells := 0, slots := 0, locals := 70 }
set_option maxHeartbeats 4000000 in
set_option maxRecDepth 100000 in
theorem c_X5_wants (l : Launch) (E : GE) (base : Nat) (M : Mem) (ad : AD) (a1 : Int32) (a2 : Int32) (Q : Int32 → Mem → Prop) (hw : w_X5_wants M a1 a2 Q) : Con l yX5_wants cX5_wants 4 (some .boolean) rm_X5_wants 0 0 E base [.ref (ad 5 0), .int a1, .int a2] M ad (QcI E base (fun r M1 ad1 => Q r M1 ∧ ad = ad1)) noX := by
  refine con_start (by decide) (Nat.le_of_ble_eq_true rfl) ?_
  intro p e s m args below meth c ls QQ hQQ CT hnx hW hl
  obtain ⟨⟨hx, hb, hml, hown, hts⟩, hr, hlocks, hnm, hT⟩ := CT
  have hS : va_S (fun q : Nat => base ≤ q) s.heap s.heap [] := va_S.rf
  have hl : lv_has ls 4 [(0, .ref (ad 5 0)), (1, .int a1), (2, .int a2)] := hl
  have L_28 : ∀ (M : Mem) (x1 : Int32) (x2 : Int32) (s0 : Int32), b_X5_wants_28 Q M x1 x2 s0 → WL p l e rm_X5_wants s m args below meth c QQ E base 4 M ad 28 [(0, .ref (ad 5 0)), (1, .int x1), (2, .int x2)] [.int s0] 0 0 := by
    intro M x1 x2 s0 hw H locs ls hW hS hl
    unfold b_X5_wants_28 at hw
    refine lv_istore_n (lv' := [(3, .int s0), (0, .ref (ad 5 0)), (1, .int x1), (2, .int x2)]) hx hb dX5_wants_28 rfl hl (by decide) rfl (fun ls hl => ?_)
    refine lv_iload_n hx hb dX5_wants_29 rfl (lv_at hl 0 rfl) ?_
    refine lv_if_eq (tgt := 65) hx hb dX5_wants_30 (by decide) (fun c_2 => ?_) (fun c_2 => ?_)
    · have hw := hw.1 c_2
      refine lv_iconst (v := 0) hx hb dX5_wants_65 (by decide) ?_
      rw [← hQQ]
      exact e_Z hx hb hr hlocks hW hS (Nat.le_of_ble_eq_true rfl) (Nat.le_of_ble_eq_true rfl) dX5_wants_66 (by decide) ⟨hw, rfl⟩
    · have hw := hw.2 c_2
      refine lv_aload_n hx hb dX5_wants_33 rfl (lv_at hl 1 rfl) ?_
      obtain ⟨g_3, hw⟩ := hw
      obtain ⟨g_4, hw⟩ := hw
      refine r_getR (κ2 := 46) (i2 := 0) hx hb hts hown hT.1 hW clX5 16 (by decide) (hts _ k_28) (fun _ h9 => h9) 46 rfl rfl g_3 g_4 dX5_wants_34 ?_
      refine lv_iload_n hx hb dX5_wants_37 rfl (lv_at hl 2 rfl) ?_
      refine lv_iload_n hx hb dX5_wants_38 rfl (lv_at hl 3 rfl) ?_
      refine k_I (rn_S (As := [.int x1, .int x2]) (rest := [.ref (ad 46 0)]) ⟨hx, hb, hml, hown, hts⟩ hT hW hS hl (c_X5_pair l E base M ad x1 x2 _ hw) cy_X5_pair k_263 k_264 rfl rfl ⟨(Nat.le_of_ble_eq_true rfl), (Nat.le_of_ble_eq_true rfl)⟩ rfl rfl (Nat.le_of_ble_eq_true rfl) dX5_wants_39 ⟨(Nat.le_of_ble_eq_true rfl), (Nat.le_of_ble_eq_true rfl)⟩) hS kx_no (fun r_8 M_6 ad_7 H locs hP hW hS => ?_)
      obtain ⟨hw, rfl⟩ := hP
      obtain ⟨g_9, hw⟩ := hw
      obtain ⟨g_10, hw⟩ := hw
      refine r_zald hx hb hT.1 hW (by decide) rfl (fun _ => rfl) 36 rfl g_10 g_9 dX5_wants_42 ?_
      refine lv_if_ne (tgt := 65) hx hb dX5_wants_43 (by decide) (fun c_11 => ?_) (fun c_11 => ?_)
      · have hw := hw.2 c_11
        refine lv_iconst (v := 0) hx hb dX5_wants_65 (by decide) ?_
        rw [← hQQ]
        exact e_Z hx hb hr hlocks hW hS (Nat.le_of_ble_eq_true rfl) (Nat.le_of_ble_eq_true rfl) dX5_wants_66 (by decide) ⟨hw, rfl⟩
      · have hw := hw.1 c_11
        refine lv_aload_n hx hb dX5_wants_46 rfl (lv_at hl 1 rfl) ?_
        refine lv_iload_n hx hb dX5_wants_47 rfl (lv_at hl 3 rfl) ?_
        refine lv_iload_n hx hb dX5_wants_48 rfl (lv_at hl 2 rfl) ?_
        obtain ⟨g_12, hw⟩ := hw
        refine k_I (rn_V (As := [.int x2, .int x1]) (rest := []) (κ := 5) (i := 0) ⟨hx, hb, hml, hown, hts⟩ hT hW hS hl (c_X5_shownBy l E base M_6 ad x2 x1 _ hw) cy_X5_shownBy k_265 k_266 k_267 g_12 (by decide) rfl rfl rfl rfl ⟨(Nat.le_of_ble_eq_true rfl), (Nat.le_of_ble_eq_true rfl)⟩ rfl rfl (Nat.le_of_ble_eq_true rfl) dX5_wants_49 ⟨(Nat.le_of_ble_eq_true rfl), (Nat.le_of_ble_eq_true rfl)⟩) hS kx_no (fun r_16 M_14 ad_15 H locs hP hW hS => ?_)
        obtain ⟨hw, rfl⟩ := hP
        refine lv_aload_n hx hb dX5_wants_52 rfl (lv_at hl 1 rfl) ?_
        refine lv_iload_n hx hb dX5_wants_53 rfl (lv_at hl 2 rfl) ?_
        obtain ⟨g_17, hw⟩ := hw
        refine k_I (rn_V (As := [.int x1]) (rest := [.int r_16]) (κ := 5) (i := 0) ⟨hx, hb, hml, hown, hts⟩ hT hW hS hl (c_X5_lackedBy l E base M_14 ad x1 _ hw) cy_X5_lackedBy k_268 k_269 k_270 g_17 (by decide) rfl rfl rfl rfl ⟨(Nat.le_of_ble_eq_true rfl), (Nat.le_of_ble_eq_true rfl)⟩ rfl rfl (Nat.le_of_ble_eq_true rfl) dX5_wants_54 ⟨(Nat.le_of_ble_eq_true rfl), (Nat.le_of_ble_eq_true rfl)⟩) hS kx_no (fun r_21 M_19 ad_20 H locs hP hW hS => ?_)
        obtain ⟨hw, rfl⟩ := hP
        refine lv_iand hx hb dX5_wants_57 ?_
        refine lv_if_eq (tgt := 65) hx hb dX5_wants_58 (by decide) (fun c_22 => ?_) (fun c_22 => ?_)
        · have hw := hw.1 c_22
          refine lv_iconst (v := 0) hx hb dX5_wants_65 (by decide) ?_
          rw [← hQQ]
          exact e_Z hx hb hr hlocks hW hS (Nat.le_of_ble_eq_true rfl) (Nat.le_of_ble_eq_true rfl) dX5_wants_66 (by decide) ⟨hw, rfl⟩
        · have hw := hw.2 c_22
          refine lv_iconst (v := 1) hx hb dX5_wants_61 (by decide) ?_
          refine lv_goto (tgt := 66) hx hb dX5_wants_62 (by decide) ?_
          rw [← hQQ]
          exact e_Z hx hb hr hlocks hW hS (Nat.le_of_ble_eq_true rfl) (Nat.le_of_ble_eq_true rfl) dX5_wants_66 (by decide) ⟨hw, rfl⟩
  have L_27 : ∀ (M : Mem) (x1 : Int32) (x2 : Int32), b_X5_wants_27 Q M x1 x2 → WL p l e rm_X5_wants s m args below meth c QQ E base 4 M ad 27 [(0, .ref (ad 5 0)), (1, .int x1), (2, .int x2)] [] 0 0 := by
    intro M x1 x2 hw H locs ls hW hS hl
    unfold b_X5_wants_27 at hw
    refine lv_iconst (v := 0) hx hb dX5_wants_27 (by decide) ?_
    exact L_28 M x1 x2 0 hw H locs ls hW hS (lv_sub hl [0, 1, 2] rfl)
  unfold w_X5_wants at hw
  obtain ⟨H, hH⟩ : ∃ z, z = s.heap := ⟨_, rfl⟩
  obtain ⟨locs, hlo⟩ : ∃ z : List Loc, z = [] := ⟨_, rfl⟩
  have hS : va_S (fun q : Nat => base ≤ q) s.heap H locs := by rw [hlo, hH]; exact hS
  have hW : Wd E base M ad H := by rw [hH]; exact hW
  rw [show W p l e rm_X5_wants s m args below meth c s.heap [] 0 0 QQ (F0 m 0 ls []) = W p l e rm_X5_wants s m args below meth c H locs 0 0 QQ (F0 m 0 ls []) by rw [hlo, hH]]
  refine lv_iload_n hx hb dX5_wants_0 rfl (lv_at hl 1 rfl) ?_
  refine lv_iload_n hx hb dX5_wants_1 rfl (lv_at hl 2 rfl) ?_
  refine lv_icmp_eq (tgt := 27) hx hb dX5_wants_2 (by decide) (fun c_1 => ?_) (fun c_1 => ?_)
  · have hw := hw.1 c_1
    exact L_27 M a1 a2 hw H locs ls hW hS (lv_sub hl [0, 1, 2] rfl)
  · have hw := hw.2 c_1
    refine lv_aload_n hx hb dX5_wants_5 rfl (lv_at hl 0 rfl) ?_
    obtain ⟨g_23, hw⟩ := hw
    obtain ⟨g_24, hw⟩ := hw
    refine r_getR (κ2 := 34) (i2 := 0) hx hb hts hown hT.1 hW clX5 4 (by decide) (hts _ k_16) (fun _ h9 => h9) 34 rfl rfl g_23 g_24 dX5_wants_6 ?_
    refine lv_iload_n hx hb dX5_wants_9 rfl (lv_at hl 1 rfl) ?_
    obtain ⟨g_25, hw⟩ := hw
    obtain ⟨g_26, hw⟩ := hw
    refine r_zald hx hb hT.1 hW (by decide) rfl (fun _ => rfl) 6 rfl g_26 g_25 dX5_wants_10 ?_
    refine lv_if_eq (tgt := 27) hx hb dX5_wants_11 (by decide) (fun c_27 => ?_) (fun c_27 => ?_)
    · have hw := hw.1 c_27
      exact L_27 M a1 a2 hw H locs ls hW hS (lv_sub hl [0, 1, 2] rfl)
    · have hw := hw.2 c_27
      refine lv_aload_n hx hb dX5_wants_14 rfl (lv_at hl 0 rfl) ?_
      refine r_getR (κ2 := 34) (i2 := 0) hx hb hts hown hT.1 hW clX5 4 (by decide) (hts _ k_16) (fun _ h9 => h9) 34 rfl rfl g_23 g_24 dX5_wants_15 ?_
      refine lv_iload_n hx hb dX5_wants_18 rfl (lv_at hl 2 rfl) ?_
      obtain ⟨g_28, hw⟩ := hw
      refine r_zald hx hb hT.1 hW (by decide) rfl (fun _ => rfl) 6 rfl g_28 g_25 dX5_wants_19 ?_
      refine lv_if_eq (tgt := 27) hx hb dX5_wants_20 (by decide) (fun c_29 => ?_) (fun c_29 => ?_)
      · have hw := hw.1 c_29
        exact L_27 M a1 a2 hw H locs ls hW hS (lv_sub hl [0, 1, 2] rfl)
      · have hw := hw.2 c_29
        refine lv_iconst (v := 1) hx hb dX5_wants_23 (by decide) ?_
        refine lv_goto (tgt := 28) hx hb dX5_wants_24 (by decide) ?_
        exact L_28 M a1 a2 1 hw H locs ls hW hS (lv_sub hl [0, 1, 2] rfl)
def rm_X5_choiceOf : Room := { frames := 4, cells := 0, slots := 0, locals := 93 }
set_option maxHeartbeats 4000000 in
set_option maxRecDepth 100000 in
theorem c_X5_choiceOf (l : Launch) (E : GE) (base : Nat) (M : Mem) (ad : AD) (a1 : Int32) (Q : Int32 → Mem → Prop) (hw : w_X5_choiceOf M a1 Q) : Con l yX5_choiceOf cX5_choiceOf 8 (some .int) rm_X5_choiceOf 0 0 E base [.ref (ad 5 0), .int a1] M ad (QcI E base (fun r M1 ad1 => Q r M1 ∧ ad = ad1)) noX := by
  refine con_start (by decide) (Nat.le_of_ble_eq_true rfl) ?_
  intro p e s m args below meth c ls QQ hQQ CT hnx hW hl
  obtain ⟨⟨hx, hb, hml, hown, hts⟩, hr, hlocks, hnm, hT⟩ := CT
  have hS : va_S (fun q : Nat => base ≤ q) s.heap s.heap [] := va_S.rf
  have hl : lv_has ls 8 [(0, .ref (ad 5 0)), (1, .int a1)] := hl
  have L_209 : ∀ (k165 : Mem → Int32 → Int32 → Int32 → Prop) (K165 : ∀ (M : Mem) (x2 : Int32) (x3 : Int32) (x4 : Int32), k165 M x2 x3 x4 → WL p l e rm_X5_choiceOf s m args below meth c QQ E base 8 M ad 165 [(0, .ref (ad 5 0)), (2, .int x2), (3, .int x3), (4, .int x4)] [] 0 0) (M : Mem) (x2 : Int32) (x3 : Int32) (x4 : Int32), b_X5_choiceOf_209 k165 Q M x2 x3 x4 → WL p l e rm_X5_choiceOf s m args below meth c QQ E base 8 M ad 209 [(0, .ref (ad 5 0)), (2, .int x2), (3, .int x3), (4, .int x4)] [] 0 0 := by
    intro k165 K165 M x2 x3 x4 hw H locs ls hW hS hl
    unfold b_X5_choiceOf_209 at hw
    obtain ⟨v_12, ev_12⟩ : ∃ y : Int32, y = x4 + 1 := ⟨_, rfl⟩
    have hw := hw v_12 ev_12
    refine lv_iinc (v := v_12) (lv' := [(4, .int v_12), (0, .ref (ad 5 0)), (2, .int x2), (3, .int x3)]) hx hb dX5_choiceOf_209 hl (k := 3) rfl (by rw [ev_12]; rfl) (by decide) rfl (fun ls hl => ?_)
    refine lv_goto (tgt := 165) hx hb dX5_choiceOf_212 (by decide) ?_
    exact K165 M x2 x3 v_12 hw H locs ls hW hS (lv_sub hl [1, 2, 3, 0] rfl)
  have L_165 : ∀ (n : Nat) (M : Mem) (x2 : Int32) (x3 : Int32) (x4 : Int32), l_X5_choiceOf_165 Q n M x2 x3 x4 → WL p l e rm_X5_choiceOf s m args below meth c QQ E base 8 M ad 165 [(0, .ref (ad 5 0)), (2, .int x2), (3, .int x3), (4, .int x4)] [] 0 0 := by
    intro n
    induction n with
    | zero => intro M x2 x3 x4 hw; exact False.elim hw
    | succ n K165 =>
      intro M x2 x3 x4 hw H locs ls hW hS hl
      obtain ⟨k165, hk165⟩ : ∃ z, z = l_X5_choiceOf_165 Q n := ⟨_, rfl⟩
      have hw : b_X5_choiceOf_165 Q k165 M x2 x3 x4 := by rw [hk165]; exact hw
      rw [← hk165] at K165
      unfold b_X5_choiceOf_165 at hw
      refine lv_iload hx hb dX5_choiceOf_165 (lv_at hl 3 rfl) ?_
      refine lv_bipush (v := 6) hx hb dX5_choiceOf_167 (by decide) ?_
      refine lv_icmp_ge (tgt := 215) hx hb dX5_choiceOf_169 (by decide) (fun c_4 => ?_) (fun c_4 => ?_)
      · have hw := hw.1 c_4
        refine lv_iload_n hx hb dX5_choiceOf_215 rfl (lv_at hl 2 rfl) ?_
        rw [← hQQ]
        exact e_I hx hb hr hlocks hW hS (Nat.le_of_ble_eq_true rfl) (Nat.le_of_ble_eq_true rfl) dX5_choiceOf_216 ⟨hw, rfl⟩
      · have hw := hw.2 c_4
        refine lv_aload_n hx hb dX5_choiceOf_172 rfl (lv_at hl 0 rfl) ?_
        obtain ⟨g_5, hw⟩ := hw
        refine r_getI hx hb hts hown hT.1 hW clX5 1 (by decide) (hts _ k_271) (fun _ h9 => h9) rfl g_5 dX5_choiceOf_173 ?_
        refine lv_iload hx hb dX5_choiceOf_176 (lv_at hl 3 rfl) ?_
        refine lv_iadd hx hb dX5_choiceOf_178 ?_
        refine lv_bipush (v := 6) hx hb dX5_choiceOf_179 (by decide) ?_
        refine lv_irem hx hb dX5_choiceOf_181 (by decide) ?_
        refine lv_topi (fun v_6 ev_6 => ?_)
        have hw := hw v_6 ev_6
        refine lv_istore (lv' := [(5, .int v_6), (0, .ref (ad 5 0)), (2, .int x2), (3, .int x3), (4, .int x4)]) hx hb dX5_choiceOf_182 hl (by decide) rfl (fun ls hl => ?_)
        refine lv_iload_n hx hb dX5_choiceOf_184 rfl (lv_at hl 2 rfl) ?_
        refine lv_iload hx hb dX5_choiceOf_185 (lv_at hl 0 rfl) ?_
        refine k_I (rn_S (As := [.int x2, .int v_6]) (rest := []) ⟨hx, hb, hml, hown, hts⟩ hT hW hS hl (c_X5_has l E base M ad x2 v_6 _ hw) cy_X5_has k_141 k_142 rfl rfl ⟨(Nat.le_of_ble_eq_true rfl), (Nat.le_of_ble_eq_true rfl)⟩ rfl rfl (Nat.le_of_ble_eq_true rfl) dX5_choiceOf_187 ⟨(Nat.le_of_ble_eq_true rfl), (Nat.le_of_ble_eq_true rfl)⟩) hS kx_no (fun r_10 M_8 ad_9 H locs hP hW hS => ?_)
        obtain ⟨hw, rfl⟩ := hP
        refine lv_if_eq (tgt := 209) hx hb dX5_choiceOf_190 (by decide) (fun c_11 => ?_) (fun c_11 => ?_)
        · have hw := hw.1 c_11
          exact L_209 k165 K165 M_8 x2 x3 x4 hw H locs ls hW hS (lv_sub hl [1, 2, 3, 4] rfl)
        · have hw := hw.2 c_11
          refine lv_iload_n hx hb dX5_choiceOf_193 rfl (lv_at hl 3 rfl) ?_
          refine lv_iload hx hb dX5_choiceOf_194 (lv_at hl 0 rfl) ?_
          refine k_I (rn_S (As := [.int x3, .int v_6]) (rest := []) ⟨hx, hb, hml, hown, hts⟩ hT hW hS hl (c_X5_has l E base M_8 ad x3 v_6 _ hw) cy_X5_has k_141 k_142 rfl rfl ⟨(Nat.le_of_ble_eq_true rfl), (Nat.le_of_ble_eq_true rfl)⟩ rfl rfl (Nat.le_of_ble_eq_true rfl) dX5_choiceOf_196 ⟨(Nat.le_of_ble_eq_true rfl), (Nat.le_of_ble_eq_true rfl)⟩) hS kx_no (fun r_16 M_14 ad_15 H locs hP hW hS => ?_)
          obtain ⟨hw, rfl⟩ := hP
          refine lv_if_ne (tgt := 209) hx hb dX5_choiceOf_199 (by decide) (fun c_17 => ?_) (fun c_17 => ?_)
          · have hw := hw.2 c_17
            exact L_209 k165 K165 M_14 x2 x3 x4 hw H locs ls hW hS (lv_sub hl [1, 2, 3, 4] rfl)
          · have hw := hw.1 c_17
            refine lv_iload_n hx hb dX5_choiceOf_202 rfl (lv_at hl 3 rfl) ?_
            refine lv_iconst (v := 1) hx hb dX5_choiceOf_203 (by decide) ?_
            refine lv_iload hx hb dX5_choiceOf_204 (lv_at hl 0 rfl) ?_
            refine lv_ishl hx hb dX5_choiceOf_206 ?_
            refine lv_ior hx hb dX5_choiceOf_207 ?_
            rw [← hQQ]
            exact e_I hx hb hr hlocks hW hS (Nat.le_of_ble_eq_true rfl) (Nat.le_of_ble_eq_true rfl) dX5_choiceOf_208 ⟨hw, rfl⟩
  have L_154 : ∀ (k42 : Mem → Int32 → Int32 → Int32 → Int32 → Prop) (K42 : ∀ (M : Mem) (x1 : Int32) (x2 : Int32) (x3 : Int32) (x4 : Int32), k42 M x1 x2 x3 x4 → WL p l e rm_X5_choiceOf s m args below meth c QQ E base 8 M ad 42 [(0, .ref (ad 5 0)), (1, .int x1), (2, .int x2), (3, .int x3), (4, .int x4)] [] 0 0) (M : Mem) (x1 : Int32) (x2 : Int32) (x4 : Int32) (s0 : Int32) (s1 : Int32), b_X5_choiceOf_154 k42 Q M x1 x2 x4 s0 s1 → WL p l e rm_X5_choiceOf s m args below meth c QQ E base 8 M ad 154 [(0, .ref (ad 5 0)), (1, .int x1), (2, .int x2), (4, .int x4)] [.int s0, .int s1] 0 0 := by
    intro k42 K42 M x1 x2 x4 s0 s1 hw H locs ls hW hS hl
    unfold b_X5_choiceOf_154 at hw
    refine lv_ior hx hb dX5_choiceOf_154 ?_
    refine lv_topi (fun v_21 ev_21 => ?_)
    have hw := hw v_21 ev_21
    refine lv_istore_n (lv' := [(3, .int v_21), (0, .ref (ad 5 0)), (1, .int x1), (2, .int x2), (4, .int x4)]) hx hb dX5_choiceOf_155 rfl hl (by decide) rfl (fun ls hl => ?_)
    obtain ⟨v_22, ev_22⟩ : ∃ y : Int32, y = x4 + 1 := ⟨_, rfl⟩
    have hw := hw v_22 ev_22
    refine lv_iinc (v := v_22) (lv' := [(4, .int v_22), (3, .int v_21), (0, .ref (ad 5 0)), (1, .int x1), (2, .int x2)]) hx hb dX5_choiceOf_156 hl (k := 4) rfl (by rw [ev_22]; rfl) (by decide) rfl (fun ls hl => ?_)
    refine lv_goto (tgt := 42) hx hb dX5_choiceOf_159 (by decide) ?_
    exact K42 M x1 x2 v_21 v_22 hw H locs ls hW hS (lv_sub hl [2, 3, 4, 1, 0] rfl)
  have L_131 : ∀ (k42 : Mem → Int32 → Int32 → Int32 → Int32 → Prop) (K42 : ∀ (M : Mem) (x1 : Int32) (x2 : Int32) (x3 : Int32) (x4 : Int32), k42 M x1 x2 x3 x4 → WL p l e rm_X5_choiceOf s m args below meth c QQ E base 8 M ad 42 [(0, .ref (ad 5 0)), (1, .int x1), (2, .int x2), (3, .int x3), (4, .int x4)] [] 0 0) (k54 : Mem → Int32 → Int32 → Int32 → Int32 → Int32 → Int32 → Prop) (K54 : ∀ (M : Mem) (x1 : Int32) (x2 : Int32) (x3 : Int32) (x4 : Int32) (x5 : Int32) (x6 : Int32), k54 M x1 x2 x3 x4 x5 x6 → WL p l e rm_X5_choiceOf s m args below meth c QQ E base 8 M ad 54 [(0, .ref (ad 5 0)), (1, .int x1), (2, .int x2), (3, .int x3), (4, .int x4), (5, .int x5), (6, .int x6)] [] 0 0) (M : Mem) (x1 : Int32) (x2 : Int32) (x3 : Int32) (x4 : Int32) (x6 : Int32) (s0 : Int32), b_X5_choiceOf_131 k42 k54 Q M x1 x2 x3 x4 x6 s0 → WL p l e rm_X5_choiceOf s m args below meth c QQ E base 8 M ad 131 [(0, .ref (ad 5 0)), (1, .int x1), (2, .int x2), (3, .int x3), (4, .int x4), (6, .int x6)] [.int s0] 0 0 := by
    intro k42 K42 k54 K54 M x1 x2 x3 x4 x6 s0 hw H locs ls hW hS hl
    unfold b_X5_choiceOf_131 at hw
    refine lv_istore (lv' := [(5, .int s0), (0, .ref (ad 5 0)), (1, .int x1), (2, .int x2), (3, .int x3), (4, .int x4), (6, .int x6)]) hx hb dX5_choiceOf_131 hl (by decide) rfl (fun ls hl => ?_)
    obtain ⟨v_29, ev_29⟩ : ∃ y : Int32, y = x6 + 1 := ⟨_, rfl⟩
    have hw := hw v_29 ev_29
    refine lv_iinc (v := v_29) (lv' := [(6, .int v_29), (5, .int s0), (0, .ref (ad 5 0)), (1, .int x1), (2, .int x2), (3, .int x3), (4, .int x4)]) hx hb dX5_choiceOf_133 hl (k := 6) rfl (by rw [ev_29]; rfl) (by decide) rfl (fun ls hl => ?_)
    refine lv_goto (tgt := 54) hx hb dX5_choiceOf_136 (by decide) ?_
    exact K54 M x1 x2 x3 x4 s0 v_29 hw H locs ls hW hS (lv_sub hl [2, 3, 4, 5, 6, 1, 0] rfl)
  have L_129 : ∀ (k42 : Mem → Int32 → Int32 → Int32 → Int32 → Prop) (K42 : ∀ (M : Mem) (x1 : Int32) (x2 : Int32) (x3 : Int32) (x4 : Int32), k42 M x1 x2 x3 x4 → WL p l e rm_X5_choiceOf s m args below meth c QQ E base 8 M ad 42 [(0, .ref (ad 5 0)), (1, .int x1), (2, .int x2), (3, .int x3), (4, .int x4)] [] 0 0) (k54 : Mem → Int32 → Int32 → Int32 → Int32 → Int32 → Int32 → Prop) (K54 : ∀ (M : Mem) (x1 : Int32) (x2 : Int32) (x3 : Int32) (x4 : Int32) (x5 : Int32) (x6 : Int32), k54 M x1 x2 x3 x4 x5 x6 → WL p l e rm_X5_choiceOf s m args below meth c QQ E base 8 M ad 54 [(0, .ref (ad 5 0)), (1, .int x1), (2, .int x2), (3, .int x3), (4, .int x4), (5, .int x5), (6, .int x6)] [] 0 0) (M : Mem) (x1 : Int32) (x2 : Int32) (x3 : Int32) (x4 : Int32) (x5 : Int32) (x6 : Int32), b_X5_choiceOf_129 k42 k54 Q M x1 x2 x3 x4 x5 x6 → WL p l e rm_X5_choiceOf s m args below meth c QQ E base 8 M ad 129 [(0, .ref (ad 5 0)), (1, .int x1), (2, .int x2), (3, .int x3), (4, .int x4), (5, .int x5), (6, .int x6)] [] 0 0 := by
    intro k42 K42 k54 K54 M x1 x2 x3 x4 x5 x6 hw H locs ls hW hS hl
    unfold b_X5_choiceOf_129 at hw
    refine lv_iload hx hb dX5_choiceOf_129 (lv_at hl 5 rfl) ?_
    exact L_131 k42 K42 k54 K54 M x1 x2 x3 x4 x6 x5 hw H locs ls hW hS (lv_sub hl [0, 1, 2, 3, 4, 6] rfl)
  have L_124 : ∀ (k42 : Mem → Int32 → Int32 → Int32 → Int32 → Prop) (K42 : ∀ (M : Mem) (x1 : Int32) (x2 : Int32) (x3 : Int32) (x4 : Int32), k42 M x1 x2 x3 x4 → WL p l e rm_X5_choiceOf s m args below meth c QQ E base 8 M ad 42 [(0, .ref (ad 5 0)), (1, .int x1), (2, .int x2), (3, .int x3), (4, .int x4)] [] 0 0) (k54 : Mem → Int32 → Int32 → Int32 → Int32 → Int32 → Int32 → Prop) (K54 : ∀ (M : Mem) (x1 : Int32) (x2 : Int32) (x3 : Int32) (x4 : Int32) (x5 : Int32) (x6 : Int32), k54 M x1 x2 x3 x4 x5 x6 → WL p l e rm_X5_choiceOf s m args below meth c QQ E base 8 M ad 54 [(0, .ref (ad 5 0)), (1, .int x1), (2, .int x2), (3, .int x3), (4, .int x4), (5, .int x5), (6, .int x6)] [] 0 0) (M : Mem) (x1 : Int32) (x2 : Int32) (x3 : Int32) (x4 : Int32) (x6 : Int32), b_X5_choiceOf_124 k42 k54 Q M x1 x2 x3 x4 x6 → WL p l e rm_X5_choiceOf s m args below meth c QQ E base 8 M ad 124 [(0, .ref (ad 5 0)), (1, .int x1), (2, .int x2), (3, .int x3), (4, .int x4), (6, .int x6)] [] 0 0 := by
    intro k42 K42 k54 K54 M x1 x2 x3 x4 x6 hw H locs ls hW hS hl
    unfold b_X5_choiceOf_124 at hw
    refine lv_iload hx hb dX5_choiceOf_124 (lv_at hl 5 rfl) ?_
    refine lv_goto (tgt := 131) hx hb dX5_choiceOf_126 (by decide) ?_
    exact L_131 k42 K42 k54 K54 M x1 x2 x3 x4 x6 x6 hw H locs ls hW hS (lv_sub hl [0, 1, 2, 3, 4, 5] rfl)
  have L_86 : ∀ (k42 : Mem → Int32 → Int32 → Int32 → Int32 → Prop) (K42 : ∀ (M : Mem) (x1 : Int32) (x2 : Int32) (x3 : Int32) (x4 : Int32), k42 M x1 x2 x3 x4 → WL p l e rm_X5_choiceOf s m args below meth c QQ E base 8 M ad 42 [(0, .ref (ad 5 0)), (1, .int x1), (2, .int x2), (3, .int x3), (4, .int x4)] [] 0 0) (k54 : Mem → Int32 → Int32 → Int32 → Int32 → Int32 → Int32 → Prop) (K54 : ∀ (M : Mem) (x1 : Int32) (x2 : Int32) (x3 : Int32) (x4 : Int32) (x5 : Int32) (x6 : Int32), k54 M x1 x2 x3 x4 x5 x6 → WL p l e rm_X5_choiceOf s m args below meth c QQ E base 8 M ad 54 [(0, .ref (ad 5 0)), (1, .int x1), (2, .int x2), (3, .int x3), (4, .int x4), (5, .int x5), (6, .int x6)] [] 0 0) (M : Mem) (x1 : Int32) (x2 : Int32) (x3 : Int32) (x4 : Int32) (x5 : Int32) (x6 : Int32) (s0 : Int32), b_X5_choiceOf_86 k42 k54 Q M x1 x2 x3 x4 x5 x6 s0 → WL p l e rm_X5_choiceOf s m args below meth c QQ E base 8 M ad 86 [(0, .ref (ad 5 0)), (1, .int x1), (2, .int x2), (3, .int x3), (4, .int x4), (5, .int x5), (6, .int x6)] [.int s0] 0 0 := by
    intro k42 K42 k54 K54 M x1 x2 x3 x4 x5 x6 s0 hw H locs ls hW hS hl
    unfold b_X5_choiceOf_86 at hw
    refine lv_istore (lv' := [(7, .int s0), (0, .ref (ad 5 0)), (1, .int x1), (2, .int x2), (3, .int x3), (4, .int x4), (5, .int x5), (6, .int x6)]) hx hb dX5_choiceOf_86 hl (by decide) rfl (fun ls hl => ?_)
    refine lv_iload hx hb dX5_choiceOf_88 (lv_at hl 0 rfl) ?_
    refine lv_if_eq (tgt := 129) hx hb dX5_choiceOf_90 (by decide) (fun c_28 => ?_) (fun c_28 => ?_)
    · have hw := hw.1 c_28
      exact L_129 k42 K42 k54 K54 M x1 x2 x3 x4 x5 x6 hw H locs ls hW hS (lv_sub hl [1, 2, 3, 4, 5, 6, 7] rfl)
    · have hw := hw.2 c_28
      refine lv_iload hx hb dX5_choiceOf_93 (lv_at hl 6 rfl) ?_
      refine lv_iconst (v := (-1)) hx hb dX5_choiceOf_95 (by decide) ?_
      refine lv_icmp_eq (tgt := 124) hx hb dX5_choiceOf_96 (by decide) (fun c_30 => ?_) (fun c_30 => ?_)
      · have hw := hw.1 c_30
        exact L_124 k42 K42 k54 K54 M x1 x2 x3 x4 x6 hw H locs ls hW hS (lv_sub hl [1, 2, 3, 4, 5, 7] rfl)
      · have hw := hw.2 c_30
        refine lv_aload_n hx hb dX5_choiceOf_99 rfl (lv_at hl 1 rfl) ?_
        obtain ⟨g_31, hw⟩ := hw
        obtain ⟨g_32, hw⟩ := hw
        refine r_getR (κ2 := 44) (i2 := 0) hx hb hts hown hT.1 hW clX5 14 (by decide) (hts _ k_26) (fun _ h9 => h9) 44 rfl rfl g_31 g_32 dX5_choiceOf_100 ?_
        refine lv_iload_n hx hb dX5_choiceOf_103 rfl (lv_at hl 2 rfl) ?_
        refine lv_iload hx hb dX5_choiceOf_104 (lv_at hl 7 rfl) ?_
        refine k_I (rn_S (As := [.int x1, .int x6]) (rest := [.ref (ad 44 0)]) ⟨hx, hb, hml, hown, hts⟩ hT hW hS hl (c_X5_pair l E base M ad x1 x6 _ hw) cy_X5_pair k_263 k_264 rfl rfl ⟨(Nat.le_of_ble_eq_true rfl), (Nat.le_of_ble_eq_true rfl)⟩ rfl rfl (Nat.le_of_ble_eq_true rfl) dX5_choiceOf_106 ⟨(Nat.le_of_ble_eq_true rfl), (Nat.le_of_ble_eq_true rfl)⟩) hS kx_no (fun r_36 M_34 ad_35 H locs hP hW hS => ?_)
        obtain ⟨hw, rfl⟩ := hP
        obtain ⟨g_37, hw⟩ := hw
        obtain ⟨g_38, hw⟩ := hw
        refine r_iald hx hb hT.1 hW (by decide) rfl (fun _ => rfl) 36 rfl g_38 g_37 dX5_choiceOf_109 ?_
        refine lv_aload_n hx hb dX5_choiceOf_110 rfl (lv_at hl 1 rfl) ?_
        obtain ⟨g_39, hw⟩ := hw
        obtain ⟨g_40, hw⟩ := hw
        refine r_getR (κ2 := 44) (i2 := 0) hx hb hts hown hT.1 hW clX5 14 (by decide) (hts _ k_26) (fun _ h9 => h9) 44 rfl rfl g_39 g_40 dX5_choiceOf_111 ?_
        refine lv_iload_n hx hb dX5_choiceOf_114 rfl (lv_at hl 2 rfl) ?_
        refine lv_iload hx hb dX5_choiceOf_115 (lv_at hl 6 rfl) ?_
        refine k_I (rn_S (As := [.int x1, .int x5]) (rest := [.ref (ad 44 0), .int (mI M_34 44 0 r_36.toNatClampNeg)]) ⟨hx, hb, hml, hown, hts⟩ hT hW hS hl (c_X5_pair l E base M_34 ad x1 x5 _ hw) cy_X5_pair k_263 k_264 rfl rfl ⟨(Nat.le_of_ble_eq_true rfl), (Nat.le_of_ble_eq_true rfl)⟩ rfl rfl (Nat.le_of_ble_eq_true rfl) dX5_choiceOf_117 ⟨(Nat.le_of_ble_eq_true rfl), (Nat.le_of_ble_eq_true rfl)⟩) hS kx_no (fun r_44 M_42 ad_43 H locs hP hW hS => ?_)
        obtain ⟨hw, rfl⟩ := hP
        obtain ⟨g_45, hw⟩ := hw
        obtain ⟨g_46, hw⟩ := hw
        refine r_iald hx hb hT.1 hW (by decide) rfl (fun _ => rfl) 36 rfl g_46 g_45 dX5_choiceOf_120 ?_
        refine lv_icmp_le (tgt := 129) hx hb dX5_choiceOf_121 (by decide) (fun c_47 => ?_) (fun c_47 => ?_)
        · have hw := hw.1 c_47
          exact L_129 k42 K42 k54 K54 M_42 x1 x2 x3 x4 x5 x6 hw H locs ls hW hS (lv_sub hl [1, 2, 3, 4, 5, 6, 7] rfl)
        · have hw := hw.2 c_47
          exact L_124 k42 K42 k54 K54 M_42 x1 x2 x3 x4 x6 hw H locs ls hW hS (lv_sub hl [1, 2, 3, 4, 5, 7] rfl)
  have L_85 : ∀ (k42 : Mem → Int32 → Int32 → Int32 → Int32 → Prop) (K42 : ∀ (M : Mem) (x1 : Int32) (x2 : Int32) (x3 : Int32) (x4 : Int32), k42 M x1 x2 x3 x4 → WL p l e rm_X5_choiceOf s m args below meth c QQ E base 8 M ad 42 [(0, .ref (ad 5 0)), (1, .int x1), (2, .int x2), (3, .int x3), (4, .int x4)] [] 0 0) (k54 : Mem → Int32 → Int32 → Int32 → Int32 → Int32 → Int32 → Prop) (K54 : ∀ (M : Mem) (x1 : Int32) (x2 : Int32) (x3 : Int32) (x4 : Int32) (x5 : Int32) (x6 : Int32), k54 M x1 x2 x3 x4 x5 x6 → WL p l e rm_X5_choiceOf s m args below meth c QQ E base 8 M ad 54 [(0, .ref (ad 5 0)), (1, .int x1), (2, .int x2), (3, .int x3), (4, .int x4), (5, .int x5), (6, .int x6)] [] 0 0) (M : Mem) (x1 : Int32) (x2 : Int32) (x3 : Int32) (x4 : Int32) (x5 : Int32) (x6 : Int32), b_X5_choiceOf_85 k42 k54 Q M x1 x2 x3 x4 x5 x6 → WL p l e rm_X5_choiceOf s m args below meth c QQ E base 8 M ad 85 [(0, .ref (ad 5 0)), (1, .int x1), (2, .int x2), (3, .int x3), (4, .int x4), (5, .int x5), (6, .int x6)] [] 0 0 := by
    intro k42 K42 k54 K54 M x1 x2 x3 x4 x5 x6 hw H locs ls hW hS hl
    unfold b_X5_choiceOf_85 at hw
    refine lv_iconst (v := 0) hx hb dX5_choiceOf_85 (by decide) ?_
    exact L_86 k42 K42 k54 K54 M x1 x2 x3 x4 x5 x6 0 hw H locs ls hW hS (lv_sub hl [0, 1, 2, 3, 4, 5, 6] rfl)
  have L_54 : ∀ (k42 : Mem → Int32 → Int32 → Int32 → Int32 → Prop) (K42 : ∀ (M : Mem) (x1 : Int32) (x2 : Int32) (x3 : Int32) (x4 : Int32), k42 M x1 x2 x3 x4 → WL p l e rm_X5_choiceOf s m args below meth c QQ E base 8 M ad 42 [(0, .ref (ad 5 0)), (1, .int x1), (2, .int x2), (3, .int x3), (4, .int x4)] [] 0 0) (n : Nat) (M : Mem) (x1 : Int32) (x2 : Int32) (x3 : Int32) (x4 : Int32) (x5 : Int32) (x6 : Int32), l_X5_choiceOf_54 k42 Q n M x1 x2 x3 x4 x5 x6 → WL p l e rm_X5_choiceOf s m args below meth c QQ E base 8 M ad 54 [(0, .ref (ad 5 0)), (1, .int x1), (2, .int x2), (3, .int x3), (4, .int x4), (5, .int x5), (6, .int x6)] [] 0 0 := by
    intro k42 K42 n
    induction n with
    | zero => intro M x1 x2 x3 x4 x5 x6 hw; exact False.elim hw
    | succ n K54 =>
      intro M x1 x2 x3 x4 x5 x6 hw H locs ls hW hS hl
      obtain ⟨k54, hk54⟩ : ∃ z, z = l_X5_choiceOf_54 k42 Q n := ⟨_, rfl⟩
      have hw : b_X5_choiceOf_54 k42 Q k54 M x1 x2 x3 x4 x5 x6 := by rw [hk54]; exact hw
      rw [← hk54] at K54
      unfold b_X5_choiceOf_54 at hw
      refine lv_iload hx hb dX5_choiceOf_54 (lv_at hl 6 rfl) ?_
      refine lv_aload_n hx hb dX5_choiceOf_56 rfl (lv_at hl 0 rfl) ?_
      obtain ⟨g_18, hw⟩ := hw
      refine r_getI hx hb hts hown hT.1 hW clX5 3 (by decide) (hts _ k_88) (fun _ h9 => h9) rfl g_18 dX5_choiceOf_57 ?_
      refine lv_icmp_ge (tgt := 139) hx hb dX5_choiceOf_60 (by decide) (fun c_19 => ?_) (fun c_19 => ?_)
      · have hw := hw.1 c_19
        refine lv_iload_n hx hb dX5_choiceOf_139 rfl (lv_at hl 3 rfl) ?_
        refine lv_iload hx hb dX5_choiceOf_140 (lv_at hl 5 rfl) ?_
        refine lv_iconst (v := (-1)) hx hb dX5_choiceOf_142 (by decide) ?_
        refine lv_icmp_ne (tgt := 150) hx hb dX5_choiceOf_143 (by decide) (fun c_20 => ?_) (fun c_20 => ?_)
        · have hw := hw.2 c_20
          refine lv_iconst (v := 1) hx hb dX5_choiceOf_150 (by decide) ?_
          refine lv_iload hx hb dX5_choiceOf_151 (lv_at hl 5 rfl) ?_
          refine lv_ishl hx hb dX5_choiceOf_153 ?_
          exact L_154 k42 K42 M x1 x2 x4 (1 <<< (x5 &&& 31)) x3 hw H locs ls hW hS (lv_sub hl [0, 1, 2, 4] rfl)
        · have hw := hw.1 c_20
          refine lv_iconst (v := 0) hx hb dX5_choiceOf_146 (by decide) ?_
          refine lv_goto (tgt := 154) hx hb dX5_choiceOf_147 (by decide) ?_
          exact L_154 k42 K42 M x1 x2 x4 0 x3 hw H locs ls hW hS (lv_sub hl [0, 1, 2, 4] rfl)
      · have hw := hw.2 c_19
        refine lv_iload_n hx hb dX5_choiceOf_63 rfl (lv_at hl 2 rfl) ?_
        refine lv_iload hx hb dX5_choiceOf_64 (lv_at hl 6 rfl) ?_
        refine k_I (rn_S (As := [.int x2, .int x6]) (rest := []) ⟨hx, hb, hml, hown, hts⟩ hT hW hS hl (c_X5_has l E base M ad x2 x6 _ hw) cy_X5_has k_141 k_142 rfl rfl ⟨(Nat.le_of_ble_eq_true rfl), (Nat.le_of_ble_eq_true rfl)⟩ rfl rfl (Nat.le_of_ble_eq_true rfl) dX5_choiceOf_66 ⟨(Nat.le_of_ble_eq_true rfl), (Nat.le_of_ble_eq_true rfl)⟩) hS kx_no (fun r_26 M_24 ad_25 H locs hP hW hS => ?_)
        obtain ⟨hw, rfl⟩ := hP
        refine lv_if_eq (tgt := 85) hx hb dX5_choiceOf_69 (by decide) (fun c_27 => ?_) (fun c_27 => ?_)
        · have hw := hw.1 c_27
          exact L_85 k42 K42 k54 K54 M_24 x1 x2 x3 x4 x5 x6 hw H locs ls hW hS (lv_sub hl [0, 1, 2, 3, 4, 5, 6] rfl)
        · have hw := hw.2 c_27
          refine lv_iload_n hx hb dX5_choiceOf_72 rfl (lv_at hl 3 rfl) ?_
          refine lv_iload hx hb dX5_choiceOf_73 (lv_at hl 6 rfl) ?_
          refine k_I (rn_S (As := [.int x3, .int x6]) (rest := []) ⟨hx, hb, hml, hown, hts⟩ hT hW hS hl (c_X5_has l E base M_24 ad x3 x6 _ hw) cy_X5_has k_141 k_142 rfl rfl ⟨(Nat.le_of_ble_eq_true rfl), (Nat.le_of_ble_eq_true rfl)⟩ rfl rfl (Nat.le_of_ble_eq_true rfl) dX5_choiceOf_75 ⟨(Nat.le_of_ble_eq_true rfl), (Nat.le_of_ble_eq_true rfl)⟩) hS kx_no (fun r_51 M_49 ad_50 H locs hP hW hS => ?_)
          obtain ⟨hw, rfl⟩ := hP
          refine lv_if_ne (tgt := 85) hx hb dX5_choiceOf_78 (by decide) (fun c_52 => ?_) (fun c_52 => ?_)
          · have hw := hw.2 c_52
            exact L_85 k42 K42 k54 K54 M_49 x1 x2 x3 x4 x5 x6 hw H locs ls hW hS (lv_sub hl [0, 1, 2, 3, 4, 5, 6] rfl)
          · have hw := hw.1 c_52
            refine lv_iconst (v := 1) hx hb dX5_choiceOf_81 (by decide) ?_
            refine lv_goto (tgt := 86) hx hb dX5_choiceOf_82 (by decide) ?_
            exact L_86 k42 K42 k54 K54 M_49 x1 x2 x3 x4 x5 x6 1 hw H locs ls hW hS (lv_sub hl [0, 1, 2, 3, 4, 5, 6] rfl)
  have L_42 : ∀ (n : Nat) (M : Mem) (x1 : Int32) (x2 : Int32) (x3 : Int32) (x4 : Int32), l_X5_choiceOf_42 Q n M x1 x2 x3 x4 → WL p l e rm_X5_choiceOf s m args below meth c QQ E base 8 M ad 42 [(0, .ref (ad 5 0)), (1, .int x1), (2, .int x2), (3, .int x3), (4, .int x4)] [] 0 0 := by
    intro n
    induction n with
    | zero => intro M x1 x2 x3 x4 hw; exact False.elim hw
    | succ n K42 =>
      intro M x1 x2 x3 x4 hw H locs ls hW hS hl
      obtain ⟨k42, hk42⟩ : ∃ z, z = l_X5_choiceOf_42 Q n := ⟨_, rfl⟩
      have hw : b_X5_choiceOf_42 Q k42 M x1 x2 x3 x4 := by rw [hk42]; exact hw
      rw [← hk42] at K42
      unfold b_X5_choiceOf_42 at hw
      refine lv_iload hx hb dX5_choiceOf_42 (lv_at hl 4 rfl) ?_
      refine lv_iconst (v := 2) hx hb dX5_choiceOf_44 (by decide) ?_
      refine lv_icmp_ge (tgt := 162) hx hb dX5_choiceOf_45 (by decide) (fun c_3 => ?_) (fun c_3 => ?_)
      · have hw := hw.1 c_3
        refine lv_iconst (v := 0) hx hb dX5_choiceOf_162 (by decide) ?_
        refine lv_istore (lv' := [(4, .int 0), (0, .ref (ad 5 0)), (1, .int x1), (2, .int x2), (3, .int x3)]) hx hb dX5_choiceOf_163 hl (by decide) rfl (fun ls hl => ?_)
        obtain ⟨n9, hw⟩ := hw
        exact L_165 n9 M x2 x3 0 hw H locs ls hW hS (lv_sub hl [1, 3, 4, 0] rfl)
      · have hw := hw.2 c_3
        refine lv_iconst (v := (-1)) hx hb dX5_choiceOf_48 (by decide) ?_
        refine lv_istore (lv' := [(5, .int (-1)), (0, .ref (ad 5 0)), (1, .int x1), (2, .int x2), (3, .int x3), (4, .int x4)]) hx hb dX5_choiceOf_49 hl (by decide) rfl (fun ls hl => ?_)
        refine lv_iconst (v := 0) hx hb dX5_choiceOf_51 (by decide) ?_
        refine lv_istore (lv' := [(6, .int 0), (5, .int (-1)), (0, .ref (ad 5 0)), (1, .int x1), (2, .int x2), (3, .int x3), (4, .int x4)]) hx hb dX5_choiceOf_52 hl (by decide) rfl (fun ls hl => ?_)
        obtain ⟨n9, hw⟩ := hw
        exact L_54 k42 K42 n9 M x1 x2 x3 x4 (-1) 0 hw H locs ls hW hS (lv_sub hl [2, 3, 4, 5, 6, 1, 0] rfl)
  have L_29 : ∀ (k4 : Mem → Int32 → Int32 → Int32 → Prop) (K4 : ∀ (M : Mem) (x1 : Int32) (x2 : Int32) (x3 : Int32), k4 M x1 x2 x3 → WL p l e rm_X5_choiceOf s m args below meth c QQ E base 8 M ad 4 [(0, .ref (ad 5 0)), (1, .int x1), (2, .int x2), (3, .int x3)] [] 0 0) (M : Mem) (x1 : Int32) (x3 : Int32) (s0 : Int32) (s1 : Int32), b_X5_choiceOf_29 k4 Q M x1 x3 s0 s1 → WL p l e rm_X5_choiceOf s m args below meth c QQ E base 8 M ad 29 [(0, .ref (ad 5 0)), (1, .int x1), (3, .int x3)] [.int s0, .int s1] 0 0 := by
    intro k4 K4 M x1 x3 s0 s1 hw H locs ls hW hS hl
    unfold b_X5_choiceOf_29 at hw
    refine lv_ior hx hb dX5_choiceOf_29 ?_
    refine lv_topi (fun v_58 ev_58 => ?_)
    have hw := hw v_58 ev_58
    refine lv_istore_n (lv' := [(2, .int v_58), (0, .ref (ad 5 0)), (1, .int x1), (3, .int x3)]) hx hb dX5_choiceOf_30 rfl hl (by decide) rfl (fun ls hl => ?_)
    obtain ⟨v_59, ev_59⟩ : ∃ y : Int32, y = x3 + 1 := ⟨_, rfl⟩
    have hw := hw v_59 ev_59
    refine lv_iinc (v := v_59) (lv' := [(3, .int v_59), (2, .int v_58), (0, .ref (ad 5 0)), (1, .int x1)]) hx hb dX5_choiceOf_31 hl (k := 3) rfl (by rw [ev_59]; rfl) (by decide) rfl (fun ls hl => ?_)
    refine lv_goto (tgt := 4) hx hb dX5_choiceOf_34 (by decide) ?_
    exact K4 M x1 v_58 v_59 hw H locs ls hW hS (lv_sub hl [2, 3, 1, 0] rfl)
  have L_4 : ∀ (n : Nat) (M : Mem) (x1 : Int32) (x2 : Int32) (x3 : Int32), l_X5_choiceOf_4 Q n M x1 x2 x3 → WL p l e rm_X5_choiceOf s m args below meth c QQ E base 8 M ad 4 [(0, .ref (ad 5 0)), (1, .int x1), (2, .int x2), (3, .int x3)] [] 0 0 := by
    intro n
    induction n with
    | zero => intro M x1 x2 x3 hw; exact False.elim hw
    | succ n K4 =>
      intro M x1 x2 x3 hw H locs ls hW hS hl
      obtain ⟨k4, hk4⟩ : ∃ z, z = l_X5_choiceOf_4 Q n := ⟨_, rfl⟩
      have hw : b_X5_choiceOf_4 Q k4 M x1 x2 x3 := by rw [hk4]; exact hw
      rw [← hk4] at K4
      unfold b_X5_choiceOf_4 at hw
      refine lv_iload_n hx hb dX5_choiceOf_4 rfl (lv_at hl 3 rfl) ?_
      refine lv_aload_n hx hb dX5_choiceOf_5 rfl (lv_at hl 0 rfl) ?_
      obtain ⟨g_1, hw⟩ := hw
      refine r_getI hx hb hts hown hT.1 hW clX5 3 (by decide) (hts _ k_88) (fun _ h9 => h9) rfl g_1 dX5_choiceOf_6 ?_
      refine lv_icmp_ge (tgt := 37) hx hb dX5_choiceOf_9 (by decide) (fun c_2 => ?_) (fun c_2 => ?_)
      · have hw := hw.1 c_2
        refine lv_iconst (v := 0) hx hb dX5_choiceOf_37 (by decide) ?_
        refine lv_istore_n (lv' := [(3, .int 0), (0, .ref (ad 5 0)), (1, .int x1), (2, .int x2)]) hx hb dX5_choiceOf_38 rfl hl (by decide) rfl (fun ls hl => ?_)
        refine lv_iconst (v := 0) hx hb dX5_choiceOf_39 (by decide) ?_
        refine lv_istore (lv' := [(4, .int 0), (3, .int 0), (0, .ref (ad 5 0)), (1, .int x1), (2, .int x2)]) hx hb dX5_choiceOf_40 hl (by decide) rfl (fun ls hl => ?_)
        obtain ⟨n9, hw⟩ := hw
        exact L_42 n9 M x1 x2 0 0 hw H locs ls hW hS (lv_sub hl [2, 3, 4, 1, 0] rfl)
      · have hw := hw.2 c_2
        refine lv_iload_n hx hb dX5_choiceOf_12 rfl (lv_at hl 2 rfl) ?_
        refine lv_aload_n hx hb dX5_choiceOf_13 rfl (lv_at hl 0 rfl) ?_
        refine lv_iload_n hx hb dX5_choiceOf_14 rfl (lv_at hl 3 rfl) ?_
        refine lv_iload_n hx hb dX5_choiceOf_15 rfl (lv_at hl 1 rfl) ?_
        refine k_I (rn_V (As := [.int x3, .int x1]) (rest := [.int x2]) (κ := 5) (i := 0) ⟨hx, hb, hml, hown, hts⟩ hT hW hS hl (c_X5_wants l E base M ad x3 x1 _ hw) cy_X5_wants k_272 k_273 k_274 g_1 (by decide) rfl rfl rfl rfl ⟨(Nat.le_of_ble_eq_true rfl), (Nat.le_of_ble_eq_true rfl)⟩ rfl rfl (Nat.le_of_ble_eq_true rfl) dX5_choiceOf_16 ⟨(Nat.le_of_ble_eq_true rfl), (Nat.le_of_ble_eq_true rfl)⟩) hS kx_no (fun r_56 M_54 ad_55 H locs hP hW hS => ?_)
        obtain ⟨hw, rfl⟩ := hP
        refine lv_if_eq (tgt := 28) hx hb dX5_choiceOf_19 (by decide) (fun c_57 => ?_) (fun c_57 => ?_)
        · have hw := hw.1 c_57
          refine lv_iconst (v := 0) hx hb dX5_choiceOf_28 (by decide) ?_
          exact L_29 k4 K4 M_54 x1 x3 0 x2 hw H locs ls hW hS (lv_sub hl [0, 1, 3] rfl)
        · have hw := hw.2 c_57
          refine lv_iconst (v := 1) hx hb dX5_choiceOf_22 (by decide) ?_
          refine lv_iload_n hx hb dX5_choiceOf_23 rfl (lv_at hl 3 rfl) ?_
          refine lv_ishl hx hb dX5_choiceOf_24 ?_
          refine lv_goto (tgt := 29) hx hb dX5_choiceOf_25 (by decide) ?_
          exact L_29 k4 K4 M_54 x1 x3 (1 <<< (x3 &&& 31)) x2 hw H locs ls hW hS (lv_sub hl [0, 1, 3] rfl)
  unfold w_X5_choiceOf at hw
  obtain ⟨H, hH⟩ : ∃ z, z = s.heap := ⟨_, rfl⟩
  obtain ⟨locs, hlo⟩ : ∃ z : List Loc, z = [] := ⟨_, rfl⟩
  have hS : va_S (fun q : Nat => base ≤ q) s.heap H locs := by rw [hlo, hH]; exact hS
  have hW : Wd E base M ad H := by rw [hH]; exact hW
  rw [show W p l e rm_X5_choiceOf s m args below meth c s.heap [] 0 0 QQ (F0 m 0 ls []) = W p l e rm_X5_choiceOf s m args below meth c H locs 0 0 QQ (F0 m 0 ls []) by rw [hlo, hH]]
  refine lv_iconst (v := 0) hx hb dX5_choiceOf_0 (by decide) ?_
  refine lv_istore_n (lv' := [(2, .int 0), (0, .ref (ad 5 0)), (1, .int a1)]) hx hb dX5_choiceOf_1 rfl hl (by decide) rfl (fun ls hl => ?_)
  refine lv_iconst (v := 0) hx hb dX5_choiceOf_2 (by decide) ?_
  refine lv_istore_n (lv' := [(3, .int 0), (2, .int 0), (0, .ref (ad 5 0)), (1, .int a1)]) hx hb dX5_choiceOf_3 rfl hl (by decide) rfl (fun ls hl => ?_)
  obtain ⟨n9, hw⟩ := hw
  exact L_4 n9 M a1 0 0 hw H locs ls hW hS (lv_sub hl [2, 3, 1, 0] rfl)
def rm_X5_looks : Room := { frames := 5, cells := 0, slots := 0, locals := 120 }
set_option maxHeartbeats 4000000 in
set_option maxRecDepth 100000 in
theorem c_X5_looks (l : Launch) (E : GE) (base : Nat) (M : Mem) (ad : AD)  (Q : Mem → Prop) (hw : w_X5_looks M  Q) : Con l yX5_looks cX5_looks 3 none rm_X5_looks 0 0 E base [.ref (ad 5 0)] M ad (QcV E base (fun M1 ad1 => Q M1 ∧ ad = ad1)) noX := by
  refine con_start (by decide) (Nat.le_of_ble_eq_true rfl) ?_
  intro p e s m args below meth c ls QQ hQQ CT hnx hW hl
  obtain ⟨⟨hx, hb, hml, hown, hts⟩, hr, hlocks, hnm, hT⟩ := CT
  have hS : va_S (fun q : Nat => base ≤ q) s.heap s.heap [] := va_S.rf
  have hl : lv_has ls 3 [(0, .ref (ad 5 0))] := hl
  have L_81 : ∀ (k2 : Mem → Int32 → Prop) (K2 : ∀ (M : Mem) (x1 : Int32), k2 M x1 → WL p l e rm_X5_looks s m args below meth c QQ E base 3 M ad 2 [(0, .ref (ad 5 0)), (1, .int x1)] [] 0 0) (k36 : Mem → Int32 → Int32 → Prop) (K36 : ∀ (M : Mem) (x1 : Int32) (x2 : Int32), k36 M x1 x2 → WL p l e rm_X5_looks s m args below meth c QQ E base 3 M ad 36 [(0, .ref (ad 5 0)), (1, .int x1), (2, .int x2)] [] 0 0) (M : Mem) (x1 : Int32) (x2 : Int32) (s0 : Int32) (s1 : Int32), b_X5_looks_81 k2 k36 Q M x1 x2 s0 s1 → WL p l e rm_X5_looks s m args below meth c QQ E base 3 M ad 81 [(0, .ref (ad 5 0)), (1, .int x1), (2, .int x2)] [.int s0, .int s1, .ref (ad 47 0)] 0 0 := by
    intro k2 K2 k36 K36 M x1 x2 s0 s1 hw H locs ls hW hS hl
    unfold b_X5_looks_81 at hw
    obtain ⟨g_24, hw⟩ := hw
    obtain ⟨g_25, hw⟩ := hw
    refine r_iast hx hb hT.1 hW hS (by decide) rfl (fun _ => rfl) 36 rfl g_25 g_24 dX5_looks_81 (fun M_26 H locs hM_26 hW hS => ?_)
    have hw := hw M_26 hM_26
    obtain ⟨v_27, ev_27⟩ : ∃ y : Int32, y = x2 + 1 := ⟨_, rfl⟩
    have hw := hw v_27 ev_27
    refine lv_iinc (v := v_27) (lv' := [(2, .int v_27), (0, .ref (ad 5 0)), (1, .int x1)]) hx hb dX5_looks_82 hl (k := 2) rfl (by rw [ev_27]; rfl) (by decide) rfl (fun ls hl => ?_)
    refine lv_goto (tgt := 36) hx hb dX5_looks_85 (by decide) ?_
    exact K36 M_26 x1 v_27 hw H locs ls hW hS (lv_sub hl [1, 2, 0] rfl)
  have L_80 : ∀ (k2 : Mem → Int32 → Prop) (K2 : ∀ (M : Mem) (x1 : Int32), k2 M x1 → WL p l e rm_X5_looks s m args below meth c QQ E base 3 M ad 2 [(0, .ref (ad 5 0)), (1, .int x1)] [] 0 0) (k36 : Mem → Int32 → Int32 → Prop) (K36 : ∀ (M : Mem) (x1 : Int32) (x2 : Int32), k36 M x1 x2 → WL p l e rm_X5_looks s m args below meth c QQ E base 3 M ad 36 [(0, .ref (ad 5 0)), (1, .int x1), (2, .int x2)] [] 0 0) (M : Mem) (x1 : Int32) (x2 : Int32) (s0 : Int32), b_X5_looks_80 k2 k36 Q M x1 x2 s0 → WL p l e rm_X5_looks s m args below meth c QQ E base 3 M ad 80 [(0, .ref (ad 5 0)), (1, .int x1), (2, .int x2)] [.int s0, .ref (ad 47 0)] 0 0 := by
    intro k2 K2 k36 K36 M x1 x2 s0 hw H locs ls hW hS hl
    unfold b_X5_looks_80 at hw
    refine lv_iconst (v := 0) hx hb dX5_looks_80 (by decide) ?_
    exact L_81 k2 K2 k36 K36 M x1 x2 0 s0 hw H locs ls hW hS (lv_sub hl [0, 1, 2] rfl)
  have L_36 : ∀ (k2 : Mem → Int32 → Prop) (K2 : ∀ (M : Mem) (x1 : Int32), k2 M x1 → WL p l e rm_X5_looks s m args below meth c QQ E base 3 M ad 2 [(0, .ref (ad 5 0)), (1, .int x1)] [] 0 0) (n : Nat) (M : Mem) (x1 : Int32) (x2 : Int32), l_X5_looks_36 k2 Q n M x1 x2 → WL p l e rm_X5_looks s m args below meth c QQ E base 3 M ad 36 [(0, .ref (ad 5 0)), (1, .int x1), (2, .int x2)] [] 0 0 := by
    intro k2 K2 n
    induction n with
    | zero => intro M x1 x2 hw; exact False.elim hw
    | succ n K36 =>
      intro M x1 x2 hw H locs ls hW hS hl
      obtain ⟨k36, hk36⟩ : ∃ z, z = l_X5_looks_36 k2 Q n := ⟨_, rfl⟩
      have hw : b_X5_looks_36 k2 Q k36 M x1 x2 := by rw [hk36]; exact hw
      rw [← hk36] at K36
      unfold b_X5_looks_36 at hw
      refine lv_iload_n hx hb dX5_looks_36 rfl (lv_at hl 2 rfl) ?_
      refine lv_aload_n hx hb dX5_looks_37 rfl (lv_at hl 0 rfl) ?_
      obtain ⟨g_11, hw⟩ := hw
      refine r_getI hx hb hts hown hT.1 hW clX5 3 (by decide) (hts _ k_88) (fun _ h9 => h9) rfl g_11 dX5_looks_38 ?_
      refine lv_icmp_ge (tgt := 88) hx hb dX5_looks_41 (by decide) (fun c_12 => ?_) (fun c_12 => ?_)
      · have hw := hw.1 c_12
        obtain ⟨v_13, ev_13⟩ : ∃ y : Int32, y = x1 + 1 := ⟨_, rfl⟩
        have hw := hw v_13 ev_13
        refine lv_iinc (v := v_13) (lv' := [(1, .int v_13), (0, .ref (ad 5 0)), (2, .int x2)]) hx hb dX5_looks_88 hl (k := 1) rfl (by rw [ev_13]; rfl) (by decide) rfl (fun ls hl => ?_)
        refine lv_goto (tgt := 2) hx hb dX5_looks_91 (by decide) ?_
        exact K2 M v_13 hw H locs ls hW hS (lv_sub hl [1, 0] rfl)
      · have hw := hw.2 c_12
        refine lv_aload_n hx hb dX5_looks_44 rfl (lv_at hl 0 rfl) ?_
        obtain ⟨g_14, hw⟩ := hw
        refine r_getR (κ2 := 47) (i2 := 0) hx hb hts hown hT.1 hW clX5 17 (by decide) (hts _ k_29) (fun _ h9 => h9) 47 rfl rfl g_11 g_14 dX5_looks_45 ?_
        refine lv_iload_n hx hb dX5_looks_48 rfl (lv_at hl 1 rfl) ?_
        refine lv_iload_n hx hb dX5_looks_49 rfl (lv_at hl 2 rfl) ?_
        refine k_I (rn_S (As := [.int x1, .int x2]) (rest := [.ref (ad 47 0)]) ⟨hx, hb, hml, hown, hts⟩ hT hW hS hl (c_X5_pair l E base M ad x1 x2 _ hw) cy_X5_pair k_263 k_264 rfl rfl ⟨(Nat.le_of_ble_eq_true rfl), (Nat.le_of_ble_eq_true rfl)⟩ rfl rfl (Nat.le_of_ble_eq_true rfl) dX5_looks_50 ⟨(Nat.le_of_ble_eq_true rfl), (Nat.le_of_ble_eq_true rfl)⟩) hS kx_no (fun r_18 M_16 ad_17 H locs hP hW hS => ?_)
        obtain ⟨hw, rfl⟩ := hP
        refine lv_aload_n hx hb dX5_looks_53 rfl (lv_at hl 0 rfl) ?_
        obtain ⟨g_19, hw⟩ := hw
        obtain ⟨g_20, hw⟩ := hw
        refine r_getR (κ2 := 34) (i2 := 0) hx hb hts hown hT.1 hW clX5 4 (by decide) (hts _ k_16) (fun _ h9 => h9) 34 rfl rfl g_19 g_20 dX5_looks_54 ?_
        refine lv_iload_n hx hb dX5_looks_57 rfl (lv_at hl 1 rfl) ?_
        obtain ⟨g_21, hw⟩ := hw
        obtain ⟨g_22, hw⟩ := hw
        refine r_zald hx hb hT.1 hW (by decide) rfl (fun _ => rfl) 6 rfl g_22 g_21 dX5_looks_58 ?_
        refine lv_if_eq (tgt := 80) hx hb dX5_looks_59 (by decide) (fun c_23 => ?_) (fun c_23 => ?_)
        · have hw := hw.1 c_23
          exact L_80 k2 K2 k36 K36 M_16 x1 x2 r_18 hw H locs ls hW hS (lv_sub hl [0, 1, 2] rfl)
        · have hw := hw.2 c_23
          refine lv_aload_n hx hb dX5_looks_62 rfl (lv_at hl 0 rfl) ?_
          refine r_getR (κ2 := 34) (i2 := 0) hx hb hts hown hT.1 hW clX5 4 (by decide) (hts _ k_16) (fun _ h9 => h9) 34 rfl rfl g_19 g_20 dX5_looks_63 ?_
          refine lv_iload_n hx hb dX5_looks_66 rfl (lv_at hl 2 rfl) ?_
          obtain ⟨g_28, hw⟩ := hw
          refine r_zald hx hb hT.1 hW (by decide) rfl (fun _ => rfl) 6 rfl g_28 g_21 dX5_looks_67 ?_
          refine lv_if_eq (tgt := 80) hx hb dX5_looks_68 (by decide) (fun c_29 => ?_) (fun c_29 => ?_)
          · have hw := hw.1 c_29
            exact L_80 k2 K2 k36 K36 M_16 x1 x2 r_18 hw H locs ls hW hS (lv_sub hl [0, 1, 2] rfl)
          · have hw := hw.2 c_29
            refine lv_aload_n hx hb dX5_looks_71 rfl (lv_at hl 0 rfl) ?_
            refine lv_iload_n hx hb dX5_looks_72 rfl (lv_at hl 1 rfl) ?_
            refine lv_iload_n hx hb dX5_looks_73 rfl (lv_at hl 2 rfl) ?_
            refine k_I (rn_V (As := [.int x1, .int x2]) (rest := [.int r_18, .ref (ad 47 0)]) (κ := 5) (i := 0) ⟨hx, hb, hml, hown, hts⟩ hT hW hS hl (c_X5_shownBy l E base M_16 ad x1 x2 _ hw) cy_X5_shownBy k_265 k_266 k_267 g_19 (by decide) rfl rfl rfl rfl ⟨(Nat.le_of_ble_eq_true rfl), (Nat.le_of_ble_eq_true rfl)⟩ rfl rfl (Nat.le_of_ble_eq_true rfl) dX5_looks_74 ⟨(Nat.le_of_ble_eq_true rfl), (Nat.le_of_ble_eq_true rfl)⟩) hS kx_no (fun r_33 M_31 ad_32 H locs hP hW hS => ?_)
            obtain ⟨hw, rfl⟩ := hP
            refine lv_goto (tgt := 81) hx hb dX5_looks_77 (by decide) ?_
            exact L_81 k2 K2 k36 K36 M_31 x1 x2 r_33 r_18 hw H locs ls hW hS (lv_sub hl [0, 1, 2] rfl)
  have L_33 : ∀ (k2 : Mem → Int32 → Prop) (K2 : ∀ (M : Mem) (x1 : Int32), k2 M x1 → WL p l e rm_X5_looks s m args below meth c QQ E base 3 M ad 2 [(0, .ref (ad 5 0)), (1, .int x1)] [] 0 0) (M : Mem) (x1 : Int32) (s0 : Int32) (s1 : Int32), b_X5_looks_33 k2 Q M x1 s0 s1 → WL p l e rm_X5_looks s m args below meth c QQ E base 3 M ad 33 [(0, .ref (ad 5 0)), (1, .int x1)] [.int s0, .int s1, .ref (ad 48 0)] 0 0 := by
    intro k2 K2 M x1 s0 s1 hw H locs ls hW hS hl
    unfold b_X5_looks_33 at hw
    obtain ⟨g_8, hw⟩ := hw
    obtain ⟨g_9, hw⟩ := hw
    refine r_iast hx hb hT.1 hW hS (by decide) rfl (fun _ => rfl) 6 rfl g_9 g_8 dX5_looks_33 (fun M_10 H locs hM_10 hW hS => ?_)
    have hw := hw M_10 hM_10
    refine lv_iconst (v := 0) hx hb dX5_looks_34 (by decide) ?_
    refine lv_istore_n (lv' := [(2, .int 0), (0, .ref (ad 5 0)), (1, .int x1)]) hx hb dX5_looks_35 rfl hl (by decide) rfl (fun ls hl => ?_)
    obtain ⟨n9, hw⟩ := hw
    exact L_36 k2 K2 n9 M_10 x1 0 hw H locs ls hW hS (lv_sub hl [1, 2, 0] rfl)
  have L_2 : ∀ (n : Nat) (M : Mem) (x1 : Int32), l_X5_looks_2 Q n M x1 → WL p l e rm_X5_looks s m args below meth c QQ E base 3 M ad 2 [(0, .ref (ad 5 0)), (1, .int x1)] [] 0 0 := by
    intro n
    induction n with
    | zero => intro M x1 hw; exact False.elim hw
    | succ n K2 =>
      intro M x1 hw H locs ls hW hS hl
      obtain ⟨k2, hk2⟩ : ∃ z, z = l_X5_looks_2 Q n := ⟨_, rfl⟩
      have hw : b_X5_looks_2 Q k2 M x1 := by rw [hk2]; exact hw
      rw [← hk2] at K2
      unfold b_X5_looks_2 at hw
      refine lv_iload_n hx hb dX5_looks_2 rfl (lv_at hl 1 rfl) ?_
      refine lv_aload_n hx hb dX5_looks_3 rfl (lv_at hl 0 rfl) ?_
      obtain ⟨g_1, hw⟩ := hw
      refine r_getI hx hb hts hown hT.1 hW clX5 3 (by decide) (hts _ k_88) (fun _ h9 => h9) rfl g_1 dX5_looks_4 ?_
      refine lv_icmp_ge (tgt := 94) hx hb dX5_looks_7 (by decide) (fun c_2 => ?_) (fun c_2 => ?_)
      · have hw := hw.1 c_2
        rw [← hQQ]
        exact e_V hx hb hr hlocks hW hS (Nat.le_of_ble_eq_true rfl) (Nat.le_of_ble_eq_true rfl) dX5_looks_94 ⟨hw, rfl⟩
      · have hw := hw.2 c_2
        refine lv_aload_n hx hb dX5_looks_10 rfl (lv_at hl 0 rfl) ?_
        obtain ⟨g_3, hw⟩ := hw
        refine r_getR (κ2 := 48) (i2 := 0) hx hb hts hown hT.1 hW clX5 18 (by decide) (hts _ k_30) (fun _ h9 => h9) 48 rfl rfl g_1 g_3 dX5_looks_11 ?_
        refine lv_iload_n hx hb dX5_looks_14 rfl (lv_at hl 1 rfl) ?_
        refine lv_aload_n hx hb dX5_looks_15 rfl (lv_at hl 0 rfl) ?_
        obtain ⟨g_4, hw⟩ := hw
        refine r_getR (κ2 := 34) (i2 := 0) hx hb hts hown hT.1 hW clX5 4 (by decide) (hts _ k_16) (fun _ h9 => h9) 34 rfl rfl g_1 g_4 dX5_looks_16 ?_
        refine lv_iload_n hx hb dX5_looks_19 rfl (lv_at hl 1 rfl) ?_
        obtain ⟨g_5, hw⟩ := hw
        obtain ⟨g_6, hw⟩ := hw
        refine r_zald hx hb hT.1 hW (by decide) rfl (fun _ => rfl) 6 rfl g_6 g_5 dX5_looks_20 ?_
        refine lv_if_eq (tgt := 32) hx hb dX5_looks_21 (by decide) (fun c_7 => ?_) (fun c_7 => ?_)
        · have hw := hw.1 c_7
          refine lv_iconst (v := 0) hx hb dX5_looks_32 (by decide) ?_
          exact L_33 k2 K2 M x1 0 x1 hw H locs ls hW hS (lv_sub hl [0, 1] rfl)
        · have hw := hw.2 c_7
          refine lv_aload_n hx hb dX5_looks_24 rfl (lv_at hl 0 rfl) ?_
          refine lv_iload_n hx hb dX5_looks_25 rfl (lv_at hl 1 rfl) ?_
          refine k_I (rn_V (As := [.int x1]) (rest := [.int x1, .ref (ad 48 0)]) (κ := 5) (i := 0) ⟨hx, hb, hml, hown, hts⟩ hT hW hS hl (c_X5_choiceOf l E base M ad x1 _ hw) cy_X5_choiceOf k_275 k_276 k_277 g_1 (by decide) rfl rfl rfl rfl ⟨(Nat.le_of_ble_eq_true rfl), (Nat.le_of_ble_eq_true rfl)⟩ rfl rfl (Nat.le_of_ble_eq_true rfl) dX5_looks_26 ⟨(Nat.le_of_ble_eq_true rfl), (Nat.le_of_ble_eq_true rfl)⟩) hS kx_no (fun r_37 M_35 ad_36 H locs hP hW hS => ?_)
          obtain ⟨hw, rfl⟩ := hP
          refine lv_goto (tgt := 33) hx hb dX5_looks_29 (by decide) ?_
          exact L_33 k2 K2 M_35 x1 r_37 x1 hw H locs ls hW hS (lv_sub hl [0, 1] rfl)
  unfold w_X5_looks at hw
  obtain ⟨H, hH⟩ : ∃ z, z = s.heap := ⟨_, rfl⟩
  obtain ⟨locs, hlo⟩ : ∃ z : List Loc, z = [] := ⟨_, rfl⟩
  have hS : va_S (fun q : Nat => base ≤ q) s.heap H locs := by rw [hlo, hH]; exact hS
  have hW : Wd E base M ad H := by rw [hH]; exact hW
  rw [show W p l e rm_X5_looks s m args below meth c s.heap [] 0 0 QQ (F0 m 0 ls []) = W p l e rm_X5_looks s m args below meth c H locs 0 0 QQ (F0 m 0 ls []) by rw [hlo, hH]]
  refine lv_iconst (v := 0) hx hb dX5_looks_0 (by decide) ?_
  refine lv_istore_n (lv' := [(1, .int 0), (0, .ref (ad 5 0))]) hx hb dX5_looks_1 rfl hl (by decide) rfl (fun ls hl => ?_)
  obtain ⟨n9, hw⟩ := hw
  exact L_2 n9 M 0 hw H locs ls hW hS (lv_sub hl [1, 0] rfl)
def rm_X5_at : Room := { frames := 0, cells := 0, slots := 0, locals := 0 }
set_option maxHeartbeats 4000000 in
set_option maxRecDepth 100000 in
theorem c_X5_at (l : Launch) (E : GE) (base : Nat) (M : Mem) (ad : AD) (a0 : Int32) (a1 : Int32) (Q : Int32 → Mem → Prop) (hw : w_X5_at M a0 a1 Q) : Con l yX5_at cX5_at 2 (some .int) rm_X5_at 0 0 E base [.int a0, .int a1] M ad (QcI E base (fun r M1 ad1 => Q r M1 ∧ ad = ad1)) noX := by
  refine con_start (by decide) (Nat.le_of_ble_eq_true rfl) ?_
  intro p e s m args below meth c ls QQ hQQ CT hnx hW hl
  obtain ⟨⟨hx, hb, hml, hown, hts⟩, hr, hlocks, hnm, hT⟩ := CT
  have hS : va_S (fun q : Nat => base ≤ q) s.heap s.heap [] := va_S.rf
  have hl : lv_has ls 2 [(0, .int a0), (1, .int a1)] := hl
  unfold w_X5_at at hw
  obtain ⟨H, hH⟩ : ∃ z, z = s.heap := ⟨_, rfl⟩
  obtain ⟨locs, hlo⟩ : ∃ z : List Loc, z = [] := ⟨_, rfl⟩
  have hS : va_S (fun q : Nat => base ≤ q) s.heap H locs := by rw [hlo, hH]; exact hS
  have hW : Wd E base M ad H := by rw [hH]; exact hW
  rw [show W p l e rm_X5_at s m args below meth c s.heap [] 0 0 QQ (F0 m 0 ls []) = W p l e rm_X5_at s m args below meth c H locs 0 0 QQ (F0 m 0 ls []) by rw [hlo, hH]]
  refine lv_bipush (v := 12) hx hb dX5_at_0 (by decide) ?_
  refine lv_iload_n hx hb dX5_at_2 rfl (lv_at hl 0 rfl) ?_
  refine lv_imul hx hb dX5_at_3 ?_
  refine lv_iload_n hx hb dX5_at_4 rfl (lv_at hl 1 rfl) ?_
  refine lv_iadd hx hb dX5_at_5 ?_
  rw [← hQQ]
  exact e_I hx hb hr hlocks hW hS (Nat.le_of_ble_eq_true rfl) (Nat.le_of_ble_eq_true rfl) dX5_at_6 ⟨hw, rfl⟩
def rm_X5_isBetter : Room := { frames := 2, cells := 0, slots := 0, locals := 44 }
set_option maxHeartbeats 4000000 in
set_option maxRecDepth 100000 in
theorem c_X5_isBetter (l : Launch) (E : GE) (base : Nat) (M : Mem) (ad : AD) (a1 : Int32) (a2 : Int32) (a3 : Int32) (Q : Int32 → Mem → Prop) (hw : w_X5_isBetter M a1 a2 a3 Q) : Con l yX5_isBetter cX5_isBetter 7 (some .boolean) rm_X5_isBetter 0 0 E base [.ref (ad 5 0), .int a1, .int a2, .int a3] M ad (QcI E base (fun r M1 ad1 => Q r M1 ∧ ad = ad1)) noX := by
  refine con_start (by decide) (Nat.le_of_ble_eq_true rfl) ?_
  intro p e s m args below meth c ls QQ hQQ CT hnx hW hl
  obtain ⟨⟨hx, hb, hml, hown, hts⟩, hr, hlocks, hnm, hT⟩ := CT
  have hS : va_S (fun q : Nat => base ≤ q) s.heap s.heap [] := va_S.rf
  have hl : lv_has ls 7 [(0, .ref (ad 5 0)), (1, .int a1), (2, .int a2), (3, .int a3)] := hl
  have L_149 : ∀ (M : Mem) , b_X5_isBetter_149 Q M → WL p l e rm_X5_isBetter s m args below meth c QQ E base 7 M ad 149 [] [] 0 0 := by
    intro M hw H locs ls hW hS hl
    unfold b_X5_isBetter_149 at hw
    refine lv_iconst (v := 1) hx hb dX5_isBetter_149 (by decide) ?_
    refine lv_goto (tgt := 154) hx hb dX5_isBetter_150 (by decide) ?_
    rw [← hQQ]
    exact e_Z hx hb hr hlocks hW hS (Nat.le_of_ble_eq_true rfl) (Nat.le_of_ble_eq_true rfl) dX5_isBetter_154 (by decide) ⟨hw, rfl⟩
  have L_132 : ∀ (M : Mem) (x2 : Int32) (x3 : Int32) (s0 : Int32), b_X5_isBetter_132 Q M x2 x3 s0 → WL p l e rm_X5_isBetter s m args below meth c QQ E base 7 M ad 132 [(2, .int x2), (3, .int x3)] [.int s0] 0 0 := by
    intro M x2 x3 s0 hw H locs ls hW hS hl
    unfold b_X5_isBetter_132 at hw
    refine lv_istore (lv' := [(6, .int s0), (2, .int x2), (3, .int x3)]) hx hb dX5_isBetter_132 hl (by decide) rfl (fun ls hl => ?_)
    refine lv_iload hx hb dX5_isBetter_134 (lv_at hl 0 rfl) ?_
    refine lv_if_lt (tgt := 149) hx hb dX5_isBetter_136 (by decide) (fun c_55 => ?_) (fun c_55 => ?_)
    · have hw := hw.1 c_55
      exact L_149 M hw H locs ls hW hS (lv_sub hl [] rfl)
    · have hw := hw.2 c_55
      refine lv_iload hx hb dX5_isBetter_139 (lv_at hl 0 rfl) ?_
      refine lv_if_ne (tgt := 153) hx hb dX5_isBetter_141 (by decide) (fun c_56 => ?_) (fun c_56 => ?_)
      · have hw := hw.2 c_56
        refine lv_iconst (v := 0) hx hb dX5_isBetter_153 (by decide) ?_
        rw [← hQQ]
        exact e_Z hx hb hr hlocks hW hS (Nat.le_of_ble_eq_true rfl) (Nat.le_of_ble_eq_true rfl) dX5_isBetter_154 (by decide) ⟨hw, rfl⟩
      · have hw := hw.1 c_56
        refine lv_iload_n hx hb dX5_isBetter_144 rfl (lv_at hl 1 rfl) ?_
        refine lv_iload_n hx hb dX5_isBetter_145 rfl (lv_at hl 2 rfl) ?_
        refine lv_icmp_ge (tgt := 153) hx hb dX5_isBetter_146 (by decide) (fun c_57 => ?_) (fun c_57 => ?_)
        · have hw := hw.1 c_57
          refine lv_iconst (v := 0) hx hb dX5_isBetter_153 (by decide) ?_
          rw [← hQQ]
          exact e_Z hx hb hr hlocks hW hS (Nat.le_of_ble_eq_true rfl) (Nat.le_of_ble_eq_true rfl) dX5_isBetter_154 (by decide) ⟨hw, rfl⟩
        · have hw := hw.2 c_57
          exact L_149 M hw H locs ls hW hS (lv_sub hl [] rfl)
  have L_60 : ∀ (M : Mem) (x1 : Int32) (x2 : Int32) (x3 : Int32) (x4 : Int32) (s0 : Int32), b_X5_isBetter_60 Q M x1 x2 x3 x4 s0 → WL p l e rm_X5_isBetter s m args below meth c QQ E base 7 M ad 60 [(0, .ref (ad 5 0)), (1, .int x1), (2, .int x2), (3, .int x3), (4, .int x4)] [.int s0] 0 0 := by
    intro M x1 x2 x3 x4 s0 hw H locs ls hW hS hl
    unfold b_X5_isBetter_60 at hw
    refine lv_istore (lv' := [(5, .int s0), (0, .ref (ad 5 0)), (1, .int x1), (2, .int x2), (3, .int x3), (4, .int x4)]) hx hb dX5_isBetter_60 hl (by decide) rfl (fun ls hl => ?_)
    refine lv_iload hx hb dX5_isBetter_62 (lv_at hl 5 rfl) ?_
    refine lv_iload hx hb dX5_isBetter_64 (lv_at hl 0 rfl) ?_
    refine lv_icmp_eq (tgt := 72) hx hb dX5_isBetter_66 (by decide) (fun c_35 => ?_) (fun c_35 => ?_)
    · have hw := hw.1 c_35
      refine lv_aload_n hx hb dX5_isBetter_72 rfl (lv_at hl 1 rfl) ?_
      obtain ⟨g_36, hw⟩ := hw
      obtain ⟨g_37, hw⟩ := hw
      refine r_getR (κ2 := 32) (i2 := 0) hx hb hts hown hT.1 hW clX5 2 (by decide) (hts _ k_14) (fun _ h9 => h9) 32 rfl rfl g_36 g_37 dX5_isBetter_73 ?_
      refine lv_iload_n hx hb dX5_isBetter_76 rfl (lv_at hl 3 rfl) ?_
      obtain ⟨g_38, hw⟩ := hw
      obtain ⟨g_39, hw⟩ := hw
      refine r_iald hx hb hT.1 hW (by decide) rfl (fun _ => rfl) 12 rfl g_39 g_38 dX5_isBetter_77 ?_
      refine lv_aload_n hx hb dX5_isBetter_78 rfl (lv_at hl 1 rfl) ?_
      refine r_getR (κ2 := 32) (i2 := 0) hx hb hts hown hT.1 hW clX5 2 (by decide) (hts _ k_14) (fun _ h9 => h9) 32 rfl rfl g_36 g_37 dX5_isBetter_79 ?_
      refine lv_iload_n hx hb dX5_isBetter_82 rfl (lv_at hl 4 rfl) ?_
      obtain ⟨g_40, hw⟩ := hw
      refine r_iald hx hb hT.1 hW (by decide) rfl (fun _ => rfl) 12 rfl g_40 g_38 dX5_isBetter_83 ?_
      refine lv_icmp_eq (tgt := 108) hx hb dX5_isBetter_84 (by decide) (fun c_41 => ?_) (fun c_41 => ?_)
      · have hw := hw.1 c_41
        refine lv_aload_n hx hb dX5_isBetter_108 rfl (lv_at hl 1 rfl) ?_
        obtain ⟨g_42, hw⟩ := hw
        refine r_getR (κ2 := 37) (i2 := 0) hx hb hts hown hT.1 hW clX5 7 (by decide) (hts _ k_19) (fun _ h9 => h9) 37 rfl rfl g_36 g_42 dX5_isBetter_109 ?_
        refine lv_iload_n hx hb dX5_isBetter_112 rfl (lv_at hl 2 rfl) ?_
        obtain ⟨g_43, hw⟩ := hw
        obtain ⟨g_44, hw⟩ := hw
        refine r_zald hx hb hT.1 hW (by decide) rfl (fun _ => rfl) 6 rfl g_44 g_43 dX5_isBetter_113 ?_
        refine lv_if_eq (tgt := 121) hx hb dX5_isBetter_114 (by decide) (fun c_45 => ?_) (fun c_45 => ?_)
        · have hw := hw.1 c_45
          refine lv_aload_n hx hb dX5_isBetter_121 rfl (lv_at hl 1 rfl) ?_
          refine lv_iload_n hx hb dX5_isBetter_122 rfl (lv_at hl 3 rfl) ?_
          refine k_I (rn_V (As := [.int x2]) (rest := []) (κ := 5) (i := 0) ⟨hx, hb, hml, hown, hts⟩ hT hW hS hl (c_X5_holdersOf l E base M ad x2 _ hw) cy_X5_holdersOf k_260 k_261 k_262 g_36 (by decide) rfl rfl rfl rfl ⟨(Nat.le_of_ble_eq_true rfl), (Nat.le_of_ble_eq_true rfl)⟩ rfl rfl (Nat.le_of_ble_eq_true rfl) dX5_isBetter_123 ⟨(Nat.le_of_ble_eq_true rfl), (Nat.le_of_ble_eq_true rfl)⟩) hS kx_no (fun r_49 M_47 ad_48 H locs hP hW hS => ?_)
          obtain ⟨hw, rfl⟩ := hP
          refine lv_aload_n hx hb dX5_isBetter_126 rfl (lv_at hl 1 rfl) ?_
          refine lv_iload_n hx hb dX5_isBetter_127 rfl (lv_at hl 4 rfl) ?_
          obtain ⟨g_50, hw⟩ := hw
          refine k_I (rn_V (As := [.int x3]) (rest := [.int r_49]) (κ := 5) (i := 0) ⟨hx, hb, hml, hown, hts⟩ hT hW hS hl (c_X5_holdersOf l E base M_47 ad x3 _ hw) cy_X5_holdersOf k_260 k_261 k_262 g_50 (by decide) rfl rfl rfl rfl ⟨(Nat.le_of_ble_eq_true rfl), (Nat.le_of_ble_eq_true rfl)⟩ rfl rfl (Nat.le_of_ble_eq_true rfl) dX5_isBetter_128 ⟨(Nat.le_of_ble_eq_true rfl), (Nat.le_of_ble_eq_true rfl)⟩) hS kx_no (fun r_54 M_52 ad_53 H locs hP hW hS => ?_)
          obtain ⟨hw, rfl⟩ := hP
          refine lv_isub hx hb dX5_isBetter_131 ?_
          exact L_132 M_52 x2 x3 (r_49 - r_54) hw H locs ls hW hS (lv_sub hl [3, 4] rfl)
        · have hw := hw.2 c_45
          refine lv_iconst (v := 0) hx hb dX5_isBetter_117 (by decide) ?_
          refine lv_goto (tgt := 132) hx hb dX5_isBetter_118 (by decide) ?_
          exact L_132 M x2 x3 0 hw H locs ls hW hS (lv_sub hl [3, 4] rfl)
      · have hw := hw.2 c_41
        refine lv_aload_n hx hb dX5_isBetter_87 rfl (lv_at hl 1 rfl) ?_
        refine r_getR (κ2 := 32) (i2 := 0) hx hb hts hown hT.1 hW clX5 2 (by decide) (hts _ k_14) (fun _ h9 => h9) 32 rfl rfl g_36 g_37 dX5_isBetter_88 ?_
        refine lv_iload_n hx hb dX5_isBetter_91 rfl (lv_at hl 3 rfl) ?_
        obtain ⟨g_58, hw⟩ := hw
        refine r_iald hx hb hT.1 hW (by decide) rfl (fun _ => rfl) 12 rfl g_58 g_38 dX5_isBetter_92 ?_
        refine lv_aload_n hx hb dX5_isBetter_93 rfl (lv_at hl 1 rfl) ?_
        refine r_getR (κ2 := 32) (i2 := 0) hx hb hts hown hT.1 hW clX5 2 (by decide) (hts _ k_14) (fun _ h9 => h9) 32 rfl rfl g_36 g_37 dX5_isBetter_94 ?_
        refine lv_iload_n hx hb dX5_isBetter_97 rfl (lv_at hl 4 rfl) ?_
        obtain ⟨g_59, hw⟩ := hw
        refine r_iald hx hb hT.1 hW (by decide) rfl (fun _ => rfl) 12 rfl g_59 g_38 dX5_isBetter_98 ?_
        refine lv_icmp_le (tgt := 106) hx hb dX5_isBetter_99 (by decide) (fun c_60 => ?_) (fun c_60 => ?_)
        · have hw := hw.1 c_60
          refine lv_iconst (v := 0) hx hb dX5_isBetter_106 (by decide) ?_
          rw [← hQQ]
          exact e_Z hx hb hr hlocks hW hS (Nat.le_of_ble_eq_true rfl) (Nat.le_of_ble_eq_true rfl) dX5_isBetter_107 (by decide) ⟨hw, rfl⟩
        · have hw := hw.2 c_60
          refine lv_iconst (v := 1) hx hb dX5_isBetter_102 (by decide) ?_
          refine lv_goto (tgt := 107) hx hb dX5_isBetter_103 (by decide) ?_
          rw [← hQQ]
          exact e_Z hx hb hr hlocks hW hS (Nat.le_of_ble_eq_true rfl) (Nat.le_of_ble_eq_true rfl) dX5_isBetter_107 (by decide) ⟨hw, rfl⟩
    · have hw := hw.2 c_35
      refine lv_iload hx hb dX5_isBetter_69 (lv_at hl 5 rfl) ?_
      obtain ⟨g_61, hw⟩ := hw
      rw [← hQQ]
      exact e_Z hx hb hr hlocks hW hS (Nat.le_of_ble_eq_true rfl) (Nat.le_of_ble_eq_true rfl) dX5_isBetter_71 g_61 ⟨hw, rfl⟩
  have L_29 : ∀ (M : Mem) (x1 : Int32) (x2 : Int32) (x3 : Int32) (s0 : Int32), b_X5_isBetter_29 Q M x1 x2 x3 s0 → WL p l e rm_X5_isBetter s m args below meth c QQ E base 7 M ad 29 [(0, .ref (ad 5 0)), (1, .int x1), (2, .int x2), (3, .int x3)] [.int s0] 0 0 := by
    intro M x1 x2 x3 s0 hw H locs ls hW hS hl
    unfold b_X5_isBetter_29 at hw
    refine lv_istore (lv' := [(4, .int s0), (0, .ref (ad 5 0)), (1, .int x1), (2, .int x2), (3, .int x3)]) hx hb dX5_isBetter_29 hl (by decide) rfl (fun ls hl => ?_)
    refine lv_aload_n hx hb dX5_isBetter_31 rfl (lv_at hl 1 rfl) ?_
    obtain ⟨g_18, hw⟩ := hw
    obtain ⟨g_19, hw⟩ := hw
    refine r_getR (κ2 := 40) (i2 := 0) hx hb hts hown hT.1 hW clX5 10 (by decide) (hts _ k_22) (fun _ h9 => h9) 40 rfl rfl g_18 g_19 dX5_isBetter_32 ?_
    refine lv_iload_n hx hb dX5_isBetter_35 rfl (lv_at hl 2 rfl) ?_
    refine lv_iload_n hx hb dX5_isBetter_36 rfl (lv_at hl 4 rfl) ?_
    refine k_I (rn_S (As := [.int x1, .int x3]) (rest := [.ref (ad 40 0)]) ⟨hx, hb, hml, hown, hts⟩ hT hW hS hl (c_X5_at l E base M ad x1 x3 _ hw) cy_X5_at k_278 k_279 rfl rfl ⟨(Nat.le_of_ble_eq_true rfl), (Nat.le_of_ble_eq_true rfl)⟩ rfl rfl (Nat.le_of_ble_eq_true rfl) dX5_isBetter_37 ⟨(Nat.le_of_ble_eq_true rfl), (Nat.le_of_ble_eq_true rfl)⟩) hS kx_no (fun r_23 M_21 ad_22 H locs hP hW hS => ?_)
    obtain ⟨hw, rfl⟩ := hP
    obtain ⟨g_24, hw⟩ := hw
    obtain ⟨g_25, hw⟩ := hw
    refine r_iald hx hb hT.1 hW (by decide) rfl (fun _ => rfl) 72 rfl g_25 g_24 dX5_isBetter_40 ?_
    refine lv_aload_n hx hb dX5_isBetter_41 rfl (lv_at hl 1 rfl) ?_
    obtain ⟨g_26, hw⟩ := hw
    obtain ⟨g_27, hw⟩ := hw
    refine r_getR (κ2 := 42) (i2 := 0) hx hb hts hown hT.1 hW clX5 12 (by decide) (hts _ k_24) (fun _ h9 => h9) 42 rfl rfl g_26 g_27 dX5_isBetter_42 ?_
    refine lv_iload_n hx hb dX5_isBetter_45 rfl (lv_at hl 2 rfl) ?_
    refine lv_iload_n hx hb dX5_isBetter_46 rfl (lv_at hl 4 rfl) ?_
    refine k_I (rn_S (As := [.int x1, .int x3]) (rest := [.ref (ad 42 0), .int (mI M_21 40 0 r_23.toNatClampNeg)]) ⟨hx, hb, hml, hown, hts⟩ hT hW hS hl (c_X5_at l E base M_21 ad x1 x3 _ hw) cy_X5_at k_278 k_279 rfl rfl ⟨(Nat.le_of_ble_eq_true rfl), (Nat.le_of_ble_eq_true rfl)⟩ rfl rfl (Nat.le_of_ble_eq_true rfl) dX5_isBetter_47 ⟨(Nat.le_of_ble_eq_true rfl), (Nat.le_of_ble_eq_true rfl)⟩) hS kx_no (fun r_31 M_29 ad_30 H locs hP hW hS => ?_)
    obtain ⟨hw, rfl⟩ := hP
    obtain ⟨g_32, hw⟩ := hw
    obtain ⟨g_33, hw⟩ := hw
    refine r_iald hx hb hT.1 hW (by decide) rfl (fun _ => rfl) 72 rfl g_33 g_32 dX5_isBetter_50 ?_
    refine lv_ior hx hb dX5_isBetter_51 ?_
    refine lv_if_eq (tgt := 59) hx hb dX5_isBetter_52 (by decide) (fun c_34 => ?_) (fun c_34 => ?_)
    · have hw := hw.1 c_34
      refine lv_iconst (v := 0) hx hb dX5_isBetter_59 (by decide) ?_
      exact L_60 M_29 x1 x2 x3 s0 0 hw H locs ls hW hS (lv_sub hl [1, 2, 3, 4, 0] rfl)
    · have hw := hw.2 c_34
      refine lv_iconst (v := 1) hx hb dX5_isBetter_55 (by decide) ?_
      refine lv_goto (tgt := 60) hx hb dX5_isBetter_56 (by decide) ?_
      exact L_60 M_29 x1 x2 x3 s0 1 hw H locs ls hW hS (lv_sub hl [1, 2, 3, 4, 0] rfl)
  unfold w_X5_isBetter at hw
  obtain ⟨H, hH⟩ : ∃ z, z = s.heap := ⟨_, rfl⟩
  obtain ⟨locs, hlo⟩ : ∃ z : List Loc, z = [] := ⟨_, rfl⟩
  have hS : va_S (fun q : Nat => base ≤ q) s.heap H locs := by rw [hlo, hH]; exact hS
  have hW : Wd E base M ad H := by rw [hH]; exact hW
  rw [show W p l e rm_X5_isBetter s m args below meth c s.heap [] 0 0 QQ (F0 m 0 ls []) = W p l e rm_X5_isBetter s m args below meth c H locs 0 0 QQ (F0 m 0 ls []) by rw [hlo, hH]]
  refine lv_aload_n hx hb dX5_isBetter_0 rfl (lv_at hl 0 rfl) ?_
  obtain ⟨g_1, hw⟩ := hw
  obtain ⟨g_2, hw⟩ := hw
  refine r_getR (κ2 := 40) (i2 := 0) hx hb hts hown hT.1 hW clX5 10 (by decide) (hts _ k_22) (fun _ h9 => h9) 40 rfl rfl g_1 g_2 dX5_isBetter_1 ?_
  refine lv_iload_n hx hb dX5_isBetter_4 rfl (lv_at hl 1 rfl) ?_
  refine lv_iload_n hx hb dX5_isBetter_5 rfl (lv_at hl 2 rfl) ?_
  refine k_I (rn_S (As := [.int a1, .int a2]) (rest := [.ref (ad 40 0)]) ⟨hx, hb, hml, hown, hts⟩ hT hW hS hl (c_X5_at l E base M ad a1 a2 _ hw) cy_X5_at k_278 k_279 rfl rfl ⟨(Nat.le_of_ble_eq_true rfl), (Nat.le_of_ble_eq_true rfl)⟩ rfl rfl (Nat.le_of_ble_eq_true rfl) dX5_isBetter_6 ⟨(Nat.le_of_ble_eq_true rfl), (Nat.le_of_ble_eq_true rfl)⟩) hS kx_no (fun r_6 M_4 ad_5 H locs hP hW hS => ?_)
  obtain ⟨hw, rfl⟩ := hP
  obtain ⟨g_7, hw⟩ := hw
  obtain ⟨g_8, hw⟩ := hw
  refine r_iald hx hb hT.1 hW (by decide) rfl (fun _ => rfl) 72 rfl g_8 g_7 dX5_isBetter_9 ?_
  refine lv_aload_n hx hb dX5_isBetter_10 rfl (lv_at hl 0 rfl) ?_
  obtain ⟨g_9, hw⟩ := hw
  obtain ⟨g_10, hw⟩ := hw
  refine r_getR (κ2 := 42) (i2 := 0) hx hb hts hown hT.1 hW clX5 12 (by decide) (hts _ k_24) (fun _ h9 => h9) 42 rfl rfl g_9 g_10 dX5_isBetter_11 ?_
  refine lv_iload_n hx hb dX5_isBetter_14 rfl (lv_at hl 1 rfl) ?_
  refine lv_iload_n hx hb dX5_isBetter_15 rfl (lv_at hl 2 rfl) ?_
  refine k_I (rn_S (As := [.int a1, .int a2]) (rest := [.ref (ad 42 0), .int (mI M_4 40 0 r_6.toNatClampNeg)]) ⟨hx, hb, hml, hown, hts⟩ hT hW hS hl (c_X5_at l E base M_4 ad a1 a2 _ hw) cy_X5_at k_278 k_279 rfl rfl ⟨(Nat.le_of_ble_eq_true rfl), (Nat.le_of_ble_eq_true rfl)⟩ rfl rfl (Nat.le_of_ble_eq_true rfl) dX5_isBetter_16 ⟨(Nat.le_of_ble_eq_true rfl), (Nat.le_of_ble_eq_true rfl)⟩) hS kx_no (fun r_14 M_12 ad_13 H locs hP hW hS => ?_)
  obtain ⟨hw, rfl⟩ := hP
  obtain ⟨g_15, hw⟩ := hw
  obtain ⟨g_16, hw⟩ := hw
  refine r_iald hx hb hT.1 hW (by decide) rfl (fun _ => rfl) 72 rfl g_16 g_15 dX5_isBetter_19 ?_
  refine lv_ior hx hb dX5_isBetter_20 ?_
  refine lv_if_eq (tgt := 28) hx hb dX5_isBetter_21 (by decide) (fun c_17 => ?_) (fun c_17 => ?_)
  · have hw := hw.1 c_17
    refine lv_iconst (v := 0) hx hb dX5_isBetter_28 (by decide) ?_
    exact L_29 M_12 a1 a2 a3 0 hw H locs ls hW hS (lv_sub hl [0, 1, 2, 3] rfl)
  · have hw := hw.2 c_17
    refine lv_iconst (v := 1) hx hb dX5_isBetter_24 (by decide) ?_
    refine lv_goto (tgt := 29) hx hb dX5_isBetter_25 (by decide) ?_
    exact L_29 M_12 a1 a2 a3 1 hw H locs ls hW hS (lv_sub hl [0, 1, 2, 3] rfl)
