def rm_X5_lowest : Room := { frames := 1, cells := 0, slots := 0, locals := 21 }
set_option maxHeartbeats 4000000 in
set_option maxRecDepth 100000 in
theorem c_X5_lowest (l : Launch) (E : GE) (base : Nat) (M : Mem) (ad : AD) (a0 : Int32) (Q : Int32 → Mem → Prop) (hw : w_X5_lowest M a0 Q) : Con l yX5_lowest cX5_lowest 2 (some .int) rm_X5_lowest 0 0 E base [.int a0] M ad (QcI E base (fun r M1 ad1 => Q r M1 ∧ ad = ad1)) noX := by
  refine con_start (by decide) (Nat.le_of_ble_eq_true rfl) ?_
  intro p e s m args below meth c ls QQ hQQ CT hnx hW hl
  obtain ⟨⟨hx, hb, hml, hown, hts⟩, hr, hlocks, hnm, hT⟩ := CT
  have hS : va_S (fun q : Nat => base ≤ q) s.heap s.heap [] := va_S.rf
  have hl : lv_has ls 2 [(0, .int a0)] := hl
  have L_2 : ∀ (n : Nat) (M : Mem) (x0 : Int32) (x1 : Int32), l_X5_lowest_2 Q n M x0 x1 → WL p l e rm_X5_lowest s m args below meth c QQ E base 2 M ad 2 [(0, .int x0), (1, .int x1)] [] 0 0 := by
    intro n
    induction n with
    | zero => intro M x0 x1 hw; exact False.elim hw
    | succ n K2 =>
      intro M x0 x1 hw H locs ls hW hS hl
      obtain ⟨k2, hk2⟩ : ∃ z, z = l_X5_lowest_2 Q n := ⟨_, rfl⟩
      have hw : b_X5_lowest_2 Q k2 M x0 x1 := by rw [hk2]; exact hw
      rw [← hk2] at K2
      unfold b_X5_lowest_2 at hw
      refine lv_iload_n hx hb dX5_lowest_2 rfl (lv_at hl 0 rfl) ?_
      refine lv_iload_n hx hb dX5_lowest_3 rfl (lv_at hl 1 rfl) ?_
      refine k_I (rn_S (As := [.int x0, .int x1]) (rest := []) ⟨hx, hb, hml, hown, hts⟩ hT hW hS hl (c_X5_has l E base M ad x0 x1 _ hw) cy_X5_has k_141 k_142 rfl rfl ⟨(Nat.le_of_ble_eq_true rfl), (Nat.le_of_ble_eq_true rfl)⟩ rfl rfl (Nat.le_of_ble_eq_true rfl) dX5_lowest_4 ⟨(Nat.le_of_ble_eq_true rfl), (Nat.le_of_ble_eq_true rfl)⟩) hS kx_no (fun r_4 M_2 ad_3 H locs hP hW hS => ?_)
      obtain ⟨hw, rfl⟩ := hP
      refine lv_if_ne (tgt := 16) hx hb dX5_lowest_7 (by decide) (fun c_5 => ?_) (fun c_5 => ?_)
      · have hw := hw.2 c_5
        refine lv_iload_n hx hb dX5_lowest_16 rfl (lv_at hl 1 rfl) ?_
        rw [← hQQ]
        exact e_I hx hb hr hlocks hW hS (Nat.le_of_ble_eq_true rfl) (Nat.le_of_ble_eq_true rfl) dX5_lowest_17 ⟨hw, rfl⟩
      · have hw := hw.1 c_5
        obtain ⟨v_6, ev_6⟩ : ∃ y : Int32, y = x1 + 1 := ⟨_, rfl⟩
        have hw := hw v_6 ev_6
        refine lv_iinc (v := v_6) (lv' := [(1, .int v_6), (0, .int x0)]) hx hb dX5_lowest_10 hl (k := 1) rfl (by rw [ev_6]; rfl) (by decide) rfl (fun ls hl => ?_)
        refine lv_goto (tgt := 2) hx hb dX5_lowest_13 (by decide) ?_
        exact K2 M_2 x0 v_6 hw H locs ls hW hS (lv_sub hl [1, 0] rfl)
  unfold w_X5_lowest at hw
  obtain ⟨H, hH⟩ : ∃ z, z = s.heap := ⟨_, rfl⟩
  obtain ⟨locs, hlo⟩ : ∃ z : List Loc, z = [] := ⟨_, rfl⟩
  have hS : va_S (fun q : Nat => base ≤ q) s.heap H locs := by rw [hlo, hH]; exact hS
  have hW : Wd E base M ad H := by rw [hH]; exact hW
  rw [show W p l e rm_X5_lowest s m args below meth c s.heap [] 0 0 QQ (F0 m 0 ls []) = W p l e rm_X5_lowest s m args below meth c H locs 0 0 QQ (F0 m 0 ls []) by rw [hlo, hH]]
  refine lv_iconst (v := 0) hx hb dX5_lowest_0 (by decide) ?_
  refine lv_istore_n (lv' := [(1, .int 0), (0, .int a0)]) hx hb dX5_lowest_1 rfl hl (by decide) rfl (fun ls hl => ?_)
  obtain ⟨n9, hw⟩ := hw
  exact L_2 n9 M a0 0 hw H locs ls hW hS (lv_sub hl [1, 0] rfl)
def rm_X5_hasAskedAll : Room := { frames := 2, cells := 0, slots := 0, locals := 44 }
set_option maxHeartbeats 4000000 in
set_option maxRecDepth 100000 in
theorem c_X5_hasAskedAll (l : Launch) (E : GE) (base : Nat) (M : Mem) (ad : AD) (a1 : Int32) (Q : Int32 → Mem → Prop) (hw : w_X5_hasAskedAll M a1 Q) : Con l yX5_hasAskedAll cX5_hasAskedAll 5 (some .boolean) rm_X5_hasAskedAll 0 0 E base [.ref (ad 5 0), .int a1] M ad (QcI E base (fun r M1 ad1 => Q r M1 ∧ ad = ad1)) noX := by
  refine con_start (by decide) (Nat.le_of_ble_eq_true rfl) ?_
  intro p e s m args below meth c ls QQ hQQ CT hnx hW hl
  obtain ⟨⟨hx, hb, hml, hown, hts⟩, hr, hlocks, hnm, hT⟩ := CT
  have hS : va_S (fun q : Nat => base ≤ q) s.heap s.heap [] := va_S.rf
  have hl : lv_has ls 5 [(0, .ref (ad 5 0)), (1, .int a1)] := hl
  have L_64 : ∀ (k11 : Mem → Int32 → Int32 → Int32 → Int32 → Prop) (K11 : ∀ (M : Mem) (x1 : Int32) (x2 : Int32) (x3 : Int32) (x4 : Int32), k11 M x1 x2 x3 x4 → WL p l e rm_X5_hasAskedAll s m args below meth c QQ E base 5 M ad 11 [(0, .ref (ad 5 0)), (1, .int x1), (2, .int x2), (3, .int x3), (4, .int x4)] [] 0 0) (M : Mem) (x1 : Int32) (x2 : Int32) (x4 : Int32) (s0 : Int32), b_X5_hasAskedAll_64 k11 Q M x1 x2 x4 s0 → WL p l e rm_X5_hasAskedAll s m args below meth c QQ E base 5 M ad 64 [(0, .ref (ad 5 0)), (1, .int x1), (2, .int x2), (4, .int x4)] [.int s0] 0 0 := by
    intro k11 K11 M x1 x2 x4 s0 hw H locs ls hW hS hl
    unfold b_X5_hasAskedAll_64 at hw
    refine lv_istore_n (lv' := [(3, .int s0), (0, .ref (ad 5 0)), (1, .int x1), (2, .int x2), (4, .int x4)]) hx hb dX5_hasAskedAll_64 rfl hl (by decide) rfl (fun ls hl => ?_)
    obtain ⟨v_9, ev_9⟩ : ∃ y : Int32, y = x4 + 1 := ⟨_, rfl⟩
    have hw := hw v_9 ev_9
    refine lv_iinc (v := v_9) (lv' := [(4, .int v_9), (3, .int s0), (0, .ref (ad 5 0)), (1, .int x1), (2, .int x2)]) hx hb dX5_hasAskedAll_65 hl (k := 4) rfl (by rw [ev_9]; rfl) (by decide) rfl (fun ls hl => ?_)
    refine lv_goto (tgt := 11) hx hb dX5_hasAskedAll_68 (by decide) ?_
    exact K11 M x1 x2 s0 v_9 hw H locs ls hW hS (lv_sub hl [2, 3, 4, 1, 0] rfl)
  have L_63 : ∀ (k11 : Mem → Int32 → Int32 → Int32 → Int32 → Prop) (K11 : ∀ (M : Mem) (x1 : Int32) (x2 : Int32) (x3 : Int32) (x4 : Int32), k11 M x1 x2 x3 x4 → WL p l e rm_X5_hasAskedAll s m args below meth c QQ E base 5 M ad 11 [(0, .ref (ad 5 0)), (1, .int x1), (2, .int x2), (3, .int x3), (4, .int x4)] [] 0 0) (M : Mem) (x1 : Int32) (x2 : Int32) (x4 : Int32), b_X5_hasAskedAll_63 k11 Q M x1 x2 x4 → WL p l e rm_X5_hasAskedAll s m args below meth c QQ E base 5 M ad 63 [(0, .ref (ad 5 0)), (1, .int x1), (2, .int x2), (4, .int x4)] [] 0 0 := by
    intro k11 K11 M x1 x2 x4 hw H locs ls hW hS hl
    unfold b_X5_hasAskedAll_63 at hw
    refine lv_iconst (v := 0) hx hb dX5_hasAskedAll_63 (by decide) ?_
    exact L_64 k11 K11 M x1 x2 x4 0 hw H locs ls hW hS (lv_sub hl [0, 1, 2, 3] rfl)
  have L_59 : ∀ (k11 : Mem → Int32 → Int32 → Int32 → Int32 → Prop) (K11 : ∀ (M : Mem) (x1 : Int32) (x2 : Int32) (x3 : Int32) (x4 : Int32), k11 M x1 x2 x3 x4 → WL p l e rm_X5_hasAskedAll s m args below meth c QQ E base 5 M ad 11 [(0, .ref (ad 5 0)), (1, .int x1), (2, .int x2), (3, .int x3), (4, .int x4)] [] 0 0) (M : Mem) (x1 : Int32) (x2 : Int32) (x4 : Int32), b_X5_hasAskedAll_59 k11 Q M x1 x2 x4 → WL p l e rm_X5_hasAskedAll s m args below meth c QQ E base 5 M ad 59 [(0, .ref (ad 5 0)), (1, .int x1), (2, .int x2), (4, .int x4)] [] 0 0 := by
    intro k11 K11 M x1 x2 x4 hw H locs ls hW hS hl
    unfold b_X5_hasAskedAll_59 at hw
    refine lv_iconst (v := 1) hx hb dX5_hasAskedAll_59 (by decide) ?_
    refine lv_goto (tgt := 64) hx hb dX5_hasAskedAll_60 (by decide) ?_
    exact L_64 k11 K11 M x1 x2 x4 1 hw H locs ls hW hS (lv_sub hl [0, 1, 2, 3] rfl)
  have L_11 : ∀ (n : Nat) (M : Mem) (x1 : Int32) (x2 : Int32) (x3 : Int32) (x4 : Int32), l_X5_hasAskedAll_11 Q n M x1 x2 x3 x4 → WL p l e rm_X5_hasAskedAll s m args below meth c QQ E base 5 M ad 11 [(0, .ref (ad 5 0)), (1, .int x1), (2, .int x2), (3, .int x3), (4, .int x4)] [] 0 0 := by
    intro n
    induction n with
    | zero => intro M x1 x2 x3 x4 hw; exact False.elim hw
    | succ n K11 =>
      intro M x1 x2 x3 x4 hw H locs ls hW hS hl
      obtain ⟨k11, hk11⟩ : ∃ z, z = l_X5_hasAskedAll_11 Q n := ⟨_, rfl⟩
      have hw : b_X5_hasAskedAll_11 Q k11 M x1 x2 x3 x4 := by rw [hk11]; exact hw
      rw [← hk11] at K11
      unfold b_X5_hasAskedAll_11 at hw
      refine lv_iload hx hb dX5_hasAskedAll_11 (lv_at hl 4 rfl) ?_
      refine lv_bipush (v := 12) hx hb dX5_hasAskedAll_13 (by decide) ?_
      refine lv_icmp_ge (tgt := 71) hx hb dX5_hasAskedAll_15 (by decide) (fun c_6 => ?_) (fun c_6 => ?_)
      · have hw := hw.1 c_6
        refine lv_iload_n hx hb dX5_hasAskedAll_71 rfl (lv_at hl 3 rfl) ?_
        obtain ⟨g_7, hw⟩ := hw
        rw [← hQQ]
        exact e_Z hx hb hr hlocks hW hS (Nat.le_of_ble_eq_true rfl) (Nat.le_of_ble_eq_true rfl) dX5_hasAskedAll_72 g_7 ⟨hw, rfl⟩
      · have hw := hw.2 c_6
        refine lv_iload_n hx hb dX5_hasAskedAll_18 rfl (lv_at hl 3 rfl) ?_
        refine lv_if_eq (tgt := 63) hx hb dX5_hasAskedAll_19 (by decide) (fun c_8 => ?_) (fun c_8 => ?_)
        · have hw := hw.1 c_8
          exact L_63 k11 K11 M x1 x2 x4 hw H locs ls hW hS (lv_sub hl [0, 1, 2, 4] rfl)
        · have hw := hw.2 c_8
          refine lv_iload_n hx hb dX5_hasAskedAll_22 rfl (lv_at hl 2 rfl) ?_
          refine lv_iload hx hb dX5_hasAskedAll_23 (lv_at hl 4 rfl) ?_
          refine k_I (rn_S (As := [.int x2, .int x4]) (rest := []) ⟨hx, hb, hml, hown, hts⟩ hT hW hS hl (c_X5_has l E base M ad x2 x4 _ hw) cy_X5_has k_141 k_142 rfl rfl ⟨(Nat.le_of_ble_eq_true rfl), (Nat.le_of_ble_eq_true rfl)⟩ rfl rfl (Nat.le_of_ble_eq_true rfl) dX5_hasAskedAll_25 ⟨(Nat.le_of_ble_eq_true rfl), (Nat.le_of_ble_eq_true rfl)⟩) hS kx_no (fun r_13 M_11 ad_12 H locs hP hW hS => ?_)
          obtain ⟨hw, rfl⟩ := hP
          refine lv_if_eq (tgt := 59) hx hb dX5_hasAskedAll_28 (by decide) (fun c_14 => ?_) (fun c_14 => ?_)
          · have hw := hw.1 c_14
            exact L_59 k11 K11 M_11 x1 x2 x4 hw H locs ls hW hS (lv_sub hl [0, 1, 2, 4] rfl)
          · have hw := hw.2 c_14
            refine lv_aload_n hx hb dX5_hasAskedAll_31 rfl (lv_at hl 0 rfl) ?_
            obtain ⟨g_15, hw⟩ := hw
            obtain ⟨g_16, hw⟩ := hw
            refine r_getR (κ2 := 40) (i2 := 0) hx hb hts hown hT.1 hW clX5 10 (by decide) (hts _ k_22) (fun _ h9 => h9) 40 rfl rfl g_15 g_16 dX5_hasAskedAll_32 ?_
            refine lv_iload_n hx hb dX5_hasAskedAll_35 rfl (lv_at hl 1 rfl) ?_
            refine lv_iload hx hb dX5_hasAskedAll_36 (lv_at hl 4 rfl) ?_
            refine k_I (rn_S (As := [.int x1, .int x4]) (rest := [.ref (ad 40 0)]) ⟨hx, hb, hml, hown, hts⟩ hT hW hS hl (c_X5_at l E base M_11 ad x1 x4 _ hw) cy_X5_at k_278 k_279 rfl rfl ⟨(Nat.le_of_ble_eq_true rfl), (Nat.le_of_ble_eq_true rfl)⟩ rfl rfl (Nat.le_of_ble_eq_true rfl) dX5_hasAskedAll_38 ⟨(Nat.le_of_ble_eq_true rfl), (Nat.le_of_ble_eq_true rfl)⟩) hS kx_no (fun r_20 M_18 ad_19 H locs hP hW hS => ?_)
            obtain ⟨hw, rfl⟩ := hP
            obtain ⟨g_21, hw⟩ := hw
            obtain ⟨g_22, hw⟩ := hw
            refine r_iald hx hb hT.1 hW (by decide) rfl (fun _ => rfl) 72 rfl g_22 g_21 dX5_hasAskedAll_41 ?_
            refine lv_aload_n hx hb dX5_hasAskedAll_42 rfl (lv_at hl 0 rfl) ?_
            obtain ⟨g_23, hw⟩ := hw
            obtain ⟨g_24, hw⟩ := hw
            refine r_getR (κ2 := 42) (i2 := 0) hx hb hts hown hT.1 hW clX5 12 (by decide) (hts _ k_24) (fun _ h9 => h9) 42 rfl rfl g_23 g_24 dX5_hasAskedAll_43 ?_
            refine lv_iload_n hx hb dX5_hasAskedAll_46 rfl (lv_at hl 1 rfl) ?_
            refine lv_iload hx hb dX5_hasAskedAll_47 (lv_at hl 4 rfl) ?_
            refine k_I (rn_S (As := [.int x1, .int x4]) (rest := [.ref (ad 42 0), .int (mI M_18 40 0 r_20.toNatClampNeg)]) ⟨hx, hb, hml, hown, hts⟩ hT hW hS hl (c_X5_at l E base M_18 ad x1 x4 _ hw) cy_X5_at k_278 k_279 rfl rfl ⟨(Nat.le_of_ble_eq_true rfl), (Nat.le_of_ble_eq_true rfl)⟩ rfl rfl (Nat.le_of_ble_eq_true rfl) dX5_hasAskedAll_49 ⟨(Nat.le_of_ble_eq_true rfl), (Nat.le_of_ble_eq_true rfl)⟩) hS kx_no (fun r_28 M_26 ad_27 H locs hP hW hS => ?_)
            obtain ⟨hw, rfl⟩ := hP
            obtain ⟨g_29, hw⟩ := hw
            obtain ⟨g_30, hw⟩ := hw
            refine r_iald hx hb hT.1 hW (by decide) rfl (fun _ => rfl) 72 rfl g_30 g_29 dX5_hasAskedAll_52 ?_
            refine lv_ior hx hb dX5_hasAskedAll_53 ?_
            refine lv_bipush (v := 15) hx hb dX5_hasAskedAll_54 (by decide) ?_
            refine lv_icmp_ne (tgt := 63) hx hb dX5_hasAskedAll_56 (by decide) (fun c_31 => ?_) (fun c_31 => ?_)
            · have hw := hw.2 c_31
              exact L_63 k11 K11 M_26 x1 x2 x4 hw H locs ls hW hS (lv_sub hl [0, 1, 2, 4] rfl)
            · have hw := hw.1 c_31
              exact L_59 k11 K11 M_26 x1 x2 x4 hw H locs ls hW hS (lv_sub hl [0, 1, 2, 4] rfl)
  unfold w_X5_hasAskedAll at hw
  obtain ⟨H, hH⟩ : ∃ z, z = s.heap := ⟨_, rfl⟩
  obtain ⟨locs, hlo⟩ : ∃ z : List Loc, z = [] := ⟨_, rfl⟩
  have hS : va_S (fun q : Nat => base ≤ q) s.heap H locs := by rw [hlo, hH]; exact hS
  have hW : Wd E base M ad H := by rw [hH]; exact hW
  rw [show W p l e rm_X5_hasAskedAll s m args below meth c s.heap [] 0 0 QQ (F0 m 0 ls []) = W p l e rm_X5_hasAskedAll s m args below meth c H locs 0 0 QQ (F0 m 0 ls []) by rw [hlo, hH]]
  refine lv_aload_n hx hb dX5_hasAskedAll_0 rfl (lv_at hl 0 rfl) ?_
  refine lv_iload_n hx hb dX5_hasAskedAll_1 rfl (lv_at hl 1 rfl) ?_
  obtain ⟨g_1, hw⟩ := hw
  refine k_I (rn_V (As := [.int a1]) (rest := []) (κ := 5) (i := 0) ⟨hx, hb, hml, hown, hts⟩ hT hW hS hl (c_X5_lackedBy l E base M ad a1 _ hw) cy_X5_lackedBy k_268 k_269 k_270 g_1 (by decide) rfl rfl rfl rfl ⟨(Nat.le_of_ble_eq_true rfl), (Nat.le_of_ble_eq_true rfl)⟩ rfl rfl (Nat.le_of_ble_eq_true rfl) dX5_hasAskedAll_2 ⟨(Nat.le_of_ble_eq_true rfl), (Nat.le_of_ble_eq_true rfl)⟩) hS kx_no (fun r_5 M_3 ad_4 H locs hP hW hS => ?_)
  obtain ⟨hw, rfl⟩ := hP
  refine lv_istore_n (lv' := [(2, .int r_5), (0, .ref (ad 5 0)), (1, .int a1)]) hx hb dX5_hasAskedAll_5 rfl hl (by decide) rfl (fun ls hl => ?_)
  refine lv_iconst (v := 1) hx hb dX5_hasAskedAll_6 (by decide) ?_
  refine lv_istore_n (lv' := [(3, .int 1), (2, .int r_5), (0, .ref (ad 5 0)), (1, .int a1)]) hx hb dX5_hasAskedAll_7 rfl hl (by decide) rfl (fun ls hl => ?_)
  refine lv_iconst (v := 0) hx hb dX5_hasAskedAll_8 (by decide) ?_
  refine lv_istore (lv' := [(4, .int 0), (3, .int 1), (2, .int r_5), (0, .ref (ad 5 0)), (1, .int a1)]) hx hb dX5_hasAskedAll_9 hl (by decide) rfl (fun ls hl => ?_)
  obtain ⟨n9, hw⟩ := hw
  exact L_11 n9 M_3 a1 r_5 1 0 hw H locs ls hW hS (lv_sub hl [3, 4, 2, 1, 0] rfl)
def rm_X5_blockFor : Room := { frames := 3, cells := 0, slots := 0, locals := 70 }
set_option maxHeartbeats 4000000 in
set_option maxRecDepth 100000 in
theorem c_X5_blockFor (l : Launch) (E : GE) (base : Nat) (M : Mem) (ad : AD) (a1 : Int32) (a2 : Int32) (Q : Int32 → Mem → Prop) (hw : w_X5_blockFor M a1 a2 Q) : Con l yX5_blockFor cX5_blockFor 9 (some .int) rm_X5_blockFor 0 0 E base [.ref (ad 5 0), .int a1, .int a2] M ad (QcI E base (fun r M1 ad1 => Q r M1 ∧ ad = ad1)) noX := by
  refine con_start (by decide) (Nat.le_of_ble_eq_true rfl) ?_
  intro p e s m args below meth c ls QQ hQQ CT hnx hW hl
  obtain ⟨⟨hx, hb, hml, hown, hts⟩, hr, hlocks, hnm, hT⟩ := CT
  have hS : va_S (fun q : Nat => base ≤ q) s.heap s.heap [] := va_S.rf
  have hl : lv_has ls 9 [(0, .ref (ad 5 0)), (1, .int a1), (2, .int a2)] := hl
  have L_141 : ∀ (k27 : Mem → Int32 → Int32 → Int32 → Int32 → Int32 → Prop) (K27 : ∀ (M : Mem) (x1 : Int32) (x3 : Int32) (x4 : Int32) (x5 : Int32) (x6 : Int32), k27 M x1 x3 x4 x5 x6 → WL p l e rm_X5_blockFor s m args below meth c QQ E base 9 M ad 27 [(0, .ref (ad 5 0)), (1, .int x1), (3, .int x3), (4, .int x4), (5, .int x5), (6, .int x6)] [] 0 0) (M : Mem) (x1 : Int32) (x3 : Int32) (x4 : Int32) (x6 : Int32) (s0 : Int32), b_X5_blockFor_141 k27 Q M x1 x3 x4 x6 s0 → WL p l e rm_X5_blockFor s m args below meth c QQ E base 9 M ad 141 [(0, .ref (ad 5 0)), (1, .int x1), (3, .int x3), (4, .int x4), (6, .int x6)] [.int s0] 0 0 := by
    intro k27 K27 M x1 x3 x4 x6 s0 hw H locs ls hW hS hl
    unfold b_X5_blockFor_141 at hw
    refine lv_istore (lv' := [(5, .int s0), (0, .ref (ad 5 0)), (1, .int x1), (3, .int x3), (4, .int x4), (6, .int x6)]) hx hb dX5_blockFor_141 hl (by decide) rfl (fun ls hl => ?_)
    obtain ⟨v_59, ev_59⟩ : ∃ y : Int32, y = x6 + (-1) := ⟨_, rfl⟩
    have hw := hw v_59 ev_59
    refine lv_iinc (v := v_59) (lv' := [(6, .int v_59), (5, .int s0), (0, .ref (ad 5 0)), (1, .int x1), (3, .int x3), (4, .int x4)]) hx hb dX5_blockFor_143 hl (k := 5) rfl (by rw [ev_59]; rfl) (by decide) rfl (fun ls hl => ?_)
    refine lv_goto (tgt := 27) hx hb dX5_blockFor_146 (by decide) ?_
    exact K27 M x1 x3 x4 s0 v_59 hw H locs ls hW hS (lv_sub hl [2, 3, 4, 5, 1, 0] rfl)
  have L_119 : ∀ (k27 : Mem → Int32 → Int32 → Int32 → Int32 → Int32 → Prop) (K27 : ∀ (M : Mem) (x1 : Int32) (x3 : Int32) (x4 : Int32) (x5 : Int32) (x6 : Int32), k27 M x1 x3 x4 x5 x6 → WL p l e rm_X5_blockFor s m args below meth c QQ E base 9 M ad 27 [(0, .ref (ad 5 0)), (1, .int x1), (3, .int x3), (4, .int x4), (5, .int x5), (6, .int x6)] [] 0 0) (M : Mem) (x1 : Int32) (x3 : Int32) (x5 : Int32) (x6 : Int32) (x7 : Int32) (s0 : Int32), b_X5_blockFor_119 k27 Q M x1 x3 x5 x6 x7 s0 → WL p l e rm_X5_blockFor s m args below meth c QQ E base 9 M ad 119 [(0, .ref (ad 5 0)), (1, .int x1), (3, .int x3), (5, .int x5), (6, .int x6), (7, .int x7)] [.int s0] 0 0 := by
    intro k27 K27 M x1 x3 x5 x6 x7 s0 hw H locs ls hW hS hl
    unfold b_X5_blockFor_119 at hw
    refine lv_istore (lv' := [(4, .int s0), (0, .ref (ad 5 0)), (1, .int x1), (3, .int x3), (5, .int x5), (6, .int x6), (7, .int x7)]) hx hb dX5_blockFor_119 hl (by decide) rfl (fun ls hl => ?_)
    refine lv_iload hx hb dX5_blockFor_121 (lv_at hl 6 rfl) ?_
    refine lv_if_eq (tgt := 139) hx hb dX5_blockFor_123 (by decide) (fun c_58 => ?_) (fun c_58 => ?_)
    · have hw := hw.1 c_58
      refine lv_iload hx hb dX5_blockFor_139 (lv_at hl 4 rfl) ?_
      exact L_141 k27 K27 M x1 x3 s0 x6 x5 hw H locs ls hW hS (lv_sub hl [1, 2, 3, 0, 5] rfl)
    · have hw := hw.2 c_58
      refine lv_iconst (v := 4) hx hb dX5_blockFor_126 (by decide) ?_
      refine lv_iload hx hb dX5_blockFor_127 (lv_at hl 5 rfl) ?_
      refine lv_imul hx hb dX5_blockFor_129 ?_
      refine lv_iload hx hb dX5_blockFor_130 (lv_at hl 6 rfl) ?_
      refine k_I (rn_S (As := [.int x7]) (rest := [.int (4 * x6)]) ⟨hx, hb, hml, hown, hts⟩ hT hW hS hl (c_X5_lowest l E base M ad x7 _ hw) cy_X5_lowest k_283 k_284 rfl rfl ⟨(Nat.le_of_ble_eq_true rfl), (Nat.le_of_ble_eq_true rfl)⟩ rfl rfl (Nat.le_of_ble_eq_true rfl) dX5_blockFor_132 ⟨(Nat.le_of_ble_eq_true rfl), (Nat.le_of_ble_eq_true rfl)⟩) hS kx_no (fun r_63 M_61 ad_62 H locs hP hW hS => ?_)
      obtain ⟨hw, rfl⟩ := hP
      refine lv_iadd hx hb dX5_blockFor_135 ?_
      refine lv_goto (tgt := 141) hx hb dX5_blockFor_136 (by decide) ?_
      exact L_141 k27 K27 M_61 x1 x3 s0 x6 ((4 * x6) + r_63) hw H locs ls hW hS (lv_sub hl [1, 2, 3, 0, 5] rfl)
  have L_117 : ∀ (k27 : Mem → Int32 → Int32 → Int32 → Int32 → Int32 → Prop) (K27 : ∀ (M : Mem) (x1 : Int32) (x3 : Int32) (x4 : Int32) (x5 : Int32) (x6 : Int32), k27 M x1 x3 x4 x5 x6 → WL p l e rm_X5_blockFor s m args below meth c QQ E base 9 M ad 27 [(0, .ref (ad 5 0)), (1, .int x1), (3, .int x3), (4, .int x4), (5, .int x5), (6, .int x6)] [] 0 0) (M : Mem) (x1 : Int32) (x3 : Int32) (x4 : Int32) (x5 : Int32) (x6 : Int32) (x7 : Int32), b_X5_blockFor_117 k27 Q M x1 x3 x4 x5 x6 x7 → WL p l e rm_X5_blockFor s m args below meth c QQ E base 9 M ad 117 [(0, .ref (ad 5 0)), (1, .int x1), (3, .int x3), (4, .int x4), (5, .int x5), (6, .int x6), (7, .int x7)] [] 0 0 := by
    intro k27 K27 M x1 x3 x4 x5 x6 x7 hw H locs ls hW hS hl
    unfold b_X5_blockFor_117 at hw
    refine lv_iload hx hb dX5_blockFor_117 (lv_at hl 3 rfl) ?_
    exact L_119 k27 K27 M x1 x3 x5 x6 x7 x4 hw H locs ls hW hS (lv_sub hl [0, 1, 2, 4, 5, 6] rfl)
  have L_112 : ∀ (k27 : Mem → Int32 → Int32 → Int32 → Int32 → Int32 → Prop) (K27 : ∀ (M : Mem) (x1 : Int32) (x3 : Int32) (x4 : Int32) (x5 : Int32) (x6 : Int32), k27 M x1 x3 x4 x5 x6 → WL p l e rm_X5_blockFor s m args below meth c QQ E base 9 M ad 27 [(0, .ref (ad 5 0)), (1, .int x1), (3, .int x3), (4, .int x4), (5, .int x5), (6, .int x6)] [] 0 0) (M : Mem) (x1 : Int32) (x3 : Int32) (x5 : Int32) (x6 : Int32) (x7 : Int32), b_X5_blockFor_112 k27 Q M x1 x3 x5 x6 x7 → WL p l e rm_X5_blockFor s m args below meth c QQ E base 9 M ad 112 [(0, .ref (ad 5 0)), (1, .int x1), (3, .int x3), (5, .int x5), (6, .int x6), (7, .int x7)] [] 0 0 := by
    intro k27 K27 M x1 x3 x5 x6 x7 hw H locs ls hW hS hl
    unfold b_X5_blockFor_112 at hw
    refine lv_iload hx hb dX5_blockFor_112 (lv_at hl 4 rfl) ?_
    refine lv_goto (tgt := 119) hx hb dX5_blockFor_114 (by decide) ?_
    exact L_119 k27 K27 M x1 x3 x5 x6 x7 x6 hw H locs ls hW hS (lv_sub hl [0, 1, 2, 3, 4, 5] rfl)
  have L_87 : ∀ (k27 : Mem → Int32 → Int32 → Int32 → Int32 → Int32 → Prop) (K27 : ∀ (M : Mem) (x1 : Int32) (x3 : Int32) (x4 : Int32) (x5 : Int32) (x6 : Int32), k27 M x1 x3 x4 x5 x6 → WL p l e rm_X5_blockFor s m args below meth c QQ E base 9 M ad 27 [(0, .ref (ad 5 0)), (1, .int x1), (3, .int x3), (4, .int x4), (5, .int x5), (6, .int x6)] [] 0 0) (M : Mem) (x1 : Int32) (x3 : Int32) (x4 : Int32) (x5 : Int32) (x6 : Int32) (x7 : Int32) (s0 : Int32), b_X5_blockFor_87 k27 Q M x1 x3 x4 x5 x6 x7 s0 → WL p l e rm_X5_blockFor s m args below meth c QQ E base 9 M ad 87 [(0, .ref (ad 5 0)), (1, .int x1), (3, .int x3), (4, .int x4), (5, .int x5), (6, .int x6), (7, .int x7)] [.int s0] 0 0 := by
    intro k27 K27 M x1 x3 x4 x5 x6 x7 s0 hw H locs ls hW hS hl
    unfold b_X5_blockFor_87 at hw
    refine lv_istore (lv' := [(8, .int s0), (0, .ref (ad 5 0)), (1, .int x1), (3, .int x3), (4, .int x4), (5, .int x5), (6, .int x6), (7, .int x7)]) hx hb dX5_blockFor_87 hl (by decide) rfl (fun ls hl => ?_)
    refine lv_iload hx hb dX5_blockFor_89 (lv_at hl 0 rfl) ?_
    refine lv_if_eq (tgt := 117) hx hb dX5_blockFor_91 (by decide) (fun c_57 => ?_) (fun c_57 => ?_)
    · have hw := hw.1 c_57
      exact L_117 k27 K27 M x1 x3 x4 x5 x6 x7 hw H locs ls hW hS (lv_sub hl [1, 2, 3, 4, 5, 6, 7] rfl)
    · have hw := hw.2 c_57
      refine lv_iload hx hb dX5_blockFor_94 (lv_at hl 4 rfl) ?_
      refine lv_iconst (v := (-1)) hx hb dX5_blockFor_96 (by decide) ?_
      refine lv_icmp_eq (tgt := 112) hx hb dX5_blockFor_97 (by decide) (fun c_64 => ?_) (fun c_64 => ?_)
      · have hw := hw.1 c_64
        exact L_112 k27 K27 M x1 x3 x5 x6 x7 hw H locs ls hW hS (lv_sub hl [1, 2, 3, 5, 6, 7] rfl)
      · have hw := hw.2 c_64
        refine lv_aload_n hx hb dX5_blockFor_100 rfl (lv_at hl 1 rfl) ?_
        refine lv_iload_n hx hb dX5_blockFor_101 rfl (lv_at hl 2 rfl) ?_
        refine lv_iload hx hb dX5_blockFor_102 (lv_at hl 6 rfl) ?_
        refine lv_iload hx hb dX5_blockFor_104 (lv_at hl 4 rfl) ?_
        obtain ⟨g_65, hw⟩ := hw
        refine k_I (rn_V (As := [.int x1, .int x6, .int x4]) (rest := []) (κ := 5) (i := 0) ⟨hx, hb, hml, hown, hts⟩ hT hW hS hl (c_X5_isBetter l E base M ad x1 x6 x4 _ hw) cy_X5_isBetter k_285 k_286 k_287 g_65 (by decide) rfl rfl rfl rfl ⟨(Nat.le_of_ble_eq_true rfl), (Nat.le_of_ble_eq_true rfl)⟩ rfl rfl (Nat.le_of_ble_eq_true rfl) dX5_blockFor_106 ⟨(Nat.le_of_ble_eq_true rfl), (Nat.le_of_ble_eq_true rfl)⟩) hS kx_no (fun r_69 M_67 ad_68 H locs hP hW hS => ?_)
        obtain ⟨hw, rfl⟩ := hP
        refine lv_if_eq (tgt := 117) hx hb dX5_blockFor_109 (by decide) (fun c_70 => ?_) (fun c_70 => ?_)
        · have hw := hw.1 c_70
          exact L_117 k27 K27 M_67 x1 x3 x4 x5 x6 x7 hw H locs ls hW hS (lv_sub hl [1, 2, 3, 4, 5, 6, 7] rfl)
        · have hw := hw.2 c_70
          exact L_112 k27 K27 M_67 x1 x3 x5 x6 x7 hw H locs ls hW hS (lv_sub hl [1, 2, 3, 5, 6, 7] rfl)
  have L_61 : ∀ (k27 : Mem → Int32 → Int32 → Int32 → Int32 → Int32 → Prop) (K27 : ∀ (M : Mem) (x1 : Int32) (x3 : Int32) (x4 : Int32) (x5 : Int32) (x6 : Int32), k27 M x1 x3 x4 x5 x6 → WL p l e rm_X5_blockFor s m args below meth c QQ E base 9 M ad 27 [(0, .ref (ad 5 0)), (1, .int x1), (3, .int x3), (4, .int x4), (5, .int x5), (6, .int x6)] [] 0 0) (M : Mem) (x1 : Int32) (x3 : Int32) (x4 : Int32) (x5 : Int32) (x6 : Int32) (s0 : Int32), b_X5_blockFor_61 k27 Q M x1 x3 x4 x5 x6 s0 → WL p l e rm_X5_blockFor s m args below meth c QQ E base 9 M ad 61 [(0, .ref (ad 5 0)), (1, .int x1), (3, .int x3), (4, .int x4), (5, .int x5), (6, .int x6)] [.int s0] 0 0 := by
    intro k27 K27 M x1 x3 x4 x5 x6 s0 hw H locs ls hW hS hl
    unfold b_X5_blockFor_61 at hw
    refine lv_istore (lv' := [(7, .int s0), (0, .ref (ad 5 0)), (1, .int x1), (3, .int x3), (4, .int x4), (5, .int x5), (6, .int x6)]) hx hb dX5_blockFor_61 hl (by decide) rfl (fun ls hl => ?_)
    refine lv_iload hx hb dX5_blockFor_63 (lv_at hl 0 rfl) ?_
    refine lv_aload_n hx hb dX5_blockFor_65 rfl (lv_at hl 1 rfl) ?_
    obtain ⟨g_48, hw⟩ := hw
    obtain ⟨g_49, hw⟩ := hw
    refine r_getR (κ2 := 42) (i2 := 0) hx hb hts hown hT.1 hW clX5 12 (by decide) (hts _ k_24) (fun _ h9 => h9) 42 rfl rfl g_48 g_49 dX5_blockFor_66 ?_
    refine lv_iload_n hx hb dX5_blockFor_69 rfl (lv_at hl 2 rfl) ?_
    refine lv_iload hx hb dX5_blockFor_70 (lv_at hl 6 rfl) ?_
    refine k_I (rn_S (As := [.int x1, .int x6]) (rest := [.ref (ad 42 0), .int s0]) ⟨hx, hb, hml, hown, hts⟩ hT hW hS hl (c_X5_at l E base M ad x1 x6 _ hw) cy_X5_at k_278 k_279 rfl rfl ⟨(Nat.le_of_ble_eq_true rfl), (Nat.le_of_ble_eq_true rfl)⟩ rfl rfl (Nat.le_of_ble_eq_true rfl) dX5_blockFor_72 ⟨(Nat.le_of_ble_eq_true rfl), (Nat.le_of_ble_eq_true rfl)⟩) hS kx_no (fun r_53 M_51 ad_52 H locs hP hW hS => ?_)
    obtain ⟨hw, rfl⟩ := hP
    obtain ⟨g_54, hw⟩ := hw
    obtain ⟨g_55, hw⟩ := hw
    refine r_iald hx hb hT.1 hW (by decide) rfl (fun _ => rfl) 72 rfl g_55 g_54 dX5_blockFor_75 ?_
    refine lv_iconst (v := (-1)) hx hb dX5_blockFor_76 (by decide) ?_
    refine lv_ixor hx hb dX5_blockFor_77 ?_
    refine lv_iand hx hb dX5_blockFor_78 ?_
    refine lv_if_eq (tgt := 86) hx hb dX5_blockFor_79 (by decide) (fun c_56 => ?_) (fun c_56 => ?_)
    · have hw := hw.1 c_56
      refine lv_iconst (v := 0) hx hb dX5_blockFor_86 (by decide) ?_
      exact L_87 k27 K27 M_51 x1 x3 x4 x5 x6 s0 0 hw H locs ls hW hS (lv_sub hl [1, 2, 3, 4, 5, 6, 0] rfl)
    · have hw := hw.2 c_56
      refine lv_iconst (v := 1) hx hb dX5_blockFor_82 (by decide) ?_
      refine lv_goto (tgt := 87) hx hb dX5_blockFor_83 (by decide) ?_
      exact L_87 k27 K27 M_51 x1 x3 x4 x5 x6 s0 1 hw H locs ls hW hS (lv_sub hl [1, 2, 3, 4, 5, 6, 0] rfl)
  have L_27 : ∀ (n : Nat) (M : Mem) (x1 : Int32) (x3 : Int32) (x4 : Int32) (x5 : Int32) (x6 : Int32), l_X5_blockFor_27 Q n M x1 x3 x4 x5 x6 → WL p l e rm_X5_blockFor s m args below meth c QQ E base 9 M ad 27 [(0, .ref (ad 5 0)), (1, .int x1), (3, .int x3), (4, .int x4), (5, .int x5), (6, .int x6)] [] 0 0 := by
    intro n
    induction n with
    | zero => intro M x1 x3 x4 x5 x6 hw; exact False.elim hw
    | succ n K27 =>
      intro M x1 x3 x4 x5 x6 hw H locs ls hW hS hl
      obtain ⟨k27, hk27⟩ : ∃ z, z = l_X5_blockFor_27 Q n := ⟨_, rfl⟩
      have hw : b_X5_blockFor_27 Q k27 M x1 x3 x4 x5 x6 := by rw [hk27]; exact hw
      rw [← hk27] at K27
      unfold b_X5_blockFor_27 at hw
      refine lv_iload hx hb dX5_blockFor_27 (lv_at hl 5 rfl) ?_
      refine lv_if_lt (tgt := 149) hx hb dX5_blockFor_29 (by decide) (fun c_15 => ?_) (fun c_15 => ?_)
      · have hw := hw.1 c_15
        refine lv_iload hx hb dX5_blockFor_149 (lv_at hl 3 rfl) ?_
        refine lv_iconst (v := (-1)) hx hb dX5_blockFor_151 (by decide) ?_
        refine lv_icmp_eq (tgt := 194) hx hb dX5_blockFor_152 (by decide) (fun c_16 => ?_) (fun c_16 => ?_)
        · have hw := hw.1 c_16
          refine lv_aload_n hx hb dX5_blockFor_194 rfl (lv_at hl 0 rfl) ?_
          refine lv_iload_n hx hb dX5_blockFor_195 rfl (lv_at hl 1 rfl) ?_
          obtain ⟨g_17, hw⟩ := hw
          refine k_I (rn_V (As := [.int x1]) (rest := []) (κ := 5) (i := 0) ⟨hx, hb, hml, hown, hts⟩ hT hW hS hl (c_X5_hasAskedAll l E base M ad x1 _ hw) cy_X5_hasAskedAll k_280 k_281 k_282 g_17 (by decide) rfl rfl rfl rfl ⟨(Nat.le_of_ble_eq_true rfl), (Nat.le_of_ble_eq_true rfl)⟩ rfl rfl (Nat.le_of_ble_eq_true rfl) dX5_blockFor_196 ⟨(Nat.le_of_ble_eq_true rfl), (Nat.le_of_ble_eq_true rfl)⟩) hS kx_no (fun r_21 M_19 ad_20 H locs hP hW hS => ?_)
          obtain ⟨hw, rfl⟩ := hP
          refine lv_if_eq (tgt := 207) hx hb dX5_blockFor_199 (by decide) (fun c_22 => ?_) (fun c_22 => ?_)
          · have hw := hw.1 c_22
            refine lv_iconst (v := (-1)) hx hb dX5_blockFor_207 (by decide) ?_
            rw [← hQQ]
            exact e_I hx hb hr hlocks hW hS (Nat.le_of_ble_eq_true rfl) (Nat.le_of_ble_eq_true rfl) dX5_blockFor_208 ⟨hw, rfl⟩
          · have hw := hw.2 c_22
            refine lv_iload hx hb dX5_blockFor_202 (lv_at hl 4 rfl) ?_
            refine lv_goto (tgt := 208) hx hb dX5_blockFor_204 (by decide) ?_
            rw [← hQQ]
            exact e_I hx hb hr hlocks hW hS (Nat.le_of_ble_eq_true rfl) (Nat.le_of_ble_eq_true rfl) dX5_blockFor_208 ⟨hw, rfl⟩
        · have hw := hw.2 c_16
          refine lv_iconst (v := 4) hx hb dX5_blockFor_155 (by decide) ?_
          refine lv_iload hx hb dX5_blockFor_156 (lv_at hl 3 rfl) ?_
          refine lv_imul hx hb dX5_blockFor_158 ?_
          refine lv_bipush (v := 15) hx hb dX5_blockFor_159 (by decide) ?_
          refine lv_aload_n hx hb dX5_blockFor_161 rfl (lv_at hl 0 rfl) ?_
          obtain ⟨g_23, hw⟩ := hw
          obtain ⟨g_24, hw⟩ := hw
          refine r_getR (κ2 := 40) (i2 := 0) hx hb hts hown hT.1 hW clX5 10 (by decide) (hts _ k_22) (fun _ h9 => h9) 40 rfl rfl g_23 g_24 dX5_blockFor_162 ?_
          refine lv_iload_n hx hb dX5_blockFor_165 rfl (lv_at hl 1 rfl) ?_
          refine lv_iload hx hb dX5_blockFor_166 (lv_at hl 3 rfl) ?_
          refine k_I (rn_S (As := [.int x1, .int x4]) (rest := [.ref (ad 40 0), .int 15, .int (4 * x4)]) ⟨hx, hb, hml, hown, hts⟩ hT hW hS hl (c_X5_at l E base M ad x1 x4 _ hw) cy_X5_at k_278 k_279 rfl rfl ⟨(Nat.le_of_ble_eq_true rfl), (Nat.le_of_ble_eq_true rfl)⟩ rfl rfl (Nat.le_of_ble_eq_true rfl) dX5_blockFor_168 ⟨(Nat.le_of_ble_eq_true rfl), (Nat.le_of_ble_eq_true rfl)⟩) hS kx_no (fun r_28 M_26 ad_27 H locs hP hW hS => ?_)
          obtain ⟨hw, rfl⟩ := hP
          obtain ⟨g_29, hw⟩ := hw
          obtain ⟨g_30, hw⟩ := hw
          refine r_iald hx hb hT.1 hW (by decide) rfl (fun _ => rfl) 72 rfl g_30 g_29 dX5_blockFor_171 ?_
          refine lv_iconst (v := (-1)) hx hb dX5_blockFor_172 (by decide) ?_
          refine lv_ixor hx hb dX5_blockFor_173 ?_
          refine lv_iand hx hb dX5_blockFor_174 ?_
          refine lv_aload_n hx hb dX5_blockFor_175 rfl (lv_at hl 0 rfl) ?_
          obtain ⟨g_31, hw⟩ := hw
          obtain ⟨g_32, hw⟩ := hw
          refine r_getR (κ2 := 42) (i2 := 0) hx hb hts hown hT.1 hW clX5 12 (by decide) (hts _ k_24) (fun _ h9 => h9) 42 rfl rfl g_31 g_32 dX5_blockFor_176 ?_
          refine lv_iload_n hx hb dX5_blockFor_179 rfl (lv_at hl 1 rfl) ?_
          refine lv_iload hx hb dX5_blockFor_180 (lv_at hl 3 rfl) ?_
          refine k_I (rn_S (As := [.int x1, .int x4]) (rest := [.ref (ad 42 0), .int (15 &&& ((mI M_26 40 0 r_28.toNatClampNeg) ^^^ (-1))), .int (4 * x4)]) ⟨hx, hb, hml, hown, hts⟩ hT hW hS hl (c_X5_at l E base M_26 ad x1 x4 _ hw) cy_X5_at k_278 k_279 rfl rfl ⟨(Nat.le_of_ble_eq_true rfl), (Nat.le_of_ble_eq_true rfl)⟩ rfl rfl (Nat.le_of_ble_eq_true rfl) dX5_blockFor_182 ⟨(Nat.le_of_ble_eq_true rfl), (Nat.le_of_ble_eq_true rfl)⟩) hS kx_no (fun r_36 M_34 ad_35 H locs hP hW hS => ?_)
          obtain ⟨hw, rfl⟩ := hP
          obtain ⟨g_37, hw⟩ := hw
          obtain ⟨g_38, hw⟩ := hw
          refine r_iald hx hb hT.1 hW (by decide) rfl (fun _ => rfl) 72 rfl g_38 g_37 dX5_blockFor_185 ?_
          refine lv_iconst (v := (-1)) hx hb dX5_blockFor_186 (by decide) ?_
          refine lv_ixor hx hb dX5_blockFor_187 ?_
          refine lv_iand hx hb dX5_blockFor_188 ?_
          refine k_I (rn_S (As := [.int ((15 &&& ((mI M_26 40 0 r_28.toNatClampNeg) ^^^ (-1))) &&& ((mI M_34 42 0 r_36.toNatClampNeg) ^^^ (-1)))]) (rest := [.int (4 * x4)]) ⟨hx, hb, hml, hown, hts⟩ hT hW hS hl (c_X5_lowest l E base M_34 ad ((15 &&& ((mI M_26 40 0 r_28.toNatClampNeg) ^^^ (-1))) &&& ((mI M_34 42 0 r_36.toNatClampNeg) ^^^ (-1))) _ hw) cy_X5_lowest k_283 k_284 rfl rfl ⟨(Nat.le_of_ble_eq_true rfl), (Nat.le_of_ble_eq_true rfl)⟩ rfl rfl (Nat.le_of_ble_eq_true rfl) dX5_blockFor_189 ⟨(Nat.le_of_ble_eq_true rfl), (Nat.le_of_ble_eq_true rfl)⟩) hS kx_no (fun r_42 M_40 ad_41 H locs hP hW hS => ?_)
          obtain ⟨hw, rfl⟩ := hP
          refine lv_iadd hx hb dX5_blockFor_192 ?_
          rw [← hQQ]
          exact e_I hx hb hr hlocks hW hS (Nat.le_of_ble_eq_true rfl) (Nat.le_of_ble_eq_true rfl) dX5_blockFor_193 ⟨hw, rfl⟩
      · have hw := hw.2 c_15
        refine lv_iload_n hx hb dX5_blockFor_32 rfl (lv_at hl 2 rfl) ?_
        refine lv_iload hx hb dX5_blockFor_33 (lv_at hl 5 rfl) ?_
        refine k_I (rn_S (As := [.int x3, .int x6]) (rest := []) ⟨hx, hb, hml, hown, hts⟩ hT hW hS hl (c_X5_has l E base M ad x3 x6 _ hw) cy_X5_has k_141 k_142 rfl rfl ⟨(Nat.le_of_ble_eq_true rfl), (Nat.le_of_ble_eq_true rfl)⟩ rfl rfl (Nat.le_of_ble_eq_true rfl) dX5_blockFor_35 ⟨(Nat.le_of_ble_eq_true rfl), (Nat.le_of_ble_eq_true rfl)⟩) hS kx_no (fun r_46 M_44 ad_45 H locs hP hW hS => ?_)
        obtain ⟨hw, rfl⟩ := hP
        refine lv_if_eq (tgt := 60) hx hb dX5_blockFor_38 (by decide) (fun c_47 => ?_) (fun c_47 => ?_)
        · have hw := hw.1 c_47
          refine lv_iconst (v := 0) hx hb dX5_blockFor_60 (by decide) ?_
          exact L_61 k27 K27 M_44 x1 x3 x4 x5 x6 0 hw H locs ls hW hS (lv_sub hl [0, 1, 2, 3, 4, 5] rfl)
        · have hw := hw.2 c_47
          refine lv_bipush (v := 15) hx hb dX5_blockFor_41 (by decide) ?_
          refine lv_aload_n hx hb dX5_blockFor_43 rfl (lv_at hl 0 rfl) ?_
          obtain ⟨g_71, hw⟩ := hw
          obtain ⟨g_72, hw⟩ := hw
          refine r_getR (κ2 := 40) (i2 := 0) hx hb hts hown hT.1 hW clX5 10 (by decide) (hts _ k_22) (fun _ h9 => h9) 40 rfl rfl g_71 g_72 dX5_blockFor_44 ?_
          refine lv_iload_n hx hb dX5_blockFor_47 rfl (lv_at hl 1 rfl) ?_
          refine lv_iload hx hb dX5_blockFor_48 (lv_at hl 5 rfl) ?_
          refine k_I (rn_S (As := [.int x1, .int x6]) (rest := [.ref (ad 40 0), .int 15]) ⟨hx, hb, hml, hown, hts⟩ hT hW hS hl (c_X5_at l E base M_44 ad x1 x6 _ hw) cy_X5_at k_278 k_279 rfl rfl ⟨(Nat.le_of_ble_eq_true rfl), (Nat.le_of_ble_eq_true rfl)⟩ rfl rfl (Nat.le_of_ble_eq_true rfl) dX5_blockFor_50 ⟨(Nat.le_of_ble_eq_true rfl), (Nat.le_of_ble_eq_true rfl)⟩) hS kx_no (fun r_76 M_74 ad_75 H locs hP hW hS => ?_)
          obtain ⟨hw, rfl⟩ := hP
          obtain ⟨g_77, hw⟩ := hw
          obtain ⟨g_78, hw⟩ := hw
          refine r_iald hx hb hT.1 hW (by decide) rfl (fun _ => rfl) 72 rfl g_78 g_77 dX5_blockFor_53 ?_
          refine lv_iconst (v := (-1)) hx hb dX5_blockFor_54 (by decide) ?_
          refine lv_ixor hx hb dX5_blockFor_55 ?_
          refine lv_iand hx hb dX5_blockFor_56 ?_
          refine lv_goto (tgt := 61) hx hb dX5_blockFor_57 (by decide) ?_
          exact L_61 k27 K27 M_74 x1 x3 x4 x5 x6 (15 &&& ((mI M_74 40 0 r_76.toNatClampNeg) ^^^ (-1))) hw H locs ls hW hS (lv_sub hl [0, 1, 2, 3, 4, 5] rfl)
  unfold w_X5_blockFor at hw
  obtain ⟨H, hH⟩ : ∃ z, z = s.heap := ⟨_, rfl⟩
  obtain ⟨locs, hlo⟩ : ∃ z : List Loc, z = [] := ⟨_, rfl⟩
  have hS : va_S (fun q : Nat => base ≤ q) s.heap H locs := by rw [hlo, hH]; exact hS
  have hW : Wd E base M ad H := by rw [hH]; exact hW
  rw [show W p l e rm_X5_blockFor s m args below meth c s.heap [] 0 0 QQ (F0 m 0 ls []) = W p l e rm_X5_blockFor s m args below meth c H locs 0 0 QQ (F0 m 0 ls []) by rw [hlo, hH]]
  refine lv_aload_n hx hb dX5_blockFor_0 rfl (lv_at hl 0 rfl) ?_
  obtain ⟨g_1, hw⟩ := hw
  obtain ⟨g_2, hw⟩ := hw
  refine r_getR (κ2 := 47) (i2 := 0) hx hb hts hown hT.1 hW clX5 17 (by decide) (hts _ k_29) (fun _ h9 => h9) 47 rfl rfl g_1 g_2 dX5_blockFor_1 ?_
  refine lv_iload_n hx hb dX5_blockFor_4 rfl (lv_at hl 2 rfl) ?_
  refine lv_iload_n hx hb dX5_blockFor_5 rfl (lv_at hl 1 rfl) ?_
  refine k_I (rn_S (As := [.int a2, .int a1]) (rest := [.ref (ad 47 0)]) ⟨hx, hb, hml, hown, hts⟩ hT hW hS hl (c_X5_pair l E base M ad a2 a1 _ hw) cy_X5_pair k_263 k_264 rfl rfl ⟨(Nat.le_of_ble_eq_true rfl), (Nat.le_of_ble_eq_true rfl)⟩ rfl rfl (Nat.le_of_ble_eq_true rfl) dX5_blockFor_6 ⟨(Nat.le_of_ble_eq_true rfl), (Nat.le_of_ble_eq_true rfl)⟩) hS kx_no (fun r_6 M_4 ad_5 H locs hP hW hS => ?_)
  obtain ⟨hw, rfl⟩ := hP
  obtain ⟨g_7, hw⟩ := hw
  obtain ⟨g_8, hw⟩ := hw
  refine r_iald hx hb hT.1 hW (by decide) rfl (fun _ => rfl) 36 rfl g_8 g_7 dX5_blockFor_9 ?_
  refine lv_aload_n hx hb dX5_blockFor_10 rfl (lv_at hl 0 rfl) ?_
  refine lv_iload_n hx hb dX5_blockFor_11 rfl (lv_at hl 1 rfl) ?_
  obtain ⟨g_9, hw⟩ := hw
  refine k_I (rn_V (As := [.int a1]) (rest := [.int (mI M_4 47 0 r_6.toNatClampNeg)]) (κ := 5) (i := 0) ⟨hx, hb, hml, hown, hts⟩ hT hW hS hl (c_X5_lackedBy l E base M_4 ad a1 _ hw) cy_X5_lackedBy k_268 k_269 k_270 g_9 (by decide) rfl rfl rfl rfl ⟨(Nat.le_of_ble_eq_true rfl), (Nat.le_of_ble_eq_true rfl)⟩ rfl rfl (Nat.le_of_ble_eq_true rfl) dX5_blockFor_12 ⟨(Nat.le_of_ble_eq_true rfl), (Nat.le_of_ble_eq_true rfl)⟩) hS kx_no (fun r_13 M_11 ad_12 H locs hP hW hS => ?_)
  obtain ⟨hw, rfl⟩ := hP
  refine lv_iand hx hb dX5_blockFor_15 ?_
  refine lv_topi (fun v_14 ev_14 => ?_)
  have hw := hw v_14 ev_14
  refine lv_istore_n (lv' := [(3, .int v_14), (0, .ref (ad 5 0)), (1, .int a1), (2, .int a2)]) hx hb dX5_blockFor_16 rfl hl (by decide) rfl (fun ls hl => ?_)
  refine lv_iconst (v := (-1)) hx hb dX5_blockFor_17 (by decide) ?_
  refine lv_istore (lv' := [(4, .int (-1)), (3, .int v_14), (0, .ref (ad 5 0)), (1, .int a1), (2, .int a2)]) hx hb dX5_blockFor_18 hl (by decide) rfl (fun ls hl => ?_)
  refine lv_iconst (v := (-1)) hx hb dX5_blockFor_20 (by decide) ?_
  refine lv_istore (lv' := [(5, .int (-1)), (4, .int (-1)), (3, .int v_14), (0, .ref (ad 5 0)), (1, .int a1), (2, .int a2)]) hx hb dX5_blockFor_21 hl (by decide) rfl (fun ls hl => ?_)
  refine lv_bipush (v := 11) hx hb dX5_blockFor_23 (by decide) ?_
  refine lv_istore (lv' := [(6, .int 11), (5, .int (-1)), (4, .int (-1)), (3, .int v_14), (0, .ref (ad 5 0)), (1, .int a1), (2, .int a2)]) hx hb dX5_blockFor_25 hl (by decide) rfl (fun ls hl => ?_)
  obtain ⟨n9, hw⟩ := hw
  exact L_27 n9 M_11 a1 v_14 (-1) (-1) 11 hw H locs ls hW hS (lv_sub hl [4, 5, 3, 2, 1, 0] rfl)
def rm_X5_asks : Room := { frames := 4, cells := 0, slots := 0, locals := 98 }
set_option maxHeartbeats 4000000 in
set_option maxRecDepth 100000 in
theorem c_X5_asks (l : Launch) (E : GE) (base : Nat) (M : Mem) (ad : AD)  (Q : Mem → Prop) (hw : w_X5_asks M  Q) : Con l yX5_asks cX5_asks 4 none rm_X5_asks 0 0 E base [.ref (ad 5 0)] M ad (QcV E base (fun M1 ad1 => Q M1 ∧ ad = ad1)) noX := by
  refine con_start (by decide) (Nat.le_of_ble_eq_true rfl) ?_
  intro p e s m args below meth c ls QQ hQQ CT hnx hW hl
  obtain ⟨⟨hx, hb, hml, hown, hts⟩, hr, hlocks, hnm, hT⟩ := CT
  have hS : va_S (fun q : Nat => base ≤ q) s.heap s.heap [] := va_S.rf
  have hl : lv_has ls 4 [(0, .ref (ad 5 0))] := hl
  have L_135 : ∀ (k28 : Mem → Int32 → Prop) (K28 : ∀ (M : Mem) (x1 : Int32), k28 M x1 → WL p l e rm_X5_asks s m args below meth c QQ E base 4 M ad 28 [(0, .ref (ad 5 0)), (1, .int x1)] [] 0 0) (k38 : Mem → Int32 → Int32 → Prop) (K38 : ∀ (M : Mem) (x1 : Int32) (x2 : Int32), k38 M x1 x2 → WL p l e rm_X5_asks s m args below meth c QQ E base 4 M ad 38 [(0, .ref (ad 5 0)), (1, .int x1), (2, .int x2)] [] 0 0) (M : Mem) (x1 : Int32) (x2 : Int32), b_X5_asks_135 k28 k38 Q M x1 x2 → WL p l e rm_X5_asks s m args below meth c QQ E base 4 M ad 135 [(0, .ref (ad 5 0)), (1, .int x1), (2, .int x2)] [] 0 0 := by
    intro k28 K28 k38 K38 M x1 x2 hw H locs ls hW hS hl
    unfold b_X5_asks_135 at hw
    obtain ⟨v_18, ev_18⟩ : ∃ y : Int32, y = x2 + 1 := ⟨_, rfl⟩
    have hw := hw v_18 ev_18
    refine lv_iinc (v := v_18) (lv' := [(2, .int v_18), (0, .ref (ad 5 0)), (1, .int x1)]) hx hb dX5_asks_135 hl (k := 2) rfl (by rw [ev_18]; rfl) (by decide) rfl (fun ls hl => ?_)
    refine lv_goto (tgt := 38) hx hb dX5_asks_138 (by decide) ?_
    exact K38 M x1 v_18 hw H locs ls hW hS (lv_sub hl [1, 2, 0] rfl)
  have L_69 : ∀ (k28 : Mem → Int32 → Prop) (K28 : ∀ (M : Mem) (x1 : Int32), k28 M x1 → WL p l e rm_X5_asks s m args below meth c QQ E base 4 M ad 28 [(0, .ref (ad 5 0)), (1, .int x1)] [] 0 0) (k38 : Mem → Int32 → Int32 → Prop) (K38 : ∀ (M : Mem) (x1 : Int32) (x2 : Int32), k38 M x1 x2 → WL p l e rm_X5_asks s m args below meth c QQ E base 4 M ad 38 [(0, .ref (ad 5 0)), (1, .int x1), (2, .int x2)] [] 0 0) (M : Mem) (x1 : Int32) (x2 : Int32) (s0 : Int32), b_X5_asks_69 k28 k38 Q M x1 x2 s0 → WL p l e rm_X5_asks s m args below meth c QQ E base 4 M ad 69 [(0, .ref (ad 5 0)), (1, .int x1), (2, .int x2)] [.int s0] 0 0 := by
    intro k28 K28 k38 K38 M x1 x2 s0 hw H locs ls hW hS hl
    unfold b_X5_asks_69 at hw
    refine lv_istore_n (lv' := [(3, .int s0), (0, .ref (ad 5 0)), (1, .int x1), (2, .int x2)]) hx hb dX5_asks_69 rfl hl (by decide) rfl (fun ls hl => ?_)
    refine lv_iload_n hx hb dX5_asks_70 rfl (lv_at hl 0 rfl) ?_
    refine lv_iconst (v := (-1)) hx hb dX5_asks_71 (by decide) ?_
    refine lv_icmp_eq (tgt := 135) hx hb dX5_asks_72 (by decide) (fun c_17 => ?_) (fun c_17 => ?_)
    · have hw := hw.1 c_17
      exact L_135 k28 K28 k38 K38 M x1 x2 hw H locs ls hW hS (lv_sub hl [1, 2, 3] rfl)
    · have hw := hw.2 c_17
      refine lv_aload_n hx hb dX5_asks_75 rfl (lv_at hl 1 rfl) ?_
      obtain ⟨g_19, hw⟩ := hw
      obtain ⟨g_20, hw⟩ := hw
      refine r_getR (κ2 := 42) (i2 := 0) hx hb hts hown hT.1 hW clX5 12 (by decide) (hts _ k_24) (fun _ h9 => h9) 42 rfl rfl g_19 g_20 dX5_asks_76 ?_
      refine lv_iload_n hx hb dX5_asks_79 rfl (lv_at hl 2 rfl) ?_
      refine lv_iload_n hx hb dX5_asks_80 rfl (lv_at hl 0 rfl) ?_
      refine lv_iconst (v := 4) hx hb dX5_asks_81 (by decide) ?_
      refine lv_idiv hx hb dX5_asks_82 (by decide) ?_
      refine k_I (rn_S (As := [.int x1, .int (s0 / 4)]) (rest := [.ref (ad 42 0)]) ⟨hx, hb, hml, hown, hts⟩ hT hW hS hl (c_X5_at l E base M ad x1 (s0 / 4) _ hw) cy_X5_at k_278 k_279 rfl rfl ⟨(Nat.le_of_ble_eq_true rfl), (Nat.le_of_ble_eq_true rfl)⟩ rfl rfl (Nat.le_of_ble_eq_true rfl) dX5_asks_83 ⟨(Nat.le_of_ble_eq_true rfl), (Nat.le_of_ble_eq_true rfl)⟩) hS kx_no (fun r_24 M_22 ad_23 H locs hP hW hS => ?_)
      obtain ⟨hw, rfl⟩ := hP
      refine lv_dup2_11 hx hb dX5_asks_86 rfl rfl ?_
      obtain ⟨g_25, hw⟩ := hw
      obtain ⟨g_26, hw⟩ := hw
      refine r_iald hx hb hT.1 hW (by decide) rfl (fun _ => rfl) 72 rfl g_26 g_25 dX5_asks_87 ?_
      refine lv_iconst (v := 1) hx hb dX5_asks_88 (by decide) ?_
      refine lv_iload_n hx hb dX5_asks_89 rfl (lv_at hl 0 rfl) ?_
      refine lv_iconst (v := 4) hx hb dX5_asks_90 (by decide) ?_
      refine lv_irem hx hb dX5_asks_91 (by decide) ?_
      refine lv_ishl hx hb dX5_asks_92 ?_
      refine lv_ior hx hb dX5_asks_93 ?_
      obtain ⟨g_27, hw⟩ := hw
      refine r_iast hx hb hT.1 hW hS (by decide) rfl (fun _ => rfl) 72 rfl g_27 g_25 dX5_asks_94 (fun M_28 H locs hM_28 hW hS => ?_)
      have hw := hw M_28 hM_28
      refine lv_aload_n hx hb dX5_asks_95 rfl (lv_at hl 1 rfl) ?_
      obtain ⟨g_29, hw⟩ := hw
      obtain ⟨g_30, hw⟩ := hw
      refine r_getR (κ2 := 50) (i2 := 0) hx hb hts hown hT.1 hW clX5 20 (by decide) (hts _ k_31) (fun _ h9 => h9) 50 rfl rfl g_29 g_30 dX5_asks_96 ?_
      refine lv_aload_n hx hb dX5_asks_99 rfl (lv_at hl 1 rfl) ?_
      refine r_getI hx hb hts hown hT.1 hW clX5 19 (by decide) (hts _ k_288) (fun _ h9 => h9) rfl g_29 dX5_asks_100 ?_
      refine lv_iload_n hx hb dX5_asks_103 rfl (lv_at hl 2 rfl) ?_
      obtain ⟨g_31, hw⟩ := hw
      obtain ⟨g_32, hw⟩ := hw
      refine r_iast hx hb hT.1 hW hS (by decide) rfl (fun _ => rfl) 36 rfl g_32 g_31 dX5_asks_104 (fun M_33 H locs hM_33 hW hS => ?_)
      have hw := hw M_33 hM_33
      refine lv_aload_n hx hb dX5_asks_105 rfl (lv_at hl 1 rfl) ?_
      obtain ⟨g_34, hw⟩ := hw
      refine r_getR (κ2 := 51) (i2 := 0) hx hb hts hown hT.1 hW clX5 21 (by decide) (hts _ k_32) (fun _ h9 => h9) 51 rfl rfl (by rw [hM_33]; exact g_29) g_34 dX5_asks_106 ?_
      refine lv_aload_n hx hb dX5_asks_109 rfl (lv_at hl 1 rfl) ?_
      refine r_getI hx hb hts hown hT.1 hW clX5 19 (by decide) (hts _ k_288) (fun _ h9 => h9) rfl (by rw [hM_33]; exact g_29) dX5_asks_110 ?_
      refine lv_iload_n hx hb dX5_asks_113 rfl (lv_at hl 3 rfl) ?_
      obtain ⟨g_35, hw⟩ := hw
      obtain ⟨g_36, hw⟩ := hw
      refine r_iast hx hb hT.1 hW hS (by decide) rfl (fun _ => rfl) 36 rfl g_36 g_35 dX5_asks_114 (fun M_37 H locs hM_37 hW hS => ?_)
      have hw := hw M_37 hM_37
      refine lv_aload_n hx hb dX5_asks_115 rfl (lv_at hl 1 rfl) ?_
      obtain ⟨g_38, hw⟩ := hw
      refine r_getR (κ2 := 52) (i2 := 0) hx hb hts hown hT.1 hW clX5 22 (by decide) (hts _ k_33) (fun _ h9 => h9) 52 rfl rfl (by rw [hM_37, hM_33]; exact g_29) g_38 dX5_asks_116 ?_
      refine lv_aload_n hx hb dX5_asks_119 rfl (lv_at hl 1 rfl) ?_
      refine r_getI hx hb hts hown hT.1 hW clX5 19 (by decide) (hts _ k_288) (fun _ h9 => h9) rfl (by rw [hM_37, hM_33]; exact g_29) dX5_asks_120 ?_
      refine lv_iload_n hx hb dX5_asks_123 rfl (lv_at hl 0 rfl) ?_
      obtain ⟨g_39, hw⟩ := hw
      obtain ⟨g_40, hw⟩ := hw
      refine r_iast hx hb hT.1 hW hS (by decide) rfl (fun _ => rfl) 36 rfl g_40 g_39 dX5_asks_124 (fun M_41 H locs hM_41 hW hS => ?_)
      have hw := hw M_41 hM_41
      refine lv_aload_n hx hb dX5_asks_125 rfl (lv_at hl 1 rfl) ?_
      refine lv_dup hx hb dX5_asks_126 rfl ?_
      refine r_getI hx hb hts hown hT.1 hW clX5 19 (by decide) (hts _ k_288) (fun _ h9 => h9) rfl (by rw [hM_41, hM_37, hM_33]; exact g_29) dX5_asks_127 ?_
      refine lv_iconst (v := 1) hx hb dX5_asks_130 (by decide) ?_
      refine lv_iadd hx hb dX5_asks_131 ?_
      refine r_putI hx hb hts hown hT.1 hW hS clX5 19 (by decide) (hts _ k_288) (fun _ h9 => h9) rfl (by decide +kernel) rfl (by rw [hM_41, hM_37, hM_33]; exact g_29) dX5_asks_132 (fun M_42 H locs hM_42 hW hS => ?_)
      have hw := hw M_42 hM_42
      exact L_135 k28 K28 k38 K38 M_42 x1 x2 hw H locs ls hW hS (lv_sub hl [1, 2, 3] rfl)
  have L_38 : ∀ (k28 : Mem → Int32 → Prop) (K28 : ∀ (M : Mem) (x1 : Int32), k28 M x1 → WL p l e rm_X5_asks s m args below meth c QQ E base 4 M ad 28 [(0, .ref (ad 5 0)), (1, .int x1)] [] 0 0) (n : Nat) (M : Mem) (x1 : Int32) (x2 : Int32), l_X5_asks_38 k28 Q n M x1 x2 → WL p l e rm_X5_asks s m args below meth c QQ E base 4 M ad 38 [(0, .ref (ad 5 0)), (1, .int x1), (2, .int x2)] [] 0 0 := by
    intro k28 K28 n
    induction n with
    | zero => intro M x1 x2 hw; exact False.elim hw
    | succ n K38 =>
      intro M x1 x2 hw H locs ls hW hS hl
      obtain ⟨k38, hk38⟩ : ∃ z, z = l_X5_asks_38 k28 Q n := ⟨_, rfl⟩
      have hw : b_X5_asks_38 k28 Q k38 M x1 x2 := by rw [hk38]; exact hw
      rw [← hk38] at K38
      unfold b_X5_asks_38 at hw
      refine lv_iload_n hx hb dX5_asks_38 rfl (lv_at hl 2 rfl) ?_
      refine lv_aload_n hx hb dX5_asks_39 rfl (lv_at hl 0 rfl) ?_
      obtain ⟨g_6, hw⟩ := hw
      refine r_getI hx hb hts hown hT.1 hW clX5 3 (by decide) (hts _ k_88) (fun _ h9 => h9) rfl g_6 dX5_asks_40 ?_
      refine lv_icmp_ge (tgt := 141) hx hb dX5_asks_43 (by decide) (fun c_7 => ?_) (fun c_7 => ?_)
      · have hw := hw.1 c_7
        obtain ⟨v_8, ev_8⟩ : ∃ y : Int32, y = x1 + 1 := ⟨_, rfl⟩
        have hw := hw v_8 ev_8
        refine lv_iinc (v := v_8) (lv' := [(1, .int v_8), (0, .ref (ad 5 0)), (2, .int x2)]) hx hb dX5_asks_141 hl (k := 1) rfl (by rw [ev_8]; rfl) (by decide) rfl (fun ls hl => ?_)
        refine lv_goto (tgt := 28) hx hb dX5_asks_144 (by decide) ?_
        exact K28 M v_8 hw H locs ls hW hS (lv_sub hl [1, 0] rfl)
      · have hw := hw.2 c_7
        refine lv_aload_n hx hb dX5_asks_46 rfl (lv_at hl 0 rfl) ?_
        obtain ⟨g_9, hw⟩ := hw
        refine r_getR (κ2 := 48) (i2 := 0) hx hb hts hown hT.1 hW clX5 18 (by decide) (hts _ k_30) (fun _ h9 => h9) 48 rfl rfl g_6 g_9 dX5_asks_47 ?_
        refine lv_iload_n hx hb dX5_asks_50 rfl (lv_at hl 2 rfl) ?_
        obtain ⟨g_10, hw⟩ := hw
        obtain ⟨g_11, hw⟩ := hw
        refine r_iald hx hb hT.1 hW (by decide) rfl (fun _ => rfl) 6 rfl g_11 g_10 dX5_asks_51 ?_
        refine lv_iload_n hx hb dX5_asks_52 rfl (lv_at hl 1 rfl) ?_
        refine k_I (rn_S (As := [.int (mI M 48 0 x2.toNatClampNeg), .int x1]) (rest := []) ⟨hx, hb, hml, hown, hts⟩ hT hW hS hl (c_X5_has l E base M ad (mI M 48 0 x2.toNatClampNeg) x1 _ hw) cy_X5_has k_141 k_142 rfl rfl ⟨(Nat.le_of_ble_eq_true rfl), (Nat.le_of_ble_eq_true rfl)⟩ rfl rfl (Nat.le_of_ble_eq_true rfl) dX5_asks_53 ⟨(Nat.le_of_ble_eq_true rfl), (Nat.le_of_ble_eq_true rfl)⟩) hS kx_no (fun r_15 M_13 ad_14 H locs hP hW hS => ?_)
        obtain ⟨hw, rfl⟩ := hP
        refine lv_if_eq (tgt := 68) hx hb dX5_asks_56 (by decide) (fun c_16 => ?_) (fun c_16 => ?_)
        · have hw := hw.1 c_16
          refine lv_iconst (v := (-1)) hx hb dX5_asks_68 (by decide) ?_
          exact L_69 k28 K28 k38 K38 M_13 x1 x2 (-1) hw H locs ls hW hS (lv_sub hl [0, 1, 2] rfl)
        · have hw := hw.2 c_16
          refine lv_aload_n hx hb dX5_asks_59 rfl (lv_at hl 0 rfl) ?_
          refine lv_iload_n hx hb dX5_asks_60 rfl (lv_at hl 1 rfl) ?_
          refine lv_iload_n hx hb dX5_asks_61 rfl (lv_at hl 2 rfl) ?_
          obtain ⟨g_43, hw⟩ := hw
          refine k_I (rn_V (As := [.int x1, .int x2]) (rest := []) (κ := 5) (i := 0) ⟨hx, hb, hml, hown, hts⟩ hT hW hS hl (c_X5_blockFor l E base M_13 ad x1 x2 _ hw) cy_X5_blockFor k_289 k_290 k_291 g_43 (by decide) rfl rfl rfl rfl ⟨(Nat.le_of_ble_eq_true rfl), (Nat.le_of_ble_eq_true rfl)⟩ rfl rfl (Nat.le_of_ble_eq_true rfl) dX5_asks_62 ⟨(Nat.le_of_ble_eq_true rfl), (Nat.le_of_ble_eq_true rfl)⟩) hS kx_no (fun r_47 M_45 ad_46 H locs hP hW hS => ?_)
          obtain ⟨hw, rfl⟩ := hP
          refine lv_goto (tgt := 69) hx hb dX5_asks_65 (by decide) ?_
          exact L_69 k28 K28 k38 K38 M_45 x1 x2 r_47 hw H locs ls hW hS (lv_sub hl [0, 1, 2] rfl)
  have L_28 : ∀ (n : Nat) (M : Mem) (x1 : Int32), l_X5_asks_28 Q n M x1 → WL p l e rm_X5_asks s m args below meth c QQ E base 4 M ad 28 [(0, .ref (ad 5 0)), (1, .int x1)] [] 0 0 := by
    intro n
    induction n with
    | zero => intro M x1 hw; exact False.elim hw
    | succ n K28 =>
      intro M x1 hw H locs ls hW hS hl
      obtain ⟨k28, hk28⟩ : ∃ z, z = l_X5_asks_28 Q n := ⟨_, rfl⟩
      have hw : b_X5_asks_28 Q k28 M x1 := by rw [hk28]; exact hw
      rw [← hk28] at K28
      unfold b_X5_asks_28 at hw
      refine lv_iload_n hx hb dX5_asks_28 rfl (lv_at hl 1 rfl) ?_
      refine lv_aload_n hx hb dX5_asks_29 rfl (lv_at hl 0 rfl) ?_
      obtain ⟨g_4, hw⟩ := hw
      refine r_getI hx hb hts hown hT.1 hW clX5 3 (by decide) (hts _ k_88) (fun _ h9 => h9) rfl g_4 dX5_asks_30 ?_
      refine lv_icmp_ge (tgt := 147) hx hb dX5_asks_33 (by decide) (fun c_5 => ?_) (fun c_5 => ?_)
      · have hw := hw.1 c_5
        rw [← hQQ]
        exact e_V hx hb hr hlocks hW hS (Nat.le_of_ble_eq_true rfl) (Nat.le_of_ble_eq_true rfl) dX5_asks_147 ⟨hw, rfl⟩
      · have hw := hw.2 c_5
        refine lv_iconst (v := 0) hx hb dX5_asks_36 (by decide) ?_
        refine lv_istore_n (lv' := [(2, .int 0), (0, .ref (ad 5 0)), (1, .int x1)]) hx hb dX5_asks_37 rfl hl (by decide) rfl (fun ls hl => ?_)
        obtain ⟨n9, hw⟩ := hw
        exact L_38 k28 K28 n9 M x1 0 hw H locs ls hW hS (lv_sub hl [1, 2, 0] rfl)
  have L_7 : ∀ (n : Nat) (M : Mem) (x1 : Int32), l_X5_asks_7 Q n M x1 → WL p l e rm_X5_asks s m args below meth c QQ E base 4 M ad 7 [(0, .ref (ad 5 0)), (1, .int x1)] [] 0 0 := by
    intro n
    induction n with
    | zero => intro M x1 hw; exact False.elim hw
    | succ n K7 =>
      intro M x1 hw H locs ls hW hS hl
      obtain ⟨k7, hk7⟩ : ∃ z, z = l_X5_asks_7 Q n := ⟨_, rfl⟩
      have hw : b_X5_asks_7 Q k7 M x1 := by rw [hk7]; exact hw
      rw [← hk7] at K7
      unfold b_X5_asks_7 at hw
      refine lv_iload_n hx hb dX5_asks_7 rfl (lv_at hl 1 rfl) ?_
      refine lv_bipush (v := 72) hx hb dX5_asks_8 (by decide) ?_
      refine lv_icmp_ge (tgt := 26) hx hb dX5_asks_10 (by decide) (fun c_3 => ?_) (fun c_3 => ?_)
      · have hw := hw.1 c_3
        refine lv_iconst (v := 0) hx hb dX5_asks_26 (by decide) ?_
        refine lv_istore_n (lv' := [(1, .int 0), (0, .ref (ad 5 0))]) hx hb dX5_asks_27 rfl hl (by decide) rfl (fun ls hl => ?_)
        obtain ⟨n9, hw⟩ := hw
        exact L_28 n9 M 0 hw H locs ls hW hS (lv_sub hl [1, 0] rfl)
      · have hw := hw.2 c_3
        refine lv_aload_n hx hb dX5_asks_13 rfl (lv_at hl 0 rfl) ?_
        obtain ⟨g_48, hw⟩ := hw
        obtain ⟨g_49, hw⟩ := hw
        refine r_getR (κ2 := 42) (i2 := 0) hx hb hts hown hT.1 hW clX5 12 (by decide) (hts _ k_24) (fun _ h9 => h9) 42 rfl rfl g_48 g_49 dX5_asks_14 ?_
        refine lv_iload_n hx hb dX5_asks_17 rfl (lv_at hl 1 rfl) ?_
        refine lv_iconst (v := 0) hx hb dX5_asks_18 (by decide) ?_
        obtain ⟨g_50, hw⟩ := hw
        obtain ⟨g_51, hw⟩ := hw
        refine r_iast hx hb hT.1 hW hS (by decide) rfl (fun _ => rfl) 72 rfl g_51 g_50 dX5_asks_19 (fun M_52 H locs hM_52 hW hS => ?_)
        have hw := hw M_52 hM_52
        obtain ⟨v_53, ev_53⟩ : ∃ y : Int32, y = x1 + 1 := ⟨_, rfl⟩
        have hw := hw v_53 ev_53
        refine lv_iinc (v := v_53) (lv' := [(1, .int v_53), (0, .ref (ad 5 0))]) hx hb dX5_asks_20 hl (k := 1) rfl (by rw [ev_53]; rfl) (by decide) rfl (fun ls hl => ?_)
        refine lv_goto (tgt := 7) hx hb dX5_asks_23 (by decide) ?_
        exact K7 M_52 v_53 hw H locs ls hW hS (lv_sub hl [1, 0] rfl)
  unfold w_X5_asks at hw
  obtain ⟨H, hH⟩ : ∃ z, z = s.heap := ⟨_, rfl⟩
  obtain ⟨locs, hlo⟩ : ∃ z : List Loc, z = [] := ⟨_, rfl⟩
  have hS : va_S (fun q : Nat => base ≤ q) s.heap H locs := by rw [hlo, hH]; exact hS
  have hW : Wd E base M ad H := by rw [hH]; exact hW
  rw [show W p l e rm_X5_asks s m args below meth c s.heap [] 0 0 QQ (F0 m 0 ls []) = W p l e rm_X5_asks s m args below meth c H locs 0 0 QQ (F0 m 0 ls []) by rw [hlo, hH]]
  refine lv_aload_n hx hb dX5_asks_0 rfl (lv_at hl 0 rfl) ?_
  refine lv_iconst (v := 0) hx hb dX5_asks_1 (by decide) ?_
  obtain ⟨g_1, hw⟩ := hw
  refine r_putI hx hb hts hown hT.1 hW hS clX5 19 (by decide) (hts _ k_288) (fun _ h9 => h9) rfl (by decide +kernel) rfl g_1 dX5_asks_2 (fun M_2 H locs hM_2 hW hS => ?_)
  have hw := hw M_2 hM_2
  refine lv_iconst (v := 0) hx hb dX5_asks_5 (by decide) ?_
  refine lv_istore_n (lv' := [(1, .int 0), (0, .ref (ad 5 0))]) hx hb dX5_asks_6 rfl hl (by decide) rfl (fun ls hl => ?_)
  obtain ⟨n9, hw⟩ := hw
  exact L_7 n9 M_2 0 hw H locs ls hW hS (lv_sub hl [1, 0] rfl)
def rm_X5_comes : Room := { frames := 1, cells := 0, slots := 0, locals := 21 }
set_option maxHeartbeats 4000000 in
set_option maxRecDepth 100000 in
theorem c_X5_comes (l : Launch) (E : GE) (base : Nat) (M : Mem) (ad : AD)  (Q : Int32 → Mem → Prop) (hw : w_X5_comes M  Q) : Con l yX5_comes cX5_comes 5 (some .int) rm_X5_comes 0 0 E base [.ref (ad 5 0)] M ad (QcI E base (fun r M1 ad1 => Q r M1 ∧ ad = ad1)) noX := by
  refine con_start (by decide) (Nat.le_of_ble_eq_true rfl) ?_
  intro p e s m args below meth c ls QQ hQQ CT hnx hW hl
  obtain ⟨⟨hx, hb, hml, hown, hts⟩, hr, hlocks, hnm, hT⟩ := CT
  have hS : va_S (fun q : Nat => base ≤ q) s.heap s.heap [] := va_S.rf
  have hl : lv_has ls 5 [(0, .ref (ad 5 0))] := hl
  have L_198 : ∀ (k25 : Mem → Int32 → Int32 → Prop) (K25 : ∀ (M : Mem) (x1 : Int32) (x2 : Int32), k25 M x1 x2 → WL p l e rm_X5_comes s m args below meth c QQ E base 5 M ad 25 [(0, .ref (ad 5 0)), (1, .int x1), (2, .int x2)] [] 0 0) (M : Mem) (x1 : Int32) (x2 : Int32), b_X5_comes_198 k25 Q M x1 x2 → WL p l e rm_X5_comes s m args below meth c QQ E base 5 M ad 198 [(0, .ref (ad 5 0)), (1, .int x1), (2, .int x2)] [] 0 0 := by
    intro k25 K25 M x1 x2 hw H locs ls hW hS hl
    unfold b_X5_comes_198 at hw
    obtain ⟨v_70, ev_70⟩ : ∃ y : Int32, y = x2 + 1 := ⟨_, rfl⟩
    have hw := hw v_70 ev_70
    refine lv_iinc (v := v_70) (lv' := [(2, .int v_70), (0, .ref (ad 5 0)), (1, .int x1)]) hx hb dX5_comes_198 hl (k := 2) rfl (by rw [ev_70]; rfl) (by decide) rfl (fun ls hl => ?_)
    refine lv_goto (tgt := 25) hx hb dX5_comes_201 (by decide) ?_
    exact K25 M x1 v_70 hw H locs ls hW hS (lv_sub hl [1, 2, 0] rfl)
  have L_142 : ∀ (k25 : Mem → Int32 → Int32 → Prop) (K25 : ∀ (M : Mem) (x1 : Int32) (x2 : Int32), k25 M x1 x2 → WL p l e rm_X5_comes s m args below meth c QQ E base 5 M ad 25 [(0, .ref (ad 5 0)), (1, .int x1), (2, .int x2)] [] 0 0) (M : Mem) (x1 : Int32) (x2 : Int32) (s0 : Int32) (s1 : Int32) (s2 : Int32), b_X5_comes_142 k25 Q M x1 x2 s0 s1 s2 → WL p l e rm_X5_comes s m args below meth c QQ E base 5 M ad 142 [(0, .ref (ad 5 0)), (1, .int x1), (2, .int x2)] [.int s0, .int s1, .int s2, .ref (ad 41 0)] 0 0 := by
    intro k25 K25 M x1 x2 s0 s1 s2 hw H locs ls hW hS hl
    unfold b_X5_comes_142 at hw
    refine lv_ior hx hb dX5_comes_142 ?_
    obtain ⟨g_41, hw⟩ := hw
    obtain ⟨g_42, hw⟩ := hw
    refine r_iast hx hb hT.1 hW hS (by decide) rfl (fun _ => rfl) 72 rfl g_42 g_41 dX5_comes_143 (fun M_43 H locs hM_43 hW hS => ?_)
    have hw := hw M_43 hM_43
    refine lv_aload_n hx hb dX5_comes_144 rfl (lv_at hl 0 rfl) ?_
    obtain ⟨g_44, hw⟩ := hw
    obtain ⟨g_45, hw⟩ := hw
    refine r_getR (κ2 := 43) (i2 := 0) hx hb hts hown hT.1 hW clX5 13 (by decide) (hts _ k_25) (fun _ h9 => h9) 43 rfl rfl g_44 g_45 dX5_comes_145 ?_
    refine lv_bipush (v := 48) hx hb dX5_comes_148 (by decide) ?_
    refine lv_aload_n hx hb dX5_comes_150 rfl (lv_at hl 0 rfl) ?_
    obtain ⟨g_46, hw⟩ := hw
    refine r_getR (κ2 := 50) (i2 := 0) hx hb hts hown hT.1 hW clX5 20 (by decide) (hts _ k_31) (fun _ h9 => h9) 50 rfl rfl g_44 g_46 dX5_comes_151 ?_
    refine lv_iload_n hx hb dX5_comes_154 rfl (lv_at hl 2 rfl) ?_
    obtain ⟨g_47, hw⟩ := hw
    obtain ⟨g_48, hw⟩ := hw
    refine r_iald hx hb hT.1 hW (by decide) rfl (fun _ => rfl) 36 rfl g_48 g_47 dX5_comes_155 ?_
    refine lv_imul hx hb dX5_comes_156 ?_
    refine lv_aload_n hx hb dX5_comes_157 rfl (lv_at hl 0 rfl) ?_
    obtain ⟨g_49, hw⟩ := hw
    refine r_getR (κ2 := 52) (i2 := 0) hx hb hts hown hT.1 hW clX5 22 (by decide) (hts _ k_33) (fun _ h9 => h9) 52 rfl rfl g_44 g_49 dX5_comes_158 ?_
    refine lv_iload_n hx hb dX5_comes_161 rfl (lv_at hl 2 rfl) ?_
    obtain ⟨g_50, hw⟩ := hw
    obtain ⟨g_51, hw⟩ := hw
    refine r_iald hx hb hT.1 hW (by decide) rfl (fun _ => rfl) 36 rfl g_51 g_50 dX5_comes_162 ?_
    refine lv_iadd hx hb dX5_comes_163 ?_
    refine lv_aload_n hx hb dX5_comes_164 rfl (lv_at hl 0 rfl) ?_
    obtain ⟨g_52, hw⟩ := hw
    refine r_getR (κ2 := 51) (i2 := 0) hx hb hts hown hT.1 hW clX5 21 (by decide) (hts _ k_32) (fun _ h9 => h9) 51 rfl rfl g_44 g_52 dX5_comes_165 ?_
    refine lv_iload_n hx hb dX5_comes_168 rfl (lv_at hl 2 rfl) ?_
    obtain ⟨g_53, hw⟩ := hw
    obtain ⟨g_54, hw⟩ := hw
    refine r_iald hx hb hT.1 hW (by decide) rfl (fun _ => rfl) 36 rfl g_54 g_53 dX5_comes_169 ?_
    obtain ⟨g_55, hw⟩ := hw
    obtain ⟨g_56, hw⟩ := hw
    refine r_iast hx hb hT.1 hW hS (by decide) rfl (fun _ => rfl) 288 rfl g_56 g_55 dX5_comes_170 (fun M_57 H locs hM_57 hW hS => ?_)
    have hw := hw M_57 hM_57
    refine lv_aload_n hx hb dX5_comes_171 rfl (lv_at hl 0 rfl) ?_
    obtain ⟨g_58, hw⟩ := hw
    refine r_getR (κ2 := 44) (i2 := 0) hx hb hts hown hT.1 hW clX5 14 (by decide) (hts _ k_26) (fun _ h9 => h9) 44 rfl rfl (by rw [hM_57]; exact g_44) g_58 dX5_comes_172 ?_
    refine lv_aload_n hx hb dX5_comes_175 rfl (lv_at hl 0 rfl) ?_
    refine r_getR (κ2 := 50) (i2 := 0) hx hb hts hown hT.1 hW clX5 20 (by decide) (hts _ k_31) (fun _ h9 => h9) 50 rfl rfl (by rw [hM_57]; exact g_44) (by rw [hM_57]; exact g_46) dX5_comes_176 ?_
    refine lv_iload_n hx hb dX5_comes_179 rfl (lv_at hl 2 rfl) ?_
    obtain ⟨g_59, hw⟩ := hw
    refine r_iald hx hb hT.1 hW (by decide) rfl (fun _ => rfl) 36 rfl g_59 (by rw [hM_57]; exact g_47) dX5_comes_180 ?_
    refine lv_aload_n hx hb dX5_comes_181 rfl (lv_at hl 0 rfl) ?_
    refine r_getR (κ2 := 51) (i2 := 0) hx hb hts hown hT.1 hW clX5 21 (by decide) (hts _ k_32) (fun _ h9 => h9) 51 rfl rfl (by rw [hM_57]; exact g_44) (by rw [hM_57]; exact g_52) dX5_comes_182 ?_
    refine lv_iload_n hx hb dX5_comes_185 rfl (lv_at hl 2 rfl) ?_
    obtain ⟨g_60, hw⟩ := hw
    refine r_iald hx hb hT.1 hW (by decide) rfl (fun _ => rfl) 36 rfl g_60 (by rw [hM_57]; exact g_53) dX5_comes_186 ?_
    refine k_I (rn_S (As := [.int (mI M_57 50 0 x2.toNatClampNeg), .int (mI M_57 51 0 x2.toNatClampNeg)]) (rest := [.ref (ad 44 0)]) ⟨hx, hb, hml, hown, hts⟩ hT hW hS hl (c_X5_pair l E base M_57 ad (mI M_57 50 0 x2.toNatClampNeg) (mI M_57 51 0 x2.toNatClampNeg) _ hw) cy_X5_pair k_263 k_264 rfl rfl ⟨(Nat.le_of_ble_eq_true rfl), (Nat.le_of_ble_eq_true rfl)⟩ rfl rfl (Nat.le_of_ble_eq_true rfl) dX5_comes_187 ⟨(Nat.le_of_ble_eq_true rfl), (Nat.le_of_ble_eq_true rfl)⟩) hS kx_no (fun r_64 M_62 ad_63 H locs hP hW hS => ?_)
    obtain ⟨hw, rfl⟩ := hP
    refine lv_dup2_11 hx hb dX5_comes_190 rfl rfl ?_
    obtain ⟨g_65, hw⟩ := hw
    obtain ⟨g_66, hw⟩ := hw
    refine r_iald hx hb hT.1 hW (by decide) rfl (fun _ => rfl) 36 rfl g_66 g_65 dX5_comes_191 ?_
    refine lv_iconst (v := 1) hx hb dX5_comes_192 (by decide) ?_
    refine lv_iadd hx hb dX5_comes_193 ?_
    obtain ⟨g_67, hw⟩ := hw
    refine r_iast hx hb hT.1 hW hS (by decide) rfl (fun _ => rfl) 36 rfl g_67 g_65 dX5_comes_194 (fun M_68 H locs hM_68 hW hS => ?_)
    have hw := hw M_68 hM_68
    obtain ⟨v_69, ev_69⟩ : ∃ y : Int32, y = x1 + 1 := ⟨_, rfl⟩
    have hw := hw v_69 ev_69
    refine lv_iinc (v := v_69) (lv' := [(1, .int v_69), (0, .ref (ad 5 0)), (2, .int x2)]) hx hb dX5_comes_195 hl (k := 1) rfl (by rw [ev_69]; rfl) (by decide) rfl (fun ls hl => ?_)
    exact L_198 k25 K25 M_68 v_69 x2 hw H locs ls hW hS (lv_sub hl [1, 0, 2] rfl)
  have L_25 : ∀ (n : Nat) (M : Mem) (x1 : Int32) (x2 : Int32), l_X5_comes_25 Q n M x1 x2 → WL p l e rm_X5_comes s m args below meth c QQ E base 5 M ad 25 [(0, .ref (ad 5 0)), (1, .int x1), (2, .int x2)] [] 0 0 := by
    intro n
    induction n with
    | zero => intro M x1 x2 hw; exact False.elim hw
    | succ n K25 =>
      intro M x1 x2 hw H locs ls hW hS hl
      obtain ⟨k25, hk25⟩ : ∃ z, z = l_X5_comes_25 Q n := ⟨_, rfl⟩
      have hw : b_X5_comes_25 Q k25 M x1 x2 := by rw [hk25]; exact hw
      rw [← hk25] at K25
      unfold b_X5_comes_25 at hw
      refine lv_iload_n hx hb dX5_comes_25 rfl (lv_at hl 2 rfl) ?_
      refine lv_aload_n hx hb dX5_comes_26 rfl (lv_at hl 0 rfl) ?_
      obtain ⟨g_2, hw⟩ := hw
      refine r_getI hx hb hts hown hT.1 hW clX5 19 (by decide) (hts _ k_288) (fun _ h9 => h9) rfl g_2 dX5_comes_27 ?_
      refine lv_icmp_ge (tgt := 204) hx hb dX5_comes_30 (by decide) (fun c_3 => ?_) (fun c_3 => ?_)
      · have hw := hw.1 c_3
        refine lv_iload_n hx hb dX5_comes_204 rfl (lv_at hl 1 rfl) ?_
        rw [← hQQ]
        exact e_I hx hb hr hlocks hW hS (Nat.le_of_ble_eq_true rfl) (Nat.le_of_ble_eq_true rfl) dX5_comes_205 ⟨hw, rfl⟩
      · have hw := hw.2 c_3
        refine lv_aload_n hx hb dX5_comes_33 rfl (lv_at hl 0 rfl) ?_
        obtain ⟨g_4, hw⟩ := hw
        refine r_getR (κ2 := 50) (i2 := 0) hx hb hts hown hT.1 hW clX5 20 (by decide) (hts _ k_31) (fun _ h9 => h9) 50 rfl rfl g_2 g_4 dX5_comes_34 ?_
        refine lv_iload_n hx hb dX5_comes_37 rfl (lv_at hl 2 rfl) ?_
        obtain ⟨g_5, hw⟩ := hw
        obtain ⟨g_6, hw⟩ := hw
        refine r_iald hx hb hT.1 hW (by decide) rfl (fun _ => rfl) 36 rfl g_6 g_5 dX5_comes_38 ?_
        refine lv_aload_n hx hb dX5_comes_39 rfl (lv_at hl 0 rfl) ?_
        obtain ⟨g_7, hw⟩ := hw
        refine r_getR (κ2 := 52) (i2 := 0) hx hb hts hown hT.1 hW clX5 22 (by decide) (hts _ k_33) (fun _ h9 => h9) 52 rfl rfl g_2 g_7 dX5_comes_40 ?_
        refine lv_iload_n hx hb dX5_comes_43 rfl (lv_at hl 2 rfl) ?_
        obtain ⟨g_8, hw⟩ := hw
        obtain ⟨g_9, hw⟩ := hw
        refine r_iald hx hb hT.1 hW (by decide) rfl (fun _ => rfl) 36 rfl g_9 g_8 dX5_comes_44 ?_
        refine lv_iconst (v := 4) hx hb dX5_comes_45 (by decide) ?_
        refine lv_idiv hx hb dX5_comes_46 (by decide) ?_
        refine k_I (rn_S (As := [.int (mI M 50 0 x2.toNatClampNeg), .int ((mI M 52 0 x2.toNatClampNeg) / 4)]) (rest := []) ⟨hx, hb, hml, hown, hts⟩ hT hW hS hl (c_X5_at l E base M ad (mI M 50 0 x2.toNatClampNeg) ((mI M 52 0 x2.toNatClampNeg) / 4) _ hw) cy_X5_at k_278 k_279 rfl rfl ⟨(Nat.le_of_ble_eq_true rfl), (Nat.le_of_ble_eq_true rfl)⟩ rfl rfl (Nat.le_of_ble_eq_true rfl) dX5_comes_47 ⟨(Nat.le_of_ble_eq_true rfl), (Nat.le_of_ble_eq_true rfl)⟩) hS kx_no (fun r_13 M_11 ad_12 H locs hP hW hS => ?_)
        obtain ⟨hw, rfl⟩ := hP
        refine lv_istore_n (lv' := [(3, .int r_13), (0, .ref (ad 5 0)), (1, .int x1), (2, .int x2)]) hx hb dX5_comes_50 rfl hl (by decide) rfl (fun ls hl => ?_)
        refine lv_iconst (v := 1) hx hb dX5_comes_51 (by decide) ?_
        refine lv_aload_n hx hb dX5_comes_52 rfl (lv_at hl 1 rfl) ?_
        obtain ⟨g_14, hw⟩ := hw
        obtain ⟨g_15, hw⟩ := hw
        refine r_getR (κ2 := 52) (i2 := 0) hx hb hts hown hT.1 hW clX5 22 (by decide) (hts _ k_33) (fun _ h9 => h9) 52 rfl rfl g_14 g_15 dX5_comes_53 ?_
        refine lv_iload_n hx hb dX5_comes_56 rfl (lv_at hl 3 rfl) ?_
        obtain ⟨g_16, hw⟩ := hw
        obtain ⟨g_17, hw⟩ := hw
        refine r_iald hx hb hT.1 hW (by decide) rfl (fun _ => rfl) 36 rfl g_17 g_16 dX5_comes_57 ?_
        refine lv_iconst (v := 4) hx hb dX5_comes_58 (by decide) ?_
        refine lv_irem hx hb dX5_comes_59 (by decide) ?_
        refine lv_ishl hx hb dX5_comes_60 ?_
        refine lv_topi (fun v_18 ev_18 => ?_)
        have hw := hw v_18 ev_18
        refine lv_istore (lv' := [(4, .int v_18), (3, .int r_13), (0, .ref (ad 5 0)), (1, .int x1), (2, .int x2)]) hx hb dX5_comes_61 hl (by decide) rfl (fun ls hl => ?_)
        refine lv_aload_n hx hb dX5_comes_63 rfl (lv_at hl 2 rfl) ?_
        obtain ⟨g_19, hw⟩ := hw
        refine r_getR (κ2 := 40) (i2 := 0) hx hb hts hown hT.1 hW clX5 10 (by decide) (hts _ k_22) (fun _ h9 => h9) 40 rfl rfl g_14 g_19 dX5_comes_64 ?_
        refine lv_iload_n hx hb dX5_comes_67 rfl (lv_at hl 1 rfl) ?_
        obtain ⟨g_20, hw⟩ := hw
        obtain ⟨g_21, hw⟩ := hw
        refine r_iald hx hb hT.1 hW (by decide) rfl (fun _ => rfl) 72 rfl g_21 g_20 dX5_comes_68 ?_
        refine lv_iload hx hb dX5_comes_69 (lv_at hl 0 rfl) ?_
        refine lv_iand hx hb dX5_comes_71 ?_
        refine lv_if_eq (tgt := 93) hx hb dX5_comes_72 (by decide) (fun c_22 => ?_) (fun c_22 => ?_)
        · have hw := hw.1 c_22
          refine lv_aload_n hx hb dX5_comes_93 rfl (lv_at hl 2 rfl) ?_
          refine r_getR (κ2 := 40) (i2 := 0) hx hb hts hown hT.1 hW clX5 10 (by decide) (hts _ k_22) (fun _ h9 => h9) 40 rfl rfl g_14 g_19 dX5_comes_94 ?_
          refine lv_iload_n hx hb dX5_comes_97 rfl (lv_at hl 1 rfl) ?_
          refine lv_dup2_11 hx hb dX5_comes_98 rfl rfl ?_
          obtain ⟨g_23, hw⟩ := hw
          refine r_iald hx hb hT.1 hW (by decide) rfl (fun _ => rfl) 72 rfl g_23 g_20 dX5_comes_99 ?_
          refine lv_iload hx hb dX5_comes_100 (lv_at hl 0 rfl) ?_
          refine lv_ior hx hb dX5_comes_102 ?_
          obtain ⟨g_24, hw⟩ := hw
          refine r_iast hx hb hT.1 hW hS (by decide) rfl (fun _ => rfl) 72 rfl g_24 g_20 dX5_comes_103 (fun M_25 H locs hM_25 hW hS => ?_)
          have hw := hw M_25 hM_25
          refine lv_aload_n hx hb dX5_comes_104 rfl (lv_at hl 2 rfl) ?_
          obtain ⟨g_26, hw⟩ := hw
          refine r_getR (κ2 := 41) (i2 := 0) hx hb hts hown hT.1 hW clX5 11 (by decide) (hts _ k_23) (fun _ h9 => h9) 41 rfl rfl (by rw [hM_25]; exact g_14) g_26 dX5_comes_105 ?_
          refine lv_iload_n hx hb dX5_comes_108 rfl (lv_at hl 1 rfl) ?_
          refine lv_dup2_11 hx hb dX5_comes_109 rfl rfl ?_
          obtain ⟨g_27, hw⟩ := hw
          obtain ⟨g_28, hw⟩ := hw
          refine r_iald hx hb hT.1 hW (by decide) rfl (fun _ => rfl) 72 rfl g_28 g_27 dX5_comes_110 ?_
          refine lv_aload_n hx hb dX5_comes_111 rfl (lv_at hl 2 rfl) ?_
          obtain ⟨g_29, hw⟩ := hw
          refine r_getR (κ2 := 38) (i2 := 0) hx hb hts hown hT.1 hW clX5 8 (by decide) (hts _ k_20) (fun _ h9 => h9) 38 rfl rfl (by rw [hM_25]; exact g_14) g_29 dX5_comes_112 ?_
          refine lv_aload_n hx hb dX5_comes_115 rfl (lv_at hl 2 rfl) ?_
          obtain ⟨g_30, hw⟩ := hw
          refine r_getR (κ2 := 51) (i2 := 0) hx hb hts hown hT.1 hW clX5 21 (by decide) (hts _ k_32) (fun _ h9 => h9) 51 rfl rfl (by rw [hM_25]; exact g_14) g_30 dX5_comes_116 ?_
          refine lv_iload_n hx hb dX5_comes_119 rfl (lv_at hl 4 rfl) ?_
          obtain ⟨g_31, hw⟩ := hw
          obtain ⟨g_32, hw⟩ := hw
          refine r_iald hx hb hT.1 hW (by decide) rfl (fun _ => rfl) 36 rfl g_32 g_31 dX5_comes_120 ?_
          obtain ⟨g_33, hw⟩ := hw
          obtain ⟨g_34, hw⟩ := hw
          refine r_iald hx hb hT.1 hW (by decide) rfl (fun _ => rfl) 6 rfl g_34 g_33 dX5_comes_121 ?_
          refine lv_aload_n hx hb dX5_comes_122 rfl (lv_at hl 2 rfl) ?_
          refine r_getR (κ2 := 52) (i2 := 0) hx hb hts hown hT.1 hW clX5 22 (by decide) (hts _ k_33) (fun _ h9 => h9) 52 rfl rfl (by rw [hM_25]; exact g_14) (by rw [hM_25]; exact g_15) dX5_comes_123 ?_
          refine lv_iload_n hx hb dX5_comes_126 rfl (lv_at hl 4 rfl) ?_
          obtain ⟨g_35, hw⟩ := hw
          refine r_iald hx hb hT.1 hW (by decide) rfl (fun _ => rfl) 36 rfl g_35 (by rw [hM_25]; exact g_16) dX5_comes_127 ?_
          refine lv_iconst (v := 4) hx hb dX5_comes_128 (by decide) ?_
          refine lv_idiv hx hb dX5_comes_129 (by decide) ?_
          refine k_I (rn_S (As := [.int (mI M_25 38 0 ((mI M_25 51 0 x2.toNatClampNeg).toNatClampNeg)), .int ((mI M_25 52 0 x2.toNatClampNeg) / 4)]) (rest := [.int (mI M_25 41 0 r_13.toNatClampNeg), .int r_13, .ref (ad 41 0)]) ⟨hx, hb, hml, hown, hts⟩ hT hW hS hl (c_X5_has l E base M_25 ad (mI M_25 38 0 ((mI M_25 51 0 x2.toNatClampNeg).toNatClampNeg)) ((mI M_25 52 0 x2.toNatClampNeg) / 4) _ hw) cy_X5_has k_141 k_142 rfl rfl ⟨(Nat.le_of_ble_eq_true rfl), (Nat.le_of_ble_eq_true rfl)⟩ rfl rfl (Nat.le_of_ble_eq_true rfl) dX5_comes_130 ⟨(Nat.le_of_ble_eq_true rfl), (Nat.le_of_ble_eq_true rfl)⟩) hS kx_no (fun r_39 M_37 ad_38 H locs hP hW hS => ?_)
          obtain ⟨hw, rfl⟩ := hP
          refine lv_if_eq (tgt := 141) hx hb dX5_comes_133 (by decide) (fun c_40 => ?_) (fun c_40 => ?_)
          · have hw := hw.1 c_40
            refine lv_iconst (v := 0) hx hb dX5_comes_141 (by decide) ?_
            exact L_142 k25 K25 M_37 x1 x2 0 (mI M_25 41 0 r_13.toNatClampNeg) r_13 hw H locs ls hW hS (lv_sub hl [2, 3, 4] rfl)
          · have hw := hw.2 c_40
            refine lv_iload hx hb dX5_comes_136 (lv_at hl 0 rfl) ?_
            refine lv_goto (tgt := 142) hx hb dX5_comes_138 (by decide) ?_
            exact L_142 k25 K25 M_37 x1 x2 v_18 (mI M_25 41 0 r_13.toNatClampNeg) r_13 hw H locs ls hW hS (lv_sub hl [2, 3, 4] rfl)
        · have hw := hw.2 c_22
          refine lv_aload_n hx hb dX5_comes_75 rfl (lv_at hl 2 rfl) ?_
          obtain ⟨g_71, hw⟩ := hw
          refine r_getR (κ2 := 39) (i2 := 0) hx hb hts hown hT.1 hW clX5 9 (by decide) (hts _ k_21) (fun _ h9 => h9) 39 rfl rfl g_14 g_71 dX5_comes_76 ?_
          refine lv_aload_n hx hb dX5_comes_79 rfl (lv_at hl 2 rfl) ?_
          obtain ⟨g_72, hw⟩ := hw
          refine r_getR (κ2 := 50) (i2 := 0) hx hb hts hown hT.1 hW clX5 20 (by decide) (hts _ k_31) (fun _ h9 => h9) 50 rfl rfl g_14 g_72 dX5_comes_80 ?_
          refine lv_iload_n hx hb dX5_comes_83 rfl (lv_at hl 4 rfl) ?_
          obtain ⟨g_73, hw⟩ := hw
          obtain ⟨g_74, hw⟩ := hw
          refine r_iald hx hb hT.1 hW (by decide) rfl (fun _ => rfl) 36 rfl g_74 g_73 dX5_comes_84 ?_
          refine lv_dup2_11 hx hb dX5_comes_85 rfl rfl ?_
          obtain ⟨g_75, hw⟩ := hw
          obtain ⟨g_76, hw⟩ := hw
          refine r_iald hx hb hT.1 hW (by decide) rfl (fun _ => rfl) 6 rfl g_76 g_75 dX5_comes_86 ?_
          refine lv_iconst (v := 1) hx hb dX5_comes_87 (by decide) ?_
          refine lv_iadd hx hb dX5_comes_88 ?_
          obtain ⟨g_77, hw⟩ := hw
          refine r_iast hx hb hT.1 hW hS (by decide) rfl (fun _ => rfl) 6 rfl g_77 g_75 dX5_comes_89 (fun M_78 H locs hM_78 hW hS => ?_)
          have hw := hw M_78 hM_78
          refine lv_goto (tgt := 198) hx hb dX5_comes_90 (by decide) ?_
          exact L_198 k25 K25 M_78 x1 x2 hw H locs ls hW hS (lv_sub hl [2, 3, 4] rfl)
  have L_4 : ∀ (n : Nat) (M : Mem) (x1 : Int32) (x2 : Int32), l_X5_comes_4 Q n M x1 x2 → WL p l e rm_X5_comes s m args below meth c QQ E base 5 M ad 4 [(0, .ref (ad 5 0)), (1, .int x1), (2, .int x2)] [] 0 0 := by
    intro n
    induction n with
    | zero => intro M x1 x2 hw; exact False.elim hw
    | succ n K4 =>
      intro M x1 x2 hw H locs ls hW hS hl
      obtain ⟨k4, hk4⟩ : ∃ z, z = l_X5_comes_4 Q n := ⟨_, rfl⟩
      have hw : b_X5_comes_4 Q k4 M x1 x2 := by rw [hk4]; exact hw
      rw [← hk4] at K4
      unfold b_X5_comes_4 at hw
      refine lv_iload_n hx hb dX5_comes_4 rfl (lv_at hl 2 rfl) ?_
      refine lv_bipush (v := 36) hx hb dX5_comes_5 (by decide) ?_
      refine lv_icmp_ge (tgt := 23) hx hb dX5_comes_7 (by decide) (fun c_1 => ?_) (fun c_1 => ?_)
      · have hw := hw.1 c_1
        refine lv_iconst (v := 0) hx hb dX5_comes_23 (by decide) ?_
        refine lv_istore_n (lv' := [(2, .int 0), (0, .ref (ad 5 0)), (1, .int x1)]) hx hb dX5_comes_24 rfl hl (by decide) rfl (fun ls hl => ?_)
        obtain ⟨n9, hw⟩ := hw
        exact L_25 n9 M x1 0 hw H locs ls hW hS (lv_sub hl [1, 2, 0] rfl)
      · have hw := hw.2 c_1
        refine lv_aload_n hx hb dX5_comes_10 rfl (lv_at hl 0 rfl) ?_
        obtain ⟨g_79, hw⟩ := hw
        obtain ⟨g_80, hw⟩ := hw
        refine r_getR (κ2 := 44) (i2 := 0) hx hb hts hown hT.1 hW clX5 14 (by decide) (hts _ k_26) (fun _ h9 => h9) 44 rfl rfl g_79 g_80 dX5_comes_11 ?_
        refine lv_iload_n hx hb dX5_comes_14 rfl (lv_at hl 2 rfl) ?_
        refine lv_iconst (v := 0) hx hb dX5_comes_15 (by decide) ?_
        obtain ⟨g_81, hw⟩ := hw
        obtain ⟨g_82, hw⟩ := hw
        refine r_iast hx hb hT.1 hW hS (by decide) rfl (fun _ => rfl) 36 rfl g_82 g_81 dX5_comes_16 (fun M_83 H locs hM_83 hW hS => ?_)
        have hw := hw M_83 hM_83
        obtain ⟨v_84, ev_84⟩ : ∃ y : Int32, y = x2 + 1 := ⟨_, rfl⟩
        have hw := hw v_84 ev_84
        refine lv_iinc (v := v_84) (lv' := [(2, .int v_84), (0, .ref (ad 5 0)), (1, .int x1)]) hx hb dX5_comes_17 hl (k := 2) rfl (by rw [ev_84]; rfl) (by decide) rfl (fun ls hl => ?_)
        refine lv_goto (tgt := 4) hx hb dX5_comes_20 (by decide) ?_
        exact K4 M_83 x1 v_84 hw H locs ls hW hS (lv_sub hl [1, 2, 0] rfl)
  unfold w_X5_comes at hw
  obtain ⟨H, hH⟩ : ∃ z, z = s.heap := ⟨_, rfl⟩
  obtain ⟨locs, hlo⟩ : ∃ z : List Loc, z = [] := ⟨_, rfl⟩
  have hS : va_S (fun q : Nat => base ≤ q) s.heap H locs := by rw [hlo, hH]; exact hS
  have hW : Wd E base M ad H := by rw [hH]; exact hW
  rw [show W p l e rm_X5_comes s m args below meth c s.heap [] 0 0 QQ (F0 m 0 ls []) = W p l e rm_X5_comes s m args below meth c H locs 0 0 QQ (F0 m 0 ls []) by rw [hlo, hH]]
  refine lv_iconst (v := 0) hx hb dX5_comes_0 (by decide) ?_
  refine lv_istore_n (lv' := [(1, .int 0), (0, .ref (ad 5 0))]) hx hb dX5_comes_1 rfl hl (by decide) rfl (fun ls hl => ?_)
  refine lv_iconst (v := 0) hx hb dX5_comes_2 (by decide) ?_
  refine lv_istore_n (lv' := [(2, .int 0), (1, .int 0), (0, .ref (ad 5 0))]) hx hb dX5_comes_3 rfl hl (by decide) rfl (fun ls hl => ?_)
  obtain ⟨n9, hw⟩ := hw
  exact L_4 n9 M 0 0 hw H locs ls hW hS (lv_sub hl [2, 1, 0] rfl)
