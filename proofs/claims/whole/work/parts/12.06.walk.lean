def rm_X2_blame : Room := { frames := 1, cells := 0, slots := 0, locals := 20 }
set_option maxHeartbeats 4000000 in
set_option maxRecDepth 100000 in
theorem c_X2_blame (l : Launch) (E : GE) (base : Nat) (M : Mem) (ad : AD) (t : Nat) (a1 : Int32) (Q : Mem → Prop) (hw : w_X2_blame M t a1 Q) : Con l yX2_blame cX2_blame 7 none rm_X2_blame 0 0 E base [.ref (ad 2 t), .int a1] M ad (QcV E base (fun M1 ad1 => Q M1 ∧ ad = ad1)) noX := by
  refine con_start (by decide) (Nat.le_of_ble_eq_true rfl) ?_
  intro p e s m args below meth c ls QQ hQQ CT hnx hW hl
  obtain ⟨⟨hx, hb, hml, hown, hts⟩, hr, hlocks, hnm, hT⟩ := CT
  have hS : va_S (fun q : Nat => base ≤ q) s.heap s.heap [] := va_S.rf
  have hl : lv_has ls 7 [(0, .ref (ad 2 t)), (1, .int a1)] := hl
  have L_78 : ∀ (k8 : Mem → Nat → Int64 → Int32 → Prop) (K8 : ∀ (M : Mem) (x0 : Nat) (x2 : Int64) (x4 : Int32), k8 M x0 x2 x4 → WL p l e rm_X2_blame s m args below meth c QQ E base 7 M ad 8 [(0, .ref (ad 2 x0)), (2, .long x2), (4, .int x4)] [] 0 0) (M : Mem) (x0 : Nat) (x2 : Int64) (x4 : Int32), b_X2_blame_78 k8 Q M x0 x2 x4 → WL p l e rm_X2_blame s m args below meth c QQ E base 7 M ad 78 [(0, .ref (ad 2 x0)), (2, .long x2), (4, .int x4)] [] 0 0 := by
    intro k8 K8 M x0 x2 x4 hw H locs ls hW hS hl
    unfold b_X2_blame_78 at hw
    obtain ⟨v_12, ev_12⟩ : ∃ y : Int32, y = x4 + 1 := ⟨_, rfl⟩
    have hw := hw v_12 ev_12
    refine lv_iinc (v := v_12) (lv' := [(4, .int v_12), (0, .ref (ad 2 x0)), (2, .long x2)]) hx hb dX2_blame_78 hl (k := 2) rfl (by rw [ev_12]; rfl) (by decide) rfl (fun ls hl => ?_)
    refine lv_goto (tgt := 8) hx hb dX2_blame_81 (by decide) ?_
    exact K8 M x0 x2 v_12 hw H locs ls hW hS (lv_sub hl [1, 2, 0] rfl)
  have L_65 : ∀ (k8 : Mem → Nat → Int64 → Int32 → Prop) (K8 : ∀ (M : Mem) (x0 : Nat) (x2 : Int64) (x4 : Int32), k8 M x0 x2 x4 → WL p l e rm_X2_blame s m args below meth c QQ E base 7 M ad 8 [(0, .ref (ad 2 x0)), (2, .long x2), (4, .int x4)] [] 0 0) (M : Mem) (x0 : Nat) (x2 : Int64) (x4 : Int32), b_X2_blame_65 k8 Q M x0 x2 x4 → WL p l e rm_X2_blame s m args below meth c QQ E base 7 M ad 65 [(0, .ref (ad 2 x0)), (2, .long x2), (4, .int x4)] [] 0 0 := by
    intro k8 K8 M x0 x2 x4 hw H locs ls hW hS hl
    unfold b_X2_blame_65 at hw
    refine lv_aload_n hx hb dX2_blame_65 rfl (lv_at hl 0 rfl) ?_
    refine lv_dup hx hb dX2_blame_66 rfl ?_
    obtain ⟨g_19, hw⟩ := hw
    refine r_getI hx hb hts hown hT.1 hW clX2 10 (by decide) (hts _ k_60) (fun _ h9 => h9) rfl g_19 dX2_blame_67 ?_
    refine lv_iconst (v := 1) hx hb dX2_blame_70 (by decide) ?_
    refine lv_iload hx hb dX2_blame_71 (lv_at hl 2 rfl) ?_
    refine lv_ishl hx hb dX2_blame_73 ?_
    refine lv_ior hx hb dX2_blame_74 ?_
    refine r_putI hx hb hts hown hT.1 hW hS clX2 10 (by decide) (hts _ k_60) (fun _ h9 => h9) rfl (by decide +kernel) rfl g_19 dX2_blame_75 (fun M_20 H locs hM_20 hW hS => ?_)
    have hw := hw M_20 hM_20
    exact L_78 k8 K8 M_20 x0 x2 x4 hw H locs ls hW hS (lv_sub hl [0, 1, 2] rfl)
  have L_8 : ∀ (n : Nat) (M : Mem) (x0 : Nat) (x2 : Int64) (x4 : Int32), l_X2_blame_8 Q n M x0 x2 x4 → WL p l e rm_X2_blame s m args below meth c QQ E base 7 M ad 8 [(0, .ref (ad 2 x0)), (2, .long x2), (4, .int x4)] [] 0 0 := by
    intro n
    induction n with
    | zero => intro M x0 x2 x4 hw; exact False.elim hw
    | succ n K8 =>
      intro M x0 x2 x4 hw H locs ls hW hS hl
      obtain ⟨k8, hk8⟩ : ∃ z, z = l_X2_blame_8 Q n := ⟨_, rfl⟩
      have hw : b_X2_blame_8 Q k8 M x0 x2 x4 := by rw [hk8]; exact hw
      rw [← hk8] at K8
      unfold b_X2_blame_8 at hw
      refine lv_iload hx hb dX2_blame_8 (lv_at hl 2 rfl) ?_
      refine lv_aload_n hx hb dX2_blame_10 rfl (lv_at hl 0 rfl) ?_
      obtain ⟨g_5, hw⟩ := hw
      obtain ⟨g_6, hw⟩ := hw
      refine r_getR (κ2 := 23) (i2 := x0) hx hb hts hown hT.1 hW clX2 7 (by decide) (hts _ k_57) (fun _ h9 => h9) 23 rfl rfl g_5 g_6 dX2_blame_11 ?_
      obtain ⟨g_7, hw⟩ := hw
      refine r_alen (v := 6) hx hb hT.1 hW (by decide) 1 rfl (kTy 1) rfl (by decide) g_7 dX2_blame_14 ?_
      refine lv_icmp_ge (tgt := 84) hx hb dX2_blame_15 (by decide) (fun c_8 => ?_) (fun c_8 => ?_)
      · have hw := hw.1 c_8
        rw [← hQQ]
        exact e_V hx hb hr hlocks hW hS (Nat.le_of_ble_eq_true rfl) (Nat.le_of_ble_eq_true rfl) dX2_blame_84 ⟨hw, rfl⟩
      · have hw := hw.2 c_8
        refine lv_aload_n hx hb dX2_blame_18 rfl (lv_at hl 0 rfl) ?_
        refine r_getR (κ2 := 23) (i2 := x0) hx hb hts hown hT.1 hW clX2 7 (by decide) (hts _ k_57) (fun _ h9 => h9) 23 rfl rfl g_5 g_6 dX2_blame_19 ?_
        refine lv_iload hx hb dX2_blame_22 (lv_at hl 2 rfl) ?_
        obtain ⟨g_9, hw⟩ := hw
        refine r_lald hx hb hT.1 hW (by decide) rfl (fun _ => rfl) 6 rfl g_9 g_7 dX2_blame_24 ?_
        refine lv_lload_n hx hb dX2_blame_25 rfl (lv_at hl 1 rfl) ?_
        refine lv_land hx hb dX2_blame_26 ?_
        refine lv_topl (fun v_10 ev_10 => ?_)
        have hw := hw v_10 ev_10
        refine lv_lstore (lv' := [(5, .long v_10), (0, .ref (ad 2 x0)), (2, .long x2), (4, .int x4)]) hx hb dX2_blame_27 hl (by decide) rfl (fun ls hl => ?_)
        refine lv_lload hx hb dX2_blame_29 (lv_at hl 0 rfl) ?_
        refine lv_lconst (v := 0) hx hb dX2_blame_31 (by decide) ?_
        refine W.lcmp hx hb dX2_blame_32 ?_
        refine lv_if_eq (tgt := 78) hx hb dX2_blame_33 (by decide) (fun c_11 => ?_) (fun c_11 => ?_)
        · have hw := hw.1 c_11
          exact L_78 k8 K8 M x0 x2 x4 hw H locs ls hW hS (lv_sub hl [1, 2, 3] rfl)
        · have hw := hw.2 c_11
          refine lv_aload_n hx hb dX2_blame_36 rfl (lv_at hl 1 rfl) ?_
          obtain ⟨g_13, hw⟩ := hw
          refine r_getR (κ2 := 25) (i2 := x0) hx hb hts hown hT.1 hW clX2 9 (by decide) (hts _ k_59) (fun _ h9 => h9) 25 rfl rfl g_5 g_13 dX2_blame_37 ?_
          refine lv_iload hx hb dX2_blame_40 (lv_at hl 3 rfl) ?_
          refine lv_dup2_11 hx hb dX2_blame_42 rfl rfl ?_
          obtain ⟨g_14, hw⟩ := hw
          obtain ⟨g_15, hw⟩ := hw
          refine r_iald hx hb hT.1 hW (by decide) rfl (fun _ => rfl) 6 rfl g_15 g_14 dX2_blame_43 ?_
          refine lv_iconst (v := 1) hx hb dX2_blame_44 (by decide) ?_
          refine lv_iadd hx hb dX2_blame_45 ?_
          obtain ⟨g_16, hw⟩ := hw
          refine r_iast hx hb hT.1 hW hS (by decide) rfl (fun _ => rfl) 6 rfl g_16 g_14 dX2_blame_46 (fun M_17 H locs hM_17 hW hS => ?_)
          have hw := hw M_17 hM_17
          refine lv_lload hx hb dX2_blame_47 (lv_at hl 0 rfl) ?_
          refine lv_lload_n hx hb dX2_blame_49 rfl (lv_at hl 2 rfl) ?_
          refine W.lcmp hx hb dX2_blame_50 ?_
          refine lv_if_eq (tgt := 65) hx hb dX2_blame_51 (by decide) (fun c_18 => ?_) (fun c_18 => ?_)
          · have hw := hw.1 c_18
            exact L_65 k8 K8 M_17 x0 x2 x4 hw H locs ls hW hS (lv_sub hl [1, 2, 3] rfl)
          · have hw := hw.2 c_18
            refine lv_aload_n hx hb dX2_blame_54 rfl (lv_at hl 1 rfl) ?_
            refine r_getR (κ2 := 25) (i2 := x0) hx hb hts hown hT.1 hW clX2 9 (by decide) (hts _ k_59) (fun _ h9 => h9) 25 rfl rfl (by rw [hM_17]; exact g_5) (by rw [hM_17]; exact g_13) dX2_blame_55 ?_
            refine lv_iload hx hb dX2_blame_58 (lv_at hl 3 rfl) ?_
            obtain ⟨g_21, hw⟩ := hw
            refine r_iald hx hb hT.1 hW (by decide) rfl (fun _ => rfl) 6 rfl g_21 (by rw [hM_17]; exact g_14) dX2_blame_60 ?_
            refine lv_iconst (v := 3) hx hb dX2_blame_61 (by decide) ?_
            refine lv_icmp_lt (tgt := 78) hx hb dX2_blame_62 (by decide) (fun c_22 => ?_) (fun c_22 => ?_)
            · have hw := hw.1 c_22
              exact L_78 k8 K8 M_17 x0 x2 x4 hw H locs ls hW hS (lv_sub hl [1, 2, 3] rfl)
            · have hw := hw.2 c_22
              exact L_65 k8 K8 M_17 x0 x2 x4 hw H locs ls hW hS (lv_sub hl [1, 2, 3] rfl)
  unfold w_X2_blame at hw
  obtain ⟨H, hH⟩ : ∃ z, z = s.heap := ⟨_, rfl⟩
  obtain ⟨locs, hlo⟩ : ∃ z : List Loc, z = [] := ⟨_, rfl⟩
  have hS : va_S (fun q : Nat => base ≤ q) s.heap H locs := by rw [hlo, hH]; exact hS
  have hW : Wd E base M ad H := by rw [hH]; exact hW
  rw [show W p l e rm_X2_blame s m args below meth c s.heap [] 0 0 QQ (F0 m 0 ls []) = W p l e rm_X2_blame s m args below meth c H locs 0 0 QQ (F0 m 0 ls []) by rw [hlo, hH]]
  refine lv_iload_n hx hb dX2_blame_0 rfl (lv_at hl 1 rfl) ?_
  refine k_L (rn_SN (As := [.int a1]) (rest := []) ⟨hx, hb, hml, hown, hts⟩ hT hW hS hl (c_X4_blocksOfPiece l E base M ad a1 _ hw) cy_X4_blocksOfPiece kn_7 k_181 rfl rfl ⟨(Nat.le_of_ble_eq_true rfl), (Nat.le_of_ble_eq_true rfl)⟩ rfl rfl (Nat.le_of_ble_eq_true rfl) dX2_blame_1 ⟨(Nat.le_of_ble_eq_true rfl), (Nat.le_of_ble_eq_true rfl)⟩) hS kx_no (fun r_4 M_2 ad_3 H locs hP hW hS => ?_)
  obtain ⟨hw, rfl⟩ := hP
  refine lv_lstore_n (lv' := [(2, .long r_4), (0, .ref (ad 2 t)), (1, .int a1)]) hx hb dX2_blame_4 rfl hl (by decide) rfl (fun ls hl => ?_)
  refine lv_iconst (v := 0) hx hb dX2_blame_5 (by decide) ?_
  refine lv_istore (lv' := [(4, .int 0), (2, .long r_4), (0, .ref (ad 2 t)), (1, .int a1)]) hx hb dX2_blame_6 hl (by decide) rfl (fun ls hl => ?_)
  obtain ⟨n9, hw⟩ := hw
  exact L_8 n9 M_2 t r_4 0 hw H locs ls hW hS (lv_sub hl [2, 1, 0] rfl)
def rm_X2_forgetSenders : Room := { frames := 1, cells := 0, slots := 0, locals := 20 }
set_option maxHeartbeats 4000000 in
set_option maxRecDepth 100000 in
theorem c_X2_forgetSenders (l : Launch) (E : GE) (base : Nat) (M : Mem) (ad : AD) (t : Nat) (a1 : Int32) (Q : Mem → Prop) (hw : w_X2_forgetSenders M t a1 Q) : Con l yX2_forgetSenders cX2_forgetSenders 3 none rm_X2_forgetSenders 0 0 E base [.ref (ad 2 t), .int a1] M ad (QcV E base (fun M1 ad1 => Q M1 ∧ ad = ad1)) noX := by
  refine con_start (by decide) (Nat.le_of_ble_eq_true rfl) ?_
  intro p e s m args below meth c ls QQ hQQ CT hnx hW hl
  obtain ⟨⟨hx, hb, hml, hown, hts⟩, hr, hlocks, hnm, hT⟩ := CT
  have hS : va_S (fun q : Nat => base ≤ q) s.heap s.heap [] := va_S.rf
  have hl : lv_has ls 3 [(0, .ref (ad 2 t)), (1, .int a1)] := hl
  have L_2 : ∀ (n : Nat) (M : Mem) (x0 : Nat) (x1 : Int32) (x2 : Int32), l_X2_forgetSenders_2 Q n M x0 x1 x2 → WL p l e rm_X2_forgetSenders s m args below meth c QQ E base 3 M ad 2 [(0, .ref (ad 2 x0)), (1, .int x1), (2, .int x2)] [] 0 0 := by
    intro n
    induction n with
    | zero => intro M x0 x1 x2 hw; exact False.elim hw
    | succ n K2 =>
      intro M x0 x1 x2 hw H locs ls hW hS hl
      obtain ⟨k2, hk2⟩ : ∃ z, z = l_X2_forgetSenders_2 Q n := ⟨_, rfl⟩
      have hw : b_X2_forgetSenders_2 Q k2 M x0 x1 x2 := by rw [hk2]; exact hw
      rw [← hk2] at K2
      unfold b_X2_forgetSenders_2 at hw
      refine lv_iload_n hx hb dX2_forgetSenders_2 rfl (lv_at hl 2 rfl) ?_
      refine lv_aload_n hx hb dX2_forgetSenders_3 rfl (lv_at hl 0 rfl) ?_
      obtain ⟨g_1, hw⟩ := hw
      obtain ⟨g_2, hw⟩ := hw
      refine r_getR (κ2 := 23) (i2 := x0) hx hb hts hown hT.1 hW clX2 7 (by decide) (hts _ k_57) (fun _ h9 => h9) 23 rfl rfl g_1 g_2 dX2_forgetSenders_4 ?_
      obtain ⟨g_3, hw⟩ := hw
      refine r_alen (v := 6) hx hb hT.1 hW (by decide) 1 rfl (kTy 1) rfl (by decide) g_3 dX2_forgetSenders_7 ?_
      refine lv_icmp_ge (tgt := 34) hx hb dX2_forgetSenders_8 (by decide) (fun c_4 => ?_) (fun c_4 => ?_)
      · have hw := hw.1 c_4
        rw [← hQQ]
        exact e_V hx hb hr hlocks hW hS (Nat.le_of_ble_eq_true rfl) (Nat.le_of_ble_eq_true rfl) dX2_forgetSenders_34 ⟨hw, rfl⟩
      · have hw := hw.2 c_4
        refine lv_aload_n hx hb dX2_forgetSenders_11 rfl (lv_at hl 0 rfl) ?_
        refine r_getR (κ2 := 23) (i2 := x0) hx hb hts hown hT.1 hW clX2 7 (by decide) (hts _ k_57) (fun _ h9 => h9) 23 rfl rfl g_1 g_2 dX2_forgetSenders_12 ?_
        refine lv_iload_n hx hb dX2_forgetSenders_15 rfl (lv_at hl 2 rfl) ?_
        refine lv_dup2_11 hx hb dX2_forgetSenders_16 rfl rfl ?_
        obtain ⟨g_5, hw⟩ := hw
        refine r_lald hx hb hT.1 hW (by decide) rfl (fun _ => rfl) 6 rfl g_5 g_3 dX2_forgetSenders_17 ?_
        refine lv_iload_n hx hb dX2_forgetSenders_18 rfl (lv_at hl 1 rfl) ?_
        refine k_L (rn_SN (As := [.int x1]) (rest := [.long (mL M 23 x0 x2.toNatClampNeg), .int x2, .ref (ad 23 x0)]) ⟨hx, hb, hml, hown, hts⟩ hT hW hS hl (c_X4_blocksOfPiece l E base M ad x1 _ hw) cy_X4_blocksOfPiece kn_7 k_181 rfl rfl ⟨(Nat.le_of_ble_eq_true rfl), (Nat.le_of_ble_eq_true rfl)⟩ rfl rfl (Nat.le_of_ble_eq_true rfl) dX2_forgetSenders_19 ⟨(Nat.le_of_ble_eq_true rfl), (Nat.le_of_ble_eq_true rfl)⟩) hS kx_no (fun r_9 M_7 ad_8 H locs hP hW hS => ?_)
        obtain ⟨hw, rfl⟩ := hP
        refine lv_ldc2 hx hb hown (hts _ k_225) dX2_forgetSenders_22 ?_
        refine lv_lxor hx hb dX2_forgetSenders_25 ?_
        refine lv_land hx hb dX2_forgetSenders_26 ?_
        obtain ⟨g_10, hw⟩ := hw
        obtain ⟨g_11, hw⟩ := hw
        refine r_last hx hb hT.1 hW hS (by decide) rfl (fun _ => rfl) 6 rfl g_11 g_10 dX2_forgetSenders_27 (fun M_12 H locs hM_12 hW hS => ?_)
        have hw := hw M_12 hM_12
        obtain ⟨v_13, ev_13⟩ : ∃ y : Int32, y = x2 + 1 := ⟨_, rfl⟩
        have hw := hw v_13 ev_13
        refine lv_iinc (v := v_13) (lv' := [(2, .int v_13), (0, .ref (ad 2 x0)), (1, .int x1)]) hx hb dX2_forgetSenders_28 hl (k := 2) rfl (by rw [ev_13]; rfl) (by decide) rfl (fun ls hl => ?_)
        refine lv_goto (tgt := 2) hx hb dX2_forgetSenders_31 (by decide) ?_
        exact K2 M_12 x0 x1 v_13 hw H locs ls hW hS (lv_sub hl [1, 2, 0] rfl)
  unfold w_X2_forgetSenders at hw
  obtain ⟨H, hH⟩ : ∃ z, z = s.heap := ⟨_, rfl⟩
  obtain ⟨locs, hlo⟩ : ∃ z : List Loc, z = [] := ⟨_, rfl⟩
  have hS : va_S (fun q : Nat => base ≤ q) s.heap H locs := by rw [hlo, hH]; exact hS
  have hW : Wd E base M ad H := by rw [hH]; exact hW
  rw [show W p l e rm_X2_forgetSenders s m args below meth c s.heap [] 0 0 QQ (F0 m 0 ls []) = W p l e rm_X2_forgetSenders s m args below meth c H locs 0 0 QQ (F0 m 0 ls []) by rw [hlo, hH]]
  refine lv_iconst (v := 0) hx hb dX2_forgetSenders_0 (by decide) ?_
  refine lv_istore_n (lv' := [(2, .int 0), (0, .ref (ad 2 t)), (1, .int a1)]) hx hb dX2_forgetSenders_1 rfl hl (by decide) rfl (fun ls hl => ?_)
  obtain ⟨n9, hw⟩ := hw
  exact L_2 n9 M t a1 0 hw H locs ls hW hS (lv_sub hl [1, 2, 0] rfl)
def rm_X3_endPieces : Room := { frames := 2, cells := 0, slots := 0, locals := 41 }
set_option maxHeartbeats 4000000 in
set_option maxRecDepth 100000 in
theorem c_X3_endPieces (l : Launch) (E : GE) (base : Nat) (M : Mem) (ad : AD) (t : Nat) (Q : Mem → Prop) (hw : w_X3_endPieces M t Q) : Con l yX3_endPieces cX3_endPieces 2 none rm_X3_endPieces 0 0 E base [.ref (ad 3 t)] M ad (QcV E base (fun M1 ad1 => Q M1 ∧ ad = ad1)) noX := by
  refine con_start (by decide) (Nat.le_of_ble_eq_true rfl) ?_
  intro p e s m args below meth c ls QQ hQQ CT hnx hW hl
  obtain ⟨⟨hx, hb, hml, hown, hts⟩, hr, hlocks, hnm, hT⟩ := CT
  have hS : va_S (fun q : Nat => base ≤ q) s.heap s.heap [] := va_S.rf
  have hl : lv_has ls 2 [(0, .ref (ad 3 t))] := hl
  have L_70 : ∀ (k2 : Mem → Nat → Int32 → Prop) (K2 : ∀ (M : Mem) (x0 : Nat) (x1 : Int32), k2 M x0 x1 → WL p l e rm_X3_endPieces s m args below meth c QQ E base 2 M ad 2 [(0, .ref (ad 3 x0)), (1, .int x1)] [] 0 0) (M : Mem) (x0 : Nat) (x1 : Int32), b_X3_endPieces_70 k2 Q M x0 x1 → WL p l e rm_X3_endPieces s m args below meth c QQ E base 2 M ad 70 [(0, .ref (ad 3 x0)), (1, .int x1)] [] 0 0 := by
    intro k2 K2 M x0 x1 hw H locs ls hW hS hl
    unfold b_X3_endPieces_70 at hw
    obtain ⟨v_8, ev_8⟩ : ∃ y : Int32, y = x1 + 1 := ⟨_, rfl⟩
    have hw := hw v_8 ev_8
    refine lv_iinc (v := v_8) (lv' := [(1, .int v_8), (0, .ref (ad 3 x0))]) hx hb dX3_endPieces_70 hl (k := 1) rfl (by rw [ev_8]; rfl) (by decide) rfl (fun ls hl => ?_)
    refine lv_goto (tgt := 2) hx hb dX3_endPieces_73 (by decide) ?_
    exact K2 M x0 v_8 hw H locs ls hW hS (lv_sub hl [1, 0] rfl)
  have L_36 : ∀ (k2 : Mem → Nat → Int32 → Prop) (K2 : ∀ (M : Mem) (x0 : Nat) (x1 : Int32), k2 M x0 x1 → WL p l e rm_X3_endPieces s m args below meth c QQ E base 2 M ad 2 [(0, .ref (ad 3 x0)), (1, .int x1)] [] 0 0) (M : Mem) (x0 : Nat) (x1 : Int32), b_X3_endPieces_36 k2 Q M x0 x1 → WL p l e rm_X3_endPieces s m args below meth c QQ E base 2 M ad 36 [(0, .ref (ad 3 x0)), (1, .int x1)] [] 0 0 := by
    intro k2 K2 M x0 x1 hw H locs ls hW hS hl
    unfold b_X3_endPieces_36 at hw
    refine lv_aload_n hx hb dX3_endPieces_36 rfl (lv_at hl 0 rfl) ?_
    refine lv_dup hx hb dX3_endPieces_37 rfl ?_
    obtain ⟨g_15, hw⟩ := hw
    refine r_getL hx hb hts hown hT.1 hW clX3 1 (by decide) (hts _ k_40) (fun _ h9 => h9) rfl g_15 dX3_endPieces_38 ?_
    refine lv_iload_n hx hb dX3_endPieces_41 rfl (lv_at hl 1 rfl) ?_
    refine k_L (rn_SN (As := [.int x1]) (rest := [.long (mL M 3 x0 1), .ref (ad 3 x0)]) ⟨hx, hb, hml, hown, hts⟩ hT hW hS hl (c_X4_blocksOfPiece l E base M ad x1 _ hw) cy_X4_blocksOfPiece kn_6 k_181 rfl rfl ⟨(Nat.le_of_ble_eq_true rfl), (Nat.le_of_ble_eq_true rfl)⟩ rfl rfl (Nat.le_of_ble_eq_true rfl) dX3_endPieces_42 ⟨(Nat.le_of_ble_eq_true rfl), (Nat.le_of_ble_eq_true rfl)⟩) hS kx_no (fun r_19 M_17 ad_18 H locs hP hW hS => ?_)
    obtain ⟨hw, rfl⟩ := hP
    refine lv_ldc2 hx hb hown (hts _ k_224) dX3_endPieces_45 ?_
    refine lv_lxor hx hb dX3_endPieces_48 ?_
    refine lv_land hx hb dX3_endPieces_49 ?_
    obtain ⟨g_20, hw⟩ := hw
    refine r_putL hx hb hts hown hT.1 hW hS clX3 1 (by decide) (hts _ k_40) (fun _ h9 => h9) rfl (by decide +kernel) rfl g_20 dX3_endPieces_50 (fun M_21 H locs hM_21 hW hS => ?_)
    have hw := hw M_21 hM_21
    refine lv_aload_n hx hb dX3_endPieces_53 rfl (lv_at hl 0 rfl) ?_
    refine lv_dup hx hb dX3_endPieces_54 rfl ?_
    refine r_getL hx hb hts hown hT.1 hW clX3 2 (by decide) (hts _ k_41) (fun _ h9 => h9) rfl (by rw [hM_21]; exact g_20) dX3_endPieces_55 ?_
    refine lv_iload_n hx hb dX3_endPieces_58 rfl (lv_at hl 1 rfl) ?_
    refine k_L (rn_SN (As := [.int x1]) (rest := [.long (mL M_21 3 x0 2), .ref (ad 3 x0)]) ⟨hx, hb, hml, hown, hts⟩ hT hW hS hl (c_X4_blocksOfPiece l E base M_21 ad x1 _ hw) cy_X4_blocksOfPiece kn_6 k_181 rfl rfl ⟨(Nat.le_of_ble_eq_true rfl), (Nat.le_of_ble_eq_true rfl)⟩ rfl rfl (Nat.le_of_ble_eq_true rfl) dX3_endPieces_59 ⟨(Nat.le_of_ble_eq_true rfl), (Nat.le_of_ble_eq_true rfl)⟩) hS kx_no (fun r_25 M_23 ad_24 H locs hP hW hS => ?_)
    obtain ⟨hw, rfl⟩ := hP
    refine lv_ldc2 hx hb hown (hts _ k_224) dX3_endPieces_62 ?_
    refine lv_lxor hx hb dX3_endPieces_65 ?_
    refine lv_land hx hb dX3_endPieces_66 ?_
    obtain ⟨g_26, hw⟩ := hw
    refine r_putL hx hb hts hown hT.1 hW hS clX3 2 (by decide) (hts _ k_41) (fun _ h9 => h9) rfl (by decide +kernel) rfl g_26 dX3_endPieces_67 (fun M_27 H locs hM_27 hW hS => ?_)
    have hw := hw M_27 hM_27
    exact L_70 k2 K2 M_27 x0 x1 hw H locs ls hW hS (lv_sub hl [0, 1] rfl)
  have L_2 : ∀ (n : Nat) (M : Mem) (x0 : Nat) (x1 : Int32), l_X3_endPieces_2 Q n M x0 x1 → WL p l e rm_X3_endPieces s m args below meth c QQ E base 2 M ad 2 [(0, .ref (ad 3 x0)), (1, .int x1)] [] 0 0 := by
    intro n
    induction n with
    | zero => intro M x0 x1 hw; exact False.elim hw
    | succ n K2 =>
      intro M x0 x1 hw H locs ls hW hS hl
      obtain ⟨k2, hk2⟩ : ∃ z, z = l_X3_endPieces_2 Q n := ⟨_, rfl⟩
      have hw : b_X3_endPieces_2 Q k2 M x0 x1 := by rw [hk2]; exact hw
      rw [← hk2] at K2
      unfold b_X3_endPieces_2 at hw
      refine lv_iload_n hx hb dX3_endPieces_2 rfl (lv_at hl 1 rfl) ?_
      refine lv_bipush (v := 12) hx hb dX3_endPieces_3 (by decide) ?_
      refine lv_icmp_ge (tgt := 76) hx hb dX3_endPieces_5 (by decide) (fun c_1 => ?_) (fun c_1 => ?_)
      · have hw := hw.1 c_1
        rw [← hQQ]
        exact e_V hx hb hr hlocks hW hS (Nat.le_of_ble_eq_true rfl) (Nat.le_of_ble_eq_true rfl) dX3_endPieces_76 ⟨hw, rfl⟩
      · have hw := hw.2 c_1
        refine lv_aload_n hx hb dX3_endPieces_8 rfl (lv_at hl 0 rfl) ?_
        refine lv_iload_n hx hb dX3_endPieces_9 rfl (lv_at hl 1 rfl) ?_
        obtain ⟨g_2, hw⟩ := hw
        refine k_I (rn_V (As := [.int x1]) (rest := []) (κ := 3) (i := x0) ⟨hx, hb, hml, hown, hts⟩ hT hW hS hl (c_X3_isComplete l E base M ad x0 x1 _ hw) cy_X3_isComplete k_226 k_227 k_228 g_2 (by decide) rfl rfl rfl rfl ⟨(Nat.le_of_ble_eq_true rfl), (Nat.le_of_ble_eq_true rfl)⟩ rfl rfl (Nat.le_of_ble_eq_true rfl) dX3_endPieces_10 ⟨(Nat.le_of_ble_eq_true rfl), (Nat.le_of_ble_eq_true rfl)⟩) hS kx_no (fun r_6 M_4 ad_5 H locs hP hW hS => ?_)
        obtain ⟨hw, rfl⟩ := hP
        refine lv_if_eq (tgt := 70) hx hb dX3_endPieces_13 (by decide) (fun c_7 => ?_) (fun c_7 => ?_)
        · have hw := hw.1 c_7
          exact L_70 k2 K2 M_4 x0 x1 hw H locs ls hW hS (lv_sub hl [0, 1] rfl)
        · have hw := hw.2 c_7
          refine lv_aload_n hx hb dX3_endPieces_16 rfl (lv_at hl 0 rfl) ?_
          refine lv_iload_n hx hb dX3_endPieces_17 rfl (lv_at hl 1 rfl) ?_
          obtain ⟨g_9, hw⟩ := hw
          refine k_I (rn_V (As := [.int x1]) (rest := []) (κ := 3) (i := x0) ⟨hx, hb, hml, hown, hts⟩ hT hW hS hl (c_X3_isSound l E base M_4 ad x0 x1 _ hw) cy_X3_isSound k_229 k_230 k_231 g_9 (by decide) rfl rfl rfl rfl ⟨(Nat.le_of_ble_eq_true rfl), (Nat.le_of_ble_eq_true rfl)⟩ rfl rfl (Nat.le_of_ble_eq_true rfl) dX3_endPieces_18 ⟨(Nat.le_of_ble_eq_true rfl), (Nat.le_of_ble_eq_true rfl)⟩) hS kx_no (fun r_13 M_11 ad_12 H locs hP hW hS => ?_)
          obtain ⟨hw, rfl⟩ := hP
          refine lv_if_eq (tgt := 36) hx hb dX3_endPieces_21 (by decide) (fun c_14 => ?_) (fun c_14 => ?_)
          · have hw := hw.1 c_14
            exact L_36 k2 K2 M_11 x0 x1 hw H locs ls hW hS (lv_sub hl [0, 1] rfl)
          · have hw := hw.2 c_14
            refine lv_aload_n hx hb dX3_endPieces_24 rfl (lv_at hl 0 rfl) ?_
            refine lv_dup hx hb dX3_endPieces_25 rfl ?_
            obtain ⟨g_28, hw⟩ := hw
            refine r_getI hx hb hts hown hT.1 hW clX3 0 (by decide) (hts _ k_42) (fun _ h9 => h9) rfl g_28 dX3_endPieces_26 ?_
            refine lv_iconst (v := 1) hx hb dX3_endPieces_29 (by decide) ?_
            refine lv_iload_n hx hb dX3_endPieces_30 rfl (lv_at hl 1 rfl) ?_
            refine lv_ishl hx hb dX3_endPieces_31 ?_
            refine lv_ior hx hb dX3_endPieces_32 ?_
            refine r_putI hx hb hts hown hT.1 hW hS clX3 0 (by decide) (hts _ k_42) (fun _ h9 => h9) rfl (by decide +kernel) rfl g_28 dX3_endPieces_33 (fun M_29 H locs hM_29 hW hS => ?_)
            have hw := hw M_29 hM_29
            exact L_36 k2 K2 M_29 x0 x1 hw H locs ls hW hS (lv_sub hl [0, 1] rfl)
  unfold w_X3_endPieces at hw
  obtain ⟨H, hH⟩ : ∃ z, z = s.heap := ⟨_, rfl⟩
  obtain ⟨locs, hlo⟩ : ∃ z : List Loc, z = [] := ⟨_, rfl⟩
  have hS : va_S (fun q : Nat => base ≤ q) s.heap H locs := by rw [hlo, hH]; exact hS
  have hW : Wd E base M ad H := by rw [hH]; exact hW
  rw [show W p l e rm_X3_endPieces s m args below meth c s.heap [] 0 0 QQ (F0 m 0 ls []) = W p l e rm_X3_endPieces s m args below meth c H locs 0 0 QQ (F0 m 0 ls []) by rw [hlo, hH]]
  refine lv_iconst (v := 0) hx hb dX3_endPieces_0 (by decide) ?_
  refine lv_istore_n (lv' := [(1, .int 0), (0, .ref (ad 3 t))]) hx hb dX3_endPieces_1 rfl hl (by decide) rfl (fun ls hl => ?_)
  obtain ⟨n9, hw⟩ := hw
  exact L_2 n9 M t 0 hw H locs ls hW hS (lv_sub hl [1, 0] rfl)
def rm_X4_settle : Room := { frames := 3, cells := 0, slots := 0, locals := 62 }
set_option maxHeartbeats 4000000 in
set_option maxRecDepth 100000 in
theorem c_X4_settle (l : Launch) (E : GE) (base : Nat) (M : Mem) (ad : AD) (a0 : Nat) (Q : Mem → Prop) (hw : w_X4_settle M a0 Q) : Con l yX4_settle cX4_settle 2 none rm_X4_settle 0 0 E base [.ref (ad 2 a0)] M ad (QcV E base (fun M1 ad1 => Q M1 ∧ ad = ad1)) noX := by
  refine con_start (by decide) (Nat.le_of_ble_eq_true rfl) ?_
  intro p e s m args below meth c ls QQ hQQ CT hnx hW hl
  obtain ⟨⟨hx, hb, hml, hown, hts⟩, hr, hlocks, hnm, hT⟩ := CT
  have hS : va_S (fun q : Nat => base ≤ q) s.heap s.heap [] := va_S.rf
  have hl : lv_has ls 2 [(0, .ref (ad 2 a0))] := hl
  have L_40 : ∀ (k2 : Mem → Nat → Int32 → Prop) (K2 : ∀ (M : Mem) (x0 : Nat) (x1 : Int32), k2 M x0 x1 → WL p l e rm_X4_settle s m args below meth c QQ E base 2 M ad 2 [(0, .ref (ad 2 x0)), (1, .int x1)] [] 0 0) (M : Mem) (x0 : Nat) (x1 : Int32), b_X4_settle_40 k2 Q M x0 x1 → WL p l e rm_X4_settle s m args below meth c QQ E base 2 M ad 40 [(0, .ref (ad 2 x0)), (1, .int x1)] [] 0 0 := by
    intro k2 K2 M x0 x1 hw H locs ls hW hS hl
    unfold b_X4_settle_40 at hw
    obtain ⟨v_17, ev_17⟩ : ∃ y : Int32, y = x1 + 1 := ⟨_, rfl⟩
    have hw := hw v_17 ev_17
    refine lv_iinc (v := v_17) (lv' := [(1, .int v_17), (0, .ref (ad 2 x0))]) hx hb dX4_settle_40 hl (k := 1) rfl (by rw [ev_17]; rfl) (by decide) rfl (fun ls hl => ?_)
    refine lv_goto (tgt := 2) hx hb dX4_settle_43 (by decide) ?_
    exact K2 M x0 v_17 hw H locs ls hW hS (lv_sub hl [1, 0] rfl)
  have L_35 : ∀ (k2 : Mem → Nat → Int32 → Prop) (K2 : ∀ (M : Mem) (x0 : Nat) (x1 : Int32), k2 M x0 x1 → WL p l e rm_X4_settle s m args below meth c QQ E base 2 M ad 2 [(0, .ref (ad 2 x0)), (1, .int x1)] [] 0 0) (M : Mem) (x0 : Nat) (x1 : Int32), b_X4_settle_35 k2 Q M x0 x1 → WL p l e rm_X4_settle s m args below meth c QQ E base 2 M ad 35 [(0, .ref (ad 2 x0)), (1, .int x1)] [] 0 0 := by
    intro k2 K2 M x0 x1 hw H locs ls hW hS hl
    unfold b_X4_settle_35 at hw
    refine lv_aload_n hx hb dX4_settle_35 rfl (lv_at hl 0 rfl) ?_
    refine lv_iload_n hx hb dX4_settle_36 rfl (lv_at hl 1 rfl) ?_
    obtain ⟨g_26, hw⟩ := hw
    refine k_V (rn_V (As := [.int x1]) (rest := []) (κ := 2) (i := x0) ⟨hx, hb, hml, hown, hts⟩ hT hW hS hl (c_X2_forgetSenders l E base M ad x0 x1 _ hw) cy_X2_forgetSenders k_237 k_238 k_239 g_26 (by decide) rfl rfl rfl rfl ⟨(Nat.le_of_ble_eq_true rfl), (Nat.le_of_ble_eq_true rfl)⟩ rfl rfl (Nat.le_of_ble_eq_true rfl) dX4_settle_37 ⟨(Nat.le_of_ble_eq_true rfl), (Nat.le_of_ble_eq_true rfl)⟩) hS kx_no (fun M_28 ad_29 H locs hP hW hS => ?_)
    obtain ⟨hw, rfl⟩ := hP
    exact L_40 k2 K2 M_28 x0 x1 hw H locs ls hW hS (lv_sub hl [0, 1] rfl)
  have L_2 : ∀ (n : Nat) (M : Mem) (x0 : Nat) (x1 : Int32), l_X4_settle_2 Q n M x0 x1 → WL p l e rm_X4_settle s m args below meth c QQ E base 2 M ad 2 [(0, .ref (ad 2 x0)), (1, .int x1)] [] 0 0 := by
    intro n
    induction n with
    | zero => intro M x0 x1 hw; exact False.elim hw
    | succ n K2 =>
      intro M x0 x1 hw H locs ls hW hS hl
      obtain ⟨k2, hk2⟩ : ∃ z, z = l_X4_settle_2 Q n := ⟨_, rfl⟩
      have hw : b_X4_settle_2 Q k2 M x0 x1 := by rw [hk2]; exact hw
      rw [← hk2] at K2
      unfold b_X4_settle_2 at hw
      refine lv_iload_n hx hb dX4_settle_2 rfl (lv_at hl 1 rfl) ?_
      refine lv_bipush (v := 12) hx hb dX4_settle_3 (by decide) ?_
      refine lv_icmp_ge (tgt := 46) hx hb dX4_settle_5 (by decide) (fun c_1 => ?_) (fun c_1 => ?_)
      · have hw := hw.1 c_1
        refine lv_aload_n hx hb dX4_settle_46 rfl (lv_at hl 0 rfl) ?_
        obtain ⟨g_2, hw⟩ := hw
        obtain ⟨g_3, hw⟩ := hw
        refine r_getR (κ2 := 3) (i2 := x0) hx hb hts hown hT.1 hW clX2 1 (by decide) (hts _ k_101) (fun _ h9 => h9) 3 rfl rfl g_2 g_3 dX4_settle_47 ?_
        obtain ⟨g_4, hw⟩ := hw
        refine k_V (rn_V (As := []) (rest := []) (κ := 3) (i := x0) ⟨hx, hb, hml, hown, hts⟩ hT hW hS hl (c_X3_endPieces l E base M ad x0 _ hw) cy_X3_endPieces k_232 k_233 k_234 g_4 (by decide) rfl rfl rfl rfl ⟨(Nat.le_of_ble_eq_true rfl), (Nat.le_of_ble_eq_true rfl)⟩ rfl rfl (Nat.le_of_ble_eq_true rfl) dX4_settle_50 ⟨(Nat.le_of_ble_eq_true rfl), (Nat.le_of_ble_eq_true rfl)⟩) hS kx_no (fun M_6 ad_7 H locs hP hW hS => ?_)
        obtain ⟨hw, rfl⟩ := hP
        rw [← hQQ]
        exact e_V hx hb hr hlocks hW hS (Nat.le_of_ble_eq_true rfl) (Nat.le_of_ble_eq_true rfl) dX4_settle_53 ⟨hw, rfl⟩
      · have hw := hw.2 c_1
        refine lv_aload_n hx hb dX4_settle_8 rfl (lv_at hl 0 rfl) ?_
        obtain ⟨g_9, hw⟩ := hw
        obtain ⟨g_10, hw⟩ := hw
        refine r_getR (κ2 := 3) (i2 := x0) hx hb hts hown hT.1 hW clX2 1 (by decide) (hts _ k_101) (fun _ h9 => h9) 3 rfl rfl g_9 g_10 dX4_settle_9 ?_
        refine lv_iload_n hx hb dX4_settle_12 rfl (lv_at hl 1 rfl) ?_
        obtain ⟨g_11, hw⟩ := hw
        refine k_I (rn_V (As := [.int x1]) (rest := []) (κ := 3) (i := x0) ⟨hx, hb, hml, hown, hts⟩ hT hW hS hl (c_X3_isComplete l E base M ad x0 x1 _ hw) cy_X3_isComplete k_235 k_227 k_228 g_11 (by decide) rfl rfl rfl rfl ⟨(Nat.le_of_ble_eq_true rfl), (Nat.le_of_ble_eq_true rfl)⟩ rfl rfl (Nat.le_of_ble_eq_true rfl) dX4_settle_13 ⟨(Nat.le_of_ble_eq_true rfl), (Nat.le_of_ble_eq_true rfl)⟩) hS kx_no (fun r_15 M_13 ad_14 H locs hP hW hS => ?_)
        obtain ⟨hw, rfl⟩ := hP
        refine lv_if_eq (tgt := 40) hx hb dX4_settle_16 (by decide) (fun c_16 => ?_) (fun c_16 => ?_)
        · have hw := hw.1 c_16
          exact L_40 k2 K2 M_13 x0 x1 hw H locs ls hW hS (lv_sub hl [0, 1] rfl)
        · have hw := hw.2 c_16
          refine lv_aload_n hx hb dX4_settle_19 rfl (lv_at hl 0 rfl) ?_
          obtain ⟨g_18, hw⟩ := hw
          obtain ⟨g_19, hw⟩ := hw
          refine r_getR (κ2 := 3) (i2 := x0) hx hb hts hown hT.1 hW clX2 1 (by decide) (hts _ k_101) (fun _ h9 => h9) 3 rfl rfl g_18 g_19 dX4_settle_20 ?_
          refine lv_iload_n hx hb dX4_settle_23 rfl (lv_at hl 1 rfl) ?_
          obtain ⟨g_20, hw⟩ := hw
          refine k_I (rn_V (As := [.int x1]) (rest := []) (κ := 3) (i := x0) ⟨hx, hb, hml, hown, hts⟩ hT hW hS hl (c_X3_isSound l E base M_13 ad x0 x1 _ hw) cy_X3_isSound k_236 k_230 k_231 g_20 (by decide) rfl rfl rfl rfl ⟨(Nat.le_of_ble_eq_true rfl), (Nat.le_of_ble_eq_true rfl)⟩ rfl rfl (Nat.le_of_ble_eq_true rfl) dX4_settle_24 ⟨(Nat.le_of_ble_eq_true rfl), (Nat.le_of_ble_eq_true rfl)⟩) hS kx_no (fun r_24 M_22 ad_23 H locs hP hW hS => ?_)
          obtain ⟨hw, rfl⟩ := hP
          refine lv_if_ne (tgt := 35) hx hb dX4_settle_27 (by decide) (fun c_25 => ?_) (fun c_25 => ?_)
          · have hw := hw.2 c_25
            exact L_35 k2 K2 M_22 x0 x1 hw H locs ls hW hS (lv_sub hl [0, 1] rfl)
          · have hw := hw.1 c_25
            refine lv_aload_n hx hb dX4_settle_30 rfl (lv_at hl 0 rfl) ?_
            refine lv_iload_n hx hb dX4_settle_31 rfl (lv_at hl 1 rfl) ?_
            obtain ⟨g_31, hw⟩ := hw
            refine k_V (rn_V (As := [.int x1]) (rest := []) (κ := 2) (i := x0) ⟨hx, hb, hml, hown, hts⟩ hT hW hS hl (c_X2_blame l E base M_22 ad x0 x1 _ hw) cy_X2_blame k_240 k_241 k_242 g_31 (by decide) rfl rfl rfl rfl ⟨(Nat.le_of_ble_eq_true rfl), (Nat.le_of_ble_eq_true rfl)⟩ rfl rfl (Nat.le_of_ble_eq_true rfl) dX4_settle_32 ⟨(Nat.le_of_ble_eq_true rfl), (Nat.le_of_ble_eq_true rfl)⟩) hS kx_no (fun M_33 ad_34 H locs hP hW hS => ?_)
            obtain ⟨hw, rfl⟩ := hP
            exact L_35 k2 K2 M_33 x0 x1 hw H locs ls hW hS (lv_sub hl [0, 1] rfl)
  unfold w_X4_settle at hw
  obtain ⟨H, hH⟩ : ∃ z, z = s.heap := ⟨_, rfl⟩
  obtain ⟨locs, hlo⟩ : ∃ z : List Loc, z = [] := ⟨_, rfl⟩
  have hS : va_S (fun q : Nat => base ≤ q) s.heap H locs := by rw [hlo, hH]; exact hS
  have hW : Wd E base M ad H := by rw [hH]; exact hW
  rw [show W p l e rm_X4_settle s m args below meth c s.heap [] 0 0 QQ (F0 m 0 ls []) = W p l e rm_X4_settle s m args below meth c H locs 0 0 QQ (F0 m 0 ls []) by rw [hlo, hH]]
  refine lv_iconst (v := 0) hx hb dX4_settle_0 (by decide) ?_
  refine lv_istore_n (lv' := [(1, .int 0), (0, .ref (ad 2 a0))]) hx hb dX4_settle_1 rfl hl (by decide) rfl (fun ls hl => ?_)
  obtain ⟨n9, hw⟩ := hw
  exact L_2 n9 M a0 0 hw H locs ls hW hS (lv_sub hl [1, 0] rfl)
def rm_X4_settleAll : Room := { frames := 4, cells := 0, slots := 0, locals := 83 }
set_option maxHeartbeats 4000000 in
set_option maxRecDepth 100000 in
theorem c_X4_settleAll (l : Launch) (E : GE) (base : Nat) (M : Mem) (ad : AD)  (Q : Mem → Prop) (hw : w_X4_settleAll M  Q) : Con l yX4_settleAll cX4_settleAll 5 none rm_X4_settleAll 0 0 E base [.ref (ad 4 0)] M ad (QcV E base (fun M1 ad1 => Q M1 ∧ ad = ad1)) noX := by
  refine con_start (by decide) (Nat.le_of_ble_eq_true rfl) ?_
  intro p e s m args below meth c ls QQ hQQ CT hnx hW hl
  obtain ⟨⟨hx, hb, hml, hown, hts⟩, hr, hlocks, hnm, hT⟩ := CT
  have hS : va_S (fun q : Nat => base ≤ q) s.heap s.heap [] := va_S.rf
  have hl : lv_has ls 5 [(0, .ref (ad 4 0))] := hl
  have L_30 : ∀ (k10 : Mem → Int32 → Int32 → Prop) (K10 : ∀ (M : Mem) (x2 : Int32) (x3 : Int32), k10 M x2 x3 → WL p l e rm_X4_settleAll s m args below meth c QQ E base 5 M ad 10 [(1, .ref (ad 10 0)), (2, .int x2), (3, .int x3)] [] 0 0) (M : Mem) (x2 : Int32) (x3 : Int32), b_X4_settleAll_30 k10 Q M x2 x3 → WL p l e rm_X4_settleAll s m args below meth c QQ E base 5 M ad 30 [(1, .ref (ad 10 0)), (2, .int x2), (3, .int x3)] [] 0 0 := by
    intro k10 K10 M x2 x3 hw H locs ls hW hS hl
    unfold b_X4_settleAll_30 at hw
    obtain ⟨v_12, ev_12⟩ : ∃ y : Int32, y = x3 + 1 := ⟨_, rfl⟩
    have hw := hw v_12 ev_12
    refine lv_iinc (v := v_12) (lv' := [(3, .int v_12), (1, .ref (ad 10 0)), (2, .int x2)]) hx hb dX4_settleAll_30 hl (k := 2) rfl (by rw [ev_12]; rfl) (by decide) rfl (fun ls hl => ?_)
    refine lv_goto (tgt := 10) hx hb dX4_settleAll_33 (by decide) ?_
    exact K10 M x2 v_12 hw H locs ls hW hS (lv_sub hl [1, 2, 0] rfl)
  have L_10 : ∀ (n : Nat) (M : Mem) (x2 : Int32) (x3 : Int32), l_X4_settleAll_10 Q n M x2 x3 → WL p l e rm_X4_settleAll s m args below meth c QQ E base 5 M ad 10 [(1, .ref (ad 10 0)), (2, .int x2), (3, .int x3)] [] 0 0 := by
    intro n
    induction n with
    | zero => intro M x2 x3 hw; exact False.elim hw
    | succ n K10 =>
      intro M x2 x3 hw H locs ls hW hS hl
      obtain ⟨k10, hk10⟩ : ∃ z, z = l_X4_settleAll_10 Q n := ⟨_, rfl⟩
      have hw : b_X4_settleAll_10 Q k10 M x2 x3 := by rw [hk10]; exact hw
      rw [← hk10] at K10
      unfold b_X4_settleAll_10 at hw
      refine lv_iload_n hx hb dX4_settleAll_10 rfl (lv_at hl 2 rfl) ?_
      refine lv_iload_n hx hb dX4_settleAll_11 rfl (lv_at hl 1 rfl) ?_
      refine lv_icmp_ge (tgt := 36) hx hb dX4_settleAll_12 (by decide) (fun c_4 => ?_) (fun c_4 => ?_)
      · have hw := hw.1 c_4
        rw [← hQQ]
        exact e_V hx hb hr hlocks hW hS (Nat.le_of_ble_eq_true rfl) (Nat.le_of_ble_eq_true rfl) dX4_settleAll_36 ⟨hw, rfl⟩
      · have hw := hw.2 c_4
        refine lv_aload_n hx hb dX4_settleAll_15 rfl (lv_at hl 0 rfl) ?_
        refine lv_iload_n hx hb dX4_settleAll_16 rfl (lv_at hl 2 rfl) ?_
        obtain ⟨g_5, hw⟩ := hw
        obtain ⟨g_6, hw⟩ := hw
        refine r_aald hx hb hT.1 hW g_6 g_5 dX4_settleAll_17 (fun g_7 => ?_) (fun g_7 => ?_)
        · have hw := hw.1 g_7
          refine lv_astore (lv' := [(4, .ref (ad 2 x3.toNatClampNeg)), (1, .ref (ad 10 0)), (2, .int x2), (3, .int x3)]) hx hb dX4_settleAll_18 hl (by decide) rfl (fun ls hl => ?_)
          refine lv_aload hx hb dX4_settleAll_20 (lv_at hl 0 rfl) ?_
          refine lv_ifnull hx hb dX4_settleAll_22 ?_
          refine lv_aload hx hb dX4_settleAll_25 (lv_at hl 0 rfl) ?_
          refine k_V (rn_S (As := [.ref (ad 2 x3.toNatClampNeg)]) (rest := []) ⟨hx, hb, hml, hown, hts⟩ hT hW hS hl (c_X4_settle l E base M ad x3.toNatClampNeg _ hw) cy_X4_settle k_243 k_244 rfl rfl ⟨(Nat.le_of_ble_eq_true rfl), (Nat.le_of_ble_eq_true rfl)⟩ rfl rfl (Nat.le_of_ble_eq_true rfl) dX4_settleAll_27 ⟨(Nat.le_of_ble_eq_true rfl), (Nat.le_of_ble_eq_true rfl)⟩) hS kx_no (fun M_9 ad_10 H locs hP hW hS => ?_)
          obtain ⟨hw, rfl⟩ := hP
          exact L_30 k10 K10 M_9 x2 x3 hw H locs ls hW hS (lv_sub hl [1, 2, 3] rfl)
        · have hw := hw.2 g_7
          refine lv_astoreN (lv' := [(4, .null), (1, .ref (ad 10 0)), (2, .int x2), (3, .int x3)]) hx hb dX4_settleAll_18 hl (by decide) rfl (fun ls hl => ?_)
          refine lv_aloadN hx hb dX4_settleAll_20 (lv_at hl 0 rfl) ?_
          refine lv_ifnullN (tgt := 30) hx hb dX4_settleAll_22 (by decide) ?_
          exact L_30 k10 K10 M x2 x3 hw H locs ls hW hS (lv_sub hl [1, 2, 3] rfl)
  unfold w_X4_settleAll at hw
  obtain ⟨H, hH⟩ : ∃ z, z = s.heap := ⟨_, rfl⟩
  obtain ⟨locs, hlo⟩ : ∃ z : List Loc, z = [] := ⟨_, rfl⟩
  have hS : va_S (fun q : Nat => base ≤ q) s.heap H locs := by rw [hlo, hH]; exact hS
  have hW : Wd E base M ad H := by rw [hH]; exact hW
  rw [show W p l e rm_X4_settleAll s m args below meth c s.heap [] 0 0 QQ (F0 m 0 ls []) = W p l e rm_X4_settleAll s m args below meth c H locs 0 0 QQ (F0 m 0 ls []) by rw [hlo, hH]]
  refine lv_aload_n hx hb dX4_settleAll_0 rfl (lv_at hl 0 rfl) ?_
  obtain ⟨g_1, hw⟩ := hw
  obtain ⟨g_2, hw⟩ := hw
  refine r_getR (κ2 := 10) (i2 := 0) hx hb hts hown hT.1 hW clX4 0 (by decide) (hts _ k_5) (fun _ h9 => h9) 10 rfl rfl g_1 g_2 dX4_settleAll_1 ?_
  refine lv_astore_n (lv' := [(1, .ref (ad 10 0)), (0, .ref (ad 4 0))]) hx hb dX4_settleAll_4 rfl hl (by decide) rfl (fun ls hl => ?_)
  refine lv_aload_n hx hb dX4_settleAll_5 rfl (lv_at hl 0 rfl) ?_
  obtain ⟨g_3, hw⟩ := hw
  refine r_alen (v := 6) hx hb hT.1 hW (by decide) 3 rfl (kTy 3) rfl (by decide) g_3 dX4_settleAll_6 ?_
  refine lv_istore_n (lv' := [(2, .int 6), (1, .ref (ad 10 0)), (0, .ref (ad 4 0))]) hx hb dX4_settleAll_7 rfl hl (by decide) rfl (fun ls hl => ?_)
  refine lv_iconst (v := 0) hx hb dX4_settleAll_8 (by decide) ?_
  refine lv_istore_n (lv' := [(3, .int 0), (2, .int 6), (1, .ref (ad 10 0)), (0, .ref (ad 4 0))]) hx hb dX4_settleAll_9 rfl hl (by decide) rfl (fun ls hl => ?_)
  obtain ⟨n9, hw⟩ := hw
  exact L_10 n9 M 6 0 hw H locs ls hW hS (lv_sub hl [2, 1, 0] rfl)
def rm_X4_run : Room := { frames := 7, cells := 1, slots := 6, locals := 174 }
set_option maxHeartbeats 4000000 in
set_option maxRecDepth 100000 in
theorem c_X4_run (l : Launch) (hlt : l.stackTraces = false) (E : GE) (base : Nat) (M : Mem) (ad : AD) (a1 : Int32) (Q : Int32 → Mem → Prop) (X : Nat → Mem → Prop) (hw : w_X4_run M a1 Q X) : Con l yX4_run cX4_run 4 (some .int) rm_X4_run 1 6 E base [.ref (ad 4 0), .int a1] M ad (QcI E base (fun r M1 ad1 => Q r M1 ∧ ad = ad1)) (fun k M1 ad1 => X k M1 ∧ ad = ad1) := by
  refine con_start (by decide) (Nat.le_of_ble_eq_true rfl) ?_
  intro p e s m args below meth c ls QQ hQQ CT hnx hW hl
  obtain ⟨⟨hx, hb, hml, hown, hts⟩, hr, hlocks, hnm, hT⟩ := CT
  have hS : va_S (fun q : Nat => base ≤ q) s.heap s.heap [] := va_S.rf
  have hl : lv_has ls 4 [(0, .ref (ad 4 0)), (1, .int a1)] := hl
  have L_11 : ∀ (M : Mem) , b_X4_run_11 Q X M → WL p l e rm_X4_run s m args below meth c QQ E base 4 M ad 11 [] [] 0 0 := by
    intro M hw H locs ls hW hS hl
    unfold b_X4_run_11 at hw
    rw [← hQQ]
    exact e_throw 2 (own := RX4) (text := "no such number of rounds") hx hb hlt hown hts hT (by decide) k_119 k_120 at_X4_75_2 ag_X4_75_2 (by decide +kernel) dX4_run_11 dX4_run_14 dX4_run_15 dX4_run_17 dX4_run_20 hnx (Nat.le_of_ble_eq_true rfl) (Nat.le_of_ble_eq_true rfl) (Nat.le_of_ble_eq_true rfl) (Nat.le_of_ble_eq_true rfl) hlocks (by rw [hml]; exact hl.1) hW hS (Nat.le_of_ble_eq_true rfl) (Nat.le_of_ble_eq_true rfl) ⟨hw, rfl⟩
  have L_47 : ∀ (n : Nat) (M : Mem) (x1 : Int32) (x2 : Int32) (x3 : Int32), l_X4_run_47 Q X n M x1 x2 x3 → WL p l e rm_X4_run s m args below meth c QQ E base 4 M ad 47 [(0, .ref (ad 4 0)), (1, .int x1), (2, .int x2), (3, .int x3)] [] 0 0 := by
    intro n
    induction n with
    | zero => intro M x1 x2 x3 hw; exact False.elim hw
    | succ n K47 =>
      intro M x1 x2 x3 hw H locs ls hW hS hl
      obtain ⟨k47, hk47⟩ : ∃ z, z = l_X4_run_47 Q X n := ⟨_, rfl⟩
      have hw : b_X4_run_47 Q X k47 M x1 x2 x3 := by rw [hk47]; exact hw
      rw [← hk47] at K47
      unfold b_X4_run_47 at hw
      refine lv_iload_n hx hb dX4_run_47 rfl (lv_at hl 3 rfl) ?_
      refine lv_iload_n hx hb dX4_run_48 rfl (lv_at hl 1 rfl) ?_
      refine lv_icmp_ge (tgt := 87) hx hb dX4_run_49 (by decide) (fun c_5 => ?_) (fun c_5 => ?_)
      · have hw := hw.1 c_5
        refine lv_iload_n hx hb dX4_run_87 rfl (lv_at hl 2 rfl) ?_
        rw [← hQQ]
        exact e_I hx hb hr hlocks hW hS (Nat.le_of_ble_eq_true rfl) (Nat.le_of_ble_eq_true rfl) dX4_run_88 ⟨hw, rfl⟩
      · have hw := hw.2 c_5
        refine lv_aload_n hx hb dX4_run_52 rfl (lv_at hl 0 rfl) ?_
        obtain ⟨g_6, hw⟩ := hw
        refine k_V (rn_V (As := []) (rest := []) (κ := 4) (i := 0) ⟨hx, hb, hml, hown, hts⟩ hT hW hS hl (c_X4_begin l E base M ad _ hw) cy_X4_begin k_245 k_246 k_247 g_6 (by decide) rfl rfl rfl rfl ⟨(Nat.le_of_ble_eq_true rfl), (Nat.le_of_ble_eq_true rfl)⟩ rfl rfl (Nat.le_of_ble_eq_true rfl) dX4_run_53 ⟨(Nat.le_of_ble_eq_true rfl), (Nat.le_of_ble_eq_true rfl)⟩) hS kx_no (fun M_8 ad_9 H locs hP hW hS => ?_)
        obtain ⟨hw, rfl⟩ := hP
        refine lv_aload_n hx hb dX4_run_56 rfl (lv_at hl 0 rfl) ?_
        obtain ⟨g_11, hw⟩ := hw
        refine k_V (rn_V (As := []) (rest := []) (κ := 4) (i := 0) ⟨hx, hb, hml, hown, hts⟩ hT hW hS hl (c_X4_askAll l E base M_8 ad _ hw) cy_X4_askAll k_248 k_249 k_250 g_11 (by decide) rfl rfl rfl rfl ⟨(Nat.le_of_ble_eq_true rfl), (Nat.le_of_ble_eq_true rfl)⟩ rfl rfl (Nat.le_of_ble_eq_true rfl) dX4_run_57 ⟨(Nat.le_of_ble_eq_true rfl), (Nat.le_of_ble_eq_true rfl)⟩) hS kx_no (fun M_13 ad_14 H locs hP hW hS => ?_)
        obtain ⟨hw, rfl⟩ := hP
        refine lv_iload_n hx hb dX4_run_60 rfl (lv_at hl 2 rfl) ?_
        refine lv_aload_n hx hb dX4_run_61 rfl (lv_at hl 0 rfl) ?_
        obtain ⟨g_16, hw⟩ := hw
        refine k_I (rn_V (As := []) (rest := [.int x2]) (κ := 4) (i := 0) ⟨hx, hb, hml, hown, hts⟩ hT hW hS hl (c_X4_comeAll l E base M_13 ad _ hw) cy_X4_comeAll k_251 k_252 k_253 g_16 (by decide) rfl rfl rfl rfl ⟨(Nat.le_of_ble_eq_true rfl), (Nat.le_of_ble_eq_true rfl)⟩ rfl rfl (Nat.le_of_ble_eq_true rfl) dX4_run_62 ⟨(Nat.le_of_ble_eq_true rfl), (Nat.le_of_ble_eq_true rfl)⟩) hS kx_no (fun r_20 M_18 ad_19 H locs hP hW hS => ?_)
        obtain ⟨hw, rfl⟩ := hP
        refine lv_iadd hx hb dX4_run_65 ?_
        refine lv_topi (fun v_21 ev_21 => ?_)
        have hw := hw v_21 ev_21
        refine lv_istore_n (lv' := [(2, .int v_21), (0, .ref (ad 4 0)), (1, .int x1), (3, .int x3)]) hx hb dX4_run_66 rfl hl (by decide) rfl (fun ls hl => ?_)
        refine lv_aload_n hx hb dX4_run_67 rfl (lv_at hl 1 rfl) ?_
        obtain ⟨g_22, hw⟩ := hw
        refine k_V (rn_V (As := []) (rest := []) (κ := 4) (i := 0) ⟨hx, hb, hml, hown, hts⟩ hT hW hS hl (c_X4_settleAll l E base M_18 ad _ hw) cy_X4_settleAll k_254 k_255 k_256 g_22 (by decide) rfl rfl rfl rfl ⟨(Nat.le_of_ble_eq_true rfl), (Nat.le_of_ble_eq_true rfl)⟩ rfl rfl (Nat.le_of_ble_eq_true rfl) dX4_run_68 ⟨(Nat.le_of_ble_eq_true rfl), (Nat.le_of_ble_eq_true rfl)⟩) hS kx_no (fun M_24 ad_25 H locs hP hW hS => ?_)
        obtain ⟨hw, rfl⟩ := hP
        refine lv_aload_n hx hb dX4_run_71 rfl (lv_at hl 1 rfl) ?_
        refine lv_dup hx hb dX4_run_72 rfl ?_
        obtain ⟨g_27, hw⟩ := hw
        refine r_getI hx hb hts hown hT.1 hW clX4 4 (by decide) (hts _ k_10) (fun _ h9 => h9) rfl g_27 dX4_run_73 ?_
        refine lv_iconst (v := 1) hx hb dX4_run_76 (by decide) ?_
        refine lv_iadd hx hb dX4_run_77 ?_
        refine r_putI hx hb hts hown hT.1 hW hS clX4 4 (by decide) (hts _ k_10) (fun _ h9 => h9) rfl (by decide +kernel) rfl g_27 dX4_run_78 (fun M_28 H locs hM_28 hW hS => ?_)
        have hw := hw M_28 hM_28
        obtain ⟨v_29, ev_29⟩ : ∃ y : Int32, y = x3 + 1 := ⟨_, rfl⟩
        have hw := hw v_29 ev_29
        refine lv_iinc (v := v_29) (lv' := [(3, .int v_29), (2, .int v_21), (0, .ref (ad 4 0)), (1, .int x1)]) hx hb dX4_run_81 hl (k := 3) rfl (by rw [ev_29]; rfl) (by decide) rfl (fun ls hl => ?_)
        refine lv_goto (tgt := 47) hx hb dX4_run_84 (by decide) ?_
        exact K47 M_28 x1 v_21 v_29 hw H locs ls hW hS (lv_sub hl [2, 3, 1, 0] rfl)
  unfold w_X4_run at hw
  obtain ⟨H, hH⟩ : ∃ z, z = s.heap := ⟨_, rfl⟩
  obtain ⟨locs, hlo⟩ : ∃ z : List Loc, z = [] := ⟨_, rfl⟩
  have hS : va_S (fun q : Nat => base ≤ q) s.heap H locs := by rw [hlo, hH]; exact hS
  have hW : Wd E base M ad H := by rw [hH]; exact hW
  rw [show W p l e rm_X4_run s m args below meth c s.heap [] 0 0 QQ (F0 m 0 ls []) = W p l e rm_X4_run s m args below meth c H locs 0 0 QQ (F0 m 0 ls []) by rw [hlo, hH]]
  refine lv_iload_n hx hb dX4_run_0 rfl (lv_at hl 1 rfl) ?_
  refine lv_iconst (v := 1) hx hb dX4_run_1 (by decide) ?_
  refine lv_icmp_lt (tgt := 11) hx hb dX4_run_2 (by decide) (fun c_1 => ?_) (fun c_1 => ?_)
  · have hw := hw.1 c_1
    exact L_11 M hw H locs ls hW hS (lv_sub hl [] rfl)
  · have hw := hw.2 c_1
    refine lv_iload_n hx hb dX4_run_5 rfl (lv_at hl 1 rfl) ?_
    refine lv_bipush (v := 20) hx hb dX4_run_6 (by decide) ?_
    refine lv_icmp_le (tgt := 21) hx hb dX4_run_8 (by decide) (fun c_2 => ?_) (fun c_2 => ?_)
    · have hw := hw.1 c_2
      refine lv_aload_n hx hb dX4_run_21 rfl (lv_at hl 0 rfl) ?_
      obtain ⟨g_3, hw⟩ := hw
      refine r_getI hx hb hts hown hT.1 hW clX4 4 (by decide) (hts _ k_10) (fun _ h9 => h9) rfl g_3 dX4_run_22 ?_
      refine lv_iload_n hx hb dX4_run_25 rfl (lv_at hl 1 rfl) ?_
      refine lv_iadd hx hb dX4_run_26 ?_
      refine lv_sipush (v := 200) hx hb dX4_run_27 (by decide) ?_
      refine lv_icmp_le (tgt := 43) hx hb dX4_run_30 (by decide) (fun c_4 => ?_) (fun c_4 => ?_)
      · have hw := hw.1 c_4
        refine lv_iconst (v := 0) hx hb dX4_run_43 (by decide) ?_
        refine lv_istore_n (lv' := [(2, .int 0), (0, .ref (ad 4 0)), (1, .int a1)]) hx hb dX4_run_44 rfl hl (by decide) rfl (fun ls hl => ?_)
        refine lv_iconst (v := 0) hx hb dX4_run_45 (by decide) ?_
        refine lv_istore_n (lv' := [(3, .int 0), (2, .int 0), (0, .ref (ad 4 0)), (1, .int a1)]) hx hb dX4_run_46 rfl hl (by decide) rfl (fun ls hl => ?_)
        obtain ⟨n9, hw⟩ := hw
        exact L_47 n9 M a1 0 0 hw H locs ls hW hS (lv_sub hl [2, 3, 1, 0] rfl)
      · have hw := hw.2 c_4
        rw [← hQQ]
        exact e_throw 0 (own := RX4) (text := "too many rounds in all") hx hb hlt hown hts hT (by decide) k_81 k_82 at_X4_39_0 ag_X4_39_0 (by decide +kernel) dX4_run_33 dX4_run_36 dX4_run_37 dX4_run_39 dX4_run_42 hnx (Nat.le_of_ble_eq_true rfl) (Nat.le_of_ble_eq_true rfl) (Nat.le_of_ble_eq_true rfl) (Nat.le_of_ble_eq_true rfl) hlocks (by rw [hml]; exact hl.1) hW hS (Nat.le_of_ble_eq_true rfl) (Nat.le_of_ble_eq_true rfl) ⟨hw, rfl⟩
    · have hw := hw.2 c_2
      exact L_11 M hw H locs ls hW hS (lv_sub hl [] rfl)
def rm_L_run : Room := { frames := 8, cells := 1, slots := 6, locals := 197 }
set_option maxHeartbeats 4000000 in
set_option maxRecDepth 100000 in
theorem c_L_run (l : Launch) (hlt : l.stackTraces = false) (E : GE) (base : Nat) (M : Mem) (ad : AD) (a1 : Int32) (Q : Int32 → Mem → Prop) (hw : w_L_run M a1 Q) : ConW l yL_run cL_run 4 (some .int) [(0, 9, 12, 25), (0, 9, 15, 13)] rm_L_run 1 6 E base [.ref (ad 4 0), .int a1, .ref (ad 60 0)] M ad (QcI E base (fun r M1 ad1 => Q r M1 ∧ ad = ad1)) noX := by
  refine conW_start (by decide) (Nat.le_of_ble_eq_true rfl) ?_
  intro p e s m args below meth c ls QQ hQQ CT htab hW hl
  obtain ⟨⟨hx, hb, hml, hown, hts⟩, hr, hlocks, hnm, hT⟩ := CT
  have hS : va_S (fun q : Nat => base ≤ q) s.heap s.heap [] := va_S.rf
  have hl : lv_has ls 4 [(0, .ref (ad 4 0)), (1, .int a1), (2, .ref (ad 60 0))] := hl
  unfold w_L_run at hw
  obtain ⟨H, hH⟩ : ∃ z, z = s.heap := ⟨_, rfl⟩
  obtain ⟨locs, hlo⟩ : ∃ z : List Loc, z = [] := ⟨_, rfl⟩
  have hS : va_S (fun q : Nat => base ≤ q) s.heap H locs := by rw [hlo, hH]; exact hS
  have hW : Wd E base M ad H := by rw [hH]; exact hW
  rw [show W p l e rm_L_run s m args below meth c s.heap [] 0 0 QQ (F0 m 0 ls []) = W p l e rm_L_run s m args below meth c H locs 0 0 QQ (F0 m 0 ls []) by rw [hlo, hH]]
  refine lv_aload_n hx hb dL_run_0 rfl (lv_at hl 2 rfl) ?_
  refine lv_iconst (v := 0) hx hb dL_run_1 (by decide) ?_
  refine lv_aload_n hx hb dL_run_2 rfl (lv_at hl 0 rfl) ?_
  refine lv_iload_n hx hb dL_run_3 rfl (lv_at hl 1 rfl) ?_
  obtain ⟨g_1, hw⟩ := hw
  refine k_I (rn_V (As := [.int a1]) (rest := [.int 0, .ref (ad 60 0)]) (κ := 4) (i := 0) ⟨hx, hb, hml, hown, hts⟩ hT hW hS hl (c_X4_run l hlt E base M ad a1 _ _ hw) cy_X4_run k_257 k_258 k_259 g_1 (by decide) rfl rfl rfl rfl ⟨(Nat.le_of_ble_eq_true rfl), (Nat.le_of_ble_eq_true rfl)⟩ rfl rfl (Nat.le_of_ble_eq_true rfl) dL_run_4 ⟨(Nat.le_of_ble_eq_true rfl), (Nat.le_of_ble_eq_true rfl)⟩) hS (fun k9 M_2 adx q9 ce9 H locs hP hW hS hce hcv hcl => ?_) (fun r_5 M_3 ad_4 H locs hP hW hS => ?_)
  · obtain ⟨hw, rfl⟩ := hP
    rcases hw with ⟨rfl, hw⟩ | ⟨rfl, hw⟩
    · refine vx_catch (name := exN 2) (E := exN 2) hown [] ⟨0, 9, 12, 25⟩ [⟨0, 9, 15, 13⟩] (by rw [htab]; rfl) (fun z hz => nomatch hz) rfl (by decide) (hts _ k_124) (va_Nw.use rfl (hT.2.1 _ kn_4)) hce hcv hcl ?_
      refine lv_astore_n (lv' := [(3, .ref q9), (0, .ref (ad 4 0)), (1, .int a1), (2, .ref (ad 60 0))]) hx hb dL_run_12 rfl hl (by decide) rfl (fun ls hl => ?_)
      refine lv_iconst (v := 1) hx hb dL_run_13 (by decide) ?_
      rw [← hQQ]
      exact e_I hx hb hr hlocks hW hS (Nat.le_of_ble_eq_true rfl) (Nat.le_of_ble_eq_true rfl) dL_run_14 ⟨hw, rfl⟩
    · refine vx_catch (name := exN 0) (E := exN 0) hown [⟨0, 9, 12, 25⟩] ⟨0, 9, 15, 13⟩ [] (by rw [htab]; rfl) (fun z hz => by rcases List.mem_singleton.mp hz with rfl; exact Or.inr ⟨by decide, exN 2, hts _ k_124, hT.2.2.2.2.2.2.1 (0, 2) (by decide)⟩) rfl (by decide) (hts _ k_86) (va_Nw.use rfl (hT.2.1 _ kn_2)) hce hcv hcl ?_
      refine lv_astore_n (lv' := [(3, .ref q9), (0, .ref (ad 4 0)), (1, .int a1), (2, .ref (ad 60 0))]) hx hb dL_run_15 rfl hl (by decide) rfl (fun ls hl => ?_)
      refine lv_iconst (v := 2) hx hb dL_run_16 (by decide) ?_
      rw [← hQQ]
      exact e_I hx hb hr hlocks hW hS (Nat.le_of_ble_eq_true rfl) (Nat.le_of_ble_eq_true rfl) dL_run_17 ⟨hw, rfl⟩
  · obtain ⟨hw, rfl⟩ := hP
    refine lv_i2l hx hb dL_run_7 rfl ?_
    obtain ⟨g_6, hw⟩ := hw
    obtain ⟨g_7, hw⟩ := hw
    refine r_last hx hb hT.1 hW hS (by decide) rfl (fun _ => rfl) 1 rfl g_7 g_6 dL_run_8 (fun M_8 H locs hM_8 hW hS => ?_)
    have hw := hw M_8 hM_8
    refine lv_goto (tgt := 18) hx hb dL_run_9 (by decide) ?_
    refine lv_iconst (v := 0) hx hb dL_run_18 (by decide) ?_
    rw [← hQQ]
    exact e_I hx hb hr hlocks hW hS (Nat.le_of_ble_eq_true rfl) (Nat.le_of_ble_eq_true rfl) dL_run_19 ⟨hw, rfl⟩
def rm_X5_pair : Room := { frames := 0, cells := 0, slots := 0, locals := 0 }
set_option maxHeartbeats 4000000 in
set_option maxRecDepth 100000 in
theorem c_X5_pair (l : Launch) (E : GE) (base : Nat) (M : Mem) (ad : AD) (a0 : Int32) (a1 : Int32) (Q : Int32 → Mem → Prop) (hw : w_X5_pair M a0 a1 Q) : Con l yX5_pair cX5_pair 2 (some .int) rm_X5_pair 0 0 E base [.int a0, .int a1] M ad (QcI E base (fun r M1 ad1 => Q r M1 ∧ ad = ad1)) noX := by
  refine con_start (by decide) (Nat.le_of_ble_eq_true rfl) ?_
  intro p e s m args below meth c ls QQ hQQ CT hnx hW hl
  obtain ⟨⟨hx, hb, hml, hown, hts⟩, hr, hlocks, hnm, hT⟩ := CT
  have hS : va_S (fun q : Nat => base ≤ q) s.heap s.heap [] := va_S.rf
  have hl : lv_has ls 2 [(0, .int a0), (1, .int a1)] := hl
  unfold w_X5_pair at hw
  obtain ⟨H, hH⟩ : ∃ z, z = s.heap := ⟨_, rfl⟩
  obtain ⟨locs, hlo⟩ : ∃ z : List Loc, z = [] := ⟨_, rfl⟩
  have hS : va_S (fun q : Nat => base ≤ q) s.heap H locs := by rw [hlo, hH]; exact hS
  have hW : Wd E base M ad H := by rw [hH]; exact hW
  rw [show W p l e rm_X5_pair s m args below meth c s.heap [] 0 0 QQ (F0 m 0 ls []) = W p l e rm_X5_pair s m args below meth c H locs 0 0 QQ (F0 m 0 ls []) by rw [hlo, hH]]
  refine lv_bipush (v := 6) hx hb dX5_pair_0 (by decide) ?_
  refine lv_iload_n hx hb dX5_pair_2 rfl (lv_at hl 0 rfl) ?_
  refine lv_imul hx hb dX5_pair_3 ?_
  refine lv_iload_n hx hb dX5_pair_4 rfl (lv_at hl 1 rfl) ?_
  refine lv_iadd hx hb dX5_pair_5 ?_
  rw [← hQQ]
  exact e_I hx hb hr hlocks hW hS (Nat.le_of_ble_eq_true rfl) (Nat.le_of_ble_eq_true rfl) dX5_pair_6 ⟨hw, rfl⟩
def rm_X5_holdersOf : Room := { frames := 1, cells := 0, slots := 0, locals := 21 }
set_option maxHeartbeats 4000000 in
set_option maxRecDepth 100000 in
theorem c_X5_holdersOf (l : Launch) (E : GE) (base : Nat) (M : Mem) (ad : AD) (a1 : Int32) (Q : Int32 → Mem → Prop) (hw : w_X5_holdersOf M a1 Q) : Con l yX5_holdersOf cX5_holdersOf 4 (some .int) rm_X5_holdersOf 0 0 E base [.ref (ad 5 0), .int a1] M ad (QcI E base (fun r M1 ad1 => Q r M1 ∧ ad = ad1)) noX := by
  refine con_start (by decide) (Nat.le_of_ble_eq_true rfl) ?_
  intro p e s m args below meth c ls QQ hQQ CT hnx hW hl
  obtain ⟨⟨hx, hb, hml, hown, hts⟩, hr, hlocks, hnm, hT⟩ := CT
  have hS : va_S (fun q : Nat => base ≤ q) s.heap s.heap [] := va_S.rf
  have hl : lv_has ls 4 [(0, .ref (ad 5 0)), (1, .int a1)] := hl
  have L_40 : ∀ (k4 : Mem → Int32 → Int32 → Int32 → Prop) (K4 : ∀ (M : Mem) (x1 : Int32) (x2 : Int32) (x3 : Int32), k4 M x1 x2 x3 → WL p l e rm_X5_holdersOf s m args below meth c QQ E base 4 M ad 4 [(0, .ref (ad 5 0)), (1, .int x1), (2, .int x2), (3, .int x3)] [] 0 0) (M : Mem) (x1 : Int32) (x3 : Int32) (s0 : Int32) (s1 : Int32), b_X5_holdersOf_40 k4 Q M x1 x3 s0 s1 → WL p l e rm_X5_holdersOf s m args below meth c QQ E base 4 M ad 40 [(0, .ref (ad 5 0)), (1, .int x1), (3, .int x3)] [.int s0, .int s1] 0 0 := by
    intro k4 K4 M x1 x3 s0 s1 hw H locs ls hW hS hl
    unfold b_X5_holdersOf_40 at hw
    refine lv_iadd hx hb dX5_holdersOf_40 ?_
    refine lv_topi (fun v_7 ev_7 => ?_)
    have hw := hw v_7 ev_7
    refine lv_istore_n (lv' := [(2, .int v_7), (0, .ref (ad 5 0)), (1, .int x1), (3, .int x3)]) hx hb dX5_holdersOf_41 rfl hl (by decide) rfl (fun ls hl => ?_)
    obtain ⟨v_8, ev_8⟩ : ∃ y : Int32, y = x3 + 1 := ⟨_, rfl⟩
    have hw := hw v_8 ev_8
    refine lv_iinc (v := v_8) (lv' := [(3, .int v_8), (2, .int v_7), (0, .ref (ad 5 0)), (1, .int x1)]) hx hb dX5_holdersOf_42 hl (k := 3) rfl (by rw [ev_8]; rfl) (by decide) rfl (fun ls hl => ?_)
    refine lv_goto (tgt := 4) hx hb dX5_holdersOf_45 (by decide) ?_
    exact K4 M x1 v_7 v_8 hw H locs ls hW hS (lv_sub hl [2, 3, 1, 0] rfl)
  have L_39 : ∀ (k4 : Mem → Int32 → Int32 → Int32 → Prop) (K4 : ∀ (M : Mem) (x1 : Int32) (x2 : Int32) (x3 : Int32), k4 M x1 x2 x3 → WL p l e rm_X5_holdersOf s m args below meth c QQ E base 4 M ad 4 [(0, .ref (ad 5 0)), (1, .int x1), (2, .int x2), (3, .int x3)] [] 0 0) (M : Mem) (x1 : Int32) (x3 : Int32) (s0 : Int32), b_X5_holdersOf_39 k4 Q M x1 x3 s0 → WL p l e rm_X5_holdersOf s m args below meth c QQ E base 4 M ad 39 [(0, .ref (ad 5 0)), (1, .int x1), (3, .int x3)] [.int s0] 0 0 := by
    intro k4 K4 M x1 x3 s0 hw H locs ls hW hS hl
    unfold b_X5_holdersOf_39 at hw
    refine lv_iconst (v := 0) hx hb dX5_holdersOf_39 (by decide) ?_
    exact L_40 k4 K4 M x1 x3 0 s0 hw H locs ls hW hS (lv_sub hl [0, 1, 2] rfl)
  have L_4 : ∀ (n : Nat) (M : Mem) (x1 : Int32) (x2 : Int32) (x3 : Int32), l_X5_holdersOf_4 Q n M x1 x2 x3 → WL p l e rm_X5_holdersOf s m args below meth c QQ E base 4 M ad 4 [(0, .ref (ad 5 0)), (1, .int x1), (2, .int x2), (3, .int x3)] [] 0 0 := by
    intro n
    induction n with
    | zero => intro M x1 x2 x3 hw; exact False.elim hw
    | succ n K4 =>
      intro M x1 x2 x3 hw H locs ls hW hS hl
      obtain ⟨k4, hk4⟩ : ∃ z, z = l_X5_holdersOf_4 Q n := ⟨_, rfl⟩
      have hw : b_X5_holdersOf_4 Q k4 M x1 x2 x3 := by rw [hk4]; exact hw
      rw [← hk4] at K4
      unfold b_X5_holdersOf_4 at hw
      refine lv_iload_n hx hb dX5_holdersOf_4 rfl (lv_at hl 3 rfl) ?_
      refine lv_aload_n hx hb dX5_holdersOf_5 rfl (lv_at hl 0 rfl) ?_
      obtain ⟨g_1, hw⟩ := hw
      refine r_getI hx hb hts hown hT.1 hW clX5 3 (by decide) (hts _ k_88) (fun _ h9 => h9) rfl g_1 dX5_holdersOf_6 ?_
      refine lv_icmp_ge (tgt := 48) hx hb dX5_holdersOf_9 (by decide) (fun c_2 => ?_) (fun c_2 => ?_)
      · have hw := hw.1 c_2
        refine lv_iload_n hx hb dX5_holdersOf_48 rfl (lv_at hl 2 rfl) ?_
        rw [← hQQ]
        exact e_I hx hb hr hlocks hW hS (Nat.le_of_ble_eq_true rfl) (Nat.le_of_ble_eq_true rfl) dX5_holdersOf_49 ⟨hw, rfl⟩
      · have hw := hw.2 c_2
        refine lv_iload_n hx hb dX5_holdersOf_12 rfl (lv_at hl 2 rfl) ?_
        refine lv_aload_n hx hb dX5_holdersOf_13 rfl (lv_at hl 0 rfl) ?_
        obtain ⟨g_3, hw⟩ := hw
        refine r_getR (κ2 := 34) (i2 := 0) hx hb hts hown hT.1 hW clX5 4 (by decide) (hts _ k_16) (fun _ h9 => h9) 34 rfl rfl g_1 g_3 dX5_holdersOf_14 ?_
        refine lv_iload_n hx hb dX5_holdersOf_17 rfl (lv_at hl 3 rfl) ?_
        obtain ⟨g_4, hw⟩ := hw
        obtain ⟨g_5, hw⟩ := hw
        refine r_zald hx hb hT.1 hW (by decide) rfl (fun _ => rfl) 6 rfl g_5 g_4 dX5_holdersOf_18 ?_
        refine lv_if_eq (tgt := 39) hx hb dX5_holdersOf_19 (by decide) (fun c_6 => ?_) (fun c_6 => ?_)
        · have hw := hw.1 c_6
          exact L_39 k4 K4 M x1 x3 x2 hw H locs ls hW hS (lv_sub hl [0, 1, 3] rfl)
        · have hw := hw.2 c_6
          refine lv_aload_n hx hb dX5_holdersOf_22 rfl (lv_at hl 0 rfl) ?_
          obtain ⟨g_9, hw⟩ := hw
          refine r_getR (κ2 := 35) (i2 := 0) hx hb hts hown hT.1 hW clX5 5 (by decide) (hts _ k_17) (fun _ h9 => h9) 35 rfl rfl g_1 g_9 dX5_holdersOf_23 ?_
          refine lv_iload_n hx hb dX5_holdersOf_26 rfl (lv_at hl 3 rfl) ?_
          obtain ⟨g_10, hw⟩ := hw
          obtain ⟨g_11, hw⟩ := hw
          refine r_iald hx hb hT.1 hW (by decide) rfl (fun _ => rfl) 6 rfl g_11 g_10 dX5_holdersOf_27 ?_
          refine lv_iload_n hx hb dX5_holdersOf_28 rfl (lv_at hl 1 rfl) ?_
          refine k_I (rn_S (As := [.int (mI M 35 0 x3.toNatClampNeg), .int x1]) (rest := [.int x2]) ⟨hx, hb, hml, hown, hts⟩ hT hW hS hl (c_X5_has l E base M ad (mI M 35 0 x3.toNatClampNeg) x1 _ hw) cy_X5_has k_141 k_142 rfl rfl ⟨(Nat.le_of_ble_eq_true rfl), (Nat.le_of_ble_eq_true rfl)⟩ rfl rfl (Nat.le_of_ble_eq_true rfl) dX5_holdersOf_29 ⟨(Nat.le_of_ble_eq_true rfl), (Nat.le_of_ble_eq_true rfl)⟩) hS kx_no (fun r_15 M_13 ad_14 H locs hP hW hS => ?_)
          obtain ⟨hw, rfl⟩ := hP
          refine lv_if_eq (tgt := 39) hx hb dX5_holdersOf_32 (by decide) (fun c_16 => ?_) (fun c_16 => ?_)
          · have hw := hw.1 c_16
            exact L_39 k4 K4 M_13 x1 x3 x2 hw H locs ls hW hS (lv_sub hl [0, 1, 3] rfl)
          · have hw := hw.2 c_16
            refine lv_iconst (v := 1) hx hb dX5_holdersOf_35 (by decide) ?_
            refine lv_goto (tgt := 40) hx hb dX5_holdersOf_36 (by decide) ?_
            exact L_40 k4 K4 M_13 x1 x3 1 x2 hw H locs ls hW hS (lv_sub hl [0, 1, 3] rfl)
  unfold w_X5_holdersOf at hw
  obtain ⟨H, hH⟩ : ∃ z, z = s.heap := ⟨_, rfl⟩
  obtain ⟨locs, hlo⟩ : ∃ z : List Loc, z = [] := ⟨_, rfl⟩
  have hS : va_S (fun q : Nat => base ≤ q) s.heap H locs := by rw [hlo, hH]; exact hS
  have hW : Wd E base M ad H := by rw [hH]; exact hW
  rw [show W p l e rm_X5_holdersOf s m args below meth c s.heap [] 0 0 QQ (F0 m 0 ls []) = W p l e rm_X5_holdersOf s m args below meth c H locs 0 0 QQ (F0 m 0 ls []) by rw [hlo, hH]]
  refine lv_iconst (v := 0) hx hb dX5_holdersOf_0 (by decide) ?_
  refine lv_istore_n (lv' := [(2, .int 0), (0, .ref (ad 5 0)), (1, .int a1)]) hx hb dX5_holdersOf_1 rfl hl (by decide) rfl (fun ls hl => ?_)
  refine lv_iconst (v := 0) hx hb dX5_holdersOf_2 (by decide) ?_
  refine lv_istore_n (lv' := [(3, .int 0), (2, .int 0), (0, .ref (ad 5 0)), (1, .int a1)]) hx hb dX5_holdersOf_3 rfl hl (by decide) rfl (fun ls hl => ?_)
  obtain ⟨n9, hw⟩ := hw
  exact L_4 n9 M a1 0 0 hw H locs ls hW hS (lv_sub hl [2, 3, 1, 0] rfl)
def rm_X5_shownBy : Room := { frames := 2, cells := 0, slots := 0, locals := 44 }
set_option maxHeartbeats 4000000 in
set_option maxRecDepth 100000 in
theorem c_X5_shownBy (l : Launch) (E : GE) (base : Nat) (M : Mem) (ad : AD) (a1 : Int32) (a2 : Int32) (Q : Int32 → Mem → Prop) (hw : w_X5_shownBy M a1 a2 Q) : Con l yX5_shownBy cX5_shownBy 7 (some .int) rm_X5_shownBy 0 0 E base [.ref (ad 5 0), .int a1, .int a2] M ad (QcI E base (fun r M1 ad1 => Q r M1 ∧ ad = ad1)) noX := by
  refine con_start (by decide) (Nat.le_of_ble_eq_true rfl) ?_
  intro p e s m args below meth c ls QQ hQQ CT hnx hW hl
  obtain ⟨⟨hx, hb, hml, hown, hts⟩, hr, hlocks, hnm, hT⟩ := CT
  have hS : va_S (fun q : Nat => base ≤ q) s.heap s.heap [] := va_S.rf
  have hl : lv_has ls 7 [(0, .ref (ad 5 0)), (1, .int a1), (2, .int a2)] := hl
  have L_14 : ∀ (M : Mem) (x1 : Int32) (x2 : Int32), b_X5_shownBy_14 Q M x1 x2 → WL p l e rm_X5_shownBy s m args below meth c QQ E base 7 M ad 14 [(0, .ref (ad 5 0)), (1, .int x1), (2, .int x2)] [] 0 0 := by
    intro M x1 x2 hw H locs ls hW hS hl
    unfold b_X5_shownBy_14 at hw
    refine lv_iload_n hx hb dX5_shownBy_14 rfl (lv_at hl 1 rfl) ?_
    refine lv_iload_n hx hb dX5_shownBy_15 rfl (lv_at hl 2 rfl) ?_
    refine lv_icmp_ne (tgt := 23) hx hb dX5_shownBy_16 (by decide) (fun c_2 => ?_) (fun c_2 => ?_)
    · have hw := hw.2 c_2
      refine lv_aload_n hx hb dX5_shownBy_23 rfl (lv_at hl 0 rfl) ?_
      obtain ⟨g_3, hw⟩ := hw
      obtain ⟨g_4, hw⟩ := hw
      refine r_getR (κ2 := 35) (i2 := 0) hx hb hts hown hT.1 hW clX5 5 (by decide) (hts _ k_17) (fun _ h9 => h9) 35 rfl rfl g_3 g_4 dX5_shownBy_24 ?_
      refine lv_iload_n hx hb dX5_shownBy_27 rfl (lv_at hl 1 rfl) ?_
      obtain ⟨g_5, hw⟩ := hw
      obtain ⟨g_6, hw⟩ := hw
      refine r_iald hx hb hT.1 hW (by decide) rfl (fun _ => rfl) 6 rfl g_6 g_5 dX5_shownBy_28 ?_
      rw [← hQQ]
      exact e_I hx hb hr hlocks hW hS (Nat.le_of_ble_eq_true rfl) (Nat.le_of_ble_eq_true rfl) dX5_shownBy_29 ⟨hw, rfl⟩
    · have hw := hw.1 c_2
      refine lv_iconst (v := 0) hx hb dX5_shownBy_19 (by decide) ?_
      refine lv_goto (tgt := 29) hx hb dX5_shownBy_20 (by decide) ?_
      rw [← hQQ]
      exact e_I hx hb hr hlocks hW hS (Nat.le_of_ble_eq_true rfl) (Nat.le_of_ble_eq_true rfl) dX5_shownBy_29 ⟨hw, rfl⟩
  have L_115 : ∀ (k36 : Mem → Int32 → Int32 → Int32 → Int32 → Prop) (K36 : ∀ (M : Mem) (x1 : Int32) (x2 : Int32) (x3 : Int32) (x4 : Int32), k36 M x1 x2 x3 x4 → WL p l e rm_X5_shownBy s m args below meth c QQ E base 7 M ad 36 [(0, .ref (ad 5 0)), (1, .int x1), (2, .int x2), (3, .int x3), (4, .int x4)] [] 0 0) (M : Mem) (x1 : Int32) (x2 : Int32) (x4 : Int32) (s0 : Int32), b_X5_shownBy_115 k36 Q M x1 x2 x4 s0 → WL p l e rm_X5_shownBy s m args below meth c QQ E base 7 M ad 115 [(0, .ref (ad 5 0)), (1, .int x1), (2, .int x2), (4, .int x4)] [.int s0] 0 0 := by
    intro k36 K36 M x1 x2 x4 s0 hw H locs ls hW hS hl
    unfold b_X5_shownBy_115 at hw
    refine lv_istore_n (lv' := [(3, .int s0), (0, .ref (ad 5 0)), (1, .int x1), (2, .int x2), (4, .int x4)]) hx hb dX5_shownBy_115 rfl hl (by decide) rfl (fun ls hl => ?_)
    obtain ⟨v_25, ev_25⟩ : ∃ y : Int32, y = x4 + (-1) := ⟨_, rfl⟩
    have hw := hw v_25 ev_25
    refine lv_iinc (v := v_25) (lv' := [(4, .int v_25), (3, .int s0), (0, .ref (ad 5 0)), (1, .int x1), (2, .int x2)]) hx hb dX5_shownBy_116 hl (k := 4) rfl (by rw [ev_25]; rfl) (by decide) rfl (fun ls hl => ?_)
    refine lv_goto (tgt := 36) hx hb dX5_shownBy_119 (by decide) ?_
    exact K36 M x1 x2 s0 v_25 hw H locs ls hW hS (lv_sub hl [2, 3, 4, 1, 0] rfl)
  have L_114 : ∀ (k36 : Mem → Int32 → Int32 → Int32 → Int32 → Prop) (K36 : ∀ (M : Mem) (x1 : Int32) (x2 : Int32) (x3 : Int32) (x4 : Int32), k36 M x1 x2 x3 x4 → WL p l e rm_X5_shownBy s m args below meth c QQ E base 7 M ad 36 [(0, .ref (ad 5 0)), (1, .int x1), (2, .int x2), (3, .int x3), (4, .int x4)] [] 0 0) (M : Mem) (x1 : Int32) (x2 : Int32) (x3 : Int32) (x4 : Int32), b_X5_shownBy_114 k36 Q M x1 x2 x3 x4 → WL p l e rm_X5_shownBy s m args below meth c QQ E base 7 M ad 114 [(0, .ref (ad 5 0)), (1, .int x1), (2, .int x2), (3, .int x3), (4, .int x4)] [] 0 0 := by
    intro k36 K36 M x1 x2 x3 x4 hw H locs ls hW hS hl
    unfold b_X5_shownBy_114 at hw
    refine lv_iload_n hx hb dX5_shownBy_114 rfl (lv_at hl 3 rfl) ?_
    exact L_115 k36 K36 M x1 x2 x4 x3 hw H locs ls hW hS (lv_sub hl [0, 1, 2, 4] rfl)
  have L_109 : ∀ (k36 : Mem → Int32 → Int32 → Int32 → Int32 → Prop) (K36 : ∀ (M : Mem) (x1 : Int32) (x2 : Int32) (x3 : Int32) (x4 : Int32), k36 M x1 x2 x3 x4 → WL p l e rm_X5_shownBy s m args below meth c QQ E base 7 M ad 36 [(0, .ref (ad 5 0)), (1, .int x1), (2, .int x2), (3, .int x3), (4, .int x4)] [] 0 0) (M : Mem) (x1 : Int32) (x2 : Int32) (x4 : Int32) (x5 : Int32), b_X5_shownBy_109 k36 Q M x1 x2 x4 x5 → WL p l e rm_X5_shownBy s m args below meth c QQ E base 7 M ad 109 [(0, .ref (ad 5 0)), (1, .int x1), (2, .int x2), (4, .int x4), (5, .int x5)] [] 0 0 := by
    intro k36 K36 M x1 x2 x4 x5 hw H locs ls hW hS hl
    unfold b_X5_shownBy_109 at hw
    refine lv_iload hx hb dX5_shownBy_109 (lv_at hl 4 rfl) ?_
    refine lv_goto (tgt := 115) hx hb dX5_shownBy_111 (by decide) ?_
    exact L_115 k36 K36 M x1 x2 x4 x5 hw H locs ls hW hS (lv_sub hl [0, 1, 2, 3] rfl)
  have L_83 : ∀ (k36 : Mem → Int32 → Int32 → Int32 → Int32 → Prop) (K36 : ∀ (M : Mem) (x1 : Int32) (x2 : Int32) (x3 : Int32) (x4 : Int32), k36 M x1 x2 x3 x4 → WL p l e rm_X5_shownBy s m args below meth c QQ E base 7 M ad 36 [(0, .ref (ad 5 0)), (1, .int x1), (2, .int x2), (3, .int x3), (4, .int x4)] [] 0 0) (M : Mem) (x1 : Int32) (x2 : Int32) (x3 : Int32) (x4 : Int32) (x5 : Int32) (s0 : Int32), b_X5_shownBy_83 k36 Q M x1 x2 x3 x4 x5 s0 → WL p l e rm_X5_shownBy s m args below meth c QQ E base 7 M ad 83 [(0, .ref (ad 5 0)), (1, .int x1), (2, .int x2), (3, .int x3), (4, .int x4), (5, .int x5)] [.int s0] 0 0 := by
    intro k36 K36 M x1 x2 x3 x4 x5 s0 hw H locs ls hW hS hl
    unfold b_X5_shownBy_83 at hw
    refine lv_istore (lv' := [(6, .int s0), (0, .ref (ad 5 0)), (1, .int x1), (2, .int x2), (3, .int x3), (4, .int x4), (5, .int x5)]) hx hb dX5_shownBy_83 hl (by decide) rfl (fun ls hl => ?_)
    refine lv_iload hx hb dX5_shownBy_85 (lv_at hl 0 rfl) ?_
    refine lv_if_eq (tgt := 114) hx hb dX5_shownBy_87 (by decide) (fun c_24 => ?_) (fun c_24 => ?_)
    · have hw := hw.1 c_24
      exact L_114 k36 K36 M x1 x2 x3 x4 hw H locs ls hW hS (lv_sub hl [1, 2, 3, 4, 5] rfl)
    · have hw := hw.2 c_24
      refine lv_iload_n hx hb dX5_shownBy_90 rfl (lv_at hl 4 rfl) ?_
      refine lv_iconst (v := (-1)) hx hb dX5_shownBy_91 (by decide) ?_
      refine lv_icmp_eq (tgt := 109) hx hb dX5_shownBy_92 (by decide) (fun c_26 => ?_) (fun c_26 => ?_)
      · have hw := hw.1 c_26
        exact L_109 k36 K36 M x1 x2 x4 x5 hw H locs ls hW hS (lv_sub hl [1, 2, 3, 5, 6] rfl)
      · have hw := hw.2 c_26
        refine lv_aload_n hx hb dX5_shownBy_95 rfl (lv_at hl 1 rfl) ?_
        refine lv_iload hx hb dX5_shownBy_96 (lv_at hl 6 rfl) ?_
        obtain ⟨g_27, hw⟩ := hw
        refine k_I (rn_V (As := [.int x5]) (rest := []) (κ := 5) (i := 0) ⟨hx, hb, hml, hown, hts⟩ hT hW hS hl (c_X5_holdersOf l E base M ad x5 _ hw) cy_X5_holdersOf k_260 k_261 k_262 g_27 (by decide) rfl rfl rfl rfl ⟨(Nat.le_of_ble_eq_true rfl), (Nat.le_of_ble_eq_true rfl)⟩ rfl rfl (Nat.le_of_ble_eq_true rfl) dX5_shownBy_98 ⟨(Nat.le_of_ble_eq_true rfl), (Nat.le_of_ble_eq_true rfl)⟩) hS kx_no (fun r_31 M_29 ad_30 H locs hP hW hS => ?_)
        obtain ⟨hw, rfl⟩ := hP
        refine lv_aload_n hx hb dX5_shownBy_101 rfl (lv_at hl 1 rfl) ?_
        refine lv_iload_n hx hb dX5_shownBy_102 rfl (lv_at hl 4 rfl) ?_
        obtain ⟨g_32, hw⟩ := hw
        refine k_I (rn_V (As := [.int x3]) (rest := [.int r_31]) (κ := 5) (i := 0) ⟨hx, hb, hml, hown, hts⟩ hT hW hS hl (c_X5_holdersOf l E base M_29 ad x3 _ hw) cy_X5_holdersOf k_260 k_261 k_262 g_32 (by decide) rfl rfl rfl rfl ⟨(Nat.le_of_ble_eq_true rfl), (Nat.le_of_ble_eq_true rfl)⟩ rfl rfl (Nat.le_of_ble_eq_true rfl) dX5_shownBy_103 ⟨(Nat.le_of_ble_eq_true rfl), (Nat.le_of_ble_eq_true rfl)⟩) hS kx_no (fun r_36 M_34 ad_35 H locs hP hW hS => ?_)
        obtain ⟨hw, rfl⟩ := hP
        refine lv_icmp_gt (tgt := 114) hx hb dX5_shownBy_106 (by decide) (fun c_37 => ?_) (fun c_37 => ?_)
        · have hw := hw.1 c_37
          exact L_114 k36 K36 M_34 x1 x2 x3 x4 hw H locs ls hW hS (lv_sub hl [1, 2, 3, 4, 5] rfl)
        · have hw := hw.2 c_37
          exact L_109 k36 K36 M_34 x1 x2 x4 x5 hw H locs ls hW hS (lv_sub hl [1, 2, 3, 5, 6] rfl)
  have L_82 : ∀ (k36 : Mem → Int32 → Int32 → Int32 → Int32 → Prop) (K36 : ∀ (M : Mem) (x1 : Int32) (x2 : Int32) (x3 : Int32) (x4 : Int32), k36 M x1 x2 x3 x4 → WL p l e rm_X5_shownBy s m args below meth c QQ E base 7 M ad 36 [(0, .ref (ad 5 0)), (1, .int x1), (2, .int x2), (3, .int x3), (4, .int x4)] [] 0 0) (M : Mem) (x1 : Int32) (x2 : Int32) (x3 : Int32) (x4 : Int32) (x5 : Int32), b_X5_shownBy_82 k36 Q M x1 x2 x3 x4 x5 → WL p l e rm_X5_shownBy s m args below meth c QQ E base 7 M ad 82 [(0, .ref (ad 5 0)), (1, .int x1), (2, .int x2), (3, .int x3), (4, .int x4), (5, .int x5)] [] 0 0 := by
    intro k36 K36 M x1 x2 x3 x4 x5 hw H locs ls hW hS hl
    unfold b_X5_shownBy_82 at hw
    refine lv_iconst (v := 0) hx hb dX5_shownBy_82 (by decide) ?_
    exact L_83 k36 K36 M x1 x2 x3 x4 x5 0 hw H locs ls hW hS (lv_sub hl [0, 1, 2, 3, 4, 5] rfl)
  have L_36 : ∀ (n : Nat) (M : Mem) (x1 : Int32) (x2 : Int32) (x3 : Int32) (x4 : Int32), l_X5_shownBy_36 Q n M x1 x2 x3 x4 → WL p l e rm_X5_shownBy s m args below meth c QQ E base 7 M ad 36 [(0, .ref (ad 5 0)), (1, .int x1), (2, .int x2), (3, .int x3), (4, .int x4)] [] 0 0 := by
    intro n
    induction n with
    | zero => intro M x1 x2 x3 x4 hw; exact False.elim hw
    | succ n K36 =>
      intro M x1 x2 x3 x4 hw H locs ls hW hS hl
      obtain ⟨k36, hk36⟩ : ∃ z, z = l_X5_shownBy_36 Q n := ⟨_, rfl⟩
      have hw : b_X5_shownBy_36 Q k36 M x1 x2 x3 x4 := by rw [hk36]; exact hw
      rw [← hk36] at K36
      unfold b_X5_shownBy_36 at hw
      refine lv_iload hx hb dX5_shownBy_36 (lv_at hl 4 rfl) ?_
      refine lv_if_lt (tgt := 122) hx hb dX5_shownBy_38 (by decide) (fun c_12 => ?_) (fun c_12 => ?_)
      · have hw := hw.1 c_12
        refine lv_iload_n hx hb dX5_shownBy_122 rfl (lv_at hl 3 rfl) ?_
        refine lv_iconst (v := (-1)) hx hb dX5_shownBy_123 (by decide) ?_
        refine lv_icmp_ne (tgt := 131) hx hb dX5_shownBy_124 (by decide) (fun c_13 => ?_) (fun c_13 => ?_)
        · have hw := hw.2 c_13
          refine lv_iconst (v := 1) hx hb dX5_shownBy_131 (by decide) ?_
          refine lv_iload_n hx hb dX5_shownBy_132 rfl (lv_at hl 3 rfl) ?_
          refine lv_ishl hx hb dX5_shownBy_133 ?_
          rw [← hQQ]
          exact e_I hx hb hr hlocks hW hS (Nat.le_of_ble_eq_true rfl) (Nat.le_of_ble_eq_true rfl) dX5_shownBy_134 ⟨hw, rfl⟩
        · have hw := hw.1 c_13
          refine lv_iconst (v := 0) hx hb dX5_shownBy_127 (by decide) ?_
          refine lv_goto (tgt := 134) hx hb dX5_shownBy_128 (by decide) ?_
          rw [← hQQ]
          exact e_I hx hb hr hlocks hW hS (Nat.le_of_ble_eq_true rfl) (Nat.le_of_ble_eq_true rfl) dX5_shownBy_134 ⟨hw, rfl⟩
      · have hw := hw.2 c_12
        refine lv_iload_n hx hb dX5_shownBy_41 rfl (lv_at hl 2 rfl) ?_
        refine lv_iload hx hb dX5_shownBy_42 (lv_at hl 4 rfl) ?_
        refine lv_iadd hx hb dX5_shownBy_44 ?_
        refine lv_bipush (v := 12) hx hb dX5_shownBy_45 (by decide) ?_
        refine lv_irem hx hb dX5_shownBy_47 (by decide) ?_
        refine lv_topi (fun v_14 ev_14 => ?_)
        have hw := hw v_14 ev_14
        refine lv_istore (lv' := [(5, .int v_14), (0, .ref (ad 5 0)), (1, .int x1), (2, .int x2), (3, .int x3), (4, .int x4)]) hx hb dX5_shownBy_48 hl (by decide) rfl (fun ls hl => ?_)
        refine lv_aload_n hx hb dX5_shownBy_50 rfl (lv_at hl 1 rfl) ?_
        obtain ⟨g_15, hw⟩ := hw
        obtain ⟨g_16, hw⟩ := hw
        refine r_getR (κ2 := 35) (i2 := 0) hx hb hts hown hT.1 hW clX5 5 (by decide) (hts _ k_17) (fun _ h9 => h9) 35 rfl rfl g_15 g_16 dX5_shownBy_51 ?_
        refine lv_iload_n hx hb dX5_shownBy_54 rfl (lv_at hl 2 rfl) ?_
        obtain ⟨g_17, hw⟩ := hw
        obtain ⟨g_18, hw⟩ := hw
        refine r_iald hx hb hT.1 hW (by decide) rfl (fun _ => rfl) 6 rfl g_18 g_17 dX5_shownBy_55 ?_
        refine lv_iload hx hb dX5_shownBy_56 (lv_at hl 0 rfl) ?_
        refine k_I (rn_S (As := [.int (mI M 35 0 x1.toNatClampNeg), .int v_14]) (rest := []) ⟨hx, hb, hml, hown, hts⟩ hT hW hS hl (c_X5_has l E base M ad (mI M 35 0 x1.toNatClampNeg) v_14 _ hw) cy_X5_has k_141 k_142 rfl rfl ⟨(Nat.le_of_ble_eq_true rfl), (Nat.le_of_ble_eq_true rfl)⟩ rfl rfl (Nat.le_of_ble_eq_true rfl) dX5_shownBy_58 ⟨(Nat.le_of_ble_eq_true rfl), (Nat.le_of_ble_eq_true rfl)⟩) hS kx_no (fun r_22 M_20 ad_21 H locs hP hW hS => ?_)
        obtain ⟨hw, rfl⟩ := hP
        refine lv_if_eq (tgt := 82) hx hb dX5_shownBy_61 (by decide) (fun c_23 => ?_) (fun c_23 => ?_)
        · have hw := hw.1 c_23
          exact L_82 k36 K36 M_20 x1 x2 x3 x4 v_14 hw H locs ls hW hS (lv_sub hl [1, 2, 3, 4, 5, 0] rfl)
        · have hw := hw.2 c_23
          refine lv_aload_n hx hb dX5_shownBy_64 rfl (lv_at hl 1 rfl) ?_
          obtain ⟨g_38, hw⟩ := hw
          obtain ⟨g_39, hw⟩ := hw
          refine r_getR (κ2 := 35) (i2 := 0) hx hb hts hown hT.1 hW clX5 5 (by decide) (hts _ k_17) (fun _ h9 => h9) 35 rfl rfl g_38 g_39 dX5_shownBy_65 ?_
          refine lv_iload_n hx hb dX5_shownBy_68 rfl (lv_at hl 3 rfl) ?_
          obtain ⟨g_40, hw⟩ := hw
          obtain ⟨g_41, hw⟩ := hw
          refine r_iald hx hb hT.1 hW (by decide) rfl (fun _ => rfl) 6 rfl g_41 g_40 dX5_shownBy_69 ?_
          refine lv_iload hx hb dX5_shownBy_70 (lv_at hl 0 rfl) ?_
          refine k_I (rn_S (As := [.int (mI M_20 35 0 x2.toNatClampNeg), .int v_14]) (rest := []) ⟨hx, hb, hml, hown, hts⟩ hT hW hS hl (c_X5_has l E base M_20 ad (mI M_20 35 0 x2.toNatClampNeg) v_14 _ hw) cy_X5_has k_141 k_142 rfl rfl ⟨(Nat.le_of_ble_eq_true rfl), (Nat.le_of_ble_eq_true rfl)⟩ rfl rfl (Nat.le_of_ble_eq_true rfl) dX5_shownBy_72 ⟨(Nat.le_of_ble_eq_true rfl), (Nat.le_of_ble_eq_true rfl)⟩) hS kx_no (fun r_45 M_43 ad_44 H locs hP hW hS => ?_)
          obtain ⟨hw, rfl⟩ := hP
          refine lv_if_ne (tgt := 82) hx hb dX5_shownBy_75 (by decide) (fun c_46 => ?_) (fun c_46 => ?_)
          · have hw := hw.2 c_46
            exact L_82 k36 K36 M_43 x1 x2 x3 x4 v_14 hw H locs ls hW hS (lv_sub hl [1, 2, 3, 4, 5, 0] rfl)
          · have hw := hw.1 c_46
            refine lv_iconst (v := 1) hx hb dX5_shownBy_78 (by decide) ?_
            refine lv_goto (tgt := 83) hx hb dX5_shownBy_79 (by decide) ?_
            exact L_83 k36 K36 M_43 x1 x2 x3 x4 v_14 1 hw H locs ls hW hS (lv_sub hl [1, 2, 3, 4, 5, 0] rfl)
  unfold w_X5_shownBy at hw
  obtain ⟨H, hH⟩ : ∃ z, z = s.heap := ⟨_, rfl⟩
  obtain ⟨locs, hlo⟩ : ∃ z : List Loc, z = [] := ⟨_, rfl⟩
  have hS : va_S (fun q : Nat => base ≤ q) s.heap H locs := by rw [hlo, hH]; exact hS
  have hW : Wd E base M ad H := by rw [hH]; exact hW
  rw [show W p l e rm_X5_shownBy s m args below meth c s.heap [] 0 0 QQ (F0 m 0 ls []) = W p l e rm_X5_shownBy s m args below meth c H locs 0 0 QQ (F0 m 0 ls []) by rw [hlo, hH]]
  refine lv_iload_n hx hb dX5_shownBy_0 rfl (lv_at hl 1 rfl) ?_
  refine lv_iload_n hx hb dX5_shownBy_1 rfl (lv_at hl 2 rfl) ?_
  refine lv_icmp_eq (tgt := 14) hx hb dX5_shownBy_2 (by decide) (fun c_1 => ?_) (fun c_1 => ?_)
  · have hw := hw.1 c_1
    exact L_14 M a1 a2 hw H locs ls hW hS (lv_sub hl [0, 1, 2] rfl)
  · have hw := hw.2 c_1
    refine lv_aload_n hx hb dX5_shownBy_5 rfl (lv_at hl 0 rfl) ?_
    obtain ⟨g_7, hw⟩ := hw
    obtain ⟨g_8, hw⟩ := hw
    refine r_getR (κ2 := 36) (i2 := 0) hx hb hts hown hT.1 hW clX5 6 (by decide) (hts _ k_18) (fun _ h9 => h9) 36 rfl rfl g_7 g_8 dX5_shownBy_6 ?_
    refine lv_iload_n hx hb dX5_shownBy_9 rfl (lv_at hl 1 rfl) ?_
    obtain ⟨g_9, hw⟩ := hw
    obtain ⟨g_10, hw⟩ := hw
    refine r_zald hx hb hT.1 hW (by decide) rfl (fun _ => rfl) 6 rfl g_10 g_9 dX5_shownBy_10 ?_
    refine lv_if_ne (tgt := 30) hx hb dX5_shownBy_11 (by decide) (fun c_11 => ?_) (fun c_11 => ?_)
    · have hw := hw.2 c_11
      refine lv_iconst (v := (-1)) hx hb dX5_shownBy_30 (by decide) ?_
      refine lv_istore_n (lv' := [(3, .int (-1)), (0, .ref (ad 5 0)), (1, .int a1), (2, .int a2)]) hx hb dX5_shownBy_31 rfl hl (by decide) rfl (fun ls hl => ?_)
      refine lv_bipush (v := 11) hx hb dX5_shownBy_32 (by decide) ?_
      refine lv_istore (lv' := [(4, .int 11), (3, .int (-1)), (0, .ref (ad 5 0)), (1, .int a1), (2, .int a2)]) hx hb dX5_shownBy_34 hl (by decide) rfl (fun ls hl => ?_)
      obtain ⟨n9, hw⟩ := hw
      exact L_36 n9 M a1 a2 (-1) 11 hw H locs ls hW hS (lv_sub hl [2, 3, 4, 1, 0] rfl)
    · have hw := hw.1 c_11
      exact L_14 M a1 a2 hw H locs ls hW hS (lv_sub hl [0, 1, 2] rfl)
