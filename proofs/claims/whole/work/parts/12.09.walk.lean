def rm_X5_drops : Room := { frames := 1, cells := 0, slots := 0, locals := 21 }
set_option maxHeartbeats 4000000 in
set_option maxRecDepth 100000 in
theorem c_X5_drops (l : Launch) (E : GE) (base : Nat) (M : Mem) (ad : AD) (a1 : Int32) (a2 : Int32) (Q : Mem → Prop) (hw : w_X5_drops M a1 a2 Q) : Con l yX5_drops cX5_drops 6 none rm_X5_drops 0 0 E base [.ref (ad 5 0), .int a1, .int a2] M ad (QcV E base (fun M1 ad1 => Q M1 ∧ ad = ad1)) noX := by
  refine con_start (by decide) (Nat.le_of_ble_eq_true rfl) ?_
  intro p e s m args below meth c ls QQ hQQ CT hnx hW hl
  obtain ⟨⟨hx, hb, hml, hown, hts⟩, hr, hlocks, hnm, hT⟩ := CT
  have hS : va_S (fun q : Nat => base ≤ q) s.heap s.heap [] := va_S.rf
  have hl : lv_has ls 6 [(0, .ref (ad 5 0)), (1, .int a1), (2, .int a2)] := hl
  have L_123 : ∀ (k2 : Mem → Int32 → Int32 → Int32 → Prop) (K2 : ∀ (M : Mem) (x1 : Int32) (x2 : Int32) (x3 : Int32), k2 M x1 x2 x3 → WL p l e rm_X5_drops s m args below meth c QQ E base 6 M ad 2 [(0, .ref (ad 5 0)), (1, .int x1), (2, .int x2), (3, .int x3)] [] 0 0) (M : Mem) (x1 : Int32) (x2 : Int32) (x3 : Int32) (s0 : Int32) (s1 : Int32), b_X5_drops_123 k2 Q M x1 x2 x3 s0 s1 → WL p l e rm_X5_drops s m args below meth c QQ E base 6 M ad 123 [(0, .ref (ad 5 0)), (1, .int x1), (2, .int x2), (3, .int x3)] [.int s0, .int s1, .ref (ad 46 0)] 0 0 := by
    intro k2 K2 M x1 x2 x3 s0 s1 hw H locs ls hW hS hl
    unfold b_X5_drops_123 at hw
    obtain ⟨g_38, hw⟩ := hw
    obtain ⟨g_39, hw⟩ := hw
    obtain ⟨g_41, hw⟩ := hw
    refine r_zast hx hb hT.1 hW hS (by decide) rfl (fun _ => rfl) 36 rfl g_41 g_39 g_38 dX5_drops_123 (fun M_40 H locs hM_40 hW hS => ?_)
    have hw := hw M_40 hM_40
    obtain ⟨v_42, ev_42⟩ : ∃ y : Int32, y = x3 + 1 := ⟨_, rfl⟩
    have hw := hw v_42 ev_42
    refine lv_iinc (v := v_42) (lv' := [(3, .int v_42), (0, .ref (ad 5 0)), (1, .int x1), (2, .int x2)]) hx hb dX5_drops_124 hl (k := 3) rfl (by rw [ev_42]; rfl) (by decide) rfl (fun ls hl => ?_)
    refine lv_goto (tgt := 2) hx hb dX5_drops_127 (by decide) ?_
    exact K2 M_40 x1 x2 v_42 hw H locs ls hW hS (lv_sub hl [1, 2, 3, 0] rfl)
  have L_118 : ∀ (k2 : Mem → Int32 → Int32 → Int32 → Prop) (K2 : ∀ (M : Mem) (x1 : Int32) (x2 : Int32) (x3 : Int32), k2 M x1 x2 x3 → WL p l e rm_X5_drops s m args below meth c QQ E base 6 M ad 2 [(0, .ref (ad 5 0)), (1, .int x1), (2, .int x2), (3, .int x3)] [] 0 0) (M : Mem) (x1 : Int32) (x2 : Int32) (x3 : Int32) (s0 : Int32), b_X5_drops_118 k2 Q M x1 x2 x3 s0 → WL p l e rm_X5_drops s m args below meth c QQ E base 6 M ad 118 [(0, .ref (ad 5 0)), (1, .int x1), (2, .int x2), (3, .int x3)] [.int s0, .ref (ad 46 0)] 0 0 := by
    intro k2 K2 M x1 x2 x3 s0 hw H locs ls hW hS hl
    unfold b_X5_drops_118 at hw
    refine lv_iconst (v := 1) hx hb dX5_drops_118 (by decide) ?_
    refine lv_goto (tgt := 123) hx hb dX5_drops_119 (by decide) ?_
    exact L_123 k2 K2 M x1 x2 x3 1 s0 hw H locs ls hW hS (lv_sub hl [0, 1, 2, 3] rfl)
  have L_83 : ∀ (k2 : Mem → Int32 → Int32 → Int32 → Prop) (K2 : ∀ (M : Mem) (x1 : Int32) (x2 : Int32) (x3 : Int32), k2 M x1 x2 x3 → WL p l e rm_X5_drops s m args below meth c QQ E base 6 M ad 2 [(0, .ref (ad 5 0)), (1, .int x1), (2, .int x2), (3, .int x3)] [] 0 0) (M : Mem) (x1 : Int32) (x2 : Int32) (x3 : Int32) (x4 : Int32) (x5 : Int32) (s0 : Int32) (s1 : Int32) (s2 : Int32), b_X5_drops_83 k2 Q M x1 x2 x3 x4 x5 s0 s1 s2 → WL p l e rm_X5_drops s m args below meth c QQ E base 6 M ad 83 [(0, .ref (ad 5 0)), (1, .int x1), (2, .int x2), (3, .int x3), (4, .int x4), (5, .int x5)] [.int s0, .int s1, .int s2, .ref (ad 45 0)] 0 0 := by
    intro k2 K2 M x1 x2 x3 x4 x5 s0 s1 s2 hw H locs ls hW hS hl
    unfold b_X5_drops_83 at hw
    refine lv_iadd hx hb dX5_drops_83 ?_
    obtain ⟨g_30, hw⟩ := hw
    obtain ⟨g_31, hw⟩ := hw
    refine r_iast hx hb hT.1 hW hS (by decide) rfl (fun _ => rfl) 36 rfl g_31 g_30 dX5_drops_84 (fun M_32 H locs hM_32 hW hS => ?_)
    have hw := hw M_32 hM_32
    refine lv_aload_n hx hb dX5_drops_85 rfl (lv_at hl 0 rfl) ?_
    obtain ⟨g_33, hw⟩ := hw
    obtain ⟨g_34, hw⟩ := hw
    refine r_getR (κ2 := 46) (i2 := 0) hx hb hts hown hT.1 hW clX5 16 (by decide) (hts _ k_28) (fun _ h9 => h9) 46 rfl rfl g_33 g_34 dX5_drops_86 ?_
    refine lv_iload hx hb dX5_drops_89 (lv_at hl 5 rfl) ?_
    refine lv_aload_n hx hb dX5_drops_91 rfl (lv_at hl 0 rfl) ?_
    refine r_getR (κ2 := 46) (i2 := 0) hx hb hts hown hT.1 hW clX5 16 (by decide) (hts _ k_28) (fun _ h9 => h9) 46 rfl rfl g_33 g_34 dX5_drops_92 ?_
    refine lv_iload hx hb dX5_drops_95 (lv_at hl 5 rfl) ?_
    obtain ⟨g_35, hw⟩ := hw
    obtain ⟨g_36, hw⟩ := hw
    refine r_zald hx hb hT.1 hW (by decide) rfl (fun _ => rfl) 36 rfl g_36 g_35 dX5_drops_97 ?_
    refine lv_if_ne (tgt := 118) hx hb dX5_drops_98 (by decide) (fun c_37 => ?_) (fun c_37 => ?_)
    · have hw := hw.2 c_37
      exact L_118 k2 K2 M_32 x1 x2 x3 x5 hw H locs ls hW hS (lv_sub hl [0, 1, 2, 3] rfl)
    · have hw := hw.1 c_37
      refine lv_iload hx hb dX5_drops_101 (lv_at hl 4 rfl) ?_
      refine lv_iconst (v := 4) hx hb dX5_drops_103 (by decide) ?_
      refine lv_icmp_eq (tgt := 118) hx hb dX5_drops_104 (by decide) (fun c_43 => ?_) (fun c_43 => ?_)
      · have hw := hw.1 c_43
        exact L_118 k2 K2 M_32 x1 x2 x3 x5 hw H locs ls hW hS (lv_sub hl [0, 1, 2, 3] rfl)
      · have hw := hw.2 c_43
        refine lv_aload_n hx hb dX5_drops_107 rfl (lv_at hl 0 rfl) ?_
        obtain ⟨g_44, hw⟩ := hw
        refine r_getR (κ2 := 45) (i2 := 0) hx hb hts hown hT.1 hW clX5 15 (by decide) (hts _ k_27) (fun _ h9 => h9) 45 rfl rfl g_33 g_44 dX5_drops_108 ?_
        refine lv_iload hx hb dX5_drops_111 (lv_at hl 5 rfl) ?_
        obtain ⟨g_45, hw⟩ := hw
        refine r_iald hx hb hT.1 hW (by decide) rfl (fun _ => rfl) 36 rfl g_45 (by rw [hM_32]; exact g_30) dX5_drops_113 ?_
        refine lv_iconst (v := 3) hx hb dX5_drops_114 (by decide) ?_
        refine lv_icmp_lt (tgt := 122) hx hb dX5_drops_115 (by decide) (fun c_46 => ?_) (fun c_46 => ?_)
        · have hw := hw.1 c_46
          refine lv_iconst (v := 0) hx hb dX5_drops_122 (by decide) ?_
          exact L_123 k2 K2 M_32 x1 x2 x3 0 x5 hw H locs ls hW hS (lv_sub hl [0, 1, 2, 3] rfl)
        · have hw := hw.2 c_46
          exact L_118 k2 K2 M_32 x1 x2 x3 x5 hw H locs ls hW hS (lv_sub hl [0, 1, 2, 3] rfl)
  have L_49 : ∀ (k2 : Mem → Int32 → Int32 → Int32 → Prop) (K2 : ∀ (M : Mem) (x1 : Int32) (x2 : Int32) (x3 : Int32), k2 M x1 x2 x3 → WL p l e rm_X5_drops s m args below meth c QQ E base 6 M ad 2 [(0, .ref (ad 5 0)), (1, .int x1), (2, .int x2), (3, .int x3)] [] 0 0) (k16 : Mem → Int32 → Int32 → Int32 → Int32 → Int32 → Prop) (K16 : ∀ (M : Mem) (x1 : Int32) (x2 : Int32) (x3 : Int32) (x4 : Int32) (x5 : Int32), k16 M x1 x2 x3 x4 x5 → WL p l e rm_X5_drops s m args below meth c QQ E base 6 M ad 16 [(0, .ref (ad 5 0)), (1, .int x1), (2, .int x2), (3, .int x3), (4, .int x4), (5, .int x5)] [] 0 0) (M : Mem) (x1 : Int32) (x2 : Int32) (x3 : Int32) (x5 : Int32) (s0 : Int32) (s1 : Int32), b_X5_drops_49 k2 k16 Q M x1 x2 x3 x5 s0 s1 → WL p l e rm_X5_drops s m args below meth c QQ E base 6 M ad 49 [(0, .ref (ad 5 0)), (1, .int x1), (2, .int x2), (3, .int x3), (5, .int x5)] [.int s0, .int s1] 0 0 := by
    intro k2 K2 k16 K16 M x1 x2 x3 x5 s0 s1 hw H locs ls hW hS hl
    unfold b_X5_drops_49 at hw
    refine lv_iadd hx hb dX5_drops_49 ?_
    refine lv_topi (fun v_52 ev_52 => ?_)
    have hw := hw v_52 ev_52
    refine lv_istore (lv' := [(4, .int v_52), (0, .ref (ad 5 0)), (1, .int x1), (2, .int x2), (3, .int x3), (5, .int x5)]) hx hb dX5_drops_50 hl (by decide) rfl (fun ls hl => ?_)
    obtain ⟨v_53, ev_53⟩ : ∃ y : Int32, y = x5 + 1 := ⟨_, rfl⟩
    have hw := hw v_53 ev_53
    refine lv_iinc (v := v_53) (lv' := [(5, .int v_53), (4, .int v_52), (0, .ref (ad 5 0)), (1, .int x1), (2, .int x2), (3, .int x3)]) hx hb dX5_drops_52 hl (k := 5) rfl (by rw [ev_53]; rfl) (by decide) rfl (fun ls hl => ?_)
    refine lv_goto (tgt := 16) hx hb dX5_drops_55 (by decide) ?_
    exact K16 M x1 x2 x3 v_52 v_53 hw H locs ls hW hS (lv_sub hl [2, 3, 4, 5, 1, 0] rfl)
  have L_16 : ∀ (k2 : Mem → Int32 → Int32 → Int32 → Prop) (K2 : ∀ (M : Mem) (x1 : Int32) (x2 : Int32) (x3 : Int32), k2 M x1 x2 x3 → WL p l e rm_X5_drops s m args below meth c QQ E base 6 M ad 2 [(0, .ref (ad 5 0)), (1, .int x1), (2, .int x2), (3, .int x3)] [] 0 0) (n : Nat) (M : Mem) (x1 : Int32) (x2 : Int32) (x3 : Int32) (x4 : Int32) (x5 : Int32), l_X5_drops_16 k2 Q n M x1 x2 x3 x4 x5 → WL p l e rm_X5_drops s m args below meth c QQ E base 6 M ad 16 [(0, .ref (ad 5 0)), (1, .int x1), (2, .int x2), (3, .int x3), (4, .int x4), (5, .int x5)] [] 0 0 := by
    intro k2 K2 n
    induction n with
    | zero => intro M x1 x2 x3 x4 x5 hw; exact False.elim hw
    | succ n K16 =>
      intro M x1 x2 x3 x4 x5 hw H locs ls hW hS hl
      obtain ⟨k16, hk16⟩ : ∃ z, z = l_X5_drops_16 k2 Q n := ⟨_, rfl⟩
      have hw : b_X5_drops_16 k2 Q k16 M x1 x2 x3 x4 x5 := by rw [hk16]; exact hw
      rw [← hk16] at K16
      unfold b_X5_drops_16 at hw
      refine lv_iload hx hb dX5_drops_16 (lv_at hl 5 rfl) ?_
      refine lv_iconst (v := 4) hx hb dX5_drops_18 (by decide) ?_
      refine lv_icmp_ge (tgt := 58) hx hb dX5_drops_19 (by decide) (fun c_20 => ?_) (fun c_20 => ?_)
      · have hw := hw.1 c_20
        refine lv_iload_n hx hb dX5_drops_58 rfl (lv_at hl 1 rfl) ?_
        refine lv_iload_n hx hb dX5_drops_59 rfl (lv_at hl 3 rfl) ?_
        refine k_I (rn_S (As := [.int x1, .int x3]) (rest := []) ⟨hx, hb, hml, hown, hts⟩ hT hW hS hl (c_X5_pair l E base M ad x1 x3 _ hw) cy_X5_pair k_263 k_264 rfl rfl ⟨(Nat.le_of_ble_eq_true rfl), (Nat.le_of_ble_eq_true rfl)⟩ rfl rfl (Nat.le_of_ble_eq_true rfl) dX5_drops_60 ⟨(Nat.le_of_ble_eq_true rfl), (Nat.le_of_ble_eq_true rfl)⟩) hS kx_no (fun r_24 M_22 ad_23 H locs hP hW hS => ?_)
        obtain ⟨hw, rfl⟩ := hP
        refine lv_istore (lv' := [(5, .int r_24), (0, .ref (ad 5 0)), (1, .int x1), (2, .int x2), (3, .int x3), (4, .int x4)]) hx hb dX5_drops_63 hl (by decide) rfl (fun ls hl => ?_)
        refine lv_aload_n hx hb dX5_drops_65 rfl (lv_at hl 1 rfl) ?_
        obtain ⟨g_25, hw⟩ := hw
        obtain ⟨g_26, hw⟩ := hw
        refine r_getR (κ2 := 45) (i2 := 0) hx hb hts hown hT.1 hW clX5 15 (by decide) (hts _ k_27) (fun _ h9 => h9) 45 rfl rfl g_25 g_26 dX5_drops_66 ?_
        refine lv_iload hx hb dX5_drops_69 (lv_at hl 0 rfl) ?_
        refine lv_dup2_11 hx hb dX5_drops_71 rfl rfl ?_
        obtain ⟨g_27, hw⟩ := hw
        obtain ⟨g_28, hw⟩ := hw
        refine r_iald hx hb hT.1 hW (by decide) rfl (fun _ => rfl) 36 rfl g_28 g_27 dX5_drops_72 ?_
        refine lv_iload hx hb dX5_drops_73 (lv_at hl 5 rfl) ?_
        refine lv_if_le (tgt := 82) hx hb dX5_drops_75 (by decide) (fun c_29 => ?_) (fun c_29 => ?_)
        · have hw := hw.1 c_29
          refine lv_iconst (v := 0) hx hb dX5_drops_82 (by decide) ?_
          exact L_83 k2 K2 M_22 x1 x2 x3 x4 r_24 0 (mI M_22 45 0 r_24.toNatClampNeg) r_24 hw H locs ls hW hS (lv_sub hl [1, 2, 3, 4, 5, 0] rfl)
        · have hw := hw.2 c_29
          refine lv_iconst (v := 1) hx hb dX5_drops_78 (by decide) ?_
          refine lv_goto (tgt := 83) hx hb dX5_drops_79 (by decide) ?_
          exact L_83 k2 K2 M_22 x1 x2 x3 x4 r_24 1 (mI M_22 45 0 r_24.toNatClampNeg) r_24 hw H locs ls hW hS (lv_sub hl [1, 2, 3, 4, 5, 0] rfl)
      · have hw := hw.2 c_20
        refine lv_iload hx hb dX5_drops_22 (lv_at hl 4 rfl) ?_
        refine lv_aload_n hx hb dX5_drops_24 rfl (lv_at hl 0 rfl) ?_
        obtain ⟨g_47, hw⟩ := hw
        obtain ⟨g_48, hw⟩ := hw
        refine r_getR (κ2 := 43) (i2 := 0) hx hb hts hown hT.1 hW clX5 13 (by decide) (hts _ k_25) (fun _ h9 => h9) 43 rfl rfl g_47 g_48 dX5_drops_25 ?_
        refine lv_bipush (v := 48) hx hb dX5_drops_28 (by decide) ?_
        refine lv_iload_n hx hb dX5_drops_30 rfl (lv_at hl 1 rfl) ?_
        refine lv_imul hx hb dX5_drops_31 ?_
        refine lv_iconst (v := 4) hx hb dX5_drops_32 (by decide) ?_
        refine lv_iload_n hx hb dX5_drops_33 rfl (lv_at hl 2 rfl) ?_
        refine lv_imul hx hb dX5_drops_34 ?_
        refine lv_iadd hx hb dX5_drops_35 ?_
        refine lv_iload hx hb dX5_drops_36 (lv_at hl 5 rfl) ?_
        refine lv_iadd hx hb dX5_drops_38 ?_
        obtain ⟨g_49, hw⟩ := hw
        obtain ⟨g_50, hw⟩ := hw
        refine r_iald hx hb hT.1 hW (by decide) rfl (fun _ => rfl) 288 rfl g_50 g_49 dX5_drops_39 ?_
        refine lv_iload_n hx hb dX5_drops_40 rfl (lv_at hl 3 rfl) ?_
        refine lv_icmp_ne (tgt := 48) hx hb dX5_drops_41 (by decide) (fun c_51 => ?_) (fun c_51 => ?_)
        · have hw := hw.2 c_51
          refine lv_iconst (v := 0) hx hb dX5_drops_48 (by decide) ?_
          exact L_49 k2 K2 k16 K16 M x1 x2 x3 x5 0 x4 hw H locs ls hW hS (lv_sub hl [0, 1, 2, 3, 5] rfl)
        · have hw := hw.1 c_51
          refine lv_iconst (v := 1) hx hb dX5_drops_44 (by decide) ?_
          refine lv_goto (tgt := 49) hx hb dX5_drops_45 (by decide) ?_
          exact L_49 k2 K2 k16 K16 M x1 x2 x3 x5 1 x4 hw H locs ls hW hS (lv_sub hl [0, 1, 2, 3, 5] rfl)
  have L_2 : ∀ (n : Nat) (M : Mem) (x1 : Int32) (x2 : Int32) (x3 : Int32), l_X5_drops_2 Q n M x1 x2 x3 → WL p l e rm_X5_drops s m args below meth c QQ E base 6 M ad 2 [(0, .ref (ad 5 0)), (1, .int x1), (2, .int x2), (3, .int x3)] [] 0 0 := by
    intro n
    induction n with
    | zero => intro M x1 x2 x3 hw; exact False.elim hw
    | succ n K2 =>
      intro M x1 x2 x3 hw H locs ls hW hS hl
      obtain ⟨k2, hk2⟩ : ∃ z, z = l_X5_drops_2 Q n := ⟨_, rfl⟩
      have hw : b_X5_drops_2 Q k2 M x1 x2 x3 := by rw [hk2]; exact hw
      rw [← hk2] at K2
      unfold b_X5_drops_2 at hw
      refine lv_iload_n hx hb dX5_drops_2 rfl (lv_at hl 3 rfl) ?_
      refine lv_aload_n hx hb dX5_drops_3 rfl (lv_at hl 0 rfl) ?_
      obtain ⟨g_1, hw⟩ := hw
      refine r_getI hx hb hts hown hT.1 hW clX5 3 (by decide) (hts _ k_88) (fun _ h9 => h9) rfl g_1 dX5_drops_4 ?_
      refine lv_icmp_ge (tgt := 130) hx hb dX5_drops_7 (by decide) (fun c_2 => ?_) (fun c_2 => ?_)
      · have hw := hw.1 c_2
        refine lv_aload_n hx hb dX5_drops_130 rfl (lv_at hl 0 rfl) ?_
        obtain ⟨g_3, hw⟩ := hw
        refine r_getR (κ2 := 40) (i2 := 0) hx hb hts hown hT.1 hW clX5 10 (by decide) (hts _ k_22) (fun _ h9 => h9) 40 rfl rfl g_1 g_3 dX5_drops_131 ?_
        refine lv_iload_n hx hb dX5_drops_134 rfl (lv_at hl 1 rfl) ?_
        refine lv_iload_n hx hb dX5_drops_135 rfl (lv_at hl 2 rfl) ?_
        refine k_I (rn_S (As := [.int x1, .int x2]) (rest := [.ref (ad 40 0)]) ⟨hx, hb, hml, hown, hts⟩ hT hW hS hl (c_X5_at l E base M ad x1 x2 _ hw) cy_X5_at k_278 k_279 rfl rfl ⟨(Nat.le_of_ble_eq_true rfl), (Nat.le_of_ble_eq_true rfl)⟩ rfl rfl (Nat.le_of_ble_eq_true rfl) dX5_drops_136 ⟨(Nat.le_of_ble_eq_true rfl), (Nat.le_of_ble_eq_true rfl)⟩) hS kx_no (fun r_7 M_5 ad_6 H locs hP hW hS => ?_)
        obtain ⟨hw, rfl⟩ := hP
        refine lv_iconst (v := 0) hx hb dX5_drops_139 (by decide) ?_
        obtain ⟨g_8, hw⟩ := hw
        obtain ⟨g_9, hw⟩ := hw
        refine r_iast hx hb hT.1 hW hS (by decide) rfl (fun _ => rfl) 72 rfl g_9 g_8 dX5_drops_140 (fun M_10 H locs hM_10 hW hS => ?_)
        have hw := hw M_10 hM_10
        refine lv_aload_n hx hb dX5_drops_141 rfl (lv_at hl 0 rfl) ?_
        obtain ⟨g_11, hw⟩ := hw
        obtain ⟨g_12, hw⟩ := hw
        refine r_getR (κ2 := 41) (i2 := 0) hx hb hts hown hT.1 hW clX5 11 (by decide) (hts _ k_23) (fun _ h9 => h9) 41 rfl rfl g_11 g_12 dX5_drops_142 ?_
        refine lv_iload_n hx hb dX5_drops_145 rfl (lv_at hl 1 rfl) ?_
        refine lv_iload_n hx hb dX5_drops_146 rfl (lv_at hl 2 rfl) ?_
        refine k_I (rn_S (As := [.int x1, .int x2]) (rest := [.ref (ad 41 0)]) ⟨hx, hb, hml, hown, hts⟩ hT hW hS hl (c_X5_at l E base M_10 ad x1 x2 _ hw) cy_X5_at k_278 k_279 rfl rfl ⟨(Nat.le_of_ble_eq_true rfl), (Nat.le_of_ble_eq_true rfl)⟩ rfl rfl (Nat.le_of_ble_eq_true rfl) dX5_drops_147 ⟨(Nat.le_of_ble_eq_true rfl), (Nat.le_of_ble_eq_true rfl)⟩) hS kx_no (fun r_16 M_14 ad_15 H locs hP hW hS => ?_)
        obtain ⟨hw, rfl⟩ := hP
        refine lv_iconst (v := 0) hx hb dX5_drops_150 (by decide) ?_
        obtain ⟨g_17, hw⟩ := hw
        obtain ⟨g_18, hw⟩ := hw
        refine r_iast hx hb hT.1 hW hS (by decide) rfl (fun _ => rfl) 72 rfl g_18 g_17 dX5_drops_151 (fun M_19 H locs hM_19 hW hS => ?_)
        have hw := hw M_19 hM_19
        rw [← hQQ]
        exact e_V hx hb hr hlocks hW hS (Nat.le_of_ble_eq_true rfl) (Nat.le_of_ble_eq_true rfl) dX5_drops_152 ⟨hw, rfl⟩
      · have hw := hw.2 c_2
        refine lv_iconst (v := 0) hx hb dX5_drops_10 (by decide) ?_
        refine lv_istore (lv' := [(4, .int 0), (0, .ref (ad 5 0)), (1, .int x1), (2, .int x2), (3, .int x3)]) hx hb dX5_drops_11 hl (by decide) rfl (fun ls hl => ?_)
        refine lv_iconst (v := 0) hx hb dX5_drops_13 (by decide) ?_
        refine lv_istore (lv' := [(5, .int 0), (4, .int 0), (0, .ref (ad 5 0)), (1, .int x1), (2, .int x2), (3, .int x3)]) hx hb dX5_drops_14 hl (by decide) rfl (fun ls hl => ?_)
        obtain ⟨n9, hw⟩ := hw
        exact L_16 k2 K2 n9 M x1 x2 x3 0 0 hw H locs ls hW hS (lv_sub hl [2, 3, 4, 5, 1, 0] rfl)
  unfold w_X5_drops at hw
  obtain ⟨H, hH⟩ : ∃ z, z = s.heap := ⟨_, rfl⟩
  obtain ⟨locs, hlo⟩ : ∃ z : List Loc, z = [] := ⟨_, rfl⟩
  have hS : va_S (fun q : Nat => base ≤ q) s.heap H locs := by rw [hlo, hH]; exact hS
  have hW : Wd E base M ad H := by rw [hH]; exact hW
  rw [show W p l e rm_X5_drops s m args below meth c s.heap [] 0 0 QQ (F0 m 0 ls []) = W p l e rm_X5_drops s m args below meth c H locs 0 0 QQ (F0 m 0 ls []) by rw [hlo, hH]]
  refine lv_iconst (v := 0) hx hb dX5_drops_0 (by decide) ?_
  refine lv_istore_n (lv' := [(3, .int 0), (0, .ref (ad 5 0)), (1, .int a1), (2, .int a2)]) hx hb dX5_drops_1 rfl hl (by decide) rfl (fun ls hl => ?_)
  obtain ⟨n9, hw⟩ := hw
  exact L_2 n9 M a1 a2 0 hw H locs ls hW hS (lv_sub hl [1, 2, 3, 0] rfl)
def rm_X5_ends : Room := { frames := 2, cells := 0, slots := 0, locals := 46 }
set_option maxHeartbeats 4000000 in
set_option maxRecDepth 100000 in
theorem c_X5_ends (l : Launch) (E : GE) (base : Nat) (M : Mem) (ad : AD)  (Q : Mem → Prop) (hw : w_X5_ends M  Q) : Con l yX5_ends cX5_ends 4 none rm_X5_ends 0 0 E base [.ref (ad 5 0)] M ad (QcV E base (fun M1 ad1 => Q M1 ∧ ad = ad1)) noX := by
  refine con_start (by decide) (Nat.le_of_ble_eq_true rfl) ?_
  intro p e s m args below meth c ls QQ hQQ CT hnx hW hl
  obtain ⟨⟨hx, hb, hml, hown, hts⟩, hr, hlocks, hnm, hT⟩ := CT
  have hS : va_S (fun q : Nat => base ≤ q) s.heap s.heap [] := va_S.rf
  have hl : lv_has ls 4 [(0, .ref (ad 5 0))] := hl
  have L_83 : ∀ (k2 : Mem → Int32 → Prop) (K2 : ∀ (M : Mem) (x1 : Int32), k2 M x1 → WL p l e rm_X5_ends s m args below meth c QQ E base 4 M ad 2 [(0, .ref (ad 5 0)), (1, .int x1)] [] 0 0) (k12 : Mem → Int32 → Int32 → Prop) (K12 : ∀ (M : Mem) (x1 : Int32) (x2 : Int32), k12 M x1 x2 → WL p l e rm_X5_ends s m args below meth c QQ E base 4 M ad 12 [(0, .ref (ad 5 0)), (1, .int x1), (2, .int x2)] [] 0 0) (M : Mem) (x1 : Int32) (x2 : Int32), b_X5_ends_83 k2 k12 Q M x1 x2 → WL p l e rm_X5_ends s m args below meth c QQ E base 4 M ad 83 [(0, .ref (ad 5 0)), (1, .int x1), (2, .int x2)] [] 0 0 := by
    intro k2 K2 k12 K12 M x1 x2 hw H locs ls hW hS hl
    unfold b_X5_ends_83 at hw
    obtain ⟨v_19, ev_19⟩ : ∃ y : Int32, y = x2 + 1 := ⟨_, rfl⟩
    have hw := hw v_19 ev_19
    refine lv_iinc (v := v_19) (lv' := [(2, .int v_19), (0, .ref (ad 5 0)), (1, .int x1)]) hx hb dX5_ends_83 hl (k := 2) rfl (by rw [ev_19]; rfl) (by decide) rfl (fun ls hl => ?_)
    refine lv_goto (tgt := 12) hx hb dX5_ends_86 (by decide) ?_
    exact K12 M x1 v_19 hw H locs ls hW hS (lv_sub hl [1, 2, 0] rfl)
  have L_53 : ∀ (k2 : Mem → Int32 → Prop) (K2 : ∀ (M : Mem) (x1 : Int32), k2 M x1 → WL p l e rm_X5_ends s m args below meth c QQ E base 4 M ad 2 [(0, .ref (ad 5 0)), (1, .int x1)] [] 0 0) (k12 : Mem → Int32 → Int32 → Prop) (K12 : ∀ (M : Mem) (x1 : Int32) (x2 : Int32), k12 M x1 x2 → WL p l e rm_X5_ends s m args below meth c QQ E base 4 M ad 12 [(0, .ref (ad 5 0)), (1, .int x1), (2, .int x2)] [] 0 0) (M : Mem) (x1 : Int32) (x2 : Int32) (x3 : Int32), b_X5_ends_53 k2 k12 Q M x1 x2 x3 → WL p l e rm_X5_ends s m args below meth c QQ E base 4 M ad 53 [(0, .ref (ad 5 0)), (1, .int x1), (2, .int x2), (3, .int x3)] [] 0 0 := by
    intro k2 K2 k12 K12 M x1 x2 x3 hw H locs ls hW hS hl
    unfold b_X5_ends_53 at hw
    refine lv_aload_n hx hb dX5_ends_53 rfl (lv_at hl 0 rfl) ?_
    obtain ⟨g_14, hw⟩ := hw
    obtain ⟨g_15, hw⟩ := hw
    refine r_getR (κ2 := 40) (i2 := 0) hx hb hts hown hT.1 hW clX5 10 (by decide) (hts _ k_22) (fun _ h9 => h9) 40 rfl rfl g_14 g_15 dX5_ends_54 ?_
    refine lv_iload_n hx hb dX5_ends_57 rfl (lv_at hl 3 rfl) ?_
    obtain ⟨g_16, hw⟩ := hw
    obtain ⟨g_17, hw⟩ := hw
    refine r_iald hx hb hT.1 hW (by decide) rfl (fun _ => rfl) 72 rfl g_17 g_16 dX5_ends_58 ?_
    refine lv_bipush (v := 15) hx hb dX5_ends_59 (by decide) ?_
    refine lv_icmp_ne (tgt := 83) hx hb dX5_ends_61 (by decide) (fun c_18 => ?_) (fun c_18 => ?_)
    · have hw := hw.2 c_18
      exact L_83 k2 K2 k12 K12 M x1 x2 hw H locs ls hW hS (lv_sub hl [0, 1, 2] rfl)
    · have hw := hw.1 c_18
      refine lv_aload_n hx hb dX5_ends_64 rfl (lv_at hl 0 rfl) ?_
      obtain ⟨g_20, hw⟩ := hw
      refine r_getR (κ2 := 35) (i2 := 0) hx hb hts hown hT.1 hW clX5 5 (by decide) (hts _ k_17) (fun _ h9 => h9) 35 rfl rfl g_14 g_20 dX5_ends_65 ?_
      refine lv_iload_n hx hb dX5_ends_68 rfl (lv_at hl 1 rfl) ?_
      refine lv_dup2_11 hx hb dX5_ends_69 rfl rfl ?_
      obtain ⟨g_21, hw⟩ := hw
      obtain ⟨g_22, hw⟩ := hw
      refine r_iald hx hb hT.1 hW (by decide) rfl (fun _ => rfl) 6 rfl g_22 g_21 dX5_ends_70 ?_
      refine lv_iconst (v := 1) hx hb dX5_ends_71 (by decide) ?_
      refine lv_iload_n hx hb dX5_ends_72 rfl (lv_at hl 2 rfl) ?_
      refine lv_ishl hx hb dX5_ends_73 ?_
      refine lv_ior hx hb dX5_ends_74 ?_
      obtain ⟨g_23, hw⟩ := hw
      refine r_iast hx hb hT.1 hW hS (by decide) rfl (fun _ => rfl) 6 rfl g_23 g_21 dX5_ends_75 (fun M_24 H locs hM_24 hW hS => ?_)
      have hw := hw M_24 hM_24
      refine lv_aload_n hx hb dX5_ends_76 rfl (lv_at hl 0 rfl) ?_
      refine r_getR (κ2 := 40) (i2 := 0) hx hb hts hown hT.1 hW clX5 10 (by decide) (hts _ k_22) (fun _ h9 => h9) 40 rfl rfl (by rw [hM_24]; exact g_14) (by rw [hM_24]; exact g_15) dX5_ends_77 ?_
      refine lv_iload_n hx hb dX5_ends_80 rfl (lv_at hl 3 rfl) ?_
      refine lv_iconst (v := 0) hx hb dX5_ends_81 (by decide) ?_
      obtain ⟨g_25, hw⟩ := hw
      refine r_iast hx hb hT.1 hW hS (by decide) rfl (fun _ => rfl) 72 rfl g_25 (by rw [hM_24]; exact g_16) dX5_ends_82 (fun M_26 H locs hM_26 hW hS => ?_)
      have hw := hw M_26 hM_26
      exact L_83 k2 K2 k12 K12 M_26 x1 x2 hw H locs ls hW hS (lv_sub hl [0, 1, 2] rfl)
  have L_12 : ∀ (k2 : Mem → Int32 → Prop) (K2 : ∀ (M : Mem) (x1 : Int32), k2 M x1 → WL p l e rm_X5_ends s m args below meth c QQ E base 4 M ad 2 [(0, .ref (ad 5 0)), (1, .int x1)] [] 0 0) (n : Nat) (M : Mem) (x1 : Int32) (x2 : Int32), l_X5_ends_12 k2 Q n M x1 x2 → WL p l e rm_X5_ends s m args below meth c QQ E base 4 M ad 12 [(0, .ref (ad 5 0)), (1, .int x1), (2, .int x2)] [] 0 0 := by
    intro k2 K2 n
    induction n with
    | zero => intro M x1 x2 hw; exact False.elim hw
    | succ n K12 =>
      intro M x1 x2 hw H locs ls hW hS hl
      obtain ⟨k12, hk12⟩ : ∃ z, z = l_X5_ends_12 k2 Q n := ⟨_, rfl⟩
      have hw : b_X5_ends_12 k2 Q k12 M x1 x2 := by rw [hk12]; exact hw
      rw [← hk12] at K12
      unfold b_X5_ends_12 at hw
      refine lv_iload_n hx hb dX5_ends_12 rfl (lv_at hl 2 rfl) ?_
      refine lv_bipush (v := 12) hx hb dX5_ends_13 (by decide) ?_
      refine lv_icmp_ge (tgt := 89) hx hb dX5_ends_15 (by decide) (fun c_3 => ?_) (fun c_3 => ?_)
      · have hw := hw.1 c_3
        obtain ⟨v_4, ev_4⟩ : ∃ y : Int32, y = x1 + 1 := ⟨_, rfl⟩
        have hw := hw v_4 ev_4
        refine lv_iinc (v := v_4) (lv' := [(1, .int v_4), (0, .ref (ad 5 0)), (2, .int x2)]) hx hb dX5_ends_89 hl (k := 1) rfl (by rw [ev_4]; rfl) (by decide) rfl (fun ls hl => ?_)
        refine lv_goto (tgt := 2) hx hb dX5_ends_92 (by decide) ?_
        exact K2 M v_4 hw H locs ls hW hS (lv_sub hl [1, 0] rfl)
      · have hw := hw.2 c_3
        refine lv_iload_n hx hb dX5_ends_18 rfl (lv_at hl 1 rfl) ?_
        refine lv_iload_n hx hb dX5_ends_19 rfl (lv_at hl 2 rfl) ?_
        refine k_I (rn_S (As := [.int x1, .int x2]) (rest := []) ⟨hx, hb, hml, hown, hts⟩ hT hW hS hl (c_X5_at l E base M ad x1 x2 _ hw) cy_X5_at k_278 k_279 rfl rfl ⟨(Nat.le_of_ble_eq_true rfl), (Nat.le_of_ble_eq_true rfl)⟩ rfl rfl (Nat.le_of_ble_eq_true rfl) dX5_ends_20 ⟨(Nat.le_of_ble_eq_true rfl), (Nat.le_of_ble_eq_true rfl)⟩) hS kx_no (fun r_8 M_6 ad_7 H locs hP hW hS => ?_)
        obtain ⟨hw, rfl⟩ := hP
        refine lv_istore_n (lv' := [(3, .int r_8), (0, .ref (ad 5 0)), (1, .int x1), (2, .int x2)]) hx hb dX5_ends_23 rfl hl (by decide) rfl (fun ls hl => ?_)
        refine lv_aload_n hx hb dX5_ends_24 rfl (lv_at hl 1 rfl) ?_
        obtain ⟨g_9, hw⟩ := hw
        obtain ⟨g_10, hw⟩ := hw
        refine r_getR (κ2 := 40) (i2 := 0) hx hb hts hown hT.1 hW clX5 10 (by decide) (hts _ k_22) (fun _ h9 => h9) 40 rfl rfl g_9 g_10 dX5_ends_25 ?_
        refine lv_iload_n hx hb dX5_ends_28 rfl (lv_at hl 0 rfl) ?_
        obtain ⟨g_11, hw⟩ := hw
        obtain ⟨g_12, hw⟩ := hw
        refine r_iald hx hb hT.1 hW (by decide) rfl (fun _ => rfl) 72 rfl g_12 g_11 dX5_ends_29 ?_
        refine lv_bipush (v := 15) hx hb dX5_ends_30 (by decide) ?_
        refine lv_icmp_ne (tgt := 53) hx hb dX5_ends_32 (by decide) (fun c_13 => ?_) (fun c_13 => ?_)
        · have hw := hw.2 c_13
          exact L_53 k2 K2 k12 K12 M_6 x1 x2 r_8 hw H locs ls hW hS (lv_sub hl [1, 2, 3, 0] rfl)
        · have hw := hw.1 c_13
          refine lv_aload_n hx hb dX5_ends_35 rfl (lv_at hl 1 rfl) ?_
          obtain ⟨g_27, hw⟩ := hw
          refine r_getR (κ2 := 41) (i2 := 0) hx hb hts hown hT.1 hW clX5 11 (by decide) (hts _ k_23) (fun _ h9 => h9) 41 rfl rfl g_9 g_27 dX5_ends_36 ?_
          refine lv_iload_n hx hb dX5_ends_39 rfl (lv_at hl 0 rfl) ?_
          obtain ⟨g_28, hw⟩ := hw
          obtain ⟨g_29, hw⟩ := hw
          refine r_iald hx hb hT.1 hW (by decide) rfl (fun _ => rfl) 72 rfl g_29 g_28 dX5_ends_40 ?_
          refine lv_if_eq (tgt := 53) hx hb dX5_ends_41 (by decide) (fun c_30 => ?_) (fun c_30 => ?_)
          · have hw := hw.1 c_30
            exact L_53 k2 K2 k12 K12 M_6 x1 x2 r_8 hw H locs ls hW hS (lv_sub hl [1, 2, 3, 0] rfl)
          · have hw := hw.2 c_30
            refine lv_aload_n hx hb dX5_ends_44 rfl (lv_at hl 1 rfl) ?_
            refine lv_iload_n hx hb dX5_ends_45 rfl (lv_at hl 2 rfl) ?_
            refine lv_iload_n hx hb dX5_ends_46 rfl (lv_at hl 3 rfl) ?_
            refine k_V (rn_V (As := [.int x1, .int x2]) (rest := []) (κ := 5) (i := 0) ⟨hx, hb, hml, hown, hts⟩ hT hW hS hl (c_X5_drops l E base M_6 ad x1 x2 _ hw) cy_X5_drops k_292 k_293 k_294 g_9 (by decide) rfl rfl rfl rfl ⟨(Nat.le_of_ble_eq_true rfl), (Nat.le_of_ble_eq_true rfl)⟩ rfl rfl (Nat.le_of_ble_eq_true rfl) dX5_ends_47 ⟨(Nat.le_of_ble_eq_true rfl), (Nat.le_of_ble_eq_true rfl)⟩) hS kx_no (fun M_32 ad_33 H locs hP hW hS => ?_)
            obtain ⟨hw, rfl⟩ := hP
            refine lv_goto (tgt := 83) hx hb dX5_ends_50 (by decide) ?_
            exact L_83 k2 K2 k12 K12 M_32 x1 x2 hw H locs ls hW hS (lv_sub hl [1, 2, 3] rfl)
  have L_2 : ∀ (n : Nat) (M : Mem) (x1 : Int32), l_X5_ends_2 Q n M x1 → WL p l e rm_X5_ends s m args below meth c QQ E base 4 M ad 2 [(0, .ref (ad 5 0)), (1, .int x1)] [] 0 0 := by
    intro n
    induction n with
    | zero => intro M x1 hw; exact False.elim hw
    | succ n K2 =>
      intro M x1 hw H locs ls hW hS hl
      obtain ⟨k2, hk2⟩ : ∃ z, z = l_X5_ends_2 Q n := ⟨_, rfl⟩
      have hw : b_X5_ends_2 Q k2 M x1 := by rw [hk2]; exact hw
      rw [← hk2] at K2
      unfold b_X5_ends_2 at hw
      refine lv_iload_n hx hb dX5_ends_2 rfl (lv_at hl 1 rfl) ?_
      refine lv_aload_n hx hb dX5_ends_3 rfl (lv_at hl 0 rfl) ?_
      obtain ⟨g_1, hw⟩ := hw
      refine r_getI hx hb hts hown hT.1 hW clX5 3 (by decide) (hts _ k_88) (fun _ h9 => h9) rfl g_1 dX5_ends_4 ?_
      refine lv_icmp_ge (tgt := 95) hx hb dX5_ends_7 (by decide) (fun c_2 => ?_) (fun c_2 => ?_)
      · have hw := hw.1 c_2
        rw [← hQQ]
        exact e_V hx hb hr hlocks hW hS (Nat.le_of_ble_eq_true rfl) (Nat.le_of_ble_eq_true rfl) dX5_ends_95 ⟨hw, rfl⟩
      · have hw := hw.2 c_2
        refine lv_iconst (v := 0) hx hb dX5_ends_10 (by decide) ?_
        refine lv_istore_n (lv' := [(2, .int 0), (0, .ref (ad 5 0)), (1, .int x1)]) hx hb dX5_ends_11 rfl hl (by decide) rfl (fun ls hl => ?_)
        obtain ⟨n9, hw⟩ := hw
        exact L_12 k2 K2 n9 M x1 0 hw H locs ls hW hS (lv_sub hl [1, 2, 0] rfl)
  unfold w_X5_ends at hw
  obtain ⟨H, hH⟩ : ∃ z, z = s.heap := ⟨_, rfl⟩
  obtain ⟨locs, hlo⟩ : ∃ z : List Loc, z = [] := ⟨_, rfl⟩
  have hS : va_S (fun q : Nat => base ≤ q) s.heap H locs := by rw [hlo, hH]; exact hS
  have hW : Wd E base M ad H := by rw [hH]; exact hW
  rw [show W p l e rm_X5_ends s m args below meth c s.heap [] 0 0 QQ (F0 m 0 ls []) = W p l e rm_X5_ends s m args below meth c H locs 0 0 QQ (F0 m 0 ls []) by rw [hlo, hH]]
  refine lv_iconst (v := 0) hx hb dX5_ends_0 (by decide) ?_
  refine lv_istore_n (lv' := [(1, .int 0), (0, .ref (ad 5 0))]) hx hb dX5_ends_1 rfl hl (by decide) rfl (fun ls hl => ?_)
  obtain ⟨n9, hw⟩ := hw
  exact L_2 n9 M 0 hw H locs ls hW hS (lv_sub hl [1, 0] rfl)
def rm_X5_run : Room := { frames := 6, cells := 0, slots := 0, locals := 142 }
set_option maxHeartbeats 4000000 in
set_option maxRecDepth 100000 in
theorem c_X5_run (l : Launch) (E : GE) (base : Nat) (M : Mem) (ad : AD) (a1 : Int32) (Q : Int32 → Mem → Prop) (hw : w_X5_run M a1 Q) : Con l yX5_run cX5_run 4 (some .int) rm_X5_run 0 0 E base [.ref (ad 5 0), .int a1] M ad (QcI E base (fun r M1 ad1 => Q r M1 ∧ ad = ad1)) noX := by
  refine con_start (by decide) (Nat.le_of_ble_eq_true rfl) ?_
  intro p e s m args below meth c ls QQ hQQ CT hnx hW hl
  obtain ⟨⟨hx, hb, hml, hown, hts⟩, hr, hlocks, hnm, hT⟩ := CT
  have hS : va_S (fun q : Nat => base ≤ q) s.heap s.heap [] := va_S.rf
  have hl : lv_has ls 4 [(0, .ref (ad 5 0)), (1, .int a1)] := hl
  have L_45 : ∀ (n : Nat) (M : Mem) (x1 : Int32) (x2 : Int32) (x3 : Int32), l_X5_run_45 Q n M x1 x2 x3 → WL p l e rm_X5_run s m args below meth c QQ E base 4 M ad 45 [(0, .ref (ad 5 0)), (1, .int x1), (2, .int x2), (3, .int x3)] [] 0 0 := by
    intro n
    induction n with
    | zero => intro M x1 x2 x3 hw; exact False.elim hw
    | succ n K45 =>
      intro M x1 x2 x3 hw H locs ls hW hS hl
      obtain ⟨k45, hk45⟩ : ∃ z, z = l_X5_run_45 Q n := ⟨_, rfl⟩
      have hw : b_X5_run_45 Q k45 M x1 x2 x3 := by rw [hk45]; exact hw
      rw [← hk45] at K45
      unfold b_X5_run_45 at hw
      refine lv_iload_n hx hb dX5_run_45 rfl (lv_at hl 3 rfl) ?_
      refine lv_iload_n hx hb dX5_run_46 rfl (lv_at hl 1 rfl) ?_
      refine lv_icmp_ge (tgt := 85) hx hb dX5_run_47 (by decide) (fun c_8 => ?_) (fun c_8 => ?_)
      · have hw := hw.1 c_8
        refine lv_iload_n hx hb dX5_run_85 rfl (lv_at hl 2 rfl) ?_
        rw [← hQQ]
        exact e_I hx hb hr hlocks hW hS (Nat.le_of_ble_eq_true rfl) (Nat.le_of_ble_eq_true rfl) dX5_run_86 ⟨hw, rfl⟩
      · have hw := hw.2 c_8
        refine lv_aload_n hx hb dX5_run_50 rfl (lv_at hl 0 rfl) ?_
        obtain ⟨g_9, hw⟩ := hw
        refine k_V (rn_V (As := []) (rest := []) (κ := 5) (i := 0) ⟨hx, hb, hml, hown, hts⟩ hT hW hS hl (c_X5_looks l E base M ad _ hw) cy_X5_looks k_295 k_296 k_297 g_9 (by decide) rfl rfl rfl rfl ⟨(Nat.le_of_ble_eq_true rfl), (Nat.le_of_ble_eq_true rfl)⟩ rfl rfl (Nat.le_of_ble_eq_true rfl) dX5_run_51 ⟨(Nat.le_of_ble_eq_true rfl), (Nat.le_of_ble_eq_true rfl)⟩) hS kx_no (fun M_11 ad_12 H locs hP hW hS => ?_)
        obtain ⟨hw, rfl⟩ := hP
        refine lv_aload_n hx hb dX5_run_54 rfl (lv_at hl 0 rfl) ?_
        obtain ⟨g_14, hw⟩ := hw
        refine k_V (rn_V (As := []) (rest := []) (κ := 5) (i := 0) ⟨hx, hb, hml, hown, hts⟩ hT hW hS hl (c_X5_asks l E base M_11 ad _ hw) cy_X5_asks k_298 k_299 k_300 g_14 (by decide) rfl rfl rfl rfl ⟨(Nat.le_of_ble_eq_true rfl), (Nat.le_of_ble_eq_true rfl)⟩ rfl rfl (Nat.le_of_ble_eq_true rfl) dX5_run_55 ⟨(Nat.le_of_ble_eq_true rfl), (Nat.le_of_ble_eq_true rfl)⟩) hS kx_no (fun M_16 ad_17 H locs hP hW hS => ?_)
        obtain ⟨hw, rfl⟩ := hP
        refine lv_iload_n hx hb dX5_run_58 rfl (lv_at hl 2 rfl) ?_
        refine lv_aload_n hx hb dX5_run_59 rfl (lv_at hl 0 rfl) ?_
        obtain ⟨g_19, hw⟩ := hw
        refine k_I (rn_V (As := []) (rest := [.int x2]) (κ := 5) (i := 0) ⟨hx, hb, hml, hown, hts⟩ hT hW hS hl (c_X5_comes l E base M_16 ad _ hw) cy_X5_comes k_301 k_302 k_303 g_19 (by decide) rfl rfl rfl rfl ⟨(Nat.le_of_ble_eq_true rfl), (Nat.le_of_ble_eq_true rfl)⟩ rfl rfl (Nat.le_of_ble_eq_true rfl) dX5_run_60 ⟨(Nat.le_of_ble_eq_true rfl), (Nat.le_of_ble_eq_true rfl)⟩) hS kx_no (fun r_23 M_21 ad_22 H locs hP hW hS => ?_)
        obtain ⟨hw, rfl⟩ := hP
        refine lv_iadd hx hb dX5_run_63 ?_
        refine lv_topi (fun v_24 ev_24 => ?_)
        have hw := hw v_24 ev_24
        refine lv_istore_n (lv' := [(2, .int v_24), (0, .ref (ad 5 0)), (1, .int x1), (3, .int x3)]) hx hb dX5_run_64 rfl hl (by decide) rfl (fun ls hl => ?_)
        refine lv_aload_n hx hb dX5_run_65 rfl (lv_at hl 1 rfl) ?_
        obtain ⟨g_25, hw⟩ := hw
        refine k_V (rn_V (As := []) (rest := []) (κ := 5) (i := 0) ⟨hx, hb, hml, hown, hts⟩ hT hW hS hl (c_X5_ends l E base M_21 ad _ hw) cy_X5_ends k_304 k_305 k_306 g_25 (by decide) rfl rfl rfl rfl ⟨(Nat.le_of_ble_eq_true rfl), (Nat.le_of_ble_eq_true rfl)⟩ rfl rfl (Nat.le_of_ble_eq_true rfl) dX5_run_66 ⟨(Nat.le_of_ble_eq_true rfl), (Nat.le_of_ble_eq_true rfl)⟩) hS kx_no (fun M_27 ad_28 H locs hP hW hS => ?_)
        obtain ⟨hw, rfl⟩ := hP
        refine lv_aload_n hx hb dX5_run_69 rfl (lv_at hl 1 rfl) ?_
        refine lv_dup hx hb dX5_run_70 rfl ?_
        obtain ⟨g_30, hw⟩ := hw
        refine r_getI hx hb hts hown hT.1 hW clX5 1 (by decide) (hts _ k_271) (fun _ h9 => h9) rfl g_30 dX5_run_71 ?_
        refine lv_iconst (v := 1) hx hb dX5_run_74 (by decide) ?_
        refine lv_iadd hx hb dX5_run_75 ?_
        refine r_putI hx hb hts hown hT.1 hW hS clX5 1 (by decide) (hts _ k_271) (fun _ h9 => h9) rfl (by decide +kernel) rfl g_30 dX5_run_76 (fun M_31 H locs hM_31 hW hS => ?_)
        have hw := hw M_31 hM_31
        obtain ⟨v_32, ev_32⟩ : ∃ y : Int32, y = x3 + 1 := ⟨_, rfl⟩
        have hw := hw v_32 ev_32
        refine lv_iinc (v := v_32) (lv' := [(3, .int v_32), (2, .int v_24), (0, .ref (ad 5 0)), (1, .int x1)]) hx hb dX5_run_79 hl (k := 3) rfl (by rw [ev_32]; rfl) (by decide) rfl (fun ls hl => ?_)
        refine lv_goto (tgt := 45) hx hb dX5_run_82 (by decide) ?_
        exact K45 M_31 x1 v_24 v_32 hw H locs ls hW hS (lv_sub hl [2, 3, 1, 0] rfl)
  have L_33 : ∀ (M : Mem) (x1 : Int32) (s0 : Int32), b_X5_run_33 Q M x1 s0 → WL p l e rm_X5_run s m args below meth c QQ E base 4 M ad 33 [(0, .ref (ad 5 0)), (1, .int x1)] [.int s0, .ref (ad 5 0)] 0 0 := by
    intro M x1 s0 hw H locs ls hW hS hl
    unfold b_X5_run_33 at hw
    obtain ⟨g_2, hw⟩ := hw
    refine k_I (rn_V (As := [.int s0]) (rest := []) (κ := 5) (i := 0) ⟨hx, hb, hml, hown, hts⟩ hT hW hS hl (c_X5_fits l E base M ad s0 _ hw) cy_X5_fits k_89 k_90 k_91 g_2 (by decide) rfl rfl rfl rfl ⟨(Nat.le_of_ble_eq_true rfl), (Nat.le_of_ble_eq_true rfl)⟩ rfl rfl (Nat.le_of_ble_eq_true rfl) dX5_run_33 ⟨(Nat.le_of_ble_eq_true rfl), (Nat.le_of_ble_eq_true rfl)⟩) hS kx_no (fun r_6 M_4 ad_5 H locs hP hW hS => ?_)
    obtain ⟨hw, rfl⟩ := hP
    refine lv_if_ne (tgt := 41) hx hb dX5_run_36 (by decide) (fun c_7 => ?_) (fun c_7 => ?_)
    · have hw := hw.2 c_7
      refine lv_iconst (v := 0) hx hb dX5_run_41 (by decide) ?_
      refine lv_istore_n (lv' := [(2, .int 0), (0, .ref (ad 5 0)), (1, .int x1)]) hx hb dX5_run_42 rfl hl (by decide) rfl (fun ls hl => ?_)
      refine lv_iconst (v := 0) hx hb dX5_run_43 (by decide) ?_
      refine lv_istore_n (lv' := [(3, .int 0), (2, .int 0), (0, .ref (ad 5 0)), (1, .int x1)]) hx hb dX5_run_44 rfl hl (by decide) rfl (fun ls hl => ?_)
      obtain ⟨n9, hw⟩ := hw
      exact L_45 n9 M_4 x1 0 0 hw H locs ls hW hS (lv_sub hl [2, 3, 1, 0] rfl)
    · have hw := hw.1 c_7
      refine lv_iconst (v := 0) hx hb dX5_run_39 (by decide) ?_
      rw [← hQQ]
      exact e_I hx hb hr hlocks hW hS (Nat.le_of_ble_eq_true rfl) (Nat.le_of_ble_eq_true rfl) dX5_run_40 ⟨hw, rfl⟩
  have L_12 : ∀ (M : Mem) (x1 : Int32), b_X5_run_12 Q M x1 → WL p l e rm_X5_run s m args below meth c QQ E base 4 M ad 12 [(0, .ref (ad 5 0)), (1, .int x1)] [.ref (ad 5 0)] 0 0 := by
    intro M x1 hw H locs ls hW hS hl
    unfold b_X5_run_12 at hw
    refine lv_iconst (v := 1) hx hb dX5_run_12 (by decide) ?_
    refine lv_goto (tgt := 33) hx hb dX5_run_13 (by decide) ?_
    exact L_33 M x1 1 hw H locs ls hW hS (lv_sub hl [0, 1] rfl)
  unfold w_X5_run at hw
  obtain ⟨H, hH⟩ : ∃ z, z = s.heap := ⟨_, rfl⟩
  obtain ⟨locs, hlo⟩ : ∃ z : List Loc, z = [] := ⟨_, rfl⟩
  have hS : va_S (fun q : Nat => base ≤ q) s.heap H locs := by rw [hlo, hH]; exact hS
  have hW : Wd E base M ad H := by rw [hH]; exact hW
  rw [show W p l e rm_X5_run s m args below meth c s.heap [] 0 0 QQ (F0 m 0 ls []) = W p l e rm_X5_run s m args below meth c H locs 0 0 QQ (F0 m 0 ls []) by rw [hlo, hH]]
  refine lv_aload_n hx hb dX5_run_0 rfl (lv_at hl 0 rfl) ?_
  refine lv_iload_n hx hb dX5_run_1 rfl (lv_at hl 1 rfl) ?_
  refine lv_iconst (v := 1) hx hb dX5_run_2 (by decide) ?_
  refine lv_icmp_lt (tgt := 12) hx hb dX5_run_3 (by decide) (fun c_1 => ?_) (fun c_1 => ?_)
  · have hw := hw.1 c_1
    exact L_12 M a1 hw H locs ls hW hS (lv_sub hl [0, 1] rfl)
  · have hw := hw.2 c_1
    refine lv_iload_n hx hb dX5_run_6 rfl (lv_at hl 1 rfl) ?_
    refine lv_bipush (v := 20) hx hb dX5_run_7 (by decide) ?_
    refine lv_icmp_le (tgt := 16) hx hb dX5_run_9 (by decide) (fun c_33 => ?_) (fun c_33 => ?_)
    · have hw := hw.1 c_33
      refine lv_aload_n hx hb dX5_run_16 rfl (lv_at hl 0 rfl) ?_
      obtain ⟨g_34, hw⟩ := hw
      refine r_getI hx hb hts hown hT.1 hW clX5 1 (by decide) (hts _ k_271) (fun _ h9 => h9) rfl g_34 dX5_run_17 ?_
      refine lv_iload_n hx hb dX5_run_20 rfl (lv_at hl 1 rfl) ?_
      refine lv_iadd hx hb dX5_run_21 ?_
      refine lv_sipush (v := 200) hx hb dX5_run_22 (by decide) ?_
      refine lv_icmp_le (tgt := 32) hx hb dX5_run_25 (by decide) (fun c_35 => ?_) (fun c_35 => ?_)
      · have hw := hw.1 c_35
        refine lv_iconst (v := 0) hx hb dX5_run_32 (by decide) ?_
        exact L_33 M a1 0 hw H locs ls hW hS (lv_sub hl [0, 1] rfl)
      · have hw := hw.2 c_35
        refine lv_iconst (v := 2) hx hb dX5_run_28 (by decide) ?_
        refine lv_goto (tgt := 33) hx hb dX5_run_29 (by decide) ?_
        exact L_33 M a1 2 hw H locs ls hW hS (lv_sub hl [0, 1] rfl)
    · have hw := hw.2 c_33
      exact L_12 M a1 hw H locs ls hW hS (lv_sub hl [0, 1] rfl)
def rm_X4_rounds : Room := { frames := 0, cells := 0, slots := 0, locals := 0 }
set_option maxHeartbeats 4000000 in
set_option maxRecDepth 100000 in
theorem c_X4_rounds (l : Launch) (E : GE) (base : Nat) (M : Mem) (ad : AD)  (Q : Int32 → Mem → Prop) (hw : w_X4_rounds M  Q) : Con l yX4_rounds cX4_rounds 1 (some .int) rm_X4_rounds 0 0 E base [.ref (ad 4 0)] M ad (QcI E base (fun r M1 ad1 => Q r M1 ∧ ad = ad1)) noX := by
  refine con_start (by decide) (Nat.le_of_ble_eq_true rfl) ?_
  intro p e s m args below meth c ls QQ hQQ CT hnx hW hl
  obtain ⟨⟨hx, hb, hml, hown, hts⟩, hr, hlocks, hnm, hT⟩ := CT
  have hS : va_S (fun q : Nat => base ≤ q) s.heap s.heap [] := va_S.rf
  have hl : lv_has ls 1 [(0, .ref (ad 4 0))] := hl
  unfold w_X4_rounds at hw
  obtain ⟨H, hH⟩ : ∃ z, z = s.heap := ⟨_, rfl⟩
  obtain ⟨locs, hlo⟩ : ∃ z : List Loc, z = [] := ⟨_, rfl⟩
  have hS : va_S (fun q : Nat => base ≤ q) s.heap H locs := by rw [hlo, hH]; exact hS
  have hW : Wd E base M ad H := by rw [hH]; exact hW
  rw [show W p l e rm_X4_rounds s m args below meth c s.heap [] 0 0 QQ (F0 m 0 ls []) = W p l e rm_X4_rounds s m args below meth c H locs 0 0 QQ (F0 m 0 ls []) by rw [hlo, hH]]
  refine lv_aload_n hx hb dX4_rounds_0 rfl (lv_at hl 0 rfl) ?_
  obtain ⟨g_1, hw⟩ := hw
  refine r_getI hx hb hts hown hT.1 hW clX4 4 (by decide) (hts _ k_10) (fun _ h9 => h9) rfl g_1 dX4_rounds_1 ?_
  rw [← hQQ]
  exact e_I hx hb hr hlocks hW hS (Nat.le_of_ble_eq_true rfl) (Nat.le_of_ble_eq_true rfl) dX4_rounds_4 ⟨hw, rfl⟩
def rm_X5_rounds : Room := { frames := 0, cells := 0, slots := 0, locals := 0 }
set_option maxHeartbeats 4000000 in
set_option maxRecDepth 100000 in
theorem c_X5_rounds (l : Launch) (E : GE) (base : Nat) (M : Mem) (ad : AD)  (Q : Int32 → Mem → Prop) (hw : w_X5_rounds M  Q) : Con l yX5_rounds cX5_rounds 1 (some .int) rm_X5_rounds 0 0 E base [.ref (ad 5 0)] M ad (QcI E base (fun r M1 ad1 => Q r M1 ∧ ad = ad1)) noX := by
  refine con_start (by decide) (Nat.le_of_ble_eq_true rfl) ?_
  intro p e s m args below meth c ls QQ hQQ CT hnx hW hl
  obtain ⟨⟨hx, hb, hml, hown, hts⟩, hr, hlocks, hnm, hT⟩ := CT
  have hS : va_S (fun q : Nat => base ≤ q) s.heap s.heap [] := va_S.rf
  have hl : lv_has ls 1 [(0, .ref (ad 5 0))] := hl
  unfold w_X5_rounds at hw
  obtain ⟨H, hH⟩ : ∃ z, z = s.heap := ⟨_, rfl⟩
  obtain ⟨locs, hlo⟩ : ∃ z : List Loc, z = [] := ⟨_, rfl⟩
  have hS : va_S (fun q : Nat => base ≤ q) s.heap H locs := by rw [hlo, hH]; exact hS
  have hW : Wd E base M ad H := by rw [hH]; exact hW
  rw [show W p l e rm_X5_rounds s m args below meth c s.heap [] 0 0 QQ (F0 m 0 ls []) = W p l e rm_X5_rounds s m args below meth c H locs 0 0 QQ (F0 m 0 ls []) by rw [hlo, hH]]
  refine lv_aload_n hx hb dX5_rounds_0 rfl (lv_at hl 0 rfl) ?_
  refine lv_iconst (v := 0) hx hb dX5_rounds_1 (by decide) ?_
  obtain ⟨g_1, hw⟩ := hw
  refine r_putI hx hb hts hown hT.1 hW hS clX5 0 (by decide) (hts _ k_87) (fun _ h9 => h9) rfl (by decide +kernel) rfl g_1 dX5_rounds_2 (fun M_2 H locs hM_2 hW hS => ?_)
  have hw := hw M_2 hM_2
  refine lv_aload_n hx hb dX5_rounds_5 rfl (lv_at hl 0 rfl) ?_
  refine r_getI hx hb hts hown hT.1 hW clX5 1 (by decide) (hts _ k_271) (fun _ h9 => h9) rfl (by rw [hM_2]; exact g_1) dX5_rounds_6 ?_
  rw [← hQQ]
  exact e_I hx hb hr hlocks hW hS (Nat.le_of_ble_eq_true rfl) (Nat.le_of_ble_eq_true rfl) dX5_rounds_9 ⟨hw, rfl⟩
def rm_X4_peers : Room := { frames := 0, cells := 0, slots := 0, locals := 0 }
set_option maxHeartbeats 4000000 in
set_option maxRecDepth 100000 in
theorem c_X4_peers (l : Launch) (E : GE) (base : Nat) (M : Mem) (ad : AD)  (Q : Int32 → Mem → Prop) (hw : w_X4_peers M  Q) : Con l yX4_peers cX4_peers 3 (some .int) rm_X4_peers 0 0 E base [.ref (ad 4 0)] M ad (QcI E base (fun r M1 ad1 => Q r M1 ∧ ad = ad1)) noX := by
  refine con_start (by decide) (Nat.le_of_ble_eq_true rfl) ?_
  intro p e s m args below meth c ls QQ hQQ CT hnx hW hl
  obtain ⟨⟨hx, hb, hml, hown, hts⟩, hr, hlocks, hnm, hT⟩ := CT
  have hS : va_S (fun q : Nat => base ≤ q) s.heap s.heap [] := va_S.rf
  have hl : lv_has ls 3 [(0, .ref (ad 4 0))] := hl
  have L_28 : ∀ (k4 : Mem → Int32 → Int32 → Prop) (K4 : ∀ (M : Mem) (x1 : Int32) (x2 : Int32), k4 M x1 x2 → WL p l e rm_X4_peers s m args below meth c QQ E base 3 M ad 4 [(0, .ref (ad 4 0)), (1, .int x1), (2, .int x2)] [] 0 0) (M : Mem) (x1 : Int32) (x2 : Int32), b_X4_peers_28 k4 Q M x1 x2 → WL p l e rm_X4_peers s m args below meth c QQ E base 3 M ad 28 [(0, .ref (ad 4 0)), (1, .int x1), (2, .int x2)] [] 0 0 := by
    intro k4 K4 M x1 x2 hw H locs ls hW hS hl
    unfold b_X4_peers_28 at hw
    obtain ⟨v_8, ev_8⟩ : ∃ y : Int32, y = x2 + 1 := ⟨_, rfl⟩
    have hw := hw v_8 ev_8
    refine lv_iinc (v := v_8) (lv' := [(2, .int v_8), (0, .ref (ad 4 0)), (1, .int x1)]) hx hb dX4_peers_28 hl (k := 2) rfl (by rw [ev_8]; rfl) (by decide) rfl (fun ls hl => ?_)
    refine lv_goto (tgt := 4) hx hb dX4_peers_31 (by decide) ?_
    exact K4 M x1 v_8 hw H locs ls hW hS (lv_sub hl [1, 2, 0] rfl)
  have L_4 : ∀ (n : Nat) (M : Mem) (x1 : Int32) (x2 : Int32), l_X4_peers_4 Q n M x1 x2 → WL p l e rm_X4_peers s m args below meth c QQ E base 3 M ad 4 [(0, .ref (ad 4 0)), (1, .int x1), (2, .int x2)] [] 0 0 := by
    intro n
    induction n with
    | zero => intro M x1 x2 hw; exact False.elim hw
    | succ n K4 =>
      intro M x1 x2 hw H locs ls hW hS hl
      obtain ⟨k4, hk4⟩ : ∃ z, z = l_X4_peers_4 Q n := ⟨_, rfl⟩
      have hw : b_X4_peers_4 Q k4 M x1 x2 := by rw [hk4]; exact hw
      rw [← hk4] at K4
      unfold b_X4_peers_4 at hw
      refine lv_iload_n hx hb dX4_peers_4 rfl (lv_at hl 2 rfl) ?_
      refine lv_aload_n hx hb dX4_peers_5 rfl (lv_at hl 0 rfl) ?_
      obtain ⟨g_1, hw⟩ := hw
      obtain ⟨g_2, hw⟩ := hw
      refine r_getR (κ2 := 10) (i2 := 0) hx hb hts hown hT.1 hW clX4 0 (by decide) (hts _ k_5) (fun _ h9 => h9) 10 rfl rfl g_1 g_2 dX4_peers_6 ?_
      obtain ⟨g_3, hw⟩ := hw
      refine r_alen (v := 6) hx hb hT.1 hW (by decide) 3 rfl (kTy 3) rfl (by decide) g_3 dX4_peers_9 ?_
      refine lv_icmp_ge (tgt := 34) hx hb dX4_peers_10 (by decide) (fun c_4 => ?_) (fun c_4 => ?_)
      · have hw := hw.1 c_4
        refine lv_iload_n hx hb dX4_peers_34 rfl (lv_at hl 1 rfl) ?_
        rw [← hQQ]
        exact e_I hx hb hr hlocks hW hS (Nat.le_of_ble_eq_true rfl) (Nat.le_of_ble_eq_true rfl) dX4_peers_35 ⟨hw, rfl⟩
      · have hw := hw.2 c_4
        refine lv_aload_n hx hb dX4_peers_13 rfl (lv_at hl 0 rfl) ?_
        refine r_getR (κ2 := 10) (i2 := 0) hx hb hts hown hT.1 hW clX4 0 (by decide) (hts _ k_5) (fun _ h9 => h9) 10 rfl rfl g_1 g_2 dX4_peers_14 ?_
        refine lv_iload_n hx hb dX4_peers_17 rfl (lv_at hl 2 rfl) ?_
        obtain ⟨g_5, hw⟩ := hw
        refine r_aald hx hb hT.1 hW g_5 g_3 dX4_peers_18 (fun g_6 => ?_) (fun g_6 => ?_)
        · have hw := hw.1 g_6
          refine lv_ifnull hx hb dX4_peers_19 ?_
          refine lv_iload_n hx hb dX4_peers_22 rfl (lv_at hl 1 rfl) ?_
          refine lv_iconst (v := 1) hx hb dX4_peers_23 (by decide) ?_
          refine lv_iload_n hx hb dX4_peers_24 rfl (lv_at hl 2 rfl) ?_
          refine lv_ishl hx hb dX4_peers_25 ?_
          refine lv_ior hx hb dX4_peers_26 ?_
          refine lv_topi (fun v_7 ev_7 => ?_)
          have hw := hw v_7 ev_7
          refine lv_istore_n (lv' := [(1, .int v_7), (0, .ref (ad 4 0)), (2, .int x2)]) hx hb dX4_peers_27 rfl hl (by decide) rfl (fun ls hl => ?_)
          exact L_28 k4 K4 M v_7 x2 hw H locs ls hW hS (lv_sub hl [1, 0, 2] rfl)
        · have hw := hw.2 g_6
          refine lv_ifnullN (tgt := 28) hx hb dX4_peers_19 (by decide) ?_
          exact L_28 k4 K4 M x1 x2 hw H locs ls hW hS (lv_sub hl [0, 1, 2] rfl)
  unfold w_X4_peers at hw
  obtain ⟨H, hH⟩ : ∃ z, z = s.heap := ⟨_, rfl⟩
  obtain ⟨locs, hlo⟩ : ∃ z : List Loc, z = [] := ⟨_, rfl⟩
  have hS : va_S (fun q : Nat => base ≤ q) s.heap H locs := by rw [hlo, hH]; exact hS
  have hW : Wd E base M ad H := by rw [hH]; exact hW
  rw [show W p l e rm_X4_peers s m args below meth c s.heap [] 0 0 QQ (F0 m 0 ls []) = W p l e rm_X4_peers s m args below meth c H locs 0 0 QQ (F0 m 0 ls []) by rw [hlo, hH]]
  refine lv_iconst (v := 0) hx hb dX4_peers_0 (by decide) ?_
  refine lv_istore_n (lv' := [(1, .int 0), (0, .ref (ad 4 0))]) hx hb dX4_peers_1 rfl hl (by decide) rfl (fun ls hl => ?_)
  refine lv_iconst (v := 0) hx hb dX4_peers_2 (by decide) ?_
  refine lv_istore_n (lv' := [(2, .int 0), (1, .int 0), (0, .ref (ad 4 0))]) hx hb dX4_peers_3 rfl hl (by decide) rfl (fun ls hl => ?_)
  obtain ⟨n9, hw⟩ := hw
  exact L_4 n9 M 0 0 hw H locs ls hW hS (lv_sub hl [2, 1, 0] rfl)
def rm_X5_peers : Room := { frames := 0, cells := 0, slots := 0, locals := 0 }
set_option maxHeartbeats 4000000 in
set_option maxRecDepth 100000 in
theorem c_X5_peers (l : Launch) (E : GE) (base : Nat) (M : Mem) (ad : AD)  (Q : Int32 → Mem → Prop) (hw : w_X5_peers M  Q) : Con l yX5_peers cX5_peers 3 (some .int) rm_X5_peers 0 0 E base [.ref (ad 5 0)] M ad (QcI E base (fun r M1 ad1 => Q r M1 ∧ ad = ad1)) noX := by
  refine con_start (by decide) (Nat.le_of_ble_eq_true rfl) ?_
  intro p e s m args below meth c ls QQ hQQ CT hnx hW hl
  obtain ⟨⟨hx, hb, hml, hown, hts⟩, hr, hlocks, hnm, hT⟩ := CT
  have hS : va_S (fun q : Nat => base ≤ q) s.heap s.heap [] := va_S.rf
  have hl : lv_has ls 3 [(0, .ref (ad 5 0))] := hl
  have L_34 : ∀ (k9 : Mem → Int32 → Int32 → Prop) (K9 : ∀ (M : Mem) (x1 : Int32) (x2 : Int32), k9 M x1 x2 → WL p l e rm_X5_peers s m args below meth c QQ E base 3 M ad 9 [(0, .ref (ad 5 0)), (1, .int x1), (2, .int x2)] [] 0 0) (M : Mem) (x2 : Int32) (s0 : Int32) (s1 : Int32), b_X5_peers_34 k9 Q M x2 s0 s1 → WL p l e rm_X5_peers s m args below meth c QQ E base 3 M ad 34 [(0, .ref (ad 5 0)), (2, .int x2)] [.int s0, .int s1] 0 0 := by
    intro k9 K9 M x2 s0 s1 hw H locs ls hW hS hl
    unfold b_X5_peers_34 at hw
    refine lv_ior hx hb dX5_peers_34 ?_
    refine lv_topi (fun v_9 ev_9 => ?_)
    have hw := hw v_9 ev_9
    refine lv_istore_n (lv' := [(1, .int v_9), (0, .ref (ad 5 0)), (2, .int x2)]) hx hb dX5_peers_35 rfl hl (by decide) rfl (fun ls hl => ?_)
    obtain ⟨v_10, ev_10⟩ : ∃ y : Int32, y = x2 + 1 := ⟨_, rfl⟩
    have hw := hw v_10 ev_10
    refine lv_iinc (v := v_10) (lv' := [(2, .int v_10), (1, .int v_9), (0, .ref (ad 5 0))]) hx hb dX5_peers_36 hl (k := 2) rfl (by rw [ev_10]; rfl) (by decide) rfl (fun ls hl => ?_)
    refine lv_goto (tgt := 9) hx hb dX5_peers_39 (by decide) ?_
    exact K9 M v_9 v_10 hw H locs ls hW hS (lv_sub hl [2, 1, 0] rfl)
  have L_9 : ∀ (n : Nat) (M : Mem) (x1 : Int32) (x2 : Int32), l_X5_peers_9 Q n M x1 x2 → WL p l e rm_X5_peers s m args below meth c QQ E base 3 M ad 9 [(0, .ref (ad 5 0)), (1, .int x1), (2, .int x2)] [] 0 0 := by
    intro n
    induction n with
    | zero => intro M x1 x2 hw; exact False.elim hw
    | succ n K9 =>
      intro M x1 x2 hw H locs ls hW hS hl
      obtain ⟨k9, hk9⟩ : ∃ z, z = l_X5_peers_9 Q n := ⟨_, rfl⟩
      have hw : b_X5_peers_9 Q k9 M x1 x2 := by rw [hk9]; exact hw
      rw [← hk9] at K9
      unfold b_X5_peers_9 at hw
      refine lv_iload_n hx hb dX5_peers_9 rfl (lv_at hl 2 rfl) ?_
      refine lv_aload_n hx hb dX5_peers_10 rfl (lv_at hl 0 rfl) ?_
      obtain ⟨g_3, hw⟩ := hw
      refine r_getI hx hb hts hown hT.1 hW clX5 3 (by decide) (hts _ k_88) (fun _ h9 => h9) rfl g_3 dX5_peers_11 ?_
      refine lv_icmp_ge (tgt := 42) hx hb dX5_peers_14 (by decide) (fun c_4 => ?_) (fun c_4 => ?_)
      · have hw := hw.1 c_4
        refine lv_iload_n hx hb dX5_peers_42 rfl (lv_at hl 1 rfl) ?_
        rw [← hQQ]
        exact e_I hx hb hr hlocks hW hS (Nat.le_of_ble_eq_true rfl) (Nat.le_of_ble_eq_true rfl) dX5_peers_43 ⟨hw, rfl⟩
      · have hw := hw.2 c_4
        refine lv_iload_n hx hb dX5_peers_17 rfl (lv_at hl 1 rfl) ?_
        refine lv_aload_n hx hb dX5_peers_18 rfl (lv_at hl 0 rfl) ?_
        obtain ⟨g_5, hw⟩ := hw
        refine r_getR (κ2 := 34) (i2 := 0) hx hb hts hown hT.1 hW clX5 4 (by decide) (hts _ k_16) (fun _ h9 => h9) 34 rfl rfl g_3 g_5 dX5_peers_19 ?_
        refine lv_iload_n hx hb dX5_peers_22 rfl (lv_at hl 2 rfl) ?_
        obtain ⟨g_6, hw⟩ := hw
        obtain ⟨g_7, hw⟩ := hw
        refine r_zald hx hb hT.1 hW (by decide) rfl (fun _ => rfl) 6 rfl g_7 g_6 dX5_peers_23 ?_
        refine lv_if_eq (tgt := 33) hx hb dX5_peers_24 (by decide) (fun c_8 => ?_) (fun c_8 => ?_)
        · have hw := hw.1 c_8
          refine lv_iconst (v := 0) hx hb dX5_peers_33 (by decide) ?_
          exact L_34 k9 K9 M x2 0 x1 hw H locs ls hW hS (lv_sub hl [0, 2] rfl)
        · have hw := hw.2 c_8
          refine lv_iconst (v := 1) hx hb dX5_peers_27 (by decide) ?_
          refine lv_iload_n hx hb dX5_peers_28 rfl (lv_at hl 2 rfl) ?_
          refine lv_ishl hx hb dX5_peers_29 ?_
          refine lv_goto (tgt := 34) hx hb dX5_peers_30 (by decide) ?_
          exact L_34 k9 K9 M x2 (1 <<< (x2 &&& 31)) x1 hw H locs ls hW hS (lv_sub hl [0, 2] rfl)
  unfold w_X5_peers at hw
  obtain ⟨H, hH⟩ : ∃ z, z = s.heap := ⟨_, rfl⟩
  obtain ⟨locs, hlo⟩ : ∃ z : List Loc, z = [] := ⟨_, rfl⟩
  have hS : va_S (fun q : Nat => base ≤ q) s.heap H locs := by rw [hlo, hH]; exact hS
  have hW : Wd E base M ad H := by rw [hH]; exact hW
  rw [show W p l e rm_X5_peers s m args below meth c s.heap [] 0 0 QQ (F0 m 0 ls []) = W p l e rm_X5_peers s m args below meth c H locs 0 0 QQ (F0 m 0 ls []) by rw [hlo, hH]]
  refine lv_aload_n hx hb dX5_peers_0 rfl (lv_at hl 0 rfl) ?_
  refine lv_iconst (v := 0) hx hb dX5_peers_1 (by decide) ?_
  obtain ⟨g_1, hw⟩ := hw
  refine r_putI hx hb hts hown hT.1 hW hS clX5 0 (by decide) (hts _ k_87) (fun _ h9 => h9) rfl (by decide +kernel) rfl g_1 dX5_peers_2 (fun M_2 H locs hM_2 hW hS => ?_)
  have hw := hw M_2 hM_2
  refine lv_iconst (v := 0) hx hb dX5_peers_5 (by decide) ?_
  refine lv_istore_n (lv' := [(1, .int 0), (0, .ref (ad 5 0))]) hx hb dX5_peers_6 rfl hl (by decide) rfl (fun ls hl => ?_)
  refine lv_iconst (v := 0) hx hb dX5_peers_7 (by decide) ?_
  refine lv_istore_n (lv' := [(2, .int 0), (1, .int 0), (0, .ref (ad 5 0))]) hx hb dX5_peers_8 rfl hl (by decide) rfl (fun ls hl => ?_)
  obtain ⟨n9, hw⟩ := hw
  exact L_9 n9 M_2 0 0 hw H locs ls hW hS (lv_sub hl [2, 1, 0] rfl)
def rm_X4_holds : Room := { frames := 7, cells := 1, slots := 6, locals := 112 }
set_option maxHeartbeats 4000000 in
set_option maxRecDepth 100000 in
theorem c_X4_holds (l : Launch) (hlt : l.stackTraces = false) (E : GE) (base : Nat) (M : Mem) (ad : AD) (a1 : Int32) (Q : Int32 → Mem → Prop) (X : Nat → Mem → Prop) (hw : w_X4_holds M a1 Q X) : Con l yX4_holds cX4_holds 2 (some .int) rm_X4_holds 1 6 E base [.ref (ad 4 0), .int a1] M ad (QcI E base (fun r M1 ad1 => Q r M1 ∧ ad = ad1)) (fun k M1 ad1 => X k M1 ∧ ad = ad1) := by
  refine con_start (by decide) (Nat.le_of_ble_eq_true rfl) ?_
  intro p e s m args below meth c ls QQ hQQ CT hnx hW hl
  obtain ⟨⟨hx, hb, hml, hown, hts⟩, hr, hlocks, hnm, hT⟩ := CT
  have hS : va_S (fun q : Nat => base ≤ q) s.heap s.heap [] := va_S.rf
  have hl : lv_has ls 2 [(0, .ref (ad 4 0)), (1, .int a1)] := hl
  unfold w_X4_holds at hw
  obtain ⟨H, hH⟩ : ∃ z, z = s.heap := ⟨_, rfl⟩
  obtain ⟨locs, hlo⟩ : ∃ z : List Loc, z = [] := ⟨_, rfl⟩
  have hS : va_S (fun q : Nat => base ≤ q) s.heap H locs := by rw [hlo, hH]; exact hS
  have hW : Wd E base M ad H := by rw [hH]; exact hW
  rw [show W p l e rm_X4_holds s m args below meth c s.heap [] 0 0 QQ (F0 m 0 ls []) = W p l e rm_X4_holds s m args below meth c H locs 0 0 QQ (F0 m 0 ls []) by rw [hlo, hH]]
  refine lv_aload_n hx hb dX4_holds_0 rfl (lv_at hl 0 rfl) ?_
  refine lv_iload_n hx hb dX4_holds_1 rfl (lv_at hl 1 rfl) ?_
  obtain ⟨g_1, hw⟩ := hw
  refine k_Q (rn_V (As := [.int a1]) (rest := []) (κ := 4) (i := 0) ⟨hx, hb, hml, hown, hts⟩ hT hW hS hl (c_X4_known l hlt E base M ad a1 _ _ hw) cy_X4_known k_97 k_98 k_99 g_1 (by decide) rfl rfl rfl rfl ⟨(Nat.le_of_ble_eq_true rfl), (Nat.le_of_ble_eq_true rfl)⟩ rfl rfl (Nat.le_of_ble_eq_true rfl) dX4_holds_2 ⟨(Nat.le_of_ble_eq_true rfl), (Nat.le_of_ble_eq_true rfl)⟩) hS (by rw [← hQQ]; exact kx_out hnx hlocks (Nat.le_of_ble_eq_true rfl) (Nat.le_of_ble_eq_true rfl) (fun _ _ _ h9 => h9)) (fun M_3 ad_4 H locs hP hW hS => absurd hP (fun ⟨_, h9, _⟩ => by cases h9)) (fun r_5 M_3 ad_4 H locs hP hW hS => ?_)
  obtain ⟨_, h9, hw, rfl⟩ := hP
  cases h9
  obtain ⟨g_6, hw⟩ := hw
  obtain ⟨g_7, hw⟩ := hw
  refine r_getR (κ2 := 3) (i2 := r_5) hx hb hts hown hT.1 hW clX2 1 (by decide) (hts _ k_101) (fun _ h9 => h9) 3 rfl rfl g_6 g_7 dX4_holds_5 ?_
  obtain ⟨g_8, hw⟩ := hw
  refine r_getI hx hb hts hown hT.1 hW clX3 0 (by decide) (hts _ k_102) (fun _ h9 => h9) rfl g_8 dX4_holds_8 ?_
  rw [← hQQ]
  exact e_I hx hb hr hlocks hW hS (Nat.le_of_ble_eq_true rfl) (Nat.le_of_ble_eq_true rfl) dX4_holds_11 ⟨hw, rfl⟩
def rm_L_holds : Room := { frames := 8, cells := 1, slots := 6, locals := 133 }
set_option maxHeartbeats 4000000 in
set_option maxRecDepth 100000 in
theorem c_L_holds (l : Launch) (hlt : l.stackTraces = false) (E : GE) (base : Nat) (M : Mem) (ad : AD) (a1 : Int32) (Q : Int32 → Mem → Prop) (hw : w_L_holds M a1 Q) : ConW l yL_holds cL_holds 4 (some .int) [(0, 9, 12, 19)] rm_L_holds 1 6 E base [.ref (ad 4 0), .int a1, .ref (ad 60 0)] M ad (QcI E base (fun r M1 ad1 => Q r M1 ∧ ad = ad1)) noX := by
  refine conW_start (by decide) (Nat.le_of_ble_eq_true rfl) ?_
  intro p e s m args below meth c ls QQ hQQ CT htab hW hl
  obtain ⟨⟨hx, hb, hml, hown, hts⟩, hr, hlocks, hnm, hT⟩ := CT
  have hS : va_S (fun q : Nat => base ≤ q) s.heap s.heap [] := va_S.rf
  have hl : lv_has ls 4 [(0, .ref (ad 4 0)), (1, .int a1), (2, .ref (ad 60 0))] := hl
  unfold w_L_holds at hw
  obtain ⟨H, hH⟩ : ∃ z, z = s.heap := ⟨_, rfl⟩
  obtain ⟨locs, hlo⟩ : ∃ z : List Loc, z = [] := ⟨_, rfl⟩
  have hS : va_S (fun q : Nat => base ≤ q) s.heap H locs := by rw [hlo, hH]; exact hS
  have hW : Wd E base M ad H := by rw [hH]; exact hW
  rw [show W p l e rm_L_holds s m args below meth c s.heap [] 0 0 QQ (F0 m 0 ls []) = W p l e rm_L_holds s m args below meth c H locs 0 0 QQ (F0 m 0 ls []) by rw [hlo, hH]]
  refine lv_aload_n hx hb dL_holds_0 rfl (lv_at hl 2 rfl) ?_
  refine lv_iconst (v := 0) hx hb dL_holds_1 (by decide) ?_
  refine lv_aload_n hx hb dL_holds_2 rfl (lv_at hl 0 rfl) ?_
  refine lv_iload_n hx hb dL_holds_3 rfl (lv_at hl 1 rfl) ?_
  obtain ⟨g_1, hw⟩ := hw
  refine k_I (rn_V (As := [.int a1]) (rest := [.int 0, .ref (ad 60 0)]) (κ := 4) (i := 0) ⟨hx, hb, hml, hown, hts⟩ hT hW hS hl (c_X4_holds l hlt E base M ad a1 _ _ hw) cy_X4_holds k_307 k_308 k_309 g_1 (by decide) rfl rfl rfl rfl ⟨(Nat.le_of_ble_eq_true rfl), (Nat.le_of_ble_eq_true rfl)⟩ rfl rfl (Nat.le_of_ble_eq_true rfl) dL_holds_4 ⟨(Nat.le_of_ble_eq_true rfl), (Nat.le_of_ble_eq_true rfl)⟩) hS (fun k9 M_2 adx q9 ce9 H locs hP hW hS hce hcv hcl => ?_) (fun r_5 M_3 ad_4 H locs hP hW hS => ?_)
  · obtain ⟨hw, rfl⟩ := hP
    obtain ⟨rfl, hw⟩ := hw
    refine vx_catch (name := exN 1) (E := exN 1) hown [] ⟨0, 9, 12, 19⟩ [] (by rw [htab]; rfl) (fun z hz => nomatch hz) rfl (by decide) (hts _ k_111) (va_Nw.use rfl (hT.2.1 _ kn_3)) hce hcv hcl ?_
    refine lv_astore_n (lv' := [(3, .ref q9), (0, .ref (ad 4 0)), (1, .int a1), (2, .ref (ad 60 0))]) hx hb dL_holds_12 rfl hl (by decide) rfl (fun ls hl => ?_)
    refine lv_iconst (v := 1) hx hb dL_holds_13 (by decide) ?_
    rw [← hQQ]
    exact e_I hx hb hr hlocks hW hS (Nat.le_of_ble_eq_true rfl) (Nat.le_of_ble_eq_true rfl) dL_holds_14 ⟨hw, rfl⟩
  · obtain ⟨hw, rfl⟩ := hP
    refine lv_i2l hx hb dL_holds_7 rfl ?_
    obtain ⟨g_6, hw⟩ := hw
    obtain ⟨g_7, hw⟩ := hw
    refine r_last hx hb hT.1 hW hS (by decide) rfl (fun _ => rfl) 1 rfl g_7 g_6 dL_holds_8 (fun M_8 H locs hM_8 hW hS => ?_)
    have hw := hw M_8 hM_8
    refine lv_goto (tgt := 15) hx hb dL_holds_9 (by decide) ?_
    refine lv_iconst (v := 0) hx hb dL_holds_15 (by decide) ?_
    rw [← hQQ]
    exact e_I hx hb hr hlocks hW hS (Nat.le_of_ble_eq_true rfl) (Nat.le_of_ble_eq_true rfl) dL_holds_16 ⟨hw, rfl⟩
