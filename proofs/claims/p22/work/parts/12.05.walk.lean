def rm_X4_settle : Room := { frames := 3, cells := 0, slots := 0, locals := 62 }
set_option maxHeartbeats 4000000 in
set_option maxRecDepth 100000 in
theorem c_X4_settle (l : Launch) (E : GE) (base : Nat) (M : Mem) (ad : AD) (a0 : Nat) (Q : Mem → Prop) (hw : w_X4_settle M a0 Q) : Con l yX4_settle cX4_settle 2 none rm_X4_settle 0 0 E base [.ref (ad 2 a0)] M ad (QcV E base (fun M1 ad1 => Q M1 ∧ ad = ad1)) noX := by
  refine con_start (by decide) (Nat.le_of_ble_eq_true rfl) ?_
  intro p e s m args below meth c ls QQ hQQ CT hnx hW hl
  obtain ⟨⟨hx, hb, hml, hown, hts⟩, hr, hlocks, hnm, hT⟩ := CT
  have hS : va_S (fun q : Nat => base ≤ q) s.heap s.heap [] := va_S.rf
  have hl : lv_has ls 2 [(0, .ref (ad 2 a0))] := hl
  have L_40 : ∀ (k2 : Mem → Nat → Int32 → Prop) (K2 : ∀ (M : Mem) (x0 : Nat) (x1 : Int32), k2 M x0 x1 → WL p l e rm_X4_settle s m args below meth c QQ E base 2 M ad 2 [(0, .ref (ad 2 x0)), (1, .int x1)] [] 0 0) (M : Mem) (x0 : Nat) (x1 : Int32), b_X4_settle_40 k2 Q M x0 x1 → WL p l e rm_X4_settle s m args below meth c QQ E base 2 M ad 40 [(0, .ref (ad 2 x0)), (1, .int x1)] [] 0 0 := by
    intro k2 K2 M x0 x1 hw H locs ls hW hS hl
    unfold b_X4_settle_40 at hw
    obtain ⟨v_17, ev_17⟩ : ∃ y : Int32, y = x1 + 1 := ⟨_, rfl⟩
    have hw := hw v_17 ev_17
    refine lv_iinc (v := v_17) (lv' := [(1, .int v_17), (0, .ref (ad 2 x0))]) hx hb dX4_settle_40 hl (k := 1) rfl (by rw [ev_17]; rfl) (by decide) rfl (fun ls hl => ?_)
    refine lv_goto (tgt := 2) hx hb dX4_settle_43 (by decide) ?_
    exact K2 M x0 v_17 hw H locs ls hW hS (lv_sub hl [1, 0] rfl)
  have L_35 : ∀ (k2 : Mem → Nat → Int32 → Prop) (K2 : ∀ (M : Mem) (x0 : Nat) (x1 : Int32), k2 M x0 x1 → WL p l e rm_X4_settle s m args below meth c QQ E base 2 M ad 2 [(0, .ref (ad 2 x0)), (1, .int x1)] [] 0 0) (M : Mem) (x0 : Nat) (x1 : Int32), b_X4_settle_35 k2 Q M x0 x1 → WL p l e rm_X4_settle s m args below meth c QQ E base 2 M ad 35 [(0, .ref (ad 2 x0)), (1, .int x1)] [] 0 0 := by
    intro k2 K2 M x0 x1 hw H locs ls hW hS hl
    unfold b_X4_settle_35 at hw
    refine lv_aload_n hx hb dX4_settle_35 rfl (lv_at hl 0 rfl) ?_
    refine lv_iload_n hx hb dX4_settle_36 rfl (lv_at hl 1 rfl) ?_
    obtain ⟨g_26, hw⟩ := hw
    refine k_V (rn_V (As := [.int x1]) (rest := []) (κ := 2) (i := x0) ⟨hx, hb, hml, hown, hts⟩ hT hW hS hl (c_X2_forgetSenders l E base M ad x0 x1 _ hw) cy_X2_forgetSenders k_187 k_188 k_189 g_26 (by decide) rfl rfl rfl rfl ⟨(Nat.le_of_ble_eq_true rfl), (Nat.le_of_ble_eq_true rfl)⟩ rfl rfl (Nat.le_of_ble_eq_true rfl) dX4_settle_37 ⟨(Nat.le_of_ble_eq_true rfl), (Nat.le_of_ble_eq_true rfl)⟩) hS kx_no (fun M_28 ad_29 H locs hP hW hS => ?_)
    obtain ⟨hw, rfl⟩ := hP
    exact L_40 k2 K2 M_28 x0 x1 hw H locs ls hW hS (lv_sub hl [0, 1] rfl)
  have L_2 : ∀ (n : Nat) (M : Mem) (x0 : Nat) (x1 : Int32), l_X4_settle_2 Q n M x0 x1 → WL p l e rm_X4_settle s m args below meth c QQ E base 2 M ad 2 [(0, .ref (ad 2 x0)), (1, .int x1)] [] 0 0 := by
    intro n
    induction n with
    | zero => intro M x0 x1 hw; exact False.elim hw
    | succ n K2 =>
      intro M x0 x1 hw H locs ls hW hS hl
      obtain ⟨k2, hk2⟩ : ∃ z, z = l_X4_settle_2 Q n := ⟨_, rfl⟩
      have hw : b_X4_settle_2 Q k2 M x0 x1 := by rw [hk2]; exact hw
      rw [← hk2] at K2
      unfold b_X4_settle_2 at hw
      refine lv_iload_n hx hb dX4_settle_2 rfl (lv_at hl 1 rfl) ?_
      refine lv_bipush (v := 12) hx hb dX4_settle_3 (by decide) ?_
      refine lv_icmp_ge (tgt := 46) hx hb dX4_settle_5 (by decide) (fun c_1 => ?_) (fun c_1 => ?_)
      · have hw := hw.1 c_1
        refine lv_aload_n hx hb dX4_settle_46 rfl (lv_at hl 0 rfl) ?_
        obtain ⟨g_2, hw⟩ := hw
        obtain ⟨g_3, hw⟩ := hw
        refine r_getR (κ2 := 3) (i2 := x0) hx hb hts hown hT.1 hW clX2 1 (by decide) (hts _ k_15) (fun _ h9 => h9) 3 rfl rfl g_2 g_3 dX4_settle_47 ?_
        obtain ⟨g_4, hw⟩ := hw
        refine k_V (rn_V (As := []) (rest := []) (κ := 3) (i := x0) ⟨hx, hb, hml, hown, hts⟩ hT hW hS hl (c_X3_endPieces l E base M ad x0 _ hw) cy_X3_endPieces k_182 k_183 k_184 g_4 (by decide) rfl rfl rfl rfl ⟨(Nat.le_of_ble_eq_true rfl), (Nat.le_of_ble_eq_true rfl)⟩ rfl rfl (Nat.le_of_ble_eq_true rfl) dX4_settle_50 ⟨(Nat.le_of_ble_eq_true rfl), (Nat.le_of_ble_eq_true rfl)⟩) hS kx_no (fun M_6 ad_7 H locs hP hW hS => ?_)
        obtain ⟨hw, rfl⟩ := hP
        rw [← hQQ]
        exact e_V hx hb hr hlocks hW hS (Nat.le_of_ble_eq_true rfl) (Nat.le_of_ble_eq_true rfl) dX4_settle_53 ⟨hw, rfl⟩
      · have hw := hw.2 c_1
        refine lv_aload_n hx hb dX4_settle_8 rfl (lv_at hl 0 rfl) ?_
        obtain ⟨g_9, hw⟩ := hw
        obtain ⟨g_10, hw⟩ := hw
        refine r_getR (κ2 := 3) (i2 := x0) hx hb hts hown hT.1 hW clX2 1 (by decide) (hts _ k_15) (fun _ h9 => h9) 3 rfl rfl g_9 g_10 dX4_settle_9 ?_
        refine lv_iload_n hx hb dX4_settle_12 rfl (lv_at hl 1 rfl) ?_
        obtain ⟨g_11, hw⟩ := hw
        refine k_I (rn_V (As := [.int x1]) (rest := []) (κ := 3) (i := x0) ⟨hx, hb, hml, hown, hts⟩ hT hW hS hl (c_X3_isComplete l E base M ad x0 x1 _ hw) cy_X3_isComplete k_185 k_177 k_178 g_11 (by decide) rfl rfl rfl rfl ⟨(Nat.le_of_ble_eq_true rfl), (Nat.le_of_ble_eq_true rfl)⟩ rfl rfl (Nat.le_of_ble_eq_true rfl) dX4_settle_13 ⟨(Nat.le_of_ble_eq_true rfl), (Nat.le_of_ble_eq_true rfl)⟩) hS kx_no (fun r_15 M_13 ad_14 H locs hP hW hS => ?_)
        obtain ⟨hw, rfl⟩ := hP
        refine lv_if_eq (tgt := 40) hx hb dX4_settle_16 (by decide) (fun c_16 => ?_) (fun c_16 => ?_)
        · have hw := hw.1 c_16
          exact L_40 k2 K2 M_13 x0 x1 hw H locs ls hW hS (lv_sub hl [0, 1] rfl)
        · have hw := hw.2 c_16
          refine lv_aload_n hx hb dX4_settle_19 rfl (lv_at hl 0 rfl) ?_
          obtain ⟨g_18, hw⟩ := hw
          obtain ⟨g_19, hw⟩ := hw
          refine r_getR (κ2 := 3) (i2 := x0) hx hb hts hown hT.1 hW clX2 1 (by decide) (hts _ k_15) (fun _ h9 => h9) 3 rfl rfl g_18 g_19 dX4_settle_20 ?_
          refine lv_iload_n hx hb dX4_settle_23 rfl (lv_at hl 1 rfl) ?_
          obtain ⟨g_20, hw⟩ := hw
          refine k_I (rn_V (As := [.int x1]) (rest := []) (κ := 3) (i := x0) ⟨hx, hb, hml, hown, hts⟩ hT hW hS hl (c_X3_isSound l E base M_13 ad x0 x1 _ hw) cy_X3_isSound k_186 k_180 k_181 g_20 (by decide) rfl rfl rfl rfl ⟨(Nat.le_of_ble_eq_true rfl), (Nat.le_of_ble_eq_true rfl)⟩ rfl rfl (Nat.le_of_ble_eq_true rfl) dX4_settle_24 ⟨(Nat.le_of_ble_eq_true rfl), (Nat.le_of_ble_eq_true rfl)⟩) hS kx_no (fun r_24 M_22 ad_23 H locs hP hW hS => ?_)
          obtain ⟨hw, rfl⟩ := hP
          refine lv_if_ne (tgt := 35) hx hb dX4_settle_27 (by decide) (fun c_25 => ?_) (fun c_25 => ?_)
          · have hw := hw.2 c_25
            exact L_35 k2 K2 M_22 x0 x1 hw H locs ls hW hS (lv_sub hl [0, 1] rfl)
          · have hw := hw.1 c_25
            refine lv_aload_n hx hb dX4_settle_30 rfl (lv_at hl 0 rfl) ?_
            refine lv_iload_n hx hb dX4_settle_31 rfl (lv_at hl 1 rfl) ?_
            obtain ⟨g_31, hw⟩ := hw
            refine k_V (rn_V (As := [.int x1]) (rest := []) (κ := 2) (i := x0) ⟨hx, hb, hml, hown, hts⟩ hT hW hS hl (c_X2_blame l E base M_22 ad x0 x1 _ hw) cy_X2_blame k_190 k_191 k_192 g_31 (by decide) rfl rfl rfl rfl ⟨(Nat.le_of_ble_eq_true rfl), (Nat.le_of_ble_eq_true rfl)⟩ rfl rfl (Nat.le_of_ble_eq_true rfl) dX4_settle_32 ⟨(Nat.le_of_ble_eq_true rfl), (Nat.le_of_ble_eq_true rfl)⟩) hS kx_no (fun M_33 ad_34 H locs hP hW hS => ?_)
            obtain ⟨hw, rfl⟩ := hP
            exact L_35 k2 K2 M_33 x0 x1 hw H locs ls hW hS (lv_sub hl [0, 1] rfl)
  unfold w_X4_settle at hw
  obtain ⟨H, hH⟩ : ∃ z, z = s.heap := ⟨_, rfl⟩
  obtain ⟨locs, hlo⟩ : ∃ z : List Loc, z = [] := ⟨_, rfl⟩
  have hS : va_S (fun q : Nat => base ≤ q) s.heap H locs := by rw [hlo, hH]; exact hS
  have hW : Wd E base M ad H := by rw [hH]; exact hW
  rw [show W p l e rm_X4_settle s m args below meth c s.heap [] 0 0 QQ (F0 m 0 ls []) = W p l e rm_X4_settle s m args below meth c H locs 0 0 QQ (F0 m 0 ls []) by rw [hlo, hH]]
  refine lv_iconst (v := 0) hx hb dX4_settle_0 (by decide) ?_
  refine lv_istore_n (lv' := [(1, .int 0), (0, .ref (ad 2 a0))]) hx hb dX4_settle_1 rfl hl (by decide) rfl (fun ls hl => ?_)
  obtain ⟨n9, hw⟩ := hw
  exact L_2 n9 M a0 0 hw H locs ls hW hS (lv_sub hl [1, 0] rfl)
def rm_X4_settleAll : Room := { frames := 4, cells := 0, slots := 0, locals := 83 }
set_option maxHeartbeats 4000000 in
set_option maxRecDepth 100000 in
theorem c_X4_settleAll (l : Launch) (E : GE) (base : Nat) (M : Mem) (ad : AD)  (Q : Mem → Prop) (hw : w_X4_settleAll M  Q) : Con l yX4_settleAll cX4_settleAll 5 none rm_X4_settleAll 0 0 E base [.ref (ad 4 0)] M ad (QcV E base (fun M1 ad1 => Q M1 ∧ ad = ad1)) noX := by
  refine con_start (by decide) (Nat.le_of_ble_eq_true rfl) ?_
  intro p e s m args below meth c ls QQ hQQ CT hnx hW hl
  obtain ⟨⟨hx, hb, hml, hown, hts⟩, hr, hlocks, hnm, hT⟩ := CT
  have hS : va_S (fun q : Nat => base ≤ q) s.heap s.heap [] := va_S.rf
  have hl : lv_has ls 5 [(0, .ref (ad 4 0))] := hl
  have L_30 : ∀ (k10 : Mem → Int32 → Int32 → Prop) (K10 : ∀ (M : Mem) (x2 : Int32) (x3 : Int32), k10 M x2 x3 → WL p l e rm_X4_settleAll s m args below meth c QQ E base 5 M ad 10 [(1, .ref (ad 10 0)), (2, .int x2), (3, .int x3)] [] 0 0) (M : Mem) (x2 : Int32) (x3 : Int32), b_X4_settleAll_30 k10 Q M x2 x3 → WL p l e rm_X4_settleAll s m args below meth c QQ E base 5 M ad 30 [(1, .ref (ad 10 0)), (2, .int x2), (3, .int x3)] [] 0 0 := by
    intro k10 K10 M x2 x3 hw H locs ls hW hS hl
    unfold b_X4_settleAll_30 at hw
    obtain ⟨v_12, ev_12⟩ : ∃ y : Int32, y = x3 + 1 := ⟨_, rfl⟩
    have hw := hw v_12 ev_12
    refine lv_iinc (v := v_12) (lv' := [(3, .int v_12), (1, .ref (ad 10 0)), (2, .int x2)]) hx hb dX4_settleAll_30 hl (k := 2) rfl (by rw [ev_12]; rfl) (by decide) rfl (fun ls hl => ?_)
    refine lv_goto (tgt := 10) hx hb dX4_settleAll_33 (by decide) ?_
    exact K10 M x2 v_12 hw H locs ls hW hS (lv_sub hl [1, 2, 0] rfl)
  have L_10 : ∀ (n : Nat) (M : Mem) (x2 : Int32) (x3 : Int32), l_X4_settleAll_10 Q n M x2 x3 → WL p l e rm_X4_settleAll s m args below meth c QQ E base 5 M ad 10 [(1, .ref (ad 10 0)), (2, .int x2), (3, .int x3)] [] 0 0 := by
    intro n
    induction n with
    | zero => intro M x2 x3 hw; exact False.elim hw
    | succ n K10 =>
      intro M x2 x3 hw H locs ls hW hS hl
      obtain ⟨k10, hk10⟩ : ∃ z, z = l_X4_settleAll_10 Q n := ⟨_, rfl⟩
      have hw : b_X4_settleAll_10 Q k10 M x2 x3 := by rw [hk10]; exact hw
      rw [← hk10] at K10
      unfold b_X4_settleAll_10 at hw
      refine lv_iload_n hx hb dX4_settleAll_10 rfl (lv_at hl 2 rfl) ?_
      refine lv_iload_n hx hb dX4_settleAll_11 rfl (lv_at hl 1 rfl) ?_
      refine lv_icmp_ge (tgt := 36) hx hb dX4_settleAll_12 (by decide) (fun c_4 => ?_) (fun c_4 => ?_)
      · have hw := hw.1 c_4
        rw [← hQQ]
        exact e_V hx hb hr hlocks hW hS (Nat.le_of_ble_eq_true rfl) (Nat.le_of_ble_eq_true rfl) dX4_settleAll_36 ⟨hw, rfl⟩
      · have hw := hw.2 c_4
        refine lv_aload_n hx hb dX4_settleAll_15 rfl (lv_at hl 0 rfl) ?_
        refine lv_iload_n hx hb dX4_settleAll_16 rfl (lv_at hl 2 rfl) ?_
        obtain ⟨g_5, hw⟩ := hw
        obtain ⟨g_6, hw⟩ := hw
        refine r_aald hx hb hT.1 hW g_6 g_5 dX4_settleAll_17 (fun g_7 => ?_) (fun g_7 => ?_)
        · have hw := hw.1 g_7
          refine lv_astore (lv' := [(4, .ref (ad 2 x3.toNatClampNeg)), (1, .ref (ad 10 0)), (2, .int x2), (3, .int x3)]) hx hb dX4_settleAll_18 hl (by decide) rfl (fun ls hl => ?_)
          refine lv_aload hx hb dX4_settleAll_20 (lv_at hl 0 rfl) ?_
          refine lv_ifnull hx hb dX4_settleAll_22 ?_
          refine lv_aload hx hb dX4_settleAll_25 (lv_at hl 0 rfl) ?_
          refine k_V (rn_S (As := [.ref (ad 2 x3.toNatClampNeg)]) (rest := []) ⟨hx, hb, hml, hown, hts⟩ hT hW hS hl (c_X4_settle l E base M ad x3.toNatClampNeg _ hw) cy_X4_settle k_193 k_194 rfl rfl ⟨(Nat.le_of_ble_eq_true rfl), (Nat.le_of_ble_eq_true rfl)⟩ rfl rfl (Nat.le_of_ble_eq_true rfl) dX4_settleAll_27 ⟨(Nat.le_of_ble_eq_true rfl), (Nat.le_of_ble_eq_true rfl)⟩) hS kx_no (fun M_9 ad_10 H locs hP hW hS => ?_)
          obtain ⟨hw, rfl⟩ := hP
          exact L_30 k10 K10 M_9 x2 x3 hw H locs ls hW hS (lv_sub hl [1, 2, 3] rfl)
        · have hw := hw.2 g_7
          refine lv_astoreN (lv' := [(4, .null), (1, .ref (ad 10 0)), (2, .int x2), (3, .int x3)]) hx hb dX4_settleAll_18 hl (by decide) rfl (fun ls hl => ?_)
          refine lv_aloadN hx hb dX4_settleAll_20 (lv_at hl 0 rfl) ?_
          refine lv_ifnullN (tgt := 30) hx hb dX4_settleAll_22 (by decide) ?_
          exact L_30 k10 K10 M x2 x3 hw H locs ls hW hS (lv_sub hl [1, 2, 3] rfl)
  unfold w_X4_settleAll at hw
  obtain ⟨H, hH⟩ : ∃ z, z = s.heap := ⟨_, rfl⟩
  obtain ⟨locs, hlo⟩ : ∃ z : List Loc, z = [] := ⟨_, rfl⟩
  have hS : va_S (fun q : Nat => base ≤ q) s.heap H locs := by rw [hlo, hH]; exact hS
  have hW : Wd E base M ad H := by rw [hH]; exact hW
  rw [show W p l e rm_X4_settleAll s m args below meth c s.heap [] 0 0 QQ (F0 m 0 ls []) = W p l e rm_X4_settleAll s m args below meth c H locs 0 0 QQ (F0 m 0 ls []) by rw [hlo, hH]]
  refine lv_aload_n hx hb dX4_settleAll_0 rfl (lv_at hl 0 rfl) ?_
  obtain ⟨g_1, hw⟩ := hw
  obtain ⟨g_2, hw⟩ := hw
  refine r_getR (κ2 := 10) (i2 := 0) hx hb hts hown hT.1 hW clX4 0 (by decide) (hts _ k_5) (fun _ h9 => h9) 10 rfl rfl g_1 g_2 dX4_settleAll_1 ?_
  refine lv_astore_n (lv' := [(1, .ref (ad 10 0)), (0, .ref (ad 4 0))]) hx hb dX4_settleAll_4 rfl hl (by decide) rfl (fun ls hl => ?_)
  refine lv_aload_n hx hb dX4_settleAll_5 rfl (lv_at hl 0 rfl) ?_
  obtain ⟨g_3, hw⟩ := hw
  refine r_alen (v := 6) hx hb hT.1 hW (by decide) 3 rfl (kTy 3) rfl (by decide) g_3 dX4_settleAll_6 ?_
  refine lv_istore_n (lv' := [(2, .int 6), (1, .ref (ad 10 0)), (0, .ref (ad 4 0))]) hx hb dX4_settleAll_7 rfl hl (by decide) rfl (fun ls hl => ?_)
  refine lv_iconst (v := 0) hx hb dX4_settleAll_8 (by decide) ?_
  refine lv_istore_n (lv' := [(3, .int 0), (2, .int 6), (1, .ref (ad 10 0)), (0, .ref (ad 4 0))]) hx hb dX4_settleAll_9 rfl hl (by decide) rfl (fun ls hl => ?_)
  obtain ⟨n9, hw⟩ := hw
  exact L_10 n9 M 6 0 hw H locs ls hW hS (lv_sub hl [2, 1, 0] rfl)
def rm_X4_run : Room := { frames := 7, cells := 1, slots := 6, locals := 174 }
set_option maxHeartbeats 4000000 in
set_option maxRecDepth 100000 in
theorem c_X4_run (l : Launch) (hlt : l.stackTraces = false) (E : GE) (base : Nat) (M : Mem) (ad : AD) (a1 : Int32) (Q : Int32 → Mem → Prop) (X : Nat → Mem → Prop) (hw : w_X4_run M a1 Q X) : Con l yX4_run cX4_run 4 (some .int) rm_X4_run 1 6 E base [.ref (ad 4 0), .int a1] M ad (QcI E base (fun r M1 ad1 => Q r M1 ∧ ad = ad1)) (fun k M1 ad1 => X k M1 ∧ ad = ad1) := by
  refine con_start (by decide) (Nat.le_of_ble_eq_true rfl) ?_
  intro p e s m args below meth c ls QQ hQQ CT hnx hW hl
  obtain ⟨⟨hx, hb, hml, hown, hts⟩, hr, hlocks, hnm, hT⟩ := CT
  have hS : va_S (fun q : Nat => base ≤ q) s.heap s.heap [] := va_S.rf
  have hl : lv_has ls 4 [(0, .ref (ad 4 0)), (1, .int a1)] := hl
  have L_11 : ∀ (M : Mem) , b_X4_run_11 Q X M → WL p l e rm_X4_run s m args below meth c QQ E base 4 M ad 11 [] [] 0 0 := by
    intro M hw H locs ls hW hS hl
    unfold b_X4_run_11 at hw
    rw [← hQQ]
    exact e_throw 2 (own := RX4) (text := "no such number of rounds") hx hb hlt hown hts hT (by decide) k_90 k_91 at_X4_75_2 ag_X4_75_2 (by decide +kernel) dX4_run_11 dX4_run_14 dX4_run_15 dX4_run_17 dX4_run_20 hnx (Nat.le_of_ble_eq_true rfl) (Nat.le_of_ble_eq_true rfl) (Nat.le_of_ble_eq_true rfl) (Nat.le_of_ble_eq_true rfl) hlocks (by rw [hml]; exact hl.1) hW hS (Nat.le_of_ble_eq_true rfl) (Nat.le_of_ble_eq_true rfl) ⟨hw, rfl⟩
  have L_47 : ∀ (n : Nat) (M : Mem) (x1 : Int32) (x2 : Int32) (x3 : Int32), l_X4_run_47 Q X n M x1 x2 x3 → WL p l e rm_X4_run s m args below meth c QQ E base 4 M ad 47 [(0, .ref (ad 4 0)), (1, .int x1), (2, .int x2), (3, .int x3)] [] 0 0 := by
    intro n
    induction n with
    | zero => intro M x1 x2 x3 hw; exact False.elim hw
    | succ n K47 =>
      intro M x1 x2 x3 hw H locs ls hW hS hl
      obtain ⟨k47, hk47⟩ : ∃ z, z = l_X4_run_47 Q X n := ⟨_, rfl⟩
      have hw : b_X4_run_47 Q X k47 M x1 x2 x3 := by rw [hk47]; exact hw
      rw [← hk47] at K47
      unfold b_X4_run_47 at hw
      refine lv_iload_n hx hb dX4_run_47 rfl (lv_at hl 3 rfl) ?_
      refine lv_iload_n hx hb dX4_run_48 rfl (lv_at hl 1 rfl) ?_
      refine lv_icmp_ge (tgt := 87) hx hb dX4_run_49 (by decide) (fun c_5 => ?_) (fun c_5 => ?_)
      · have hw := hw.1 c_5
        refine lv_iload_n hx hb dX4_run_87 rfl (lv_at hl 2 rfl) ?_
        rw [← hQQ]
        exact e_I hx hb hr hlocks hW hS (Nat.le_of_ble_eq_true rfl) (Nat.le_of_ble_eq_true rfl) dX4_run_88 ⟨hw, rfl⟩
      · have hw := hw.2 c_5
        refine lv_aload_n hx hb dX4_run_52 rfl (lv_at hl 0 rfl) ?_
        obtain ⟨g_6, hw⟩ := hw
        refine k_V (rn_V (As := []) (rest := []) (κ := 4) (i := 0) ⟨hx, hb, hml, hown, hts⟩ hT hW hS hl (c_X4_begin l E base M ad _ hw) cy_X4_begin k_195 k_196 k_197 g_6 (by decide) rfl rfl rfl rfl ⟨(Nat.le_of_ble_eq_true rfl), (Nat.le_of_ble_eq_true rfl)⟩ rfl rfl (Nat.le_of_ble_eq_true rfl) dX4_run_53 ⟨(Nat.le_of_ble_eq_true rfl), (Nat.le_of_ble_eq_true rfl)⟩) hS kx_no (fun M_8 ad_9 H locs hP hW hS => ?_)
        obtain ⟨hw, rfl⟩ := hP
        refine lv_aload_n hx hb dX4_run_56 rfl (lv_at hl 0 rfl) ?_
        obtain ⟨g_11, hw⟩ := hw
        refine k_V (rn_V (As := []) (rest := []) (κ := 4) (i := 0) ⟨hx, hb, hml, hown, hts⟩ hT hW hS hl (c_X4_askAll l E base M_8 ad _ hw) cy_X4_askAll k_198 k_199 k_200 g_11 (by decide) rfl rfl rfl rfl ⟨(Nat.le_of_ble_eq_true rfl), (Nat.le_of_ble_eq_true rfl)⟩ rfl rfl (Nat.le_of_ble_eq_true rfl) dX4_run_57 ⟨(Nat.le_of_ble_eq_true rfl), (Nat.le_of_ble_eq_true rfl)⟩) hS kx_no (fun M_13 ad_14 H locs hP hW hS => ?_)
        obtain ⟨hw, rfl⟩ := hP
        refine lv_iload_n hx hb dX4_run_60 rfl (lv_at hl 2 rfl) ?_
        refine lv_aload_n hx hb dX4_run_61 rfl (lv_at hl 0 rfl) ?_
        obtain ⟨g_16, hw⟩ := hw
        refine k_I (rn_V (As := []) (rest := [.int x2]) (κ := 4) (i := 0) ⟨hx, hb, hml, hown, hts⟩ hT hW hS hl (c_X4_comeAll l E base M_13 ad _ hw) cy_X4_comeAll k_201 k_202 k_203 g_16 (by decide) rfl rfl rfl rfl ⟨(Nat.le_of_ble_eq_true rfl), (Nat.le_of_ble_eq_true rfl)⟩ rfl rfl (Nat.le_of_ble_eq_true rfl) dX4_run_62 ⟨(Nat.le_of_ble_eq_true rfl), (Nat.le_of_ble_eq_true rfl)⟩) hS kx_no (fun r_20 M_18 ad_19 H locs hP hW hS => ?_)
        obtain ⟨hw, rfl⟩ := hP
        refine lv_iadd hx hb dX4_run_65 ?_
        refine lv_topi (fun v_21 ev_21 => ?_)
        have hw := hw v_21 ev_21
        refine lv_istore_n (lv' := [(2, .int v_21), (0, .ref (ad 4 0)), (1, .int x1), (3, .int x3)]) hx hb dX4_run_66 rfl hl (by decide) rfl (fun ls hl => ?_)
        refine lv_aload_n hx hb dX4_run_67 rfl (lv_at hl 1 rfl) ?_
        obtain ⟨g_22, hw⟩ := hw
        refine k_V (rn_V (As := []) (rest := []) (κ := 4) (i := 0) ⟨hx, hb, hml, hown, hts⟩ hT hW hS hl (c_X4_settleAll l E base M_18 ad _ hw) cy_X4_settleAll k_204 k_205 k_206 g_22 (by decide) rfl rfl rfl rfl ⟨(Nat.le_of_ble_eq_true rfl), (Nat.le_of_ble_eq_true rfl)⟩ rfl rfl (Nat.le_of_ble_eq_true rfl) dX4_run_68 ⟨(Nat.le_of_ble_eq_true rfl), (Nat.le_of_ble_eq_true rfl)⟩) hS kx_no (fun M_24 ad_25 H locs hP hW hS => ?_)
        obtain ⟨hw, rfl⟩ := hP
        refine lv_aload_n hx hb dX4_run_71 rfl (lv_at hl 1 rfl) ?_
        refine lv_dup hx hb dX4_run_72 rfl ?_
        obtain ⟨g_27, hw⟩ := hw
        refine r_getI hx hb hts hown hT.1 hW clX4 4 (by decide) (hts _ k_10) (fun _ h9 => h9) rfl g_27 dX4_run_73 ?_
        refine lv_iconst (v := 1) hx hb dX4_run_76 (by decide) ?_
        refine lv_iadd hx hb dX4_run_77 ?_
        refine r_putI hx hb hts hown hT.1 hW hS clX4 4 (by decide) (hts _ k_10) (fun _ h9 => h9) rfl (by decide +kernel) rfl g_27 dX4_run_78 (fun M_28 H locs hM_28 hW hS => ?_)
        have hw := hw M_28 hM_28
        obtain ⟨v_29, ev_29⟩ : ∃ y : Int32, y = x3 + 1 := ⟨_, rfl⟩
        have hw := hw v_29 ev_29
        refine lv_iinc (v := v_29) (lv' := [(3, .int v_29), (2, .int v_21), (0, .ref (ad 4 0)), (1, .int x1)]) hx hb dX4_run_81 hl (k := 3) rfl (by rw [ev_29]; rfl) (by decide) rfl (fun ls hl => ?_)
        refine lv_goto (tgt := 47) hx hb dX4_run_84 (by decide) ?_
        exact K47 M_28 x1 v_21 v_29 hw H locs ls hW hS (lv_sub hl [2, 3, 1, 0] rfl)
  unfold w_X4_run at hw
  obtain ⟨H, hH⟩ : ∃ z, z = s.heap := ⟨_, rfl⟩
  obtain ⟨locs, hlo⟩ : ∃ z : List Loc, z = [] := ⟨_, rfl⟩
  have hS : va_S (fun q : Nat => base ≤ q) s.heap H locs := by rw [hlo, hH]; exact hS
  have hW : Wd E base M ad H := by rw [hH]; exact hW
  rw [show W p l e rm_X4_run s m args below meth c s.heap [] 0 0 QQ (F0 m 0 ls []) = W p l e rm_X4_run s m args below meth c H locs 0 0 QQ (F0 m 0 ls []) by rw [hlo, hH]]
  refine lv_iload_n hx hb dX4_run_0 rfl (lv_at hl 1 rfl) ?_
  refine lv_iconst (v := 1) hx hb dX4_run_1 (by decide) ?_
  refine lv_icmp_lt (tgt := 11) hx hb dX4_run_2 (by decide) (fun c_1 => ?_) (fun c_1 => ?_)
  · have hw := hw.1 c_1
    exact L_11 M hw H locs ls hW hS (lv_sub hl [] rfl)
  · have hw := hw.2 c_1
    refine lv_iload_n hx hb dX4_run_5 rfl (lv_at hl 1 rfl) ?_
    refine lv_bipush (v := 20) hx hb dX4_run_6 (by decide) ?_
    refine lv_icmp_le (tgt := 21) hx hb dX4_run_8 (by decide) (fun c_2 => ?_) (fun c_2 => ?_)
    · have hw := hw.1 c_2
      refine lv_aload_n hx hb dX4_run_21 rfl (lv_at hl 0 rfl) ?_
      obtain ⟨g_3, hw⟩ := hw
      refine r_getI hx hb hts hown hT.1 hW clX4 4 (by decide) (hts _ k_10) (fun _ h9 => h9) rfl g_3 dX4_run_22 ?_
      refine lv_iload_n hx hb dX4_run_25 rfl (lv_at hl 1 rfl) ?_
      refine lv_iadd hx hb dX4_run_26 ?_
      refine lv_sipush (v := 200) hx hb dX4_run_27 (by decide) ?_
      refine lv_icmp_le (tgt := 43) hx hb dX4_run_30 (by decide) (fun c_4 => ?_) (fun c_4 => ?_)
      · have hw := hw.1 c_4
        refine lv_iconst (v := 0) hx hb dX4_run_43 (by decide) ?_
        refine lv_istore_n (lv' := [(2, .int 0), (0, .ref (ad 4 0)), (1, .int a1)]) hx hb dX4_run_44 rfl hl (by decide) rfl (fun ls hl => ?_)
        refine lv_iconst (v := 0) hx hb dX4_run_45 (by decide) ?_
        refine lv_istore_n (lv' := [(3, .int 0), (2, .int 0), (0, .ref (ad 4 0)), (1, .int a1)]) hx hb dX4_run_46 rfl hl (by decide) rfl (fun ls hl => ?_)
        obtain ⟨n9, hw⟩ := hw
        exact L_47 n9 M a1 0 0 hw H locs ls hW hS (lv_sub hl [2, 3, 1, 0] rfl)
      · have hw := hw.2 c_4
        rw [← hQQ]
        exact e_throw 0 (own := RX4) (text := "too many rounds in all") hx hb hlt hown hts hT (by decide) k_74 k_75 at_X4_39_0 ag_X4_39_0 (by decide +kernel) dX4_run_33 dX4_run_36 dX4_run_37 dX4_run_39 dX4_run_42 hnx (Nat.le_of_ble_eq_true rfl) (Nat.le_of_ble_eq_true rfl) (Nat.le_of_ble_eq_true rfl) (Nat.le_of_ble_eq_true rfl) hlocks (by rw [hml]; exact hl.1) hW hS (Nat.le_of_ble_eq_true rfl) (Nat.le_of_ble_eq_true rfl) ⟨hw, rfl⟩
    · have hw := hw.2 c_2
      exact L_11 M hw H locs ls hW hS (lv_sub hl [] rfl)
def rm_X4_strikes : Room := { frames := 7, cells := 2, slots := 12, locals := 112 }
set_option maxHeartbeats 4000000 in
set_option maxRecDepth 100000 in
theorem c_X4_strikes (l : Launch) (hlt : l.stackTraces = false) (E : GE) (base : Nat) (M : Mem) (ad : AD) (a1 : Int32) (a2 : Int32) (Q : Int32 → Mem → Prop) (X : Nat → Mem → Prop) (hw : w_X4_strikes M a1 a2 Q X) : Con l yX4_strikes cX4_strikes 3 (some .int) rm_X4_strikes 2 12 E base [.ref (ad 4 0), .int a1, .int a2] M ad (QcI E base (fun r M1 ad1 => Q r M1 ∧ ad = ad1)) (fun k M1 ad1 => X k M1 ∧ ad = ad1) := by
  refine con_start (by decide) (Nat.le_of_ble_eq_true rfl) ?_
  intro p e s m args below meth c ls QQ hQQ CT hnx hW hl
  obtain ⟨⟨hx, hb, hml, hown, hts⟩, hr, hlocks, hnm, hT⟩ := CT
  have hS : va_S (fun q : Nat => base ≤ q) s.heap s.heap [] := va_S.rf
  have hl : lv_has ls 3 [(0, .ref (ad 4 0)), (1, .int a1), (2, .int a2)] := hl
  unfold w_X4_strikes at hw
  obtain ⟨H, hH⟩ : ∃ z, z = s.heap := ⟨_, rfl⟩
  obtain ⟨locs, hlo⟩ : ∃ z : List Loc, z = [] := ⟨_, rfl⟩
  have hS : va_S (fun q : Nat => base ≤ q) s.heap H locs := by rw [hlo, hH]; exact hS
  have hW : Wd E base M ad H := by rw [hH]; exact hW
  rw [show W p l e rm_X4_strikes s m args below meth c s.heap [] 0 0 QQ (F0 m 0 ls []) = W p l e rm_X4_strikes s m args below meth c H locs 0 0 QQ (F0 m 0 ls []) by rw [hlo, hH]]
  refine lv_aload_n hx hb dX4_strikes_0 rfl (lv_at hl 0 rfl) ?_
  refine lv_iload_n hx hb dX4_strikes_1 rfl (lv_at hl 1 rfl) ?_
  obtain ⟨g_1, hw⟩ := hw
  refine k_Q (rn_V (As := [.int a1]) (rest := []) (κ := 4) (i := 0) ⟨hx, hb, hml, hown, hts⟩ hT hW hS hl (c_X4_known l hlt E base M ad a1 _ _ hw) cy_X4_known k_79 k_80 k_81 g_1 (by decide) rfl rfl rfl rfl ⟨(Nat.le_of_ble_eq_true rfl), (Nat.le_of_ble_eq_true rfl)⟩ rfl rfl (Nat.le_of_ble_eq_true rfl) dX4_strikes_2 ⟨(Nat.le_of_ble_eq_true rfl), (Nat.le_of_ble_eq_true rfl)⟩) hS (by rw [← hQQ]; exact kx_out hnx hlocks (Nat.le_of_ble_eq_true rfl) (Nat.le_of_ble_eq_true rfl) (fun _ _ _ h9 => h9)) (fun M_3 ad_4 H locs hP hW hS => absurd hP (fun ⟨_, h9, _⟩ => by cases h9)) (fun r_5 M_3 ad_4 H locs hP hW hS => ?_)
  obtain ⟨_, h9, hw, rfl⟩ := hP
  cases h9
  obtain ⟨g_6, hw⟩ := hw
  obtain ⟨g_7, hw⟩ := hw
  refine r_getR (κ2 := 25) (i2 := r_5) hx hb hts hown hT.1 hW clX2 9 (by decide) (hts _ k_207) (fun _ h9 => h9) 25 rfl rfl g_6 g_7 dX4_strikes_5 ?_
  refine lv_aload_n hx hb dX4_strikes_8 rfl (lv_at hl 0 rfl) ?_
  refine lv_iload_n hx hb dX4_strikes_9 rfl (lv_at hl 2 rfl) ?_
  obtain ⟨g_8, hw⟩ := hw
  refine k_Q (rn_V (As := [.int a2]) (rest := [.ref (ad 25 r_5)]) (κ := 4) (i := 0) ⟨hx, hb, hml, hown, hts⟩ hT hW hS hl (c_X4_known l hlt E base M_3 ad a2 _ _ hw) cy_X4_known k_79 k_80 k_81 g_8 (by decide) rfl rfl rfl rfl ⟨(Nat.le_of_ble_eq_true rfl), (Nat.le_of_ble_eq_true rfl)⟩ rfl rfl (Nat.le_of_ble_eq_true rfl) dX4_strikes_10 ⟨(Nat.le_of_ble_eq_true rfl), (Nat.le_of_ble_eq_true rfl)⟩) hS (by rw [← hQQ]; exact kx_out hnx hlocks (Nat.le_of_ble_eq_true rfl) (Nat.le_of_ble_eq_true rfl) (fun _ _ _ h9 => h9)) (fun M_10 ad_11 H locs hP hW hS => absurd hP (fun ⟨_, h9, _⟩ => by cases h9)) (fun r_12 M_10 ad_11 H locs hP hW hS => ?_)
  obtain ⟨_, h9, hw, rfl⟩ := hP
  cases h9
  obtain ⟨g_13, hw⟩ := hw
  refine r_getI hx hb hts hown hT.1 hW clX2 0 (by decide) (hts _ k_83) (fun _ h9 => h9) rfl g_13 dX4_strikes_13 ?_
  obtain ⟨g_14, hw⟩ := hw
  obtain ⟨g_15, hw⟩ := hw
  refine r_iald hx hb hT.1 hW (by decide) rfl (fun _ => rfl) 6 rfl g_15 g_14 dX4_strikes_16 ?_
  rw [← hQQ]
  exact e_I hx hb hr hlocks hW hS (Nat.le_of_ble_eq_true rfl) (Nat.le_of_ble_eq_true rfl) dX4_strikes_17 ⟨hw, rfl⟩
def rm_L_runs : Room := { frames := 8, cells := 528, slots := 3168, locals := 197 }
set_option maxHeartbeats 4000000 in
set_option maxRecDepth 100000 in
theorem c_L_runs (l : Launch) (hlt : l.stackTraces = false) (E : GE) (base : Nat) (M : Mem) (ad : AD) (a2 : Int32) (Q : Int32 → Mem → Prop) (X : Nat → Mem → Prop) (hw : w_L_runs M a2 Q X) : Con l yL_runs cL_runs 10 (some .boolean) rm_L_runs 528 3168 E base [.ref (ad 4 0), .ref (ad 61 0), .int a2] M ad (QcI E base (fun r M1 ad1 => Q r M1 ∧ ad = ad1)) (fun k M1 ad1 => X k M1 ∧ ad = ad1) := by
  refine con_start (by decide) (Nat.le_of_ble_eq_true rfl) ?_
  intro p e s m args below meth c ls QQ hQQ CT hnx hW hl
  obtain ⟨⟨hx, hb, hml, hown, hts⟩, hr, hlocks, hnm, hT⟩ := CT
  have hS : va_S (fun q : Nat => base ≤ q) s.heap s.heap [] := va_S.rf
  have hl : lv_has ls 10 [(0, .ref (ad 4 0)), (1, .ref (ad 61 0)), (2, .int a2)] := hl
  have L_296 : ∀ (M : Mem) (it : Nat), b_L_runs_296 Q X M it → WL p l e rm_L_runs s m args below meth c QQ E base 10 M ad 296 [] [] (8 + 8 * it + 0) (48 + 48 * it + 0) := by
    intro M it hw H locs ls hW hS hl
    unfold b_L_runs_296 at hw
    obtain ⟨hit, hw⟩ := hw
    refine lv_iconst (v := 1) hx hb dL_runs_296 (by decide) ?_
    refine lv_goto (tgt := 301) hx hb dL_runs_297 (by decide) ?_
    rw [← hQQ]
    exact e_Z hx hb hr hlocks hW hS (by omega) (by omega) dL_runs_301 (by decide) ⟨hw, rfl⟩
  have L_255 : ∀ (k127 : Mem → Nat → Int32 → Int32 → Int32 → Int32 → Int32 → Prop) (K127 : ∀ (M : Mem) (it : Nat) (x2 : Int32) (x4 : Int32) (x5 : Int32) (x6 : Int32) (x7 : Int32), k127 M it x2 x4 x5 x6 x7 → WL p l e rm_L_runs s m args below meth c QQ E base 10 M ad 127 [(0, .ref (ad 4 0)), (1, .ref (ad 61 0)), (2, .int x2), (4, .int x4), (5, .int x5), (6, .int x6), (7, .int x7)] [] (8 + 8 * it + 0) (48 + 48 * it + 0)) (k138 : Mem → Nat → Int32 → Int32 → Int32 → Int32 → Int32 → Int32 → Prop) (K138 : ∀ (M : Mem) (it : Nat) (x2 : Int32) (x4 : Int32) (x5 : Int32) (x6 : Int32) (x7 : Int32) (x8 : Int32), k138 M it x2 x4 x5 x6 x7 x8 → WL p l e rm_L_runs s m args below meth c QQ E base 10 M ad 138 [(0, .ref (ad 4 0)), (1, .ref (ad 61 0)), (2, .int x2), (4, .int x4), (5, .int x5), (6, .int x6), (7, .int x7), (8, .int x8)] [] (8 + 8 * it + 0) (48 + 48 * it + 0)) (M : Mem) (it : Nat) (x2 : Int32) (x4 : Int32) (x5 : Int32) (x7 : Int32) (x8 : Int32) (s0 : Int32), b_L_runs_255 k127 k138 Q X M it x2 x4 x5 x7 x8 s0 → WL p l e rm_L_runs s m args below meth c QQ E base 10 M ad 255 [(0, .ref (ad 4 0)), (1, .ref (ad 61 0)), (2, .int x2), (4, .int x4), (5, .int x5), (7, .int x7), (8, .int x8)] [.int s0] (8 + 8 * it + 8) (48 + 48 * it + 48) := by
    intro k127 K127 k138 K138 M it x2 x4 x5 x7 x8 s0 hw H locs ls hW hS hl
    unfold b_L_runs_255 at hw
    obtain ⟨hit, hw⟩ := hw
    refine lv_istore (lv' := [(6, .int s0), (0, .ref (ad 4 0)), (1, .ref (ad 61 0)), (2, .int x2), (4, .int x4), (5, .int x5), (7, .int x7), (8, .int x8)]) hx hb dL_runs_255 hl (by decide) rfl (fun ls hl => ?_)
    obtain ⟨v_40, ev_40⟩ : ∃ y : Int32, y = x8 + 1 := ⟨_, rfl⟩
    have hw := hw v_40 ev_40
    refine lv_iinc (v := v_40) (lv' := [(8, .int v_40), (6, .int s0), (0, .ref (ad 4 0)), (1, .ref (ad 61 0)), (2, .int x2), (4, .int x4), (5, .int x5), (7, .int x7)]) hx hb dL_runs_257 hl (k := 7) rfl (by rw [ev_40]; rfl) (by decide) rfl (fun ls hl => ?_)
    refine lv_goto (tgt := 138) hx hb dL_runs_260 (by decide) ?_
    refine W.widen (k := 8 + 8 * (it + 1) + 0) (n := 48 + 48 * (it + 1) + 0) (by omega) (by omega) ?_
    exact K138 M (it + 1) x2 x4 x5 s0 x7 v_40 hw H locs ls hW hS (lv_sub hl [2, 3, 4, 5, 6, 1, 7, 0] rfl)
  have L_254 : ∀ (k127 : Mem → Nat → Int32 → Int32 → Int32 → Int32 → Int32 → Prop) (K127 : ∀ (M : Mem) (it : Nat) (x2 : Int32) (x4 : Int32) (x5 : Int32) (x6 : Int32) (x7 : Int32), k127 M it x2 x4 x5 x6 x7 → WL p l e rm_L_runs s m args below meth c QQ E base 10 M ad 127 [(0, .ref (ad 4 0)), (1, .ref (ad 61 0)), (2, .int x2), (4, .int x4), (5, .int x5), (6, .int x6), (7, .int x7)] [] (8 + 8 * it + 0) (48 + 48 * it + 0)) (k138 : Mem → Nat → Int32 → Int32 → Int32 → Int32 → Int32 → Int32 → Prop) (K138 : ∀ (M : Mem) (it : Nat) (x2 : Int32) (x4 : Int32) (x5 : Int32) (x6 : Int32) (x7 : Int32) (x8 : Int32), k138 M it x2 x4 x5 x6 x7 x8 → WL p l e rm_L_runs s m args below meth c QQ E base 10 M ad 138 [(0, .ref (ad 4 0)), (1, .ref (ad 61 0)), (2, .int x2), (4, .int x4), (5, .int x5), (6, .int x6), (7, .int x7), (8, .int x8)] [] (8 + 8 * it + 0) (48 + 48 * it + 0)) (M : Mem) (it : Nat) (x2 : Int32) (x4 : Int32) (x5 : Int32) (x7 : Int32) (x8 : Int32), b_L_runs_254 k127 k138 Q X M it x2 x4 x5 x7 x8 → WL p l e rm_L_runs s m args below meth c QQ E base 10 M ad 254 [(0, .ref (ad 4 0)), (1, .ref (ad 61 0)), (2, .int x2), (4, .int x4), (5, .int x5), (7, .int x7), (8, .int x8)] [] (8 + 8 * it + 8) (48 + 48 * it + 48) := by
    intro k127 K127 k138 K138 M it x2 x4 x5 x7 x8 hw H locs ls hW hS hl
    unfold b_L_runs_254 at hw
    obtain ⟨hit, hw⟩ := hw
    refine lv_iconst (v := 0) hx hb dL_runs_254 (by decide) ?_
    refine W.widen (k := 8 + 8 * it + 8) (n := 48 + 48 * it + 48) (by omega) (by omega) ?_
    exact L_255 k127 K127 k138 K138 M it x2 x4 x5 x7 x8 0 hw H locs ls hW hS (lv_sub hl [0, 1, 2, 3, 4, 5, 6] rfl)
  have L_250 : ∀ (k127 : Mem → Nat → Int32 → Int32 → Int32 → Int32 → Int32 → Prop) (K127 : ∀ (M : Mem) (it : Nat) (x2 : Int32) (x4 : Int32) (x5 : Int32) (x6 : Int32) (x7 : Int32), k127 M it x2 x4 x5 x6 x7 → WL p l e rm_L_runs s m args below meth c QQ E base 10 M ad 127 [(0, .ref (ad 4 0)), (1, .ref (ad 61 0)), (2, .int x2), (4, .int x4), (5, .int x5), (6, .int x6), (7, .int x7)] [] (8 + 8 * it + 0) (48 + 48 * it + 0)) (k138 : Mem → Nat → Int32 → Int32 → Int32 → Int32 → Int32 → Int32 → Prop) (K138 : ∀ (M : Mem) (it : Nat) (x2 : Int32) (x4 : Int32) (x5 : Int32) (x6 : Int32) (x7 : Int32) (x8 : Int32), k138 M it x2 x4 x5 x6 x7 x8 → WL p l e rm_L_runs s m args below meth c QQ E base 10 M ad 138 [(0, .ref (ad 4 0)), (1, .ref (ad 61 0)), (2, .int x2), (4, .int x4), (5, .int x5), (6, .int x6), (7, .int x7), (8, .int x8)] [] (8 + 8 * it + 0) (48 + 48 * it + 0)) (M : Mem) (it : Nat) (x2 : Int32) (x4 : Int32) (x5 : Int32) (x7 : Int32) (x8 : Int32), b_L_runs_250 k127 k138 Q X M it x2 x4 x5 x7 x8 → WL p l e rm_L_runs s m args below meth c QQ E base 10 M ad 250 [(0, .ref (ad 4 0)), (1, .ref (ad 61 0)), (2, .int x2), (4, .int x4), (5, .int x5), (7, .int x7), (8, .int x8)] [] (8 + 8 * it + 8) (48 + 48 * it + 48) := by
    intro k127 K127 k138 K138 M it x2 x4 x5 x7 x8 hw H locs ls hW hS hl
    unfold b_L_runs_250 at hw
    obtain ⟨hit, hw⟩ := hw
    refine lv_iconst (v := 1) hx hb dL_runs_250 (by decide) ?_
    refine lv_goto (tgt := 255) hx hb dL_runs_251 (by decide) ?_
    refine W.widen (k := 8 + 8 * it + 8) (n := 48 + 48 * it + 48) (by omega) (by omega) ?_
    exact L_255 k127 K127 k138 K138 M it x2 x4 x5 x7 x8 1 hw H locs ls hW hS (lv_sub hl [0, 1, 2, 3, 4, 5, 6] rfl)
  have L_196 : ∀ (k127 : Mem → Nat → Int32 → Int32 → Int32 → Int32 → Int32 → Prop) (K127 : ∀ (M : Mem) (it : Nat) (x2 : Int32) (x4 : Int32) (x5 : Int32) (x6 : Int32) (x7 : Int32), k127 M it x2 x4 x5 x6 x7 → WL p l e rm_L_runs s m args below meth c QQ E base 10 M ad 127 [(0, .ref (ad 4 0)), (1, .ref (ad 61 0)), (2, .int x2), (4, .int x4), (5, .int x5), (6, .int x6), (7, .int x7)] [] (8 + 8 * it + 0) (48 + 48 * it + 0)) (k138 : Mem → Nat → Int32 → Int32 → Int32 → Int32 → Int32 → Int32 → Prop) (K138 : ∀ (M : Mem) (it : Nat) (x2 : Int32) (x4 : Int32) (x5 : Int32) (x6 : Int32) (x7 : Int32) (x8 : Int32), k138 M it x2 x4 x5 x6 x7 x8 → WL p l e rm_L_runs s m args below meth c QQ E base 10 M ad 138 [(0, .ref (ad 4 0)), (1, .ref (ad 61 0)), (2, .int x2), (4, .int x4), (5, .int x5), (6, .int x6), (7, .int x7), (8, .int x8)] [] (8 + 8 * it + 0) (48 + 48 * it + 0)) (M : Mem) (it : Nat) (x2 : Int32) (x4 : Int32) (x6 : Int32) (x7 : Int32) (x8 : Int32) (x9 : Int32) (s0 : Int32) (s1 : Int32), b_L_runs_196 k127 k138 Q X M it x2 x4 x6 x7 x8 x9 s0 s1 → WL p l e rm_L_runs s m args below meth c QQ E base 10 M ad 196 [(0, .ref (ad 4 0)), (1, .ref (ad 61 0)), (2, .int x2), (4, .int x4), (6, .int x6), (7, .int x7), (8, .int x8), (9, .int x9)] [.int s0, .int s1] (8 + 8 * it + 2) (48 + 48 * it + 12) := by
    intro k127 K127 k138 K138 M it x2 x4 x6 x7 x8 x9 s0 s1 hw H locs ls hW hS hl
    unfold b_L_runs_196 at hw
    obtain ⟨hit, hw⟩ := hw
    refine lv_iadd hx hb dL_runs_196 ?_
    refine lv_topi (fun v_38 ev_38 => ?_)
    have hw := hw v_38 ev_38
    refine lv_istore (lv' := [(5, .int v_38), (0, .ref (ad 4 0)), (1, .ref (ad 61 0)), (2, .int x2), (4, .int x4), (6, .int x6), (7, .int x7), (8, .int x8), (9, .int x9)]) hx hb dL_runs_197 hl (by decide) rfl (fun ls hl => ?_)
    refine lv_iload hx hb dL_runs_199 (lv_at hl 5 rfl) ?_
    refine lv_if_eq (tgt := 254) hx hb dL_runs_201 (by decide) (fun c_39 => ?_) (fun c_39 => ?_)
    · have hw := hw.1 c_39
      refine W.widen (k := 8 + 8 * it + 8) (n := 48 + 48 * it + 48) (by omega) (by omega) ?_
      exact L_254 k127 K127 k138 K138 M it x2 x4 v_38 x7 x8 hw H locs ls hW hS (lv_sub hl [1, 2, 3, 4, 0, 6, 7] rfl)
    · have hw := hw.2 c_39
      refine lv_iload hx hb dL_runs_204 (lv_at hl 8 rfl) ?_
      refine lv_if_eq (tgt := 250) hx hb dL_runs_206 (by decide) (fun c_41 => ?_) (fun c_41 => ?_)
      · have hw := hw.1 c_41
        refine W.widen (k := 8 + 8 * it + 8) (n := 48 + 48 * it + 48) (by omega) (by omega) ?_
        exact L_250 k127 K127 k138 K138 M it x2 x4 v_38 x7 x8 hw H locs ls hW hS (lv_sub hl [1, 2, 3, 4, 0, 6, 7] rfl)
      · have hw := hw.2 c_41
        refine lv_aload_n hx hb dL_runs_209 rfl (lv_at hl 1 rfl) ?_
        refine lv_iload hx hb dL_runs_210 (lv_at hl 6 rfl) ?_
        refine lv_iload hx hb dL_runs_212 (lv_at hl 7 rfl) ?_
        obtain ⟨g_42, hw⟩ := hw
        refine k_I (rn_V (As := [.int x7, .int x8]) (rest := []) (κ := 4) (i := 0) ⟨hx, hb, hml, hown, hts⟩ hT hW hS hl (c_X4_got l hlt E base M ad x7 x8 _ _ hw) cy_X4_got k_214 k_215 k_216 g_42 (by decide) rfl rfl rfl rfl ⟨(Nat.le_of_ble_eq_true rfl), (Nat.le_of_ble_eq_true rfl)⟩ rfl rfl (Nat.le_of_ble_eq_true rfl) dL_runs_214 ⟨by show _ + 2 ≤ 528; omega, by show _ + 12 ≤ 3168; omega⟩) hS (by rw [← hQQ]; exact kx_out hnx hlocks (by omega) (by omega) (fun _ _ _ h9 => h9)) (fun r_46 M_44 ad_45 H locs hP hW hS => ?_)
        obtain ⟨hw, rfl⟩ := hP
        refine lv_iconst (v := 1) hx hb dL_runs_217 (by decide) ?_
        refine lv_icmp_gt (tgt := 254) hx hb dL_runs_218 (by decide) (fun c_47 => ?_) (fun c_47 => ?_)
        · have hw := hw.1 c_47
          refine W.widen (k := 8 + 8 * it + 8) (n := 48 + 48 * it + 48) (by omega) (by omega) ?_
          exact L_254 k127 K127 k138 K138 M_44 it x2 x4 v_38 x7 x8 hw H locs ls hW hS (lv_sub hl [1, 2, 3, 4, 0, 6, 7] rfl)
        · have hw := hw.2 c_47
          refine lv_iload hx hb dL_runs_221 (lv_at hl 6 rfl) ?_
          refine lv_iload hx hb dL_runs_223 (lv_at hl 7 rfl) ?_
          refine lv_icmp_ne (tgt := 250) hx hb dL_runs_225 (by decide) (fun c_48 => ?_) (fun c_48 => ?_)
          · have hw := hw.2 c_48
            refine W.widen (k := 8 + 8 * it + 8) (n := 48 + 48 * it + 48) (by omega) (by omega) ?_
            exact L_250 k127 K127 k138 K138 M_44 it x2 x4 v_38 x7 x8 hw H locs ls hW hS (lv_sub hl [1, 2, 3, 4, 0, 6, 7] rfl)
          · have hw := hw.1 c_48
            refine lv_aload_n hx hb dL_runs_228 rfl (lv_at hl 1 rfl) ?_
            refine lv_iload hx hb dL_runs_229 (lv_at hl 6 rfl) ?_
            refine lv_iload hx hb dL_runs_231 (lv_at hl 7 rfl) ?_
            obtain ⟨g_49, hw⟩ := hw
            refine k_I (rn_V (As := [.int x7, .int x8]) (rest := []) (κ := 4) (i := 0) ⟨hx, hb, hml, hown, hts⟩ hT hW hS hl (c_X4_got l hlt E base M_44 ad x7 x8 _ _ hw) cy_X4_got k_214 k_215 k_216 g_49 (by decide) rfl rfl rfl rfl ⟨(Nat.le_of_ble_eq_true rfl), (Nat.le_of_ble_eq_true rfl)⟩ rfl rfl (Nat.le_of_ble_eq_true rfl) dL_runs_233 ⟨by show _ + 2 ≤ 528; omega, by show _ + 12 ≤ 3168; omega⟩) hS (by rw [← hQQ]; exact kx_out hnx hlocks (by omega) (by omega) (fun _ _ _ h9 => h9)) (fun r_53 M_51 ad_52 H locs hP hW hS => ?_)
            obtain ⟨hw, rfl⟩ := hP
            refine lv_if_ne (tgt := 254) hx hb dL_runs_236 (by decide) (fun c_54 => ?_) (fun c_54 => ?_)
            · have hw := hw.2 c_54
              refine W.widen (k := 8 + 8 * it + 8) (n := 48 + 48 * it + 48) (by omega) (by omega) ?_
              exact L_254 k127 K127 k138 K138 M_51 it x2 x4 v_38 x7 x8 hw H locs ls hW hS (lv_sub hl [1, 2, 3, 4, 0, 6, 7] rfl)
            · have hw := hw.1 c_54
              refine lv_aload_n hx hb dL_runs_239 rfl (lv_at hl 1 rfl) ?_
              refine lv_iload hx hb dL_runs_240 (lv_at hl 6 rfl) ?_
              refine lv_iload hx hb dL_runs_242 (lv_at hl 7 rfl) ?_
              obtain ⟨g_55, hw⟩ := hw
              refine k_I (rn_V (As := [.int x7, .int x8]) (rest := []) (κ := 4) (i := 0) ⟨hx, hb, hml, hown, hts⟩ hT hW hS hl (c_X4_strikes l hlt E base M_51 ad x7 x8 _ _ hw) cy_X4_strikes k_217 k_218 k_219 g_55 (by decide) rfl rfl rfl rfl ⟨(Nat.le_of_ble_eq_true rfl), (Nat.le_of_ble_eq_true rfl)⟩ rfl rfl (Nat.le_of_ble_eq_true rfl) dL_runs_244 ⟨by show _ + 2 ≤ 528; omega, by show _ + 12 ≤ 3168; omega⟩) hS (by rw [← hQQ]; exact kx_out hnx hlocks (by omega) (by omega) (fun _ _ _ h9 => h9)) (fun r_59 M_57 ad_58 H locs hP hW hS => ?_)
              obtain ⟨hw, rfl⟩ := hP
              refine lv_if_ne (tgt := 254) hx hb dL_runs_247 (by decide) (fun c_60 => ?_) (fun c_60 => ?_)
              · have hw := hw.2 c_60
                refine W.widen (k := 8 + 8 * it + 8) (n := 48 + 48 * it + 48) (by omega) (by omega) ?_
                exact L_254 k127 K127 k138 K138 M_57 it x2 x4 v_38 x7 x8 hw H locs ls hW hS (lv_sub hl [1, 2, 3, 4, 0, 6, 7] rfl)
              · have hw := hw.1 c_60
                refine W.widen (k := 8 + 8 * it + 8) (n := 48 + 48 * it + 48) (by omega) (by omega) ?_
                exact L_250 k127 K127 k138 K138 M_57 it x2 x4 v_38 x7 x8 hw H locs ls hW hS (lv_sub hl [1, 2, 3, 4, 0, 6, 7] rfl)
  have L_175 : ∀ (k127 : Mem → Nat → Int32 → Int32 → Int32 → Int32 → Int32 → Prop) (K127 : ∀ (M : Mem) (it : Nat) (x2 : Int32) (x4 : Int32) (x5 : Int32) (x6 : Int32) (x7 : Int32), k127 M it x2 x4 x5 x6 x7 → WL p l e rm_L_runs s m args below meth c QQ E base 10 M ad 127 [(0, .ref (ad 4 0)), (1, .ref (ad 61 0)), (2, .int x2), (4, .int x4), (5, .int x5), (6, .int x6), (7, .int x7)] [] (8 + 8 * it + 0) (48 + 48 * it + 0)) (k138 : Mem → Nat → Int32 → Int32 → Int32 → Int32 → Int32 → Int32 → Prop) (K138 : ∀ (M : Mem) (it : Nat) (x2 : Int32) (x4 : Int32) (x5 : Int32) (x6 : Int32) (x7 : Int32) (x8 : Int32), k138 M it x2 x4 x5 x6 x7 x8 → WL p l e rm_L_runs s m args below meth c QQ E base 10 M ad 138 [(0, .ref (ad 4 0)), (1, .ref (ad 61 0)), (2, .int x2), (4, .int x4), (5, .int x5), (6, .int x6), (7, .int x7), (8, .int x8)] [] (8 + 8 * it + 0) (48 + 48 * it + 0)) (M : Mem) (it : Nat) (x2 : Int32) (x4 : Int32) (x5 : Int32) (x6 : Int32) (x7 : Int32) (x8 : Int32) (s0 : Int32), b_L_runs_175 k127 k138 Q X M it x2 x4 x5 x6 x7 x8 s0 → WL p l e rm_L_runs s m args below meth c QQ E base 10 M ad 175 [(0, .ref (ad 4 0)), (1, .ref (ad 61 0)), (2, .int x2), (4, .int x4), (5, .int x5), (6, .int x6), (7, .int x7), (8, .int x8)] [.int s0] (8 + 8 * it + 0) (48 + 48 * it + 0) := by
    intro k127 K127 k138 K138 M it x2 x4 x5 x6 x7 x8 s0 hw H locs ls hW hS hl
    unfold b_L_runs_175 at hw
    obtain ⟨hit, hw⟩ := hw
    refine lv_istore (lv' := [(9, .int s0), (0, .ref (ad 4 0)), (1, .ref (ad 61 0)), (2, .int x2), (4, .int x4), (5, .int x5), (6, .int x6), (7, .int x7), (8, .int x8)]) hx hb dL_runs_175 hl (by decide) rfl (fun ls hl => ?_)
    refine lv_iload hx hb dL_runs_177 (lv_at hl 5 rfl) ?_
    refine lv_iload hx hb dL_runs_179 (lv_at hl 0 rfl) ?_
    refine lv_if_eq (tgt := 195) hx hb dL_runs_181 (by decide) (fun c_37 => ?_) (fun c_37 => ?_)
    · have hw := hw.1 c_37
      refine lv_iconst (v := 0) hx hb dL_runs_195 (by decide) ?_
      refine W.widen (k := 8 + 8 * it + 2) (n := 48 + 48 * it + 12) (by omega) (by omega) ?_
      exact L_196 k127 K127 k138 K138 M it x2 x4 x6 x7 x8 s0 0 x5 hw H locs ls hW hS (lv_sub hl [1, 2, 3, 4, 6, 7, 8, 0] rfl)
    · have hw := hw.2 c_37
      refine lv_aload_n hx hb dL_runs_184 rfl (lv_at hl 1 rfl) ?_
      refine lv_iload hx hb dL_runs_185 (lv_at hl 7 rfl) ?_
      refine lv_iload hx hb dL_runs_187 (lv_at hl 8 rfl) ?_
      obtain ⟨g_61, hw⟩ := hw
      refine k_I (rn_V (As := [.int x7, .int x8]) (rest := [.int x5]) (κ := 4) (i := 0) ⟨hx, hb, hml, hown, hts⟩ hT hW hS hl (c_X4_got l hlt E base M ad x7 x8 _ _ hw) cy_X4_got k_214 k_215 k_216 g_61 (by decide) rfl rfl rfl rfl ⟨(Nat.le_of_ble_eq_true rfl), (Nat.le_of_ble_eq_true rfl)⟩ rfl rfl (Nat.le_of_ble_eq_true rfl) dL_runs_189 ⟨by show _ + 2 ≤ 528; omega, by show _ + 12 ≤ 3168; omega⟩) hS (by rw [← hQQ]; exact kx_out hnx hlocks (by omega) (by omega) (fun _ _ _ h9 => h9)) (fun r_65 M_63 ad_64 H locs hP hW hS => ?_)
      obtain ⟨hw, rfl⟩ := hP
      refine lv_goto (tgt := 196) hx hb dL_runs_192 (by decide) ?_
      refine W.widen (k := 8 + 8 * it + 2) (n := 48 + 48 * it + 12) (by omega) (by omega) ?_
      exact L_196 k127 K127 k138 K138 M_63 it x2 x4 x6 x7 x8 s0 r_65 x5 hw H locs ls hW hS (lv_sub hl [1, 2, 3, 4, 6, 7, 8, 0] rfl)
  have L_174 : ∀ (k127 : Mem → Nat → Int32 → Int32 → Int32 → Int32 → Int32 → Prop) (K127 : ∀ (M : Mem) (it : Nat) (x2 : Int32) (x4 : Int32) (x5 : Int32) (x6 : Int32) (x7 : Int32), k127 M it x2 x4 x5 x6 x7 → WL p l e rm_L_runs s m args below meth c QQ E base 10 M ad 127 [(0, .ref (ad 4 0)), (1, .ref (ad 61 0)), (2, .int x2), (4, .int x4), (5, .int x5), (6, .int x6), (7, .int x7)] [] (8 + 8 * it + 0) (48 + 48 * it + 0)) (k138 : Mem → Nat → Int32 → Int32 → Int32 → Int32 → Int32 → Int32 → Prop) (K138 : ∀ (M : Mem) (it : Nat) (x2 : Int32) (x4 : Int32) (x5 : Int32) (x6 : Int32) (x7 : Int32) (x8 : Int32), k138 M it x2 x4 x5 x6 x7 x8 → WL p l e rm_L_runs s m args below meth c QQ E base 10 M ad 138 [(0, .ref (ad 4 0)), (1, .ref (ad 61 0)), (2, .int x2), (4, .int x4), (5, .int x5), (6, .int x6), (7, .int x7), (8, .int x8)] [] (8 + 8 * it + 0) (48 + 48 * it + 0)) (M : Mem) (it : Nat) (x2 : Int32) (x4 : Int32) (x5 : Int32) (x6 : Int32) (x7 : Int32) (x8 : Int32), b_L_runs_174 k127 k138 Q X M it x2 x4 x5 x6 x7 x8 → WL p l e rm_L_runs s m args below meth c QQ E base 10 M ad 174 [(0, .ref (ad 4 0)), (1, .ref (ad 61 0)), (2, .int x2), (4, .int x4), (5, .int x5), (6, .int x6), (7, .int x7), (8, .int x8)] [] (8 + 8 * it + 0) (48 + 48 * it + 0) := by
    intro k127 K127 k138 K138 M it x2 x4 x5 x6 x7 x8 hw H locs ls hW hS hl
    unfold b_L_runs_174 at hw
    obtain ⟨hit, hw⟩ := hw
    refine lv_iconst (v := 0) hx hb dL_runs_174 (by decide) ?_
    refine W.widen (k := 8 + 8 * it + 0) (n := 48 + 48 * it + 0) (by omega) (by omega) ?_
    exact L_175 k127 K127 k138 K138 M it x2 x4 x5 x6 x7 x8 0 hw H locs ls hW hS (lv_sub hl [0, 1, 2, 3, 4, 5, 6, 7] rfl)
  have L_138 : ∀ (k127 : Mem → Nat → Int32 → Int32 → Int32 → Int32 → Int32 → Prop) (K127 : ∀ (M : Mem) (it : Nat) (x2 : Int32) (x4 : Int32) (x5 : Int32) (x6 : Int32) (x7 : Int32), k127 M it x2 x4 x5 x6 x7 → WL p l e rm_L_runs s m args below meth c QQ E base 10 M ad 127 [(0, .ref (ad 4 0)), (1, .ref (ad 61 0)), (2, .int x2), (4, .int x4), (5, .int x5), (6, .int x6), (7, .int x7)] [] (8 + 8 * it + 0) (48 + 48 * it + 0)) (n : Nat) (M : Mem) (it : Nat) (x2 : Int32) (x4 : Int32) (x5 : Int32) (x6 : Int32) (x7 : Int32) (x8 : Int32), l_L_runs_138 k127 Q X n M it x2 x4 x5 x6 x7 x8 → WL p l e rm_L_runs s m args below meth c QQ E base 10 M ad 138 [(0, .ref (ad 4 0)), (1, .ref (ad 61 0)), (2, .int x2), (4, .int x4), (5, .int x5), (6, .int x6), (7, .int x7), (8, .int x8)] [] (8 + 8 * it + 0) (48 + 48 * it + 0) := by
    intro k127 K127 n
    induction n with
    | zero => intro M it x2 x4 x5 x6 x7 x8 hw; exact False.elim hw
    | succ n K138 =>
      intro M it x2 x4 x5 x6 x7 x8 hw H locs ls hW hS hl
      obtain ⟨k138, hk138⟩ : ∃ z, z = l_L_runs_138 k127 Q X n := ⟨_, rfl⟩
      have hw : b_L_runs_138 k127 Q X k138 M it x2 x4 x5 x6 x7 x8 := by rw [hk138]; exact hw
      rw [← hk138] at K138
      unfold b_L_runs_138 at hw
      obtain ⟨hit, hw⟩ := hw
      refine lv_iload hx hb dL_runs_138 (lv_at hl 7 rfl) ?_
      refine lv_aload_n hx hb dL_runs_140 rfl (lv_at hl 1 rfl) ?_
      refine lv_iconst (v := 0) hx hb dL_runs_141 (by decide) ?_
      obtain ⟨g_31, hw⟩ := hw
      obtain ⟨g_32, hw⟩ := hw
      refine r_iald hx hb hT.1 hW (by decide) rfl (fun _ => rfl) 29 rfl g_32 g_31 dL_runs_142 ?_
      refine lv_icmp_ge (tgt := 263) hx hb dL_runs_143 (by decide) (fun c_33 => ?_) (fun c_33 => ?_)
      · have hw := hw.1 c_33
        obtain ⟨v_34, ev_34⟩ : ∃ y : Int32, y = x7 + 1 := ⟨_, rfl⟩
        have hw := hw v_34 ev_34
        refine lv_iinc (v := v_34) (lv' := [(7, .int v_34), (0, .ref (ad 4 0)), (1, .ref (ad 61 0)), (2, .int x2), (4, .int x4), (5, .int x5), (6, .int x6), (8, .int x8)]) hx hb dL_runs_263 hl (k := 6) rfl (by rw [ev_34]; rfl) (by decide) rfl (fun ls hl => ?_)
        refine lv_goto (tgt := 127) hx hb dL_runs_266 (by decide) ?_
        refine W.widen (k := 8 + 8 * (it + 1) + 0) (n := 48 + 48 * (it + 1) + 0) (by omega) (by omega) ?_
        exact K127 M (it + 1) x2 x4 x5 x6 v_34 hw H locs ls hW hS (lv_sub hl [1, 2, 3, 4, 5, 6, 0] rfl)
      · have hw := hw.2 c_33
        refine lv_aload_n hx hb dL_runs_146 rfl (lv_at hl 1 rfl) ?_
        refine lv_iconst (v := 1) hx hb dL_runs_147 (by decide) ?_
        obtain ⟨g_35, hw⟩ := hw
        refine r_iald hx hb hT.1 hW (by decide) rfl (fun _ => rfl) 29 rfl g_35 g_31 dL_runs_148 ?_
        refine lv_iload hx hb dL_runs_149 (lv_at hl 6 rfl) ?_
        refine lv_ishr hx hb dL_runs_151 ?_
        refine lv_iconst (v := 1) hx hb dL_runs_152 (by decide) ?_
        refine lv_iand hx hb dL_runs_153 ?_
        refine lv_iconst (v := 1) hx hb dL_runs_154 (by decide) ?_
        refine lv_icmp_ne (tgt := 174) hx hb dL_runs_155 (by decide) (fun c_36 => ?_) (fun c_36 => ?_)
        · have hw := hw.2 c_36
          refine W.widen (k := 8 + 8 * it + 0) (n := 48 + 48 * it + 0) (by omega) (by omega) ?_
          exact L_174 k127 K127 k138 K138 M it x2 x4 x5 x6 x7 x8 hw H locs ls hW hS (lv_sub hl [0, 1, 2, 3, 4, 5, 6, 7] rfl)
        · have hw := hw.1 c_36
          refine lv_aload_n hx hb dL_runs_158 rfl (lv_at hl 1 rfl) ?_
          refine lv_iconst (v := 1) hx hb dL_runs_159 (by decide) ?_
          obtain ⟨g_66, hw⟩ := hw
          refine r_iald hx hb hT.1 hW (by decide) rfl (fun _ => rfl) 29 rfl g_66 g_31 dL_runs_160 ?_
          refine lv_iload hx hb dL_runs_161 (lv_at hl 7 rfl) ?_
          refine lv_ishr hx hb dL_runs_163 ?_
          refine lv_iconst (v := 1) hx hb dL_runs_164 (by decide) ?_
          refine lv_iand hx hb dL_runs_165 ?_
          refine lv_iconst (v := 1) hx hb dL_runs_166 (by decide) ?_
          refine lv_icmp_ne (tgt := 174) hx hb dL_runs_167 (by decide) (fun c_67 => ?_) (fun c_67 => ?_)
          · have hw := hw.2 c_67
            refine W.widen (k := 8 + 8 * it + 0) (n := 48 + 48 * it + 0) (by omega) (by omega) ?_
            exact L_174 k127 K127 k138 K138 M it x2 x4 x5 x6 x7 x8 hw H locs ls hW hS (lv_sub hl [0, 1, 2, 3, 4, 5, 6, 7] rfl)
          · have hw := hw.1 c_67
            refine lv_iconst (v := 1) hx hb dL_runs_170 (by decide) ?_
            refine lv_goto (tgt := 175) hx hb dL_runs_171 (by decide) ?_
            refine W.widen (k := 8 + 8 * it + 0) (n := 48 + 48 * it + 0) (by omega) (by omega) ?_
            exact L_175 k127 K127 k138 K138 M it x2 x4 x5 x6 x7 x8 1 hw H locs ls hW hS (lv_sub hl [0, 1, 2, 3, 4, 5, 6, 7] rfl)
  have L_127 : ∀ (n : Nat) (M : Mem) (it : Nat) (x2 : Int32) (x4 : Int32) (x5 : Int32) (x6 : Int32) (x7 : Int32), l_L_runs_127 Q X n M it x2 x4 x5 x6 x7 → WL p l e rm_L_runs s m args below meth c QQ E base 10 M ad 127 [(0, .ref (ad 4 0)), (1, .ref (ad 61 0)), (2, .int x2), (4, .int x4), (5, .int x5), (6, .int x6), (7, .int x7)] [] (8 + 8 * it + 0) (48 + 48 * it + 0) := by
    intro n
    induction n with
    | zero => intro M it x2 x4 x5 x6 x7 hw; exact False.elim hw
    | succ n K127 =>
      intro M it x2 x4 x5 x6 x7 hw H locs ls hW hS hl
      obtain ⟨k127, hk127⟩ : ∃ z, z = l_L_runs_127 Q X n := ⟨_, rfl⟩
      have hw : b_L_runs_127 Q X k127 M it x2 x4 x5 x6 x7 := by rw [hk127]; exact hw
      rw [← hk127] at K127
      unfold b_L_runs_127 at hw
      obtain ⟨hit, hw⟩ := hw
      refine lv_iload hx hb dL_runs_127 (lv_at hl 6 rfl) ?_
      refine lv_aload_n hx hb dL_runs_129 rfl (lv_at hl 1 rfl) ?_
      refine lv_iconst (v := 0) hx hb dL_runs_130 (by decide) ?_
      obtain ⟨g_24, hw⟩ := hw
      obtain ⟨g_25, hw⟩ := hw
      refine r_iald hx hb hT.1 hW (by decide) rfl (fun _ => rfl) 29 rfl g_25 g_24 dL_runs_131 ?_
      refine lv_icmp_ge (tgt := 269) hx hb dL_runs_132 (by decide) (fun c_26 => ?_) (fun c_26 => ?_)
      · have hw := hw.1 c_26
        refine lv_iload hx hb dL_runs_269 (lv_at hl 5 rfl) ?_
        refine lv_if_eq (tgt := 300) hx hb dL_runs_271 (by decide) (fun c_27 => ?_) (fun c_27 => ?_)
        · have hw := hw.1 c_27
          refine lv_iconst (v := 0) hx hb dL_runs_300 (by decide) ?_
          rw [← hQQ]
          exact e_Z hx hb hr hlocks hW hS (by omega) (by omega) dL_runs_301 (by decide) ⟨hw, rfl⟩
        · have hw := hw.2 c_27
          refine lv_iload_n hx hb dL_runs_274 rfl (lv_at hl 2 rfl) ?_
          refine lv_iconst (v := 1) hx hb dL_runs_275 (by decide) ?_
          refine lv_icmp_ne (tgt := 289) hx hb dL_runs_276 (by decide) (fun c_28 => ?_) (fun c_28 => ?_)
          · have hw := hw.2 c_28
            refine lv_iload hx hb dL_runs_289 (lv_at hl 4 rfl) ?_
            refine lv_iload hx hb dL_runs_291 (lv_at hl 3 rfl) ?_
            refine lv_icmp_gt (tgt := 300) hx hb dL_runs_293 (by decide) (fun c_29 => ?_) (fun c_29 => ?_)
            · have hw := hw.1 c_29
              refine lv_iconst (v := 0) hx hb dL_runs_300 (by decide) ?_
              rw [← hQQ]
              exact e_Z hx hb hr hlocks hW hS (by omega) (by omega) dL_runs_301 (by decide) ⟨hw, rfl⟩
            · have hw := hw.2 c_29
              refine W.widen (k := 8 + 8 * it + 0) (n := 48 + 48 * it + 0) (by omega) (by omega) ?_
              exact L_296 M it hw H locs ls hW hS (lv_sub hl [] rfl)
          · have hw := hw.1 c_28
            refine lv_iload hx hb dL_runs_279 (lv_at hl 4 rfl) ?_
            refine lv_iload hx hb dL_runs_281 (lv_at hl 3 rfl) ?_
            refine lv_icmp_ne (tgt := 300) hx hb dL_runs_283 (by decide) (fun c_30 => ?_) (fun c_30 => ?_)
            · have hw := hw.2 c_30
              refine lv_iconst (v := 0) hx hb dL_runs_300 (by decide) ?_
              rw [← hQQ]
              exact e_Z hx hb hr hlocks hW hS (by omega) (by omega) dL_runs_301 (by decide) ⟨hw, rfl⟩
            · have hw := hw.1 c_30
              refine lv_goto (tgt := 296) hx hb dL_runs_286 (by decide) ?_
              refine W.widen (k := 8 + 8 * it + 0) (n := 48 + 48 * it + 0) (by omega) (by omega) ?_
              exact L_296 M it hw H locs ls hW hS (lv_sub hl [] rfl)
      · have hw := hw.2 c_26
        refine lv_iconst (v := 0) hx hb dL_runs_135 (by decide) ?_
        refine lv_istore (lv' := [(8, .int 0), (0, .ref (ad 4 0)), (1, .ref (ad 61 0)), (2, .int x2), (4, .int x4), (5, .int x5), (6, .int x6), (7, .int x7)]) hx hb dL_runs_136 hl (by decide) rfl (fun ls hl => ?_)
        refine W.widen (k := 8 + 8 * (it + 1) + 0) (n := 48 + 48 * (it + 1) + 0) (by omega) (by omega) ?_
        obtain ⟨n9, hw⟩ := hw
        exact L_138 k127 K127 n9 M (it + 1) x2 x4 x5 x6 x7 0 hw H locs ls hW hS (lv_sub hl [1, 2, 3, 4, 5, 6, 7, 0] rfl)
  have L_122 : ∀ (M : Mem) (it : Nat) (x2 : Int32) (x4 : Int32) (x5 : Int32) (s0 : Int32), b_L_runs_122 Q X M it x2 x4 x5 s0 → WL p l e rm_L_runs s m args below meth c QQ E base 10 M ad 122 [(0, .ref (ad 4 0)), (1, .ref (ad 61 0)), (2, .int x2), (4, .int x4), (5, .int x5)] [.int s0] (8 + 8 * it + 1) (48 + 48 * it + 6) := by
    intro M it x2 x4 x5 s0 hw H locs ls hW hS hl
    unfold b_L_runs_122 at hw
    obtain ⟨hit, hw⟩ := hw
    refine lv_istore (lv' := [(6, .int s0), (0, .ref (ad 4 0)), (1, .ref (ad 61 0)), (2, .int x2), (4, .int x4), (5, .int x5)]) hx hb dL_runs_122 hl (by decide) rfl (fun ls hl => ?_)
    refine lv_iconst (v := 0) hx hb dL_runs_124 (by decide) ?_
    refine lv_istore (lv' := [(7, .int 0), (6, .int s0), (0, .ref (ad 4 0)), (1, .ref (ad 61 0)), (2, .int x2), (4, .int x4), (5, .int x5)]) hx hb dL_runs_125 hl (by decide) rfl (fun ls hl => ?_)
    refine W.widen (k := 8 + 8 * (it + 1) + 0) (n := 48 + 48 * (it + 1) + 0) (by omega) (by omega) ?_
    obtain ⟨n9, hw⟩ := hw
    exact L_127 n9 M (it + 1) x2 x4 x5 s0 0 hw H locs ls hW hS (lv_sub hl [2, 3, 4, 5, 6, 1, 0] rfl)
  have L_121 : ∀ (M : Mem) (it : Nat) (x2 : Int32) (x4 : Int32) (x5 : Int32), b_L_runs_121 Q X M it x2 x4 x5 → WL p l e rm_L_runs s m args below meth c QQ E base 10 M ad 121 [(0, .ref (ad 4 0)), (1, .ref (ad 61 0)), (2, .int x2), (4, .int x4), (5, .int x5)] [] (8 + 8 * it + 1) (48 + 48 * it + 6) := by
    intro M it x2 x4 x5 hw H locs ls hW hS hl
    unfold b_L_runs_121 at hw
    obtain ⟨hit, hw⟩ := hw
    refine lv_iconst (v := 0) hx hb dL_runs_121 (by decide) ?_
    refine W.widen (k := 8 + 8 * it + 1) (n := 48 + 48 * it + 6) (by omega) (by omega) ?_
    exact L_122 M it x2 x4 x5 0 hw H locs ls hW hS (lv_sub hl [0, 1, 2, 3, 4] rfl)
  have L_117 : ∀ (M : Mem) (it : Nat) (x2 : Int32) (x4 : Int32) (x5 : Int32), b_L_runs_117 Q X M it x2 x4 x5 → WL p l e rm_L_runs s m args below meth c QQ E base 10 M ad 117 [(0, .ref (ad 4 0)), (1, .ref (ad 61 0)), (2, .int x2), (4, .int x4), (5, .int x5)] [] (8 + 8 * it + 1) (48 + 48 * it + 6) := by
    intro M it x2 x4 x5 hw H locs ls hW hS hl
    unfold b_L_runs_117 at hw
    obtain ⟨hit, hw⟩ := hw
    refine lv_iconst (v := 1) hx hb dL_runs_117 (by decide) ?_
    refine lv_goto (tgt := 122) hx hb dL_runs_118 (by decide) ?_
    refine W.widen (k := 8 + 8 * it + 1) (n := 48 + 48 * it + 6) (by omega) (by omega) ?_
    exact L_122 M it x2 x4 x5 1 hw H locs ls hW hS (lv_sub hl [0, 1, 2, 3, 4] rfl)
  have L_66 : ∀ (k32 : Mem → Nat → Int32 → Int32 → Int32 → Prop) (K32 : ∀ (M : Mem) (it : Nat) (x2 : Int32) (x3 : Int32) (x4 : Int32), k32 M it x2 x3 x4 → WL p l e rm_L_runs s m args below meth c QQ E base 10 M ad 32 [(0, .ref (ad 4 0)), (1, .ref (ad 61 0)), (2, .int x2), (3, .int x3), (4, .int x4)] [] (8 + 8 * it + 0) (48 + 48 * it + 0)) (M : Mem) (it : Nat) (x2 : Int32) (x4 : Int32) (s0 : Int32) (s1 : Int32), b_L_runs_66 k32 Q X M it x2 x4 s0 s1 → WL p l e rm_L_runs s m args below meth c QQ E base 10 M ad 66 [(0, .ref (ad 4 0)), (1, .ref (ad 61 0)), (2, .int x2), (4, .int x4)] [.int s0, .int s1] (8 + 8 * it + 1) (48 + 48 * it + 6) := by
    intro k32 K32 M it x2 x4 s0 s1 hw H locs ls hW hS hl
    unfold b_L_runs_66 at hw
    obtain ⟨hit, hw⟩ := hw
    refine lv_iadd hx hb dL_runs_66 ?_
    refine lv_topi (fun v_73 ev_73 => ?_)
    have hw := hw v_73 ev_73
    refine lv_istore_n (lv' := [(3, .int v_73), (0, .ref (ad 4 0)), (1, .ref (ad 61 0)), (2, .int x2), (4, .int x4)]) hx hb dL_runs_67 rfl hl (by decide) rfl (fun ls hl => ?_)
    obtain ⟨v_74, ev_74⟩ : ∃ y : Int32, y = x4 + 1 := ⟨_, rfl⟩
    have hw := hw v_74 ev_74
    refine lv_iinc (v := v_74) (lv' := [(4, .int v_74), (3, .int v_73), (0, .ref (ad 4 0)), (1, .ref (ad 61 0)), (2, .int x2)]) hx hb dL_runs_68 hl (k := 4) rfl (by rw [ev_74]; rfl) (by decide) rfl (fun ls hl => ?_)
    refine lv_goto (tgt := 32) hx hb dL_runs_71 (by decide) ?_
    refine W.widen (k := 8 + 8 * (it + 1) + 0) (n := 48 + 48 * (it + 1) + 0) (by omega) (by omega) ?_
    exact K32 M (it + 1) x2 v_73 v_74 hw H locs ls hW hS (lv_sub hl [2, 3, 4, 1, 0] rfl)
  have L_32 : ∀ (n : Nat) (M : Mem) (it : Nat) (x2 : Int32) (x3 : Int32) (x4 : Int32), l_L_runs_32 Q X n M it x2 x3 x4 → WL p l e rm_L_runs s m args below meth c QQ E base 10 M ad 32 [(0, .ref (ad 4 0)), (1, .ref (ad 61 0)), (2, .int x2), (3, .int x3), (4, .int x4)] [] (8 + 8 * it + 0) (48 + 48 * it + 0) := by
    intro n
    induction n with
    | zero => intro M it x2 x3 x4 hw; exact False.elim hw
    | succ n K32 =>
      intro M it x2 x3 x4 hw H locs ls hW hS hl
      obtain ⟨k32, hk32⟩ : ∃ z, z = l_L_runs_32 Q X n := ⟨_, rfl⟩
      have hw : b_L_runs_32 Q X k32 M it x2 x3 x4 := by rw [hk32]; exact hw
      rw [← hk32] at K32
      unfold b_L_runs_32 at hw
      obtain ⟨hit, hw⟩ := hw
      refine lv_iload hx hb dL_runs_32 (lv_at hl 4 rfl) ?_
      refine lv_aload_n hx hb dL_runs_34 rfl (lv_at hl 1 rfl) ?_
      refine lv_iconst (v := 0) hx hb dL_runs_35 (by decide) ?_
      obtain ⟨g_4, hw⟩ := hw
      obtain ⟨g_5, hw⟩ := hw
      refine r_iald hx hb hT.1 hW (by decide) rfl (fun _ => rfl) 29 rfl g_5 g_4 dL_runs_36 ?_
      refine lv_icmp_ge (tgt := 74) hx hb dL_runs_37 (by decide) (fun c_6 => ?_) (fun c_6 => ?_)
      · have hw := hw.1 c_6
        refine lv_aload_n hx hb dL_runs_74 rfl (lv_at hl 0 rfl) ?_
        refine lv_iload_n hx hb dL_runs_75 rfl (lv_at hl 2 rfl) ?_
        obtain ⟨g_7, hw⟩ := hw
        refine k_I (rn_V (As := [.int x2]) (rest := []) (κ := 4) (i := 0) ⟨hx, hb, hml, hown, hts⟩ hT hW hS hl (c_X4_run l hlt E base M ad x2 _ _ hw) cy_X4_run k_208 k_209 k_210 g_7 (by decide) rfl rfl rfl rfl ⟨(Nat.le_of_ble_eq_true rfl), (Nat.le_of_ble_eq_true rfl)⟩ rfl rfl (Nat.le_of_ble_eq_true rfl) dL_runs_76 ⟨by show _ + 1 ≤ 528; omega, by show _ + 6 ≤ 3168; omega⟩) hS (by rw [← hQQ]; exact kx_out hnx hlocks (by omega) (by omega) (fun _ _ _ h9 => h9)) (fun r_11 M_9 ad_10 H locs hP hW hS => ?_)
        obtain ⟨hw, rfl⟩ := hP
        refine lv_istore (lv' := [(4, .int r_11), (0, .ref (ad 4 0)), (1, .ref (ad 61 0)), (2, .int x2), (3, .int x3)]) hx hb dL_runs_79 hl (by decide) rfl (fun ls hl => ?_)
        refine lv_aload_n hx hb dL_runs_81 rfl (lv_at hl 2 rfl) ?_
        refine lv_iconst (v := 2) hx hb dL_runs_82 (by decide) ?_
        refine lv_dup2_11 hx hb dL_runs_83 rfl rfl ?_
        obtain ⟨g_12, hw⟩ := hw
        obtain ⟨g_13, hw⟩ := hw
        refine r_iald hx hb hT.1 hW (by decide) rfl (fun _ => rfl) 29 rfl g_13 g_12 dL_runs_84 ?_
        refine lv_iload_n hx hb dL_runs_85 rfl (lv_at hl 3 rfl) ?_
        refine lv_iadd hx hb dL_runs_86 ?_
        obtain ⟨g_14, hw⟩ := hw
        refine r_iast hx hb hT.1 hW hS (by decide) rfl (fun _ => rfl) 29 rfl g_14 g_12 dL_runs_87 (fun M_15 H locs hM_15 hW hS => ?_)
        have hw := hw M_15 hM_15
        refine lv_iconst (v := 0) hx hb dL_runs_88 (by decide) ?_
        refine lv_istore (lv' := [(5, .int 0), (4, .int r_11), (0, .ref (ad 4 0)), (1, .ref (ad 61 0)), (2, .int x2), (3, .int x3)]) hx hb dL_runs_89 hl (by decide) rfl (fun ls hl => ?_)
        refine lv_aload_n hx hb dL_runs_91 rfl (lv_at hl 2 rfl) ?_
        obtain ⟨g_16, hw⟩ := hw
        refine k_I (rn_V (As := []) (rest := []) (κ := 4) (i := 0) ⟨hx, hb, hml, hown, hts⟩ hT hW hS hl (c_X4_rounds l E base M_15 ad _ hw) cy_X4_rounds k_211 k_212 k_213 g_16 (by decide) rfl rfl rfl rfl ⟨(Nat.le_of_ble_eq_true rfl), (Nat.le_of_ble_eq_true rfl)⟩ rfl rfl (Nat.le_of_ble_eq_true rfl) dL_runs_92 ⟨by show _ + 0 ≤ 528; omega, by show _ + 0 ≤ 3168; omega⟩) hS kx_no (fun r_20 M_18 ad_19 H locs hP hW hS => ?_)
        obtain ⟨hw, rfl⟩ := hP
        refine lv_aload_n hx hb dL_runs_95 rfl (lv_at hl 3 rfl) ?_
        refine lv_iconst (v := 2) hx hb dL_runs_96 (by decide) ?_
        obtain ⟨g_21, hw⟩ := hw
        obtain ⟨g_22, hw⟩ := hw
        refine r_iald hx hb hT.1 hW (by decide) rfl (fun _ => rfl) 29 rfl g_22 g_21 dL_runs_97 ?_
        refine lv_icmp_ne (tgt := 121) hx hb dL_runs_98 (by decide) (fun c_23 => ?_) (fun c_23 => ?_)
        · have hw := hw.2 c_23
          refine W.widen (k := 8 + 8 * it + 1) (n := 48 + 48 * it + 6) (by omega) (by omega) ?_
          exact L_121 M_18 it x2 r_11 0 hw H locs ls hW hS (lv_sub hl [2, 3, 4, 1, 0] rfl)
        · have hw := hw.1 c_23
          refine lv_iload hx hb dL_runs_101 (lv_at hl 1 rfl) ?_
          refine lv_if_lt (tgt := 121) hx hb dL_runs_103 (by decide) (fun c_68 => ?_) (fun c_68 => ?_)
          · have hw := hw.1 c_68
            refine W.widen (k := 8 + 8 * it + 1) (n := 48 + 48 * it + 6) (by omega) (by omega) ?_
            exact L_121 M_18 it x2 r_11 0 hw H locs ls hW hS (lv_sub hl [2, 3, 4, 1, 0] rfl)
          · have hw := hw.2 c_68
            refine lv_iload_n hx hb dL_runs_106 rfl (lv_at hl 4 rfl) ?_
            refine lv_iconst (v := 1) hx hb dL_runs_107 (by decide) ?_
            refine lv_icmp_gt (tgt := 117) hx hb dL_runs_108 (by decide) (fun c_69 => ?_) (fun c_69 => ?_)
            · have hw := hw.1 c_69
              refine W.widen (k := 8 + 8 * it + 1) (n := 48 + 48 * it + 6) (by omega) (by omega) ?_
              exact L_117 M_18 it x2 r_11 0 hw H locs ls hW hS (lv_sub hl [2, 3, 4, 1, 0] rfl)
            · have hw := hw.2 c_69
              refine lv_iload hx hb dL_runs_111 (lv_at hl 1 rfl) ?_
              refine lv_iload_n hx hb dL_runs_113 rfl (lv_at hl 5 rfl) ?_
              refine lv_icmp_gt (tgt := 121) hx hb dL_runs_114 (by decide) (fun c_70 => ?_) (fun c_70 => ?_)
              · have hw := hw.1 c_70
                refine W.widen (k := 8 + 8 * it + 1) (n := 48 + 48 * it + 6) (by omega) (by omega) ?_
                exact L_121 M_18 it x2 r_11 0 hw H locs ls hW hS (lv_sub hl [2, 3, 4, 1, 0] rfl)
              · have hw := hw.2 c_70
                refine W.widen (k := 8 + 8 * it + 1) (n := 48 + 48 * it + 6) (by omega) (by omega) ?_
                exact L_117 M_18 it x2 r_11 0 hw H locs ls hW hS (lv_sub hl [2, 3, 4, 1, 0] rfl)
      · have hw := hw.2 c_6
        refine lv_iload_n hx hb dL_runs_40 rfl (lv_at hl 3 rfl) ?_
        refine lv_aload_n hx hb dL_runs_41 rfl (lv_at hl 1 rfl) ?_
        refine lv_iconst (v := 1) hx hb dL_runs_42 (by decide) ?_
        obtain ⟨g_71, hw⟩ := hw
        refine r_iald hx hb hT.1 hW (by decide) rfl (fun _ => rfl) 29 rfl g_71 g_4 dL_runs_43 ?_
        refine lv_iload hx hb dL_runs_44 (lv_at hl 4 rfl) ?_
        refine lv_ishr hx hb dL_runs_46 ?_
        refine lv_iconst (v := 1) hx hb dL_runs_47 (by decide) ?_
        refine lv_iand hx hb dL_runs_48 ?_
        refine lv_iconst (v := 1) hx hb dL_runs_49 (by decide) ?_
        refine lv_icmp_ne (tgt := 65) hx hb dL_runs_50 (by decide) (fun c_72 => ?_) (fun c_72 => ?_)
        · have hw := hw.2 c_72
          refine lv_iconst (v := 0) hx hb dL_runs_65 (by decide) ?_
          refine W.widen (k := 8 + 8 * it + 1) (n := 48 + 48 * it + 6) (by omega) (by omega) ?_
          exact L_66 k32 K32 M it x2 x4 0 x3 hw H locs ls hW hS (lv_sub hl [0, 1, 2, 4] rfl)
        · have hw := hw.1 c_72
          refine lv_aload_n hx hb dL_runs_53 rfl (lv_at hl 0 rfl) ?_
          refine lv_iload hx hb dL_runs_54 (lv_at hl 4 rfl) ?_
          obtain ⟨g_75, hw⟩ := hw
          refine k_I (rn_V (As := [.int x4]) (rest := [.int x3]) (κ := 4) (i := 0) ⟨hx, hb, hml, hown, hts⟩ hT hW hS hl (c_X4_chosen l hlt E base M ad x4 _ _ hw) cy_X4_chosen k_220 k_221 k_222 g_75 (by decide) rfl rfl rfl rfl ⟨(Nat.le_of_ble_eq_true rfl), (Nat.le_of_ble_eq_true rfl)⟩ rfl rfl (Nat.le_of_ble_eq_true rfl) dL_runs_56 ⟨by show _ + 1 ≤ 528; omega, by show _ + 6 ≤ 3168; omega⟩) hS (by rw [← hQQ]; exact kx_out hnx hlocks (by omega) (by omega) (fun _ _ _ h9 => h9)) (fun r_79 M_77 ad_78 H locs hP hW hS => ?_)
          obtain ⟨hw, rfl⟩ := hP
          refine k_I (rn_S (As := [.int r_79]) (rest := [.int x3]) ⟨hx, hb, hml, hown, hts⟩ hT hW hS hl (c_L_count l E base M_77 ad r_79 _ hw) cy_L_count k_223 k_224 rfl rfl ⟨(Nat.le_of_ble_eq_true rfl), (Nat.le_of_ble_eq_true rfl)⟩ rfl rfl (Nat.le_of_ble_eq_true rfl) dL_runs_59 ⟨by show _ + 0 ≤ 528; omega, by show _ + 0 ≤ 3168; omega⟩) hS kx_no (fun r_83 M_81 ad_82 H locs hP hW hS => ?_)
          obtain ⟨hw, rfl⟩ := hP
          refine lv_goto (tgt := 66) hx hb dL_runs_62 (by decide) ?_
          refine W.widen (k := 8 + 8 * it + 1) (n := 48 + 48 * it + 6) (by omega) (by omega) ?_
          exact L_66 k32 K32 M_81 it x2 x4 r_83 x3 hw H locs ls hW hS (lv_sub hl [0, 1, 2, 4] rfl)
  unfold w_L_runs at hw
  obtain ⟨H, hH⟩ : ∃ z, z = s.heap := ⟨_, rfl⟩
  obtain ⟨locs, hlo⟩ : ∃ z : List Loc, z = [] := ⟨_, rfl⟩
  have hS : va_S (fun q : Nat => base ≤ q) s.heap H locs := by rw [hlo, hH]; exact hS
  have hW : Wd E base M ad H := by rw [hH]; exact hW
  rw [show W p l e rm_L_runs s m args below meth c s.heap [] 0 0 QQ (F0 m 0 ls []) = W p l e rm_L_runs s m args below meth c H locs 0 0 QQ (F0 m 0 ls []) by rw [hlo, hH]]
  refine lv_aload_n hx hb dL_runs_0 rfl (lv_at hl 1 rfl) ?_
  refine lv_iconst (v := 2) hx hb dL_runs_1 (by decide) ?_
  obtain ⟨g_1, hw⟩ := hw
  obtain ⟨g_2, hw⟩ := hw
  refine r_iald hx hb hT.1 hW (by decide) rfl (fun _ => rfl) 29 rfl g_2 g_1 dL_runs_2 ?_
  refine lv_iload_n hx hb dL_runs_3 rfl (lv_at hl 2 rfl) ?_
  refine lv_iadd hx hb dL_runs_4 ?_
  refine lv_sipush (v := 200) hx hb dL_runs_5 (by decide) ?_
  refine lv_icmp_le (tgt := 27) hx hb dL_runs_8 (by decide) (fun c_3 => ?_) (fun c_3 => ?_)
  · have hw := hw.1 c_3
    refine lv_iconst (v := 0) hx hb dL_runs_27 (by decide) ?_
    refine lv_istore_n (lv' := [(3, .int 0), (0, .ref (ad 4 0)), (1, .ref (ad 61 0)), (2, .int a2)]) hx hb dL_runs_28 rfl hl (by decide) rfl (fun ls hl => ?_)
    refine lv_iconst (v := 0) hx hb dL_runs_29 (by decide) ?_
    refine lv_istore (lv' := [(4, .int 0), (3, .int 0), (0, .ref (ad 4 0)), (1, .ref (ad 61 0)), (2, .int a2)]) hx hb dL_runs_30 hl (by decide) rfl (fun ls hl => ?_)
    refine W.widen (k := 8 + 8 * 0 + 0) (n := 48 + 48 * 0 + 0) (by omega) (by omega) ?_
    obtain ⟨n9, hw⟩ := hw
    exact L_32 n9 M 0 a2 0 0 hw H locs ls hW hS (lv_sub hl [2, 3, 4, 1, 0] rfl)
  · have hw := hw.2 c_3
    refine lv_aload_n hx hb dL_runs_11 rfl (lv_at hl 0 rfl) ?_
    obtain ⟨g_84, hw⟩ := hw
    refine k_I (rn_V (As := []) (rest := []) (κ := 4) (i := 0) ⟨hx, hb, hml, hown, hts⟩ hT hW hS hl (c_X4_rounds l E base M ad _ hw) cy_X4_rounds k_211 k_212 k_213 g_84 (by decide) rfl rfl rfl rfl ⟨(Nat.le_of_ble_eq_true rfl), (Nat.le_of_ble_eq_true rfl)⟩ rfl rfl (Nat.le_of_ble_eq_true rfl) dL_runs_12 ⟨(Nat.le_of_ble_eq_true rfl), (Nat.le_of_ble_eq_true rfl)⟩) hS kx_no (fun r_88 M_86 ad_87 H locs hP hW hS => ?_)
    obtain ⟨hw, rfl⟩ := hP
    refine lv_aload_n hx hb dL_runs_15 rfl (lv_at hl 1 rfl) ?_
    refine lv_iconst (v := 2) hx hb dL_runs_16 (by decide) ?_
    obtain ⟨g_89, hw⟩ := hw
    obtain ⟨g_90, hw⟩ := hw
    refine r_iald hx hb hT.1 hW (by decide) rfl (fun _ => rfl) 29 rfl g_90 g_89 dL_runs_17 ?_
    refine lv_icmp_ne (tgt := 25) hx hb dL_runs_18 (by decide) (fun c_91 => ?_) (fun c_91 => ?_)
    · have hw := hw.2 c_91
      refine lv_iconst (v := 0) hx hb dL_runs_25 (by decide) ?_
      rw [← hQQ]
      exact e_Z hx hb hr hlocks hW hS (by omega) (by omega) dL_runs_26 (by decide) ⟨hw, rfl⟩
    · have hw := hw.1 c_91
      refine lv_iconst (v := 1) hx hb dL_runs_21 (by decide) ?_
      refine lv_goto (tgt := 26) hx hb dL_runs_22 (by decide) ?_
      rw [← hQQ]
      exact e_Z hx hb hr hlocks hW hS (by omega) (by omega) dL_runs_26 (by decide) ⟨hw, rfl⟩
