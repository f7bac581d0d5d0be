def rm_X4_spoil : Room := { frames := 7, cells := 2, slots := 12, locals := 112 }
set_option maxHeartbeats 4000000 in
set_option maxRecDepth 100000 in
theorem c_X4_spoil (l : Launch) (hlt : l.stackTraces = false) (E : GE) (base : Nat) (M : Mem) (ad : AD) (a1 : Int32) (a2 : Int32) (a3 : Int32) (Q : Int32 → Mem → Prop) (X : Nat → Mem → Prop) (hw : w_X4_spoil M a1 a2 a3 Q X) : Con l yX4_spoil cX4_spoil 6 (some .boolean) rm_X4_spoil 2 12 E base [.ref (ad 4 0), .int a1, .int a2, .int a3] M ad (QcI E base (fun r M1 ad1 => Q r M1 ∧ ad = ad1)) (fun k M1 ad1 => X k M1 ∧ ad = ad1) := by
  refine con_start (by decide) (Nat.le_of_ble_eq_true rfl) ?_
  intro p e s m args below meth c ls QQ hQQ CT hnx hW hl
  obtain ⟨⟨hx, hb, hml, hown, hts⟩, hr, hlocks, hnm, hT⟩ := CT
  have hS : va_S (fun q : Nat => base ≤ q) s.heap s.heap [] := va_S.rf
  have hl : lv_has ls 6 [(0, .ref (ad 4 0)), (1, .int a1), (2, .int a2), (3, .int a3)] := hl
  have L_30 : ∀ (M : Mem) (x2 : Int32) (x4 : Nat) (s0 : Int32), b_X4_spoil_30 Q X M x2 x4 s0 → WL p l e rm_X4_spoil s m args below meth c QQ E base 6 M ad 30 [(2, .int x2), (4, .ref (ad 2 x4))] [.int s0] 2 12 := by
    intro M x2 x4 s0 hw H locs ls hW hS hl
    unfold b_X4_spoil_30 at hw
    refine lv_istore (lv' := [(5, .int s0), (2, .int x2), (4, .ref (ad 2 x4))]) hx hb dX4_spoil_30 hl (by decide) rfl (fun ls hl => ?_)
    refine lv_iload hx hb dX4_spoil_32 (lv_at hl 0 rfl) ?_
    refine lv_if_eq (tgt := 50) hx hb dX4_spoil_34 (by decide) (fun c_16 => ?_) (fun c_16 => ?_)
    · have hw := hw.1 c_16
      refine lv_iload hx hb dX4_spoil_50 (lv_at hl 0 rfl) ?_
      obtain ⟨g_17, hw⟩ := hw
      rw [← hQQ]
      exact e_Z hx hb hr hlocks hW hS (Nat.le_of_ble_eq_true rfl) (Nat.le_of_ble_eq_true rfl) dX4_spoil_52 g_17 ⟨hw, rfl⟩
    · have hw := hw.2 c_16
      refine lv_aload hx hb dX4_spoil_37 (lv_at hl 2 rfl) ?_
      refine lv_dup hx hb dX4_spoil_39 rfl ?_
      obtain ⟨g_18, hw⟩ := hw
      refine r_getI hx hb hts hown hT.1 hW clX2 4 (by decide) (hts _ k_103) (fun _ h9 => h9) rfl g_18 dX4_spoil_40 ?_
      refine lv_iconst (v := 1) hx hb dX4_spoil_43 (by decide) ?_
      refine lv_iload_n hx hb dX4_spoil_44 rfl (lv_at hl 1 rfl) ?_
      refine lv_ishl hx hb dX4_spoil_45 ?_
      refine lv_ixor hx hb dX4_spoil_46 ?_
      refine r_putI hx hb hts hown hT.1 hW hS clX2 4 (by decide) (hts _ k_103) (fun _ h9 => h9) rfl (by decide +kernel) rfl g_18 dX4_spoil_47 (fun M_19 H locs hM_19 hW hS => ?_)
      have hw := hw M_19 hM_19
      refine lv_iload hx hb dX4_spoil_50 (lv_at hl 0 rfl) ?_
      obtain ⟨g_20, hw⟩ := hw
      rw [← hQQ]
      exact e_Z hx hb hr hlocks hW hS (Nat.le_of_ble_eq_true rfl) (Nat.le_of_ble_eq_true rfl) dX4_spoil_52 g_20 ⟨hw, rfl⟩
  unfold w_X4_spoil at hw
  obtain ⟨H, hH⟩ : ∃ z, z = s.heap := ⟨_, rfl⟩
  obtain ⟨locs, hlo⟩ : ∃ z : List Loc, z = [] := ⟨_, rfl⟩
  have hS : va_S (fun q : Nat => base ≤ q) s.heap H locs := by rw [hlo, hH]; exact hS
  have hW : Wd E base M ad H := by rw [hH]; exact hW
  rw [show W p l e rm_X4_spoil s m args below meth c s.heap [] 0 0 QQ (F0 m 0 ls []) = W p l e rm_X4_spoil s m args below meth c H locs 0 0 QQ (F0 m 0 ls []) by rw [hlo, hH]]
  refine lv_aload_n hx hb dX4_spoil_0 rfl (lv_at hl 0 rfl) ?_
  refine lv_iload_n hx hb dX4_spoil_1 rfl (lv_at hl 1 rfl) ?_
  obtain ⟨g_1, hw⟩ := hw
  refine k_Q (rn_V (As := [.int a1]) (rest := []) (κ := 4) (i := 0) ⟨hx, hb, hml, hown, hts⟩ hT hW hS hl (c_X4_known l hlt E base M ad a1 _ _ hw) cy_X4_known k_79 k_80 k_81 g_1 (by decide) rfl rfl rfl rfl ⟨(Nat.le_of_ble_eq_true rfl), (Nat.le_of_ble_eq_true rfl)⟩ rfl rfl (Nat.le_of_ble_eq_true rfl) dX4_spoil_2 ⟨(Nat.le_of_ble_eq_true rfl), (Nat.le_of_ble_eq_true rfl)⟩) hS (by rw [← hQQ]; exact kx_out hnx hlocks (Nat.le_of_ble_eq_true rfl) (Nat.le_of_ble_eq_true rfl) (fun _ _ _ h9 => h9)) (fun M_3 ad_4 H locs hP hW hS => absurd hP (fun ⟨_, h9, _⟩ => by cases h9)) (fun r_5 M_3 ad_4 H locs hP hW hS => ?_)
  obtain ⟨_, h9, hw, rfl⟩ := hP
  cases h9
  refine lv_astore (lv' := [(4, .ref (ad 2 r_5)), (0, .ref (ad 4 0)), (1, .int a1), (2, .int a2), (3, .int a3)]) hx hb dX4_spoil_5 hl (by decide) rfl (fun ls hl => ?_)
  refine lv_iload_n hx hb dX4_spoil_7 rfl (lv_at hl 3 rfl) ?_
  refine k_V (rn_S (As := [.int a2]) (rest := []) ⟨hx, hb, hml, hown, hts⟩ hT hW hS hl (c_X4_checkPiece l hlt E base M_3 ad a2 _ _ hw) cy_X4_checkPiece k_19 k_20 rfl rfl ⟨(Nat.le_of_ble_eq_true rfl), (Nat.le_of_ble_eq_true rfl)⟩ rfl rfl (Nat.le_of_ble_eq_true rfl) dX4_spoil_8 ⟨(Nat.le_of_ble_eq_true rfl), (Nat.le_of_ble_eq_true rfl)⟩) hS (by rw [← hQQ]; exact kx_out hnx hlocks (Nat.le_of_ble_eq_true rfl) (Nat.le_of_ble_eq_true rfl) (fun _ _ _ h9 => h9)) (fun M_7 ad_8 H locs hP hW hS => ?_)
  obtain ⟨hw, rfl⟩ := hP
  refine lv_aload hx hb dX4_spoil_11 (lv_at hl 0 rfl) ?_
  obtain ⟨g_10, hw⟩ := hw
  refine r_getI hx hb hts hown hT.1 hW clX2 4 (by decide) (hts _ k_103) (fun _ h9 => h9) rfl g_10 dX4_spoil_13 ?_
  refine lv_i2l hx hb dX4_spoil_16 rfl ?_
  refine lv_iload_n hx hb dX4_spoil_17 rfl (lv_at hl 3 rfl) ?_
  refine k_I (rn_S (As := [.long ((mI M_7 2 r_5 4).toInt64), .int a2]) (rest := []) ⟨hx, hb, hml, hown, hts⟩ hT hW hS hl (c_X4_isIn l E base M_7 ad ((mI M_7 2 r_5 4).toInt64) a2 _ hw) cy_X4_isIn k_17 k_18 rfl rfl ⟨(Nat.le_of_ble_eq_true rfl), (Nat.le_of_ble_eq_true rfl)⟩ rfl rfl (Nat.le_of_ble_eq_true rfl) dX4_spoil_18 ⟨(Nat.le_of_ble_eq_true rfl), (Nat.le_of_ble_eq_true rfl)⟩) hS kx_no (fun r_14 M_12 ad_13 H locs hP hW hS => ?_)
  obtain ⟨hw, rfl⟩ := hP
  refine lv_iload_n hx hb dX4_spoil_21 rfl (lv_at hl 4 rfl) ?_
  refine lv_icmp_eq (tgt := 29) hx hb dX4_spoil_22 (by decide) (fun c_15 => ?_) (fun c_15 => ?_)
  · have hw := hw.1 c_15
    refine lv_iconst (v := 0) hx hb dX4_spoil_29 (by decide) ?_
    exact L_30 M_12 a2 r_5 0 hw H locs ls hW hS (lv_sub hl [3, 0] rfl)
  · have hw := hw.2 c_15
    refine lv_iconst (v := 1) hx hb dX4_spoil_25 (by decide) ?_
    refine lv_goto (tgt := 30) hx hb dX4_spoil_26 (by decide) ?_
    exact L_30 M_12 a2 r_5 1 hw H locs ls hW hS (lv_sub hl [3, 0] rfl)
def rm_X4_wantedPieces : Room := { frames := 0, cells := 0, slots := 0, locals := 0 }
set_option maxHeartbeats 4000000 in
set_option maxRecDepth 100000 in
theorem c_X4_wantedPieces (l : Launch) (E : GE) (base : Nat) (M : Mem) (ad : AD)  (Q : Int32 → Mem → Prop) (hw : w_X4_wantedPieces M  Q) : Con l yX4_wantedPieces cX4_wantedPieces 3 (some .int) rm_X4_wantedPieces 0 0 E base [.ref (ad 4 0)] M ad (QcI E base (fun r M1 ad1 => Q r M1 ∧ ad = ad1)) noX := by
  refine con_start (by decide) (Nat.le_of_ble_eq_true rfl) ?_
  intro p e s m args below meth c ls QQ hQQ CT hnx hW hl
  obtain ⟨⟨hx, hb, hml, hown, hts⟩, hr, hlocks, hnm, hT⟩ := CT
  have hS : va_S (fun q : Nat => base ≤ q) s.heap s.heap [] := va_S.rf
  have hl : lv_has ls 3 [(0, .ref (ad 4 0))] := hl
  have L_28 : ∀ (k4 : Mem → Int32 → Int32 → Prop) (K4 : ∀ (M : Mem) (x1 : Int32) (x2 : Int32), k4 M x1 x2 → WL p l e rm_X4_wantedPieces s m args below meth c QQ E base 3 M ad 4 [(0, .ref (ad 4 0)), (1, .int x1), (2, .int x2)] [] 0 0) (M : Mem) (x1 : Int32) (x2 : Int32), b_X4_wantedPieces_28 k4 Q M x1 x2 → WL p l e rm_X4_wantedPieces s m args below meth c QQ E base 3 M ad 28 [(0, .ref (ad 4 0)), (1, .int x1), (2, .int x2)] [] 0 0 := by
    intro k4 K4 M x1 x2 hw H locs ls hW hS hl
    unfold b_X4_wantedPieces_28 at hw
    obtain ⟨v_7, ev_7⟩ : ∃ y : Int32, y = x2 + 1 := ⟨_, rfl⟩
    have hw := hw v_7 ev_7
    refine lv_iinc (v := v_7) (lv' := [(2, .int v_7), (0, .ref (ad 4 0)), (1, .int x1)]) hx hb dX4_wantedPieces_28 hl (k := 2) rfl (by rw [ev_7]; rfl) (by decide) rfl (fun ls hl => ?_)
    refine lv_goto (tgt := 4) hx hb dX4_wantedPieces_31 (by decide) ?_
    exact K4 M x1 v_7 hw H locs ls hW hS (lv_sub hl [1, 2, 0] rfl)
  have L_4 : ∀ (n : Nat) (M : Mem) (x1 : Int32) (x2 : Int32), l_X4_wantedPieces_4 Q n M x1 x2 → WL p l e rm_X4_wantedPieces s m args below meth c QQ E base 3 M ad 4 [(0, .ref (ad 4 0)), (1, .int x1), (2, .int x2)] [] 0 0 := by
    intro n
    induction n with
    | zero => intro M x1 x2 hw; exact False.elim hw
    | succ n K4 =>
      intro M x1 x2 hw H locs ls hW hS hl
      obtain ⟨k4, hk4⟩ : ∃ z, z = l_X4_wantedPieces_4 Q n := ⟨_, rfl⟩
      have hw : b_X4_wantedPieces_4 Q k4 M x1 x2 := by rw [hk4]; exact hw
      rw [← hk4] at K4
      unfold b_X4_wantedPieces_4 at hw
      refine lv_iload_n hx hb dX4_wantedPieces_4 rfl (lv_at hl 2 rfl) ?_
      refine lv_aload_n hx hb dX4_wantedPieces_5 rfl (lv_at hl 0 rfl) ?_
      obtain ⟨g_1, hw⟩ := hw
      obtain ⟨g_2, hw⟩ := hw
      refine r_getR (κ2 := 11) (i2 := 0) hx hb hts hown hT.1 hW clX4 1 (by decide) (hts _ k_7) (fun _ h9 => h9) 11 rfl rfl g_1 g_2 dX4_wantedPieces_6 ?_
      obtain ⟨g_3, hw⟩ := hw
      refine r_alen (v := 12) hx hb hT.1 hW (by decide) 0 rfl (kTy 0) rfl (by decide) g_3 dX4_wantedPieces_9 ?_
      refine lv_icmp_ge (tgt := 34) hx hb dX4_wantedPieces_10 (by decide) (fun c_4 => ?_) (fun c_4 => ?_)
      · have hw := hw.1 c_4
        refine lv_iload_n hx hb dX4_wantedPieces_34 rfl (lv_at hl 1 rfl) ?_
        rw [← hQQ]
        exact e_I hx hb hr hlocks hW hS (Nat.le_of_ble_eq_true rfl) (Nat.le_of_ble_eq_true rfl) dX4_wantedPieces_35 ⟨hw, rfl⟩
      · have hw := hw.2 c_4
        refine lv_aload_n hx hb dX4_wantedPieces_13 rfl (lv_at hl 0 rfl) ?_
        refine r_getR (κ2 := 11) (i2 := 0) hx hb hts hown hT.1 hW clX4 1 (by decide) (hts _ k_7) (fun _ h9 => h9) 11 rfl rfl g_1 g_2 dX4_wantedPieces_14 ?_
        refine lv_iload_n hx hb dX4_wantedPieces_17 rfl (lv_at hl 2 rfl) ?_
        obtain ⟨g_5, hw⟩ := hw
        refine r_iald hx hb hT.1 hW (by decide) rfl (fun _ => rfl) 12 rfl g_5 g_3 dX4_wantedPieces_18 ?_
        refine lv_if_le (tgt := 28) hx hb dX4_wantedPieces_19 (by decide) (fun c_6 => ?_) (fun c_6 => ?_)
        · have hw := hw.1 c_6
          exact L_28 k4 K4 M x1 x2 hw H locs ls hW hS (lv_sub hl [0, 1, 2] rfl)
        · have hw := hw.2 c_6
          refine lv_iload_n hx hb dX4_wantedPieces_22 rfl (lv_at hl 1 rfl) ?_
          refine lv_iconst (v := 1) hx hb dX4_wantedPieces_23 (by decide) ?_
          refine lv_iload_n hx hb dX4_wantedPieces_24 rfl (lv_at hl 2 rfl) ?_
          refine lv_ishl hx hb dX4_wantedPieces_25 ?_
          refine lv_ior hx hb dX4_wantedPieces_26 ?_
          refine lv_topi (fun v_8 ev_8 => ?_)
          have hw := hw v_8 ev_8
          refine lv_istore_n (lv' := [(1, .int v_8), (0, .ref (ad 4 0)), (2, .int x2)]) hx hb dX4_wantedPieces_27 rfl hl (by decide) rfl (fun ls hl => ?_)
          exact L_28 k4 K4 M v_8 x2 hw H locs ls hW hS (lv_sub hl [1, 0, 2] rfl)
  unfold w_X4_wantedPieces at hw
  obtain ⟨H, hH⟩ : ∃ z, z = s.heap := ⟨_, rfl⟩
  obtain ⟨locs, hlo⟩ : ∃ z : List Loc, z = [] := ⟨_, rfl⟩
  have hS : va_S (fun q : Nat => base ≤ q) s.heap H locs := by rw [hlo, hH]; exact hS
  have hW : Wd E base M ad H := by rw [hH]; exact hW
  rw [show W p l e rm_X4_wantedPieces s m args below meth c s.heap [] 0 0 QQ (F0 m 0 ls []) = W p l e rm_X4_wantedPieces s m args below meth c H locs 0 0 QQ (F0 m 0 ls []) by rw [hlo, hH]]
  refine lv_iconst (v := 0) hx hb dX4_wantedPieces_0 (by decide) ?_
  refine lv_istore_n (lv' := [(1, .int 0), (0, .ref (ad 4 0))]) hx hb dX4_wantedPieces_1 rfl hl (by decide) rfl (fun ls hl => ?_)
  refine lv_iconst (v := 0) hx hb dX4_wantedPieces_2 (by decide) ?_
  refine lv_istore_n (lv' := [(2, .int 0), (1, .int 0), (0, .ref (ad 4 0))]) hx hb dX4_wantedPieces_3 rfl hl (by decide) rfl (fun ls hl => ?_)
  obtain ⟨n9, hw⟩ := hw
  exact L_4 n9 M 0 0 hw H locs ls hW hS (lv_sub hl [2, 1, 0] rfl)
def rm_X4_findInterested : Room := { frames := 4, cells := 0, slots := 0, locals := 98 }
set_option maxHeartbeats 4000000 in
set_option maxRecDepth 100000 in
theorem c_X4_findInterested (l : Launch) (E : GE) (base : Nat) (M : Mem) (ad : AD) (a1 : Nat) (Q : Int32 → Mem → Prop) (hw : w_X4_findInterested M a1 Q) : Con l yX4_findInterested cX4_findInterested 8 (some .int) rm_X4_findInterested 0 0 E base [.ref (ad 4 0), .ref (ad 2 a1)] M ad (QcI E base (fun r M1 ad1 => Q r M1 ∧ ad = ad1)) noX := by
  refine con_start (by decide) (Nat.le_of_ble_eq_true rfl) ?_
  intro p e s m args below meth c ls QQ hQQ CT hnx hW hl
  obtain ⟨⟨hx, hb, hml, hown, hts⟩, hr, hlocks, hnm, hT⟩ := CT
  have hS : va_S (fun q : Nat => base ≤ q) s.heap s.heap [] := va_S.rf
  have hl : lv_has ls 8 [(0, .ref (ad 4 0)), (1, .ref (ad 2 a1))] := hl
  have L_95 : ∀ (k21 : Mem → Nat → Int32 → Int32 → Int32 → Int32 → Prop) (K21 : ∀ (M : Mem) (x1 : Nat) (x2 : Int32) (x3 : Int32) (x5 : Int32) (x6 : Int32), k21 M x1 x2 x3 x5 x6 → WL p l e rm_X4_findInterested s m args below meth c QQ E base 8 M ad 21 [(0, .ref (ad 4 0)), (1, .ref (ad 2 x1)), (2, .int x2), (3, .int x3), (4, .ref (ad 10 0)), (5, .int x5), (6, .int x6)] [] 0 0) (M : Mem) (x1 : Nat) (x2 : Int32) (x3 : Int32) (x5 : Int32) (x6 : Int32), b_X4_findInterested_95 k21 Q M x1 x2 x3 x5 x6 → WL p l e rm_X4_findInterested s m args below meth c QQ E base 8 M ad 95 [(0, .ref (ad 4 0)), (1, .ref (ad 2 x1)), (2, .int x2), (3, .int x3), (4, .ref (ad 10 0)), (5, .int x5), (6, .int x6)] [] 0 0 := by
    intro k21 K21 M x1 x2 x3 x5 x6 hw H locs ls hW hS hl
    unfold b_X4_findInterested_95 at hw
    obtain ⟨v_16, ev_16⟩ : ∃ y : Int32, y = x6 + 1 := ⟨_, rfl⟩
    have hw := hw v_16 ev_16
    refine lv_iinc (v := v_16) (lv' := [(6, .int v_16), (0, .ref (ad 4 0)), (1, .ref (ad 2 x1)), (2, .int x2), (3, .int x3), (4, .ref (ad 10 0)), (5, .int x5)]) hx hb dX4_findInterested_95 hl (k := 6) rfl (by rw [ev_16]; rfl) (by decide) rfl (fun ls hl => ?_)
    refine lv_goto (tgt := 21) hx hb dX4_findInterested_98 (by decide) ?_
    exact K21 M x1 x2 x3 x5 v_16 hw H locs ls hW hS (lv_sub hl [1, 2, 3, 4, 5, 6, 0] rfl)
  have L_21 : ∀ (n : Nat) (M : Mem) (x1 : Nat) (x2 : Int32) (x3 : Int32) (x5 : Int32) (x6 : Int32), l_X4_findInterested_21 Q n M x1 x2 x3 x5 x6 → WL p l e rm_X4_findInterested s m args below meth c QQ E base 8 M ad 21 [(0, .ref (ad 4 0)), (1, .ref (ad 2 x1)), (2, .int x2), (3, .int x3), (4, .ref (ad 10 0)), (5, .int x5), (6, .int x6)] [] 0 0 := by
    intro n
    induction n with
    | zero => intro M x1 x2 x3 x5 x6 hw; exact False.elim hw
    | succ n K21 =>
      intro M x1 x2 x3 x5 x6 hw H locs ls hW hS hl
      obtain ⟨k21, hk21⟩ : ∃ z, z = l_X4_findInterested_21 Q n := ⟨_, rfl⟩
      have hw : b_X4_findInterested_21 Q k21 M x1 x2 x3 x5 x6 := by rw [hk21]; exact hw
      rw [← hk21] at K21
      unfold b_X4_findInterested_21 at hw
      refine lv_iload hx hb dX4_findInterested_21 (lv_at hl 6 rfl) ?_
      refine lv_iload hx hb dX4_findInterested_23 (lv_at hl 5 rfl) ?_
      refine lv_icmp_ge (tgt := 101) hx hb dX4_findInterested_25 (by decide) (fun c_9 => ?_) (fun c_9 => ?_)
      · have hw := hw.1 c_9
        refine lv_iload_n hx hb dX4_findInterested_101 rfl (lv_at hl 3 rfl) ?_
        rw [← hQQ]
        exact e_I hx hb hr hlocks hW hS (Nat.le_of_ble_eq_true rfl) (Nat.le_of_ble_eq_true rfl) dX4_findInterested_102 ⟨hw, rfl⟩
      · have hw := hw.2 c_9
        refine lv_aload hx hb dX4_findInterested_28 (lv_at hl 4 rfl) ?_
        refine lv_iload hx hb dX4_findInterested_30 (lv_at hl 6 rfl) ?_
        obtain ⟨g_10, hw⟩ := hw
        obtain ⟨g_11, hw⟩ := hw
        refine r_aald hx hb hT.1 hW g_11 g_10 dX4_findInterested_32 (fun g_12 => ?_) (fun g_12 => ?_)
        · have hw := hw.1 g_12
          refine lv_astore (lv' := [(7, .ref (ad 2 x6.toNatClampNeg)), (0, .ref (ad 4 0)), (1, .ref (ad 2 x1)), (2, .int x2), (3, .int x3), (4, .ref (ad 10 0)), (5, .int x5), (6, .int x6)]) hx hb dX4_findInterested_33 hl (by decide) rfl (fun ls hl => ?_)
          refine lv_aload hx hb dX4_findInterested_35 (lv_at hl 0 rfl) ?_
          refine lv_ifnull hx hb dX4_findInterested_37 ?_
          refine lv_aload hx hb dX4_findInterested_40 (lv_at hl 0 rfl) ?_
          refine lv_aload_n hx hb dX4_findInterested_42 rfl (lv_at hl 2 rfl) ?_
          obtain ⟨g_13, hw⟩ := hw
          obtain ⟨g_14, hw⟩ := hw
          refine r_acmp_eq (tgt := 95) hx hb hW g_13 g_14 dX4_findInterested_43 (by decide) (fun c_15 => ?_) (fun c_15 => ?_)
          · have hw := hw.1 c_15
            exact L_95 k21 K21 M x1 x2 x3 x5 x6 hw H locs ls hW hS (lv_sub hl [1, 2, 3, 4, 5, 6, 7] rfl)
          · have hw := hw.2 c_15
            refine lv_aload hx hb dX4_findInterested_46 (lv_at hl 0 rfl) ?_
            refine r_getI hx hb hts hown hT.1 hW clX2 10 (by decide) (hts _ k_107) (fun _ h9 => h9) rfl g_13 dX4_findInterested_48 ?_
            refine lv_i2l hx hb dX4_findInterested_51 rfl ?_
            refine lv_aload_n hx hb dX4_findInterested_52 rfl (lv_at hl 2 rfl) ?_
            refine r_getI hx hb hts hown hT.1 hW clX2 0 (by decide) (hts _ k_83) (fun _ h9 => h9) rfl g_14 dX4_findInterested_53 ?_
            refine k_I (rn_S (As := [.long ((mI M 2 x6.toNatClampNeg 10).toInt64), .int (mI M 2 x1 0)]) (rest := []) ⟨hx, hb, hml, hown, hts⟩ hT hW hS hl (c_X4_isIn l E base M ad ((mI M 2 x6.toNatClampNeg 10).toInt64) (mI M 2 x1 0) _ hw) cy_X4_isIn k_17 k_18 rfl rfl ⟨(Nat.le_of_ble_eq_true rfl), (Nat.le_of_ble_eq_true rfl)⟩ rfl rfl (Nat.le_of_ble_eq_true rfl) dX4_findInterested_56 ⟨(Nat.le_of_ble_eq_true rfl), (Nat.le_of_ble_eq_true rfl)⟩) hS kx_no (fun r_20 M_18 ad_19 H locs hP hW hS => ?_)
            obtain ⟨hw, rfl⟩ := hP
            refine lv_if_ne (tgt := 95) hx hb dX4_findInterested_59 (by decide) (fun c_21 => ?_) (fun c_21 => ?_)
            · have hw := hw.2 c_21
              exact L_95 k21 K21 M_18 x1 x2 x3 x5 x6 hw H locs ls hW hS (lv_sub hl [1, 2, 3, 4, 5, 6, 7] rfl)
            · have hw := hw.1 c_21
              refine lv_aload_n hx hb dX4_findInterested_62 rfl (lv_at hl 1 rfl) ?_
              refine lv_aload_n hx hb dX4_findInterested_63 rfl (lv_at hl 2 rfl) ?_
              refine lv_aload hx hb dX4_findInterested_64 (lv_at hl 0 rfl) ?_
              obtain ⟨g_22, hw⟩ := hw
              refine k_I (rn_V (As := [.ref (ad 2 x1), .ref (ad 2 x6.toNatClampNeg)]) (rest := []) (κ := 4) (i := 0) ⟨hx, hb, hml, hown, hts⟩ hT hW hS hl (c_X4_findShown l E base M_18 ad x1 x6.toNatClampNeg _ hw) cy_X4_findShown k_97 k_98 k_99 g_22 (by decide) rfl rfl rfl rfl ⟨(Nat.le_of_ble_eq_true rfl), (Nat.le_of_ble_eq_true rfl)⟩ rfl rfl (Nat.le_of_ble_eq_true rfl) dX4_findInterested_66 ⟨(Nat.le_of_ble_eq_true rfl), (Nat.le_of_ble_eq_true rfl)⟩) hS kx_no (fun r_26 M_24 ad_25 H locs hP hW hS => ?_)
              obtain ⟨hw, rfl⟩ := hP
              refine lv_iload_n hx hb dX4_findInterested_69 rfl (lv_at hl 3 rfl) ?_
              refine lv_iand hx hb dX4_findInterested_70 ?_
              refine lv_aload hx hb dX4_findInterested_71 (lv_at hl 0 rfl) ?_
              obtain ⟨g_27, hw⟩ := hw
              obtain ⟨g_28, hw⟩ := hw
              refine r_getR (κ2 := 3) (i2 := x6.toNatClampNeg) hx hb hts hown hT.1 hW clX2 1 (by decide) (hts _ k_15) (fun _ h9 => h9) 3 rfl rfl g_27 g_28 dX4_findInterested_73 ?_
              obtain ⟨g_29, hw⟩ := hw
              refine r_getI hx hb hts hown hT.1 hW clX3 0 (by decide) (hts _ k_16) (fun _ h9 => h9) rfl g_29 dX4_findInterested_76 ?_
              refine lv_iconst (v := (-1)) hx hb dX4_findInterested_79 (by decide) ?_
              refine lv_ixor hx hb dX4_findInterested_80 ?_
              refine lv_iand hx hb dX4_findInterested_81 ?_
              refine lv_if_eq (tgt := 95) hx hb dX4_findInterested_82 (by decide) (fun c_30 => ?_) (fun c_30 => ?_)
              · have hw := hw.1 c_30
                exact L_95 k21 K21 M_24 x1 x2 x3 x5 x6 hw H locs ls hW hS (lv_sub hl [1, 2, 3, 4, 5, 6, 7] rfl)
              · have hw := hw.2 c_30
                refine lv_iload_n hx hb dX4_findInterested_85 rfl (lv_at hl 4 rfl) ?_
                refine lv_iconst (v := 1) hx hb dX4_findInterested_86 (by decide) ?_
                refine lv_aload hx hb dX4_findInterested_87 (lv_at hl 0 rfl) ?_
                refine r_getI hx hb hts hown hT.1 hW clX2 0 (by decide) (hts _ k_83) (fun _ h9 => h9) rfl g_27 dX4_findInterested_89 ?_
                refine lv_ishl hx hb dX4_findInterested_92 ?_
                refine lv_ior hx hb dX4_findInterested_93 ?_
                refine lv_topi (fun v_31 ev_31 => ?_)
                have hw := hw v_31 ev_31
                refine lv_istore_n (lv' := [(3, .int v_31), (7, .ref (ad 2 x6.toNatClampNeg)), (0, .ref (ad 4 0)), (1, .ref (ad 2 x1)), (2, .int x2), (4, .ref (ad 10 0)), (5, .int x5), (6, .int x6)]) hx hb dX4_findInterested_94 rfl hl (by decide) rfl (fun ls hl => ?_)
                exact L_95 k21 K21 M_24 x1 x2 v_31 x5 x6 hw H locs ls hW hS (lv_sub hl [2, 3, 4, 0, 5, 6, 7] rfl)
        · have hw := hw.2 g_12
          refine lv_astoreN (lv' := [(7, .null), (0, .ref (ad 4 0)), (1, .ref (ad 2 x1)), (2, .int x2), (3, .int x3), (4, .ref (ad 10 0)), (5, .int x5), (6, .int x6)]) hx hb dX4_findInterested_33 hl (by decide) rfl (fun ls hl => ?_)
          refine lv_aloadN hx hb dX4_findInterested_35 (lv_at hl 0 rfl) ?_
          refine lv_ifnullN (tgt := 95) hx hb dX4_findInterested_37 (by decide) ?_
          exact L_95 k21 K21 M x1 x2 x3 x5 x6 hw H locs ls hW hS (lv_sub hl [1, 2, 3, 4, 5, 6, 7] rfl)
  unfold w_X4_findInterested at hw
  obtain ⟨H, hH⟩ : ∃ z, z = s.heap := ⟨_, rfl⟩
  obtain ⟨locs, hlo⟩ : ∃ z : List Loc, z = [] := ⟨_, rfl⟩
  have hS : va_S (fun q : Nat => base ≤ q) s.heap H locs := by rw [hlo, hH]; exact hS
  have hW : Wd E base M ad H := by rw [hH]; exact hW
  rw [show W p l e rm_X4_findInterested s m args below meth c s.heap [] 0 0 QQ (F0 m 0 ls []) = W p l e rm_X4_findInterested s m args below meth c H locs 0 0 QQ (F0 m 0 ls []) by rw [hlo, hH]]
  refine lv_aload_n hx hb dX4_findInterested_0 rfl (lv_at hl 0 rfl) ?_
  obtain ⟨g_1, hw⟩ := hw
  refine k_I (rn_V (As := []) (rest := []) (κ := 4) (i := 0) ⟨hx, hb, hml, hown, hts⟩ hT hW hS hl (c_X4_wantedPieces l E base M ad _ hw) cy_X4_wantedPieces k_104 k_105 k_106 g_1 (by decide) rfl rfl rfl rfl ⟨(Nat.le_of_ble_eq_true rfl), (Nat.le_of_ble_eq_true rfl)⟩ rfl rfl (Nat.le_of_ble_eq_true rfl) dX4_findInterested_1 ⟨(Nat.le_of_ble_eq_true rfl), (Nat.le_of_ble_eq_true rfl)⟩) hS kx_no (fun r_5 M_3 ad_4 H locs hP hW hS => ?_)
  obtain ⟨hw, rfl⟩ := hP
  refine lv_istore_n (lv' := [(2, .int r_5), (0, .ref (ad 4 0)), (1, .ref (ad 2 a1))]) hx hb dX4_findInterested_4 rfl hl (by decide) rfl (fun ls hl => ?_)
  refine lv_iconst (v := 0) hx hb dX4_findInterested_5 (by decide) ?_
  refine lv_istore_n (lv' := [(3, .int 0), (2, .int r_5), (0, .ref (ad 4 0)), (1, .ref (ad 2 a1))]) hx hb dX4_findInterested_6 rfl hl (by decide) rfl (fun ls hl => ?_)
  refine lv_aload_n hx hb dX4_findInterested_7 rfl (lv_at hl 2 rfl) ?_
  obtain ⟨g_6, hw⟩ := hw
  obtain ⟨g_7, hw⟩ := hw
  refine r_getR (κ2 := 10) (i2 := 0) hx hb hts hown hT.1 hW clX4 0 (by decide) (hts _ k_5) (fun _ h9 => h9) 10 rfl rfl g_6 g_7 dX4_findInterested_8 ?_
  refine lv_astore (lv' := [(4, .ref (ad 10 0)), (3, .int 0), (2, .int r_5), (0, .ref (ad 4 0)), (1, .ref (ad 2 a1))]) hx hb dX4_findInterested_11 hl (by decide) rfl (fun ls hl => ?_)
  refine lv_aload hx hb dX4_findInterested_13 (lv_at hl 0 rfl) ?_
  obtain ⟨g_8, hw⟩ := hw
  refine r_alen (v := 6) hx hb hT.1 hW (by decide) 3 rfl (kTy 3) rfl (by decide) g_8 dX4_findInterested_15 ?_
  refine lv_istore (lv' := [(5, .int 6), (4, .ref (ad 10 0)), (3, .int 0), (2, .int r_5), (0, .ref (ad 4 0)), (1, .ref (ad 2 a1))]) hx hb dX4_findInterested_16 hl (by decide) rfl (fun ls hl => ?_)
  refine lv_iconst (v := 0) hx hb dX4_findInterested_18 (by decide) ?_
  refine lv_istore (lv' := [(6, .int 0), (5, .int 6), (4, .ref (ad 10 0)), (3, .int 0), (2, .int r_5), (0, .ref (ad 4 0)), (1, .ref (ad 2 a1))]) hx hb dX4_findInterested_19 hl (by decide) rfl (fun ls hl => ?_)
  obtain ⟨n9, hw⟩ := hw
  exact L_21 n9 M_3 a1 r_5 0 6 0 hw H locs ls hW hS (lv_sub hl [5, 6, 4, 3, 2, 1, 0] rfl)
def rm_X4_findBestGiver : Room := { frames := 1, cells := 0, slots := 0, locals := 22 }
set_option maxHeartbeats 4000000 in
set_option maxRecDepth 100000 in
theorem c_X4_findBestGiver (l : Launch) (E : GE) (base : Nat) (M : Mem) (ad : AD) (a0 : Nat) (a1 : Int32) (Q : Int32 → Mem → Prop) (hw : w_X4_findBestGiver M a0 a1 Q) : Con l yX4_findBestGiver cX4_findBestGiver 5 (some .int) rm_X4_findBestGiver 0 0 E base [.ref (ad 2 a0), .int a1] M ad (QcI E base (fun r M1 ad1 => Q r M1 ∧ ad = ad1)) noX := by
  refine con_start (by decide) (Nat.le_of_ble_eq_true rfl) ?_
  intro p e s m args below meth c ls QQ hQQ CT hnx hW hl
  obtain ⟨⟨hx, hb, hml, hown, hts⟩, hr, hlocks, hnm, hT⟩ := CT
  have hS : va_S (fun q : Nat => base ≤ q) s.heap s.heap [] := va_S.rf
  have hl : lv_has ls 5 [(0, .ref (ad 2 a0)), (1, .int a1)] := hl
  have L_54 : ∀ (k7 : Mem → Nat → Int32 → Int32 → Int32 → Int32 → Prop) (K7 : ∀ (M : Mem) (x0 : Nat) (x1 : Int32) (x2 : Int32) (x3 : Int32) (x4 : Int32), k7 M x0 x1 x2 x3 x4 → WL p l e rm_X4_findBestGiver s m args below meth c QQ E base 5 M ad 7 [(0, .ref (ad 2 x0)), (1, .int x1), (2, .int x2), (3, .int x3), (4, .int x4)] [] 0 0) (M : Mem) (x0 : Nat) (x1 : Int32) (x2 : Int32) (x3 : Int32) (x4 : Int32), b_X4_findBestGiver_54 k7 Q M x0 x1 x2 x3 x4 → WL p l e rm_X4_findBestGiver s m args below meth c QQ E base 5 M ad 54 [(0, .ref (ad 2 x0)), (1, .int x1), (2, .int x2), (3, .int x3), (4, .int x4)] [] 0 0 := by
    intro k7 K7 M x0 x1 x2 x3 x4 hw H locs ls hW hS hl
    unfold b_X4_findBestGiver_54 at hw
    obtain ⟨v_10, ev_10⟩ : ∃ y : Int32, y = x4 + 1 := ⟨_, rfl⟩
    have hw := hw v_10 ev_10
    refine lv_iinc (v := v_10) (lv' := [(4, .int v_10), (0, .ref (ad 2 x0)), (1, .int x1), (2, .int x2), (3, .int x3)]) hx hb dX4_findBestGiver_54 hl (k := 4) rfl (by rw [ev_10]; rfl) (by decide) rfl (fun ls hl => ?_)
    refine lv_goto (tgt := 7) hx hb dX4_findBestGiver_57 (by decide) ?_
    exact K7 M x0 x1 x2 x3 v_10 hw H locs ls hW hS (lv_sub hl [1, 2, 3, 4, 0] rfl)
  have L_43 : ∀ (k7 : Mem → Nat → Int32 → Int32 → Int32 → Int32 → Prop) (K7 : ∀ (M : Mem) (x0 : Nat) (x1 : Int32) (x2 : Int32) (x3 : Int32) (x4 : Int32), k7 M x0 x1 x2 x3 x4 → WL p l e rm_X4_findBestGiver s m args below meth c QQ E base 5 M ad 7 [(0, .ref (ad 2 x0)), (1, .int x1), (2, .int x2), (3, .int x3), (4, .int x4)] [] 0 0) (M : Mem) (x0 : Nat) (x1 : Int32) (x4 : Int32), b_X4_findBestGiver_43 k7 Q M x0 x1 x4 → WL p l e rm_X4_findBestGiver s m args below meth c QQ E base 5 M ad 43 [(0, .ref (ad 2 x0)), (1, .int x1), (4, .int x4)] [] 0 0 := by
    intro k7 K7 M x0 x1 x4 hw H locs ls hW hS hl
    unfold b_X4_findBestGiver_43 at hw
    refine lv_iload hx hb dX4_findBestGiver_43 (lv_at hl 2 rfl) ?_
    refine lv_istore_n (lv' := [(2, .int x4), (0, .ref (ad 2 x0)), (1, .int x1), (4, .int x4)]) hx hb dX4_findBestGiver_45 rfl hl (by decide) rfl (fun ls hl => ?_)
    refine lv_aload_n hx hb dX4_findBestGiver_46 rfl (lv_at hl 1 rfl) ?_
    obtain ⟨g_12, hw⟩ := hw
    obtain ⟨g_13, hw⟩ := hw
    refine r_getR (κ2 := 24) (i2 := x0) hx hb hts hown hT.1 hW clX2 8 (by decide) (hts _ k_82) (fun _ h9 => h9) 24 rfl rfl g_12 g_13 dX4_findBestGiver_47 ?_
    refine lv_iload hx hb dX4_findBestGiver_50 (lv_at hl 3 rfl) ?_
    obtain ⟨g_14, hw⟩ := hw
    obtain ⟨g_15, hw⟩ := hw
    refine r_iald hx hb hT.1 hW (by decide) rfl (fun _ => rfl) 6 rfl g_15 g_14 dX4_findBestGiver_52 ?_
    refine lv_topi (fun v_16 ev_16 => ?_)
    have hw := hw v_16 ev_16
    refine lv_istore_n (lv' := [(3, .int v_16), (2, .int x4), (0, .ref (ad 2 x0)), (1, .int x1), (4, .int x4)]) hx hb dX4_findBestGiver_53 rfl hl (by decide) rfl (fun ls hl => ?_)
    exact L_54 k7 K7 M x0 x1 x4 v_16 x4 hw H locs ls hW hS (lv_sub hl [2, 3, 1, 0, 4] rfl)
  have L_7 : ∀ (n : Nat) (M : Mem) (x0 : Nat) (x1 : Int32) (x2 : Int32) (x3 : Int32) (x4 : Int32), l_X4_findBestGiver_7 Q n M x0 x1 x2 x3 x4 → WL p l e rm_X4_findBestGiver s m args below meth c QQ E base 5 M ad 7 [(0, .ref (ad 2 x0)), (1, .int x1), (2, .int x2), (3, .int x3), (4, .int x4)] [] 0 0 := by
    intro n
    induction n with
    | zero => intro M x0 x1 x2 x3 x4 hw; exact False.elim hw
    | succ n K7 =>
      intro M x0 x1 x2 x3 x4 hw H locs ls hW hS hl
      obtain ⟨k7, hk7⟩ : ∃ z, z = l_X4_findBestGiver_7 Q n := ⟨_, rfl⟩
      have hw : b_X4_findBestGiver_7 Q k7 M x0 x1 x2 x3 x4 := by rw [hk7]; exact hw
      rw [← hk7] at K7
      unfold b_X4_findBestGiver_7 at hw
      refine lv_iload hx hb dX4_findBestGiver_7 (lv_at hl 4 rfl) ?_
      refine lv_aload_n hx hb dX4_findBestGiver_9 rfl (lv_at hl 0 rfl) ?_
      obtain ⟨g_1, hw⟩ := hw
      obtain ⟨g_2, hw⟩ := hw
      refine r_getR (κ2 := 24) (i2 := x0) hx hb hts hown hT.1 hW clX2 8 (by decide) (hts _ k_82) (fun _ h9 => h9) 24 rfl rfl g_1 g_2 dX4_findBestGiver_10 ?_
      obtain ⟨g_3, hw⟩ := hw
      refine r_alen (v := 6) hx hb hT.1 hW (by decide) 0 rfl (kTy 0) rfl (by decide) g_3 dX4_findBestGiver_13 ?_
      refine lv_icmp_ge (tgt := 60) hx hb dX4_findBestGiver_14 (by decide) (fun c_4 => ?_) (fun c_4 => ?_)
      · have hw := hw.1 c_4
        refine lv_iload_n hx hb dX4_findBestGiver_60 rfl (lv_at hl 2 rfl) ?_
        rw [← hQQ]
        exact e_I hx hb hr hlocks hW hS (Nat.le_of_ble_eq_true rfl) (Nat.le_of_ble_eq_true rfl) dX4_findBestGiver_61 ⟨hw, rfl⟩
      · have hw := hw.2 c_4
        refine lv_iload_n hx hb dX4_findBestGiver_17 rfl (lv_at hl 1 rfl) ?_
        refine lv_i2l hx hb dX4_findBestGiver_18 rfl ?_
        refine lv_iload hx hb dX4_findBestGiver_19 (lv_at hl 4 rfl) ?_
        refine k_I (rn_S (As := [.long x1.toInt64, .int x4]) (rest := []) ⟨hx, hb, hml, hown, hts⟩ hT hW hS hl (c_X4_isIn l E base M ad x1.toInt64 x4 _ hw) cy_X4_isIn k_17 k_18 rfl rfl ⟨(Nat.le_of_ble_eq_true rfl), (Nat.le_of_ble_eq_true rfl)⟩ rfl rfl (Nat.le_of_ble_eq_true rfl) dX4_findBestGiver_21 ⟨(Nat.le_of_ble_eq_true rfl), (Nat.le_of_ble_eq_true rfl)⟩) hS kx_no (fun r_8 M_6 ad_7 H locs hP hW hS => ?_)
        obtain ⟨hw, rfl⟩ := hP
        refine lv_if_eq (tgt := 54) hx hb dX4_findBestGiver_24 (by decide) (fun c_9 => ?_) (fun c_9 => ?_)
        · have hw := hw.1 c_9
          exact L_54 k7 K7 M_6 x0 x1 x2 x3 x4 hw H locs ls hW hS (lv_sub hl [0, 1, 2, 3, 4] rfl)
        · have hw := hw.2 c_9
          refine lv_iload_n hx hb dX4_findBestGiver_27 rfl (lv_at hl 2 rfl) ?_
          refine lv_iconst (v := (-1)) hx hb dX4_findBestGiver_28 (by decide) ?_
          refine lv_icmp_eq (tgt := 43) hx hb dX4_findBestGiver_29 (by decide) (fun c_11 => ?_) (fun c_11 => ?_)
          · have hw := hw.1 c_11
            exact L_43 k7 K7 M_6 x0 x1 x4 hw H locs ls hW hS (lv_sub hl [0, 1, 4] rfl)
          · have hw := hw.2 c_11
            refine lv_aload_n hx hb dX4_findBestGiver_32 rfl (lv_at hl 0 rfl) ?_
            obtain ⟨g_17, hw⟩ := hw
            obtain ⟨g_18, hw⟩ := hw
            refine r_getR (κ2 := 24) (i2 := x0) hx hb hts hown hT.1 hW clX2 8 (by decide) (hts _ k_82) (fun _ h9 => h9) 24 rfl rfl g_17 g_18 dX4_findBestGiver_33 ?_
            refine lv_iload hx hb dX4_findBestGiver_36 (lv_at hl 4 rfl) ?_
            obtain ⟨g_19, hw⟩ := hw
            obtain ⟨g_20, hw⟩ := hw
            refine r_iald hx hb hT.1 hW (by decide) rfl (fun _ => rfl) 6 rfl g_20 g_19 dX4_findBestGiver_38 ?_
            refine lv_iload_n hx hb dX4_findBestGiver_39 rfl (lv_at hl 3 rfl) ?_
            refine lv_icmp_le (tgt := 54) hx hb dX4_findBestGiver_40 (by decide) (fun c_21 => ?_) (fun c_21 => ?_)
            · have hw := hw.1 c_21
              exact L_54 k7 K7 M_6 x0 x1 x2 x3 x4 hw H locs ls hW hS (lv_sub hl [0, 1, 2, 3, 4] rfl)
            · have hw := hw.2 c_21
              exact L_43 k7 K7 M_6 x0 x1 x4 hw H locs ls hW hS (lv_sub hl [0, 1, 4] rfl)
  unfold w_X4_findBestGiver at hw
  obtain ⟨H, hH⟩ : ∃ z, z = s.heap := ⟨_, rfl⟩
  obtain ⟨locs, hlo⟩ : ∃ z : List Loc, z = [] := ⟨_, rfl⟩
  have hS : va_S (fun q : Nat => base ≤ q) s.heap H locs := by rw [hlo, hH]; exact hS
  have hW : Wd E base M ad H := by rw [hH]; exact hW
  rw [show W p l e rm_X4_findBestGiver s m args below meth c s.heap [] 0 0 QQ (F0 m 0 ls []) = W p l e rm_X4_findBestGiver s m args below meth c H locs 0 0 QQ (F0 m 0 ls []) by rw [hlo, hH]]
  refine lv_iconst (v := (-1)) hx hb dX4_findBestGiver_0 (by decide) ?_
  refine lv_istore_n (lv' := [(2, .int (-1)), (0, .ref (ad 2 a0)), (1, .int a1)]) hx hb dX4_findBestGiver_1 rfl hl (by decide) rfl (fun ls hl => ?_)
  refine lv_iconst (v := 0) hx hb dX4_findBestGiver_2 (by decide) ?_
  refine lv_istore_n (lv' := [(3, .int 0), (2, .int (-1)), (0, .ref (ad 2 a0)), (1, .int a1)]) hx hb dX4_findBestGiver_3 rfl hl (by decide) rfl (fun ls hl => ?_)
  refine lv_iconst (v := 0) hx hb dX4_findBestGiver_4 (by decide) ?_
  refine lv_istore (lv' := [(4, .int 0), (3, .int 0), (2, .int (-1)), (0, .ref (ad 2 a0)), (1, .int a1)]) hx hb dX4_findBestGiver_5 hl (by decide) rfl (fun ls hl => ?_)
  obtain ⟨n9, hw⟩ := hw
  exact L_7 n9 M a0 a1 (-1) 0 0 hw H locs ls hW hS (lv_sub hl [3, 4, 2, 1, 0] rfl)
def rm_X4_single : Room := { frames := 0, cells := 0, slots := 0, locals := 0 }
set_option maxHeartbeats 4000000 in
set_option maxRecDepth 100000 in
theorem c_X4_single (l : Launch) (E : GE) (base : Nat) (M : Mem) (ad : AD) (a0 : Int32) (Q : Int32 → Mem → Prop) (hw : w_X4_single M a0 Q) : Con l yX4_single cX4_single 1 (some .int) rm_X4_single 0 0 E base [.int a0] M ad (QcI E base (fun r M1 ad1 => Q r M1 ∧ ad = ad1)) noX := by
  refine con_start (by decide) (Nat.le_of_ble_eq_true rfl) ?_
  intro p e s m args below meth c ls QQ hQQ CT hnx hW hl
  obtain ⟨⟨hx, hb, hml, hown, hts⟩, hr, hlocks, hnm, hT⟩ := CT
  have hS : va_S (fun q : Nat => base ≤ q) s.heap s.heap [] := va_S.rf
  have hl : lv_has ls 1 [(0, .int a0)] := hl
  unfold w_X4_single at hw
  obtain ⟨H, hH⟩ : ∃ z, z = s.heap := ⟨_, rfl⟩
  obtain ⟨locs, hlo⟩ : ∃ z : List Loc, z = [] := ⟨_, rfl⟩
  have hS : va_S (fun q : Nat => base ≤ q) s.heap H locs := by rw [hlo, hH]; exact hS
  have hW : Wd E base M ad H := by rw [hH]; exact hW
  rw [show W p l e rm_X4_single s m args below meth c s.heap [] 0 0 QQ (F0 m 0 ls []) = W p l e rm_X4_single s m args below meth c H locs 0 0 QQ (F0 m 0 ls []) by rw [hlo, hH]]
  refine lv_iload_n hx hb dX4_single_0 rfl (lv_at hl 0 rfl) ?_
  refine lv_iconst (v := (-1)) hx hb dX4_single_1 (by decide) ?_
  refine lv_icmp_ne (tgt := 9) hx hb dX4_single_2 (by decide) (fun c_1 => ?_) (fun c_1 => ?_)
  · have hw := hw.2 c_1
    refine lv_iconst (v := 1) hx hb dX4_single_9 (by decide) ?_
    refine lv_iload_n hx hb dX4_single_10 rfl (lv_at hl 0 rfl) ?_
    refine lv_ishl hx hb dX4_single_11 ?_
    rw [← hQQ]
    exact e_I hx hb hr hlocks hW hS (Nat.le_of_ble_eq_true rfl) (Nat.le_of_ble_eq_true rfl) dX4_single_12 ⟨hw, rfl⟩
  · have hw := hw.1 c_1
    refine lv_iconst (v := 0) hx hb dX4_single_5 (by decide) ?_
    refine lv_goto (tgt := 12) hx hb dX4_single_6 (by decide) ?_
    rw [← hQQ]
    exact e_I hx hb hr hlocks hW hS (Nat.le_of_ble_eq_true rfl) (Nat.le_of_ble_eq_true rfl) dX4_single_12 ⟨hw, rfl⟩
def rm_X4_findNextInTurn : Room := { frames := 1, cells := 0, slots := 0, locals := 22 }
set_option maxHeartbeats 4000000 in
set_option maxRecDepth 100000 in
theorem c_X4_findNextInTurn (l : Launch) (E : GE) (base : Nat) (M : Mem) (ad : AD) (a1 : Int32) (Q : Int32 → Mem → Prop) (hw : w_X4_findNextInTurn M a1 Q) : Con l yX4_findNextInTurn cX4_findNextInTurn 4 (some .int) rm_X4_findNextInTurn 0 0 E base [.ref (ad 4 0), .int a1] M ad (QcI E base (fun r M1 ad1 => Q r M1 ∧ ad = ad1)) noX := by
  refine con_start (by decide) (Nat.le_of_ble_eq_true rfl) ?_
  intro p e s m args below meth c ls QQ hQQ CT hnx hW hl
  obtain ⟨⟨hx, hb, hml, hown, hts⟩, hr, hlocks, hnm, hT⟩ := CT
  have hS : va_S (fun q : Nat => base ≤ q) s.heap s.heap [] := va_S.rf
  have hl : lv_has ls 4 [(0, .ref (ad 4 0)), (1, .int a1)] := hl
  have L_2 : ∀ (n : Nat) (M : Mem) (x1 : Int32) (x2 : Int32), l_X4_findNextInTurn_2 Q n M x1 x2 → WL p l e rm_X4_findNextInTurn s m args below meth c QQ E base 4 M ad 2 [(0, .ref (ad 4 0)), (1, .int x1), (2, .int x2)] [] 0 0 := by
    intro n
    induction n with
    | zero => intro M x1 x2 hw; exact False.elim hw
    | succ n K2 =>
      intro M x1 x2 hw H locs ls hW hS hl
      obtain ⟨k2, hk2⟩ : ∃ z, z = l_X4_findNextInTurn_2 Q n := ⟨_, rfl⟩
      have hw : b_X4_findNextInTurn_2 Q k2 M x1 x2 := by rw [hk2]; exact hw
      rw [← hk2] at K2
      unfold b_X4_findNextInTurn_2 at hw
      refine lv_iload_n hx hb dX4_findNextInTurn_2 rfl (lv_at hl 2 rfl) ?_
      refine lv_bipush (v := 6) hx hb dX4_findNextInTurn_3 (by decide) ?_
      refine lv_icmp_ge (tgt := 35) hx hb dX4_findNextInTurn_5 (by decide) (fun c_1 => ?_) (fun c_1 => ?_)
      · have hw := hw.1 c_1
        refine lv_iconst (v := (-1)) hx hb dX4_findNextInTurn_35 (by decide) ?_
        rw [← hQQ]
        exact e_I hx hb hr hlocks hW hS (Nat.le_of_ble_eq_true rfl) (Nat.le_of_ble_eq_true rfl) dX4_findNextInTurn_36 ⟨hw, rfl⟩
      · have hw := hw.2 c_1
        refine lv_aload_n hx hb dX4_findNextInTurn_8 rfl (lv_at hl 0 rfl) ?_
        obtain ⟨g_2, hw⟩ := hw
        refine r_getI hx hb hts hown hT.1 hW clX4 4 (by decide) (hts _ k_10) (fun _ h9 => h9) rfl g_2 dX4_findNextInTurn_9 ?_
        refine lv_iload_n hx hb dX4_findNextInTurn_12 rfl (lv_at hl 2 rfl) ?_
        refine lv_iadd hx hb dX4_findNextInTurn_13 ?_
        refine lv_bipush (v := 6) hx hb dX4_findNextInTurn_14 (by decide) ?_
        refine lv_irem hx hb dX4_findNextInTurn_16 (by decide) ?_
        refine lv_topi (fun v_3 ev_3 => ?_)
        have hw := hw v_3 ev_3
        refine lv_istore_n (lv' := [(3, .int v_3), (0, .ref (ad 4 0)), (1, .int x1), (2, .int x2)]) hx hb dX4_findNextInTurn_17 rfl hl (by decide) rfl (fun ls hl => ?_)
        refine lv_iload_n hx hb dX4_findNextInTurn_18 rfl (lv_at hl 2 rfl) ?_
        refine lv_i2l hx hb dX4_findNextInTurn_19 rfl ?_
        refine lv_iload_n hx hb dX4_findNextInTurn_20 rfl (lv_at hl 0 rfl) ?_
        refine k_I (rn_S (As := [.long x1.toInt64, .int v_3]) (rest := []) ⟨hx, hb, hml, hown, hts⟩ hT hW hS hl (c_X4_isIn l E base M ad x1.toInt64 v_3 _ hw) cy_X4_isIn k_17 k_18 rfl rfl ⟨(Nat.le_of_ble_eq_true rfl), (Nat.le_of_ble_eq_true rfl)⟩ rfl rfl (Nat.le_of_ble_eq_true rfl) dX4_findNextInTurn_21 ⟨(Nat.le_of_ble_eq_true rfl), (Nat.le_of_ble_eq_true rfl)⟩) hS kx_no (fun r_7 M_5 ad_6 H locs hP hW hS => ?_)
        obtain ⟨hw, rfl⟩ := hP
        refine lv_if_eq (tgt := 29) hx hb dX4_findNextInTurn_24 (by decide) (fun c_8 => ?_) (fun c_8 => ?_)
        · have hw := hw.1 c_8
          obtain ⟨v_9, ev_9⟩ : ∃ y : Int32, y = x2 + 1 := ⟨_, rfl⟩
          have hw := hw v_9 ev_9
          refine lv_iinc (v := v_9) (lv' := [(2, .int v_9), (3, .int v_3), (0, .ref (ad 4 0)), (1, .int x1)]) hx hb dX4_findNextInTurn_29 hl (k := 3) rfl (by rw [ev_9]; rfl) (by decide) rfl (fun ls hl => ?_)
          refine lv_goto (tgt := 2) hx hb dX4_findNextInTurn_32 (by decide) ?_
          exact K2 M_5 x1 v_9 hw H locs ls hW hS (lv_sub hl [2, 3, 0] rfl)
        · have hw := hw.2 c_8
          refine lv_iload_n hx hb dX4_findNextInTurn_27 rfl (lv_at hl 0 rfl) ?_
          rw [← hQQ]
          exact e_I hx hb hr hlocks hW hS (Nat.le_of_ble_eq_true rfl) (Nat.le_of_ble_eq_true rfl) dX4_findNextInTurn_28 ⟨hw, rfl⟩
  unfold w_X4_findNextInTurn at hw
  obtain ⟨H, hH⟩ : ∃ z, z = s.heap := ⟨_, rfl⟩
  obtain ⟨locs, hlo⟩ : ∃ z : List Loc, z = [] := ⟨_, rfl⟩
  have hS : va_S (fun q : Nat => base ≤ q) s.heap H locs := by rw [hlo, hH]; exact hS
  have hW : Wd E base M ad H := by rw [hH]; exact hW
  rw [show W p l e rm_X4_findNextInTurn s m args below meth c s.heap [] 0 0 QQ (F0 m 0 ls []) = W p l e rm_X4_findNextInTurn s m args below meth c H locs 0 0 QQ (F0 m 0 ls []) by rw [hlo, hH]]
  refine lv_iconst (v := 0) hx hb dX4_findNextInTurn_0 (by decide) ?_
  refine lv_istore_n (lv' := [(2, .int 0), (0, .ref (ad 4 0)), (1, .int a1)]) hx hb dX4_findNextInTurn_1 rfl hl (by decide) rfl (fun ls hl => ?_)
  obtain ⟨n9, hw⟩ := hw
  exact L_2 n9 M a1 0 hw H locs ls hW hS (lv_sub hl [1, 2, 0] rfl)
def rm_X4_findChosen : Room := { frames := 5, cells := 0, slots := 0, locals := 125 }
set_option maxHeartbeats 4000000 in
set_option maxRecDepth 100000 in
theorem c_X4_findChosen (l : Launch) (E : GE) (base : Nat) (M : Mem) (ad : AD) (a1 : Nat) (Q : Int32 → Mem → Prop) (hw : w_X4_findChosen M a1 Q) : Con l yX4_findChosen cX4_findChosen 6 (some .int) rm_X4_findChosen 0 0 E base [.ref (ad 4 0), .ref (ad 2 a1)] M ad (QcI E base (fun r M1 ad1 => Q r M1 ∧ ad = ad1)) noX := by
  refine con_start (by decide) (Nat.le_of_ble_eq_true rfl) ?_
  intro p e s m args below meth c ls QQ hQQ CT hnx hW hl
  obtain ⟨⟨hx, hb, hml, hown, hts⟩, hr, hlocks, hnm, hT⟩ := CT
  have hS : va_S (fun q : Nat => base ≤ q) s.heap s.heap [] := va_S.rf
  have hl : lv_has ls 6 [(0, .ref (ad 4 0)), (1, .ref (ad 2 a1))] := hl
  have L_11 : ∀ (n : Nat) (M : Mem) (x1 : Nat) (x2 : Int32) (x3 : Int32) (x4 : Int32), l_X4_findChosen_11 Q n M x1 x2 x3 x4 → WL p l e rm_X4_findChosen s m args below meth c QQ E base 6 M ad 11 [(0, .ref (ad 4 0)), (1, .ref (ad 2 x1)), (2, .int x2), (3, .int x3), (4, .int x4)] [] 0 0 := by
    intro n
    induction n with
    | zero => intro M x1 x2 x3 x4 hw; exact False.elim hw
    | succ n K11 =>
      intro M x1 x2 x3 x4 hw H locs ls hW hS hl
      obtain ⟨k11, hk11⟩ : ∃ z, z = l_X4_findChosen_11 Q n := ⟨_, rfl⟩
      have hw : b_X4_findChosen_11 Q k11 M x1 x2 x3 x4 := by rw [hk11]; exact hw
      rw [← hk11] at K11
      unfold b_X4_findChosen_11 at hw
      refine lv_iload hx hb dX4_findChosen_11 (lv_at hl 4 rfl) ?_
      refine lv_iconst (v := 2) hx hb dX4_findChosen_13 (by decide) ?_
      refine lv_icmp_ge (tgt := 48) hx hb dX4_findChosen_14 (by decide) (fun c_6 => ?_) (fun c_6 => ?_)
      · have hw := hw.1 c_6
        refine lv_iload_n hx hb dX4_findChosen_48 rfl (lv_at hl 3 rfl) ?_
        refine lv_aload_n hx hb dX4_findChosen_49 rfl (lv_at hl 0 rfl) ?_
        refine lv_iload_n hx hb dX4_findChosen_50 rfl (lv_at hl 2 rfl) ?_
        obtain ⟨g_7, hw⟩ := hw
        refine k_I (rn_V (As := [.int x2]) (rest := [.int x3]) (κ := 4) (i := 0) ⟨hx, hb, hml, hown, hts⟩ hT hW hS hl (c_X4_findNextInTurn l E base M ad x2 _ hw) cy_X4_findNextInTurn k_111 k_112 k_113 g_7 (by decide) rfl rfl rfl rfl ⟨(Nat.le_of_ble_eq_true rfl), (Nat.le_of_ble_eq_true rfl)⟩ rfl rfl (Nat.le_of_ble_eq_true rfl) dX4_findChosen_51 ⟨(Nat.le_of_ble_eq_true rfl), (Nat.le_of_ble_eq_true rfl)⟩) hS kx_no (fun r_11 M_9 ad_10 H locs hP hW hS => ?_)
        obtain ⟨hw, rfl⟩ := hP
        refine k_I (rn_S (As := [.int r_11]) (rest := [.int x3]) ⟨hx, hb, hml, hown, hts⟩ hT hW hS hl (c_X4_single l E base M_9 ad r_11 _ hw) cy_X4_single k_114 k_115 rfl rfl ⟨(Nat.le_of_ble_eq_true rfl), (Nat.le_of_ble_eq_true rfl)⟩ rfl rfl (Nat.le_of_ble_eq_true rfl) dX4_findChosen_54 ⟨(Nat.le_of_ble_eq_true rfl), (Nat.le_of_ble_eq_true rfl)⟩) hS kx_no (fun r_15 M_13 ad_14 H locs hP hW hS => ?_)
        obtain ⟨hw, rfl⟩ := hP
        refine lv_ior hx hb dX4_findChosen_57 ?_
        rw [← hQQ]
        exact e_I hx hb hr hlocks hW hS (Nat.le_of_ble_eq_true rfl) (Nat.le_of_ble_eq_true rfl) dX4_findChosen_58 ⟨hw, rfl⟩
      · have hw := hw.2 c_6
        refine lv_aload_n hx hb dX4_findChosen_17 rfl (lv_at hl 1 rfl) ?_
        refine lv_iload_n hx hb dX4_findChosen_18 rfl (lv_at hl 2 rfl) ?_
        refine k_I (rn_S (As := [.ref (ad 2 x1), .int x2]) (rest := []) ⟨hx, hb, hml, hown, hts⟩ hT hW hS hl (c_X4_findBestGiver l E base M ad x1 x2 _ hw) cy_X4_findBestGiver k_116 k_117 rfl rfl ⟨(Nat.le_of_ble_eq_true rfl), (Nat.le_of_ble_eq_true rfl)⟩ rfl rfl (Nat.le_of_ble_eq_true rfl) dX4_findChosen_19 ⟨(Nat.le_of_ble_eq_true rfl), (Nat.le_of_ble_eq_true rfl)⟩) hS kx_no (fun r_19 M_17 ad_18 H locs hP hW hS => ?_)
        obtain ⟨hw, rfl⟩ := hP
        refine lv_istore (lv' := [(5, .int r_19), (0, .ref (ad 4 0)), (1, .ref (ad 2 x1)), (2, .int x2), (3, .int x3), (4, .int x4)]) hx hb dX4_findChosen_22 hl (by decide) rfl (fun ls hl => ?_)
        refine lv_iload_n hx hb dX4_findChosen_24 rfl (lv_at hl 4 rfl) ?_
        refine lv_iload hx hb dX4_findChosen_25 (lv_at hl 0 rfl) ?_
        refine k_I (rn_S (As := [.int r_19]) (rest := [.int x3]) ⟨hx, hb, hml, hown, hts⟩ hT hW hS hl (c_X4_single l E base M_17 ad r_19 _ hw) cy_X4_single k_114 k_115 rfl rfl ⟨(Nat.le_of_ble_eq_true rfl), (Nat.le_of_ble_eq_true rfl)⟩ rfl rfl (Nat.le_of_ble_eq_true rfl) dX4_findChosen_27 ⟨(Nat.le_of_ble_eq_true rfl), (Nat.le_of_ble_eq_true rfl)⟩) hS kx_no (fun r_23 M_21 ad_22 H locs hP hW hS => ?_)
        obtain ⟨hw, rfl⟩ := hP
        refine lv_ior hx hb dX4_findChosen_30 ?_
        refine lv_topi (fun v_24 ev_24 => ?_)
        have hw := hw v_24 ev_24
        refine lv_istore_n (lv' := [(3, .int v_24), (5, .int r_19), (0, .ref (ad 4 0)), (1, .ref (ad 2 x1)), (2, .int x2), (4, .int x4)]) hx hb dX4_findChosen_31 rfl hl (by decide) rfl (fun ls hl => ?_)
        refine lv_iload_n hx hb dX4_findChosen_32 rfl (lv_at hl 4 rfl) ?_
        refine lv_iload hx hb dX4_findChosen_33 (lv_at hl 1 rfl) ?_
        refine k_I (rn_S (As := [.int r_19]) (rest := [.int x2]) ⟨hx, hb, hml, hown, hts⟩ hT hW hS hl (c_X4_single l E base M_21 ad r_19 _ hw) cy_X4_single k_114 k_115 rfl rfl ⟨(Nat.le_of_ble_eq_true rfl), (Nat.le_of_ble_eq_true rfl)⟩ rfl rfl (Nat.le_of_ble_eq_true rfl) dX4_findChosen_35 ⟨(Nat.le_of_ble_eq_true rfl), (Nat.le_of_ble_eq_true rfl)⟩) hS kx_no (fun r_28 M_26 ad_27 H locs hP hW hS => ?_)
        obtain ⟨hw, rfl⟩ := hP
        refine lv_iconst (v := (-1)) hx hb dX4_findChosen_38 (by decide) ?_
        refine lv_ixor hx hb dX4_findChosen_39 ?_
        refine lv_iand hx hb dX4_findChosen_40 ?_
        refine lv_topi (fun v_29 ev_29 => ?_)
        have hw := hw v_29 ev_29
        refine lv_istore_n (lv' := [(2, .int v_29), (3, .int v_24), (5, .int r_19), (0, .ref (ad 4 0)), (1, .ref (ad 2 x1)), (4, .int x4)]) hx hb dX4_findChosen_41 rfl hl (by decide) rfl (fun ls hl => ?_)
        obtain ⟨v_30, ev_30⟩ : ∃ y : Int32, y = x4 + 1 := ⟨_, rfl⟩
        have hw := hw v_30 ev_30
        refine lv_iinc (v := v_30) (lv' := [(4, .int v_30), (2, .int v_29), (3, .int v_24), (5, .int r_19), (0, .ref (ad 4 0)), (1, .ref (ad 2 x1))]) hx hb dX4_findChosen_42 hl (k := 5) rfl (by rw [ev_30]; rfl) (by decide) rfl (fun ls hl => ?_)
        refine lv_goto (tgt := 11) hx hb dX4_findChosen_45 (by decide) ?_
        exact K11 M_26 x1 v_29 v_24 v_30 hw H locs ls hW hS (lv_sub hl [4, 5, 1, 2, 0] rfl)
  unfold w_X4_findChosen at hw
  obtain ⟨H, hH⟩ : ∃ z, z = s.heap := ⟨_, rfl⟩
  obtain ⟨locs, hlo⟩ : ∃ z : List Loc, z = [] := ⟨_, rfl⟩
  have hS : va_S (fun q : Nat => base ≤ q) s.heap H locs := by rw [hlo, hH]; exact hS
  have hW : Wd E base M ad H := by rw [hH]; exact hW
  rw [show W p l e rm_X4_findChosen s m args below meth c s.heap [] 0 0 QQ (F0 m 0 ls []) = W p l e rm_X4_findChosen s m args below meth c H locs 0 0 QQ (F0 m 0 ls []) by rw [hlo, hH]]
  refine lv_aload_n hx hb dX4_findChosen_0 rfl (lv_at hl 0 rfl) ?_
  refine lv_aload_n hx hb dX4_findChosen_1 rfl (lv_at hl 1 rfl) ?_
  obtain ⟨g_1, hw⟩ := hw
  refine k_I (rn_V (As := [.ref (ad 2 a1)]) (rest := []) (κ := 4) (i := 0) ⟨hx, hb, hml, hown, hts⟩ hT hW hS hl (c_X4_findInterested l E base M ad a1 _ hw) cy_X4_findInterested k_108 k_109 k_110 g_1 (by decide) rfl rfl rfl rfl ⟨(Nat.le_of_ble_eq_true rfl), (Nat.le_of_ble_eq_true rfl)⟩ rfl rfl (Nat.le_of_ble_eq_true rfl) dX4_findChosen_2 ⟨(Nat.le_of_ble_eq_true rfl), (Nat.le_of_ble_eq_true rfl)⟩) hS kx_no (fun r_5 M_3 ad_4 H locs hP hW hS => ?_)
  obtain ⟨hw, rfl⟩ := hP
  refine lv_istore_n (lv' := [(2, .int r_5), (0, .ref (ad 4 0)), (1, .ref (ad 2 a1))]) hx hb dX4_findChosen_5 rfl hl (by decide) rfl (fun ls hl => ?_)
  refine lv_iconst (v := 0) hx hb dX4_findChosen_6 (by decide) ?_
  refine lv_istore_n (lv' := [(3, .int 0), (2, .int r_5), (0, .ref (ad 4 0)), (1, .ref (ad 2 a1))]) hx hb dX4_findChosen_7 rfl hl (by decide) rfl (fun ls hl => ?_)
  refine lv_iconst (v := 0) hx hb dX4_findChosen_8 (by decide) ?_
  refine lv_istore (lv' := [(4, .int 0), (3, .int 0), (2, .int r_5), (0, .ref (ad 4 0)), (1, .ref (ad 2 a1))]) hx hb dX4_findChosen_9 hl (by decide) rfl (fun ls hl => ?_)
  obtain ⟨n9, hw⟩ := hw
  exact L_11 n9 M_3 a1 r_5 0 0 hw H locs ls hW hS (lv_sub hl [3, 4, 2, 1, 0] rfl)
def rm_X4_chosen : Room := { frames := 7, cells := 1, slots := 6, locals := 150 }
set_option maxHeartbeats 4000000 in
set_option maxRecDepth 100000 in
theorem c_X4_chosen (l : Launch) (hlt : l.stackTraces = false) (E : GE) (base : Nat) (M : Mem) (ad : AD) (a1 : Int32) (Q : Int32 → Mem → Prop) (X : Nat → Mem → Prop) (hw : w_X4_chosen M a1 Q X) : Con l yX4_chosen cX4_chosen 2 (some .int) rm_X4_chosen 1 6 E base [.ref (ad 4 0), .int a1] M ad (QcI E base (fun r M1 ad1 => Q r M1 ∧ ad = ad1)) (fun k M1 ad1 => X k M1 ∧ ad = ad1) := by
  refine con_start (by decide) (Nat.le_of_ble_eq_true rfl) ?_
  intro p e s m args below meth c ls QQ hQQ CT hnx hW hl
  obtain ⟨⟨hx, hb, hml, hown, hts⟩, hr, hlocks, hnm, hT⟩ := CT
  have hS : va_S (fun q : Nat => base ≤ q) s.heap s.heap [] := va_S.rf
  have hl : lv_has ls 2 [(0, .ref (ad 4 0)), (1, .int a1)] := hl
  unfold w_X4_chosen at hw
  obtain ⟨H, hH⟩ : ∃ z, z = s.heap := ⟨_, rfl⟩
  obtain ⟨locs, hlo⟩ : ∃ z : List Loc, z = [] := ⟨_, rfl⟩
  have hS : va_S (fun q : Nat => base ≤ q) s.heap H locs := by rw [hlo, hH]; exact hS
  have hW : Wd E base M ad H := by rw [hH]; exact hW
  rw [show W p l e rm_X4_chosen s m args below meth c s.heap [] 0 0 QQ (F0 m 0 ls []) = W p l e rm_X4_chosen s m args below meth c H locs 0 0 QQ (F0 m 0 ls []) by rw [hlo, hH]]
  refine lv_aload_n hx hb dX4_chosen_0 rfl (lv_at hl 0 rfl) ?_
  refine lv_aload_n hx hb dX4_chosen_1 rfl (lv_at hl 0 rfl) ?_
  refine lv_iload_n hx hb dX4_chosen_2 rfl (lv_at hl 1 rfl) ?_
  obtain ⟨g_1, hw⟩ := hw
  refine k_Q (rn_V (As := [.int a1]) (rest := [.ref (ad 4 0)]) (κ := 4) (i := 0) ⟨hx, hb, hml, hown, hts⟩ hT hW hS hl (c_X4_known l hlt E base M ad a1 _ _ hw) cy_X4_known k_79 k_80 k_81 g_1 (by decide) rfl rfl rfl rfl ⟨(Nat.le_of_ble_eq_true rfl), (Nat.le_of_ble_eq_true rfl)⟩ rfl rfl (Nat.le_of_ble_eq_true rfl) dX4_chosen_3 ⟨(Nat.le_of_ble_eq_true rfl), (Nat.le_of_ble_eq_true rfl)⟩) hS (by rw [← hQQ]; exact kx_out hnx hlocks (Nat.le_of_ble_eq_true rfl) (Nat.le_of_ble_eq_true rfl) (fun _ _ _ h9 => h9)) (fun M_3 ad_4 H locs hP hW hS => absurd hP (fun ⟨_, h9, _⟩ => by cases h9)) (fun r_5 M_3 ad_4 H locs hP hW hS => ?_)
  obtain ⟨_, h9, hw, rfl⟩ := hP
  cases h9
  obtain ⟨g_6, hw⟩ := hw
  refine k_I (rn_V (As := [.ref (ad 2 r_5)]) (rest := []) (κ := 4) (i := 0) ⟨hx, hb, hml, hown, hts⟩ hT hW hS hl (c_X4_findChosen l E base M_3 ad r_5 _ hw) cy_X4_findChosen k_118 k_119 k_120 g_6 (by decide) rfl rfl rfl rfl ⟨(Nat.le_of_ble_eq_true rfl), (Nat.le_of_ble_eq_true rfl)⟩ rfl rfl (Nat.le_of_ble_eq_true rfl) dX4_chosen_6 ⟨(Nat.le_of_ble_eq_true rfl), (Nat.le_of_ble_eq_true rfl)⟩) hS kx_no (fun r_10 M_8 ad_9 H locs hP hW hS => ?_)
  obtain ⟨hw, rfl⟩ := hP
  rw [← hQQ]
  exact e_I hx hb hr hlocks hW hS (Nat.le_of_ble_eq_true rfl) (Nat.le_of_ble_eq_true rfl) dX4_chosen_9 ⟨hw, rfl⟩
def rm_X0_clear : Room := { frames := 0, cells := 0, slots := 0, locals := 0 }
set_option maxHeartbeats 4000000 in
set_option maxRecDepth 100000 in
theorem c_X0_clear (l : Launch) (E : GE) (base : Nat) (M : Mem) (ad : AD) (t : Nat) (Q : Mem → Prop) (hw : w_X0_clear M t Q) : Con l yX0_clear cX0_clear 1 none rm_X0_clear 0 0 E base [.ref (ad 0 t)] M ad (QcV E base (fun M1 ad1 => Q M1 ∧ ad = ad1)) noX := by
  refine con_start (by decide) (Nat.le_of_ble_eq_true rfl) ?_
  intro p e s m args below meth c ls QQ hQQ CT hnx hW hl
  obtain ⟨⟨hx, hb, hml, hown, hts⟩, hr, hlocks, hnm, hT⟩ := CT
  have hS : va_S (fun q : Nat => base ≤ q) s.heap s.heap [] := va_S.rf
  have hl : lv_has ls 1 [(0, .ref (ad 0 t))] := hl
  unfold w_X0_clear at hw
  obtain ⟨H, hH⟩ : ∃ z, z = s.heap := ⟨_, rfl⟩
  obtain ⟨locs, hlo⟩ : ∃ z : List Loc, z = [] := ⟨_, rfl⟩
  have hS : va_S (fun q : Nat => base ≤ q) s.heap H locs := by rw [hlo, hH]; exact hS
  have hW : Wd E base M ad H := by rw [hH]; exact hW
  rw [show W p l e rm_X0_clear s m args below meth c s.heap [] 0 0 QQ (F0 m 0 ls []) = W p l e rm_X0_clear s m args below meth c H locs 0 0 QQ (F0 m 0 ls []) by rw [hlo, hH]]
  refine lv_aload_n hx hb dX0_clear_0 rfl (lv_at hl 0 rfl) ?_
  refine lv_iconst (v := 0) hx hb dX0_clear_1 (by decide) ?_
  obtain ⟨g_1, hw⟩ := hw
  refine r_putI hx hb hts hown hT.1 hW hS clX0 2 (by decide) (hts _ k_30) (fun _ h9 => h9) rfl (by decide +kernel) rfl g_1 dX0_clear_2 (fun M_2 H locs hM_2 hW hS => ?_)
  have hw := hw M_2 hM_2
  refine lv_aload_n hx hb dX0_clear_5 rfl (lv_at hl 0 rfl) ?_
  refine lv_lconst (v := 0) hx hb dX0_clear_6 (by decide) ?_
  refine r_putL hx hb hts hown hT.1 hW hS clX0 3 (by decide) (hts _ k_31) (fun _ h9 => h9) rfl (by decide +kernel) rfl (by rw [hM_2]; exact g_1) dX0_clear_7 (fun M_3 H locs hM_3 hW hS => ?_)
  have hw := hw M_3 hM_3
  rw [← hQQ]
  exact e_V hx hb hr hlocks hW hS (Nat.le_of_ble_eq_true rfl) (Nat.le_of_ble_eq_true rfl) dX0_clear_10 ⟨hw, rfl⟩
def rm_X4_beginShowing : Room := { frames := 4, cells := 0, slots := 0, locals := 98 }
set_option maxHeartbeats 4000000 in
set_option maxRecDepth 100000 in
theorem c_X4_beginShowing (l : Launch) (E : GE) (base : Nat) (M : Mem) (ad : AD) (a1 : Nat) (Q : Mem → Prop) (hw : w_X4_beginShowing M a1 Q) : Con l yX4_beginShowing cX4_beginShowing 6 none rm_X4_beginShowing 0 0 E base [.ref (ad 4 0), .ref (ad 2 a1)] M ad (QcV E base (fun M1 ad1 => Q M1 ∧ ad = ad1)) noX := by
  refine con_start (by decide) (Nat.le_of_ble_eq_true rfl) ?_
  intro p e s m args below meth c ls QQ hQQ CT hnx hW hl
  obtain ⟨⟨hx, hb, hml, hown, hts⟩, hr, hlocks, hnm, hT⟩ := CT
  have hS : va_S (fun q : Nat => base ≤ q) s.heap s.heap [] := va_S.rf
  have hl : lv_has ls 6 [(0, .ref (ad 4 0)), (1, .ref (ad 2 a1))] := hl
  have L_45 : ∀ (k11 : Mem → Nat → Int32 → Int32 → Prop) (K11 : ∀ (M : Mem) (x1 : Nat) (x3 : Int32) (x4 : Int32), k11 M x1 x3 x4 → WL p l e rm_X4_beginShowing s m args below meth c QQ E base 6 M ad 11 [(0, .ref (ad 4 0)), (1, .ref (ad 2 x1)), (2, .ref (ad 10 0)), (3, .int x3), (4, .int x4)] [] 0 0) (M : Mem) (x1 : Nat) (x3 : Int32) (x4 : Int32), b_X4_beginShowing_45 k11 Q M x1 x3 x4 → WL p l e rm_X4_beginShowing s m args below meth c QQ E base 6 M ad 45 [(0, .ref (ad 4 0)), (1, .ref (ad 2 x1)), (2, .ref (ad 10 0)), (3, .int x3), (4, .int x4)] [] 0 0 := by
    intro k11 K11 M x1 x3 x4 hw H locs ls hW hS hl
    unfold b_X4_beginShowing_45 at hw
    obtain ⟨v_19, ev_19⟩ : ∃ y : Int32, y = x4 + 1 := ⟨_, rfl⟩
    have hw := hw v_19 ev_19
    refine lv_iinc (v := v_19) (lv' := [(4, .int v_19), (0, .ref (ad 4 0)), (1, .ref (ad 2 x1)), (2, .ref (ad 10 0)), (3, .int x3)]) hx hb dX4_beginShowing_45 hl (k := 4) rfl (by rw [ev_19]; rfl) (by decide) rfl (fun ls hl => ?_)
    refine lv_goto (tgt := 11) hx hb dX4_beginShowing_48 (by decide) ?_
    exact K11 M x1 x3 v_19 hw H locs ls hW hS (lv_sub hl [1, 2, 3, 4, 0] rfl)
  have L_11 : ∀ (n : Nat) (M : Mem) (x1 : Nat) (x3 : Int32) (x4 : Int32), l_X4_beginShowing_11 Q n M x1 x3 x4 → WL p l e rm_X4_beginShowing s m args below meth c QQ E base 6 M ad 11 [(0, .ref (ad 4 0)), (1, .ref (ad 2 x1)), (2, .ref (ad 10 0)), (3, .int x3), (4, .int x4)] [] 0 0 := by
    intro n
    induction n with
    | zero => intro M x1 x3 x4 hw; exact False.elim hw
    | succ n K11 =>
      intro M x1 x3 x4 hw H locs ls hW hS hl
      obtain ⟨k11, hk11⟩ : ∃ z, z = l_X4_beginShowing_11 Q n := ⟨_, rfl⟩
      have hw : b_X4_beginShowing_11 Q k11 M x1 x3 x4 := by rw [hk11]; exact hw
      rw [← hk11] at K11
      unfold b_X4_beginShowing_11 at hw
      refine lv_iload hx hb dX4_beginShowing_11 (lv_at hl 4 rfl) ?_
      refine lv_iload_n hx hb dX4_beginShowing_13 rfl (lv_at hl 3 rfl) ?_
      refine lv_icmp_ge (tgt := 51) hx hb dX4_beginShowing_14 (by decide) (fun c_4 => ?_) (fun c_4 => ?_)
      · have hw := hw.1 c_4
        rw [← hQQ]
        exact e_V hx hb hr hlocks hW hS (Nat.le_of_ble_eq_true rfl) (Nat.le_of_ble_eq_true rfl) dX4_beginShowing_51 ⟨hw, rfl⟩
      · have hw := hw.2 c_4
        refine lv_aload_n hx hb dX4_beginShowing_17 rfl (lv_at hl 2 rfl) ?_
        refine lv_iload hx hb dX4_beginShowing_18 (lv_at hl 4 rfl) ?_
        obtain ⟨g_5, hw⟩ := hw
        obtain ⟨g_6, hw⟩ := hw
        refine r_aald hx hb hT.1 hW g_6 g_5 dX4_beginShowing_20 (fun g_7 => ?_) (fun g_7 => ?_)
        · have hw := hw.1 g_7
          refine lv_astore (lv' := [(5, .ref (ad 2 x4.toNatClampNeg)), (0, .ref (ad 4 0)), (1, .ref (ad 2 x1)), (2, .ref (ad 10 0)), (3, .int x3), (4, .int x4)]) hx hb dX4_beginShowing_21 hl (by decide) rfl (fun ls hl => ?_)
          refine lv_aload hx hb dX4_beginShowing_23 (lv_at hl 0 rfl) ?_
          refine lv_ifnull hx hb dX4_beginShowing_25 ?_
          refine lv_aload_n hx hb dX4_beginShowing_28 rfl (lv_at hl 2 rfl) ?_
          obtain ⟨g_8, hw⟩ := hw
          obtain ⟨g_9, hw⟩ := hw
          refine r_getR (κ2 := 26) (i2 := x1) hx hb hts hown hT.1 hW clX2 12 (by decide) (hts _ k_121) (fun _ h9 => h9) 26 rfl rfl g_8 g_9 dX4_beginShowing_29 ?_
          refine lv_aload hx hb dX4_beginShowing_32 (lv_at hl 0 rfl) ?_
          obtain ⟨g_10, hw⟩ := hw
          refine r_getI hx hb hts hown hT.1 hW clX2 0 (by decide) (hts _ k_83) (fun _ h9 => h9) rfl g_10 dX4_beginShowing_34 ?_
          refine lv_aload_n hx hb dX4_beginShowing_37 rfl (lv_at hl 1 rfl) ?_
          refine lv_aload_n hx hb dX4_beginShowing_38 rfl (lv_at hl 2 rfl) ?_
          refine lv_aload hx hb dX4_beginShowing_39 (lv_at hl 0 rfl) ?_
          obtain ⟨g_11, hw⟩ := hw
          refine k_I (rn_V (As := [.ref (ad 2 x1), .ref (ad 2 x4.toNatClampNeg)]) (rest := [.int (mI M 2 x4.toNatClampNeg 0), .ref (ad 26 x1)]) (κ := 4) (i := 0) ⟨hx, hb, hml, hown, hts⟩ hT hW hS hl (c_X4_findShown l E base M ad x1 x4.toNatClampNeg _ hw) cy_X4_findShown k_97 k_98 k_99 g_11 (by decide) rfl rfl rfl rfl ⟨(Nat.le_of_ble_eq_true rfl), (Nat.le_of_ble_eq_true rfl)⟩ rfl rfl (Nat.le_of_ble_eq_true rfl) dX4_beginShowing_41 ⟨(Nat.le_of_ble_eq_true rfl), (Nat.le_of_ble_eq_true rfl)⟩) hS kx_no (fun r_15 M_13 ad_14 H locs hP hW hS => ?_)
          obtain ⟨hw, rfl⟩ := hP
          obtain ⟨g_16, hw⟩ := hw
          obtain ⟨g_17, hw⟩ := hw
          refine r_iast hx hb hT.1 hW hS (by decide) rfl (fun _ => rfl) 6 rfl g_17 g_16 dX4_beginShowing_44 (fun M_18 H locs hM_18 hW hS => ?_)
          have hw := hw M_18 hM_18
          exact L_45 k11 K11 M_18 x1 x3 x4 hw H locs ls hW hS (lv_sub hl [1, 2, 3, 4, 5] rfl)
        · have hw := hw.2 g_7
          refine lv_astoreN (lv' := [(5, .null), (0, .ref (ad 4 0)), (1, .ref (ad 2 x1)), (2, .ref (ad 10 0)), (3, .int x3), (4, .int x4)]) hx hb dX4_beginShowing_21 hl (by decide) rfl (fun ls hl => ?_)
          refine lv_aloadN hx hb dX4_beginShowing_23 (lv_at hl 0 rfl) ?_
          refine lv_ifnullN (tgt := 45) hx hb dX4_beginShowing_25 (by decide) ?_
          exact L_45 k11 K11 M x1 x3 x4 hw H locs ls hW hS (lv_sub hl [1, 2, 3, 4, 5] rfl)
  unfold w_X4_beginShowing at hw
  obtain ⟨H, hH⟩ : ∃ z, z = s.heap := ⟨_, rfl⟩
  obtain ⟨locs, hlo⟩ : ∃ z : List Loc, z = [] := ⟨_, rfl⟩
  have hS : va_S (fun q : Nat => base ≤ q) s.heap H locs := by rw [hlo, hH]; exact hS
  have hW : Wd E base M ad H := by rw [hH]; exact hW
  rw [show W p l e rm_X4_beginShowing s m args below meth c s.heap [] 0 0 QQ (F0 m 0 ls []) = W p l e rm_X4_beginShowing s m args below meth c H locs 0 0 QQ (F0 m 0 ls []) by rw [hlo, hH]]
  refine lv_aload_n hx hb dX4_beginShowing_0 rfl (lv_at hl 0 rfl) ?_
  obtain ⟨g_1, hw⟩ := hw
  obtain ⟨g_2, hw⟩ := hw
  refine r_getR (κ2 := 10) (i2 := 0) hx hb hts hown hT.1 hW clX4 0 (by decide) (hts _ k_5) (fun _ h9 => h9) 10 rfl rfl g_1 g_2 dX4_beginShowing_1 ?_
  refine lv_astore_n (lv' := [(2, .ref (ad 10 0)), (0, .ref (ad 4 0)), (1, .ref (ad 2 a1))]) hx hb dX4_beginShowing_4 rfl hl (by decide) rfl (fun ls hl => ?_)
  refine lv_aload_n hx hb dX4_beginShowing_5 rfl (lv_at hl 0 rfl) ?_
  obtain ⟨g_3, hw⟩ := hw
  refine r_alen (v := 6) hx hb hT.1 hW (by decide) 3 rfl (kTy 3) rfl (by decide) g_3 dX4_beginShowing_6 ?_
  refine lv_istore_n (lv' := [(3, .int 6), (2, .ref (ad 10 0)), (0, .ref (ad 4 0)), (1, .ref (ad 2 a1))]) hx hb dX4_beginShowing_7 rfl hl (by decide) rfl (fun ls hl => ?_)
  refine lv_iconst (v := 0) hx hb dX4_beginShowing_8 (by decide) ?_
  refine lv_istore (lv' := [(4, .int 0), (3, .int 6), (2, .ref (ad 10 0)), (0, .ref (ad 4 0)), (1, .ref (ad 2 a1))]) hx hb dX4_beginShowing_9 hl (by decide) rfl (fun ls hl => ?_)
  obtain ⟨n9, hw⟩ := hw
  exact L_11 n9 M a1 6 0 hw H locs ls hW hS (lv_sub hl [3, 4, 2, 1, 0] rfl)
def rm_X4_begin : Room := { frames := 6, cells := 0, slots := 0, locals := 150 }
set_option maxHeartbeats 4000000 in
set_option maxRecDepth 100000 in
theorem c_X4_begin (l : Launch) (E : GE) (base : Nat) (M : Mem) (ad : AD)  (Q : Mem → Prop) (hw : w_X4_begin M  Q) : Con l yX4_begin cX4_begin 5 none rm_X4_begin 0 0 E base [.ref (ad 4 0)] M ad (QcV E base (fun M1 ad1 => Q M1 ∧ ad = ad1)) noX := by
  refine con_start (by decide) (Nat.le_of_ble_eq_true rfl) ?_
  intro p e s m args below meth c ls QQ hQQ CT hnx hW hl
  obtain ⟨⟨hx, hb, hml, hown, hts⟩, hr, hlocks, hnm, hT⟩ := CT
  have hS : va_S (fun q : Nat => base ≤ q) s.heap s.heap [] := va_S.rf
  have hl : lv_has ls 5 [(0, .ref (ad 4 0))] := hl
  have L_78 : ∀ (k38 : Mem → Int32 → Int32 → Prop) (K38 : ∀ (M : Mem) (x2 : Int32) (x3 : Int32), k38 M x2 x3 → WL p l e rm_X4_begin s m args below meth c QQ E base 5 M ad 38 [(0, .ref (ad 4 0)), (1, .ref (ad 10 0)), (2, .int x2), (3, .int x3)] [] 0 0) (M : Mem) (x2 : Int32) (x3 : Int32), b_X4_begin_78 k38 Q M x2 x3 → WL p l e rm_X4_begin s m args below meth c QQ E base 5 M ad 78 [(0, .ref (ad 4 0)), (1, .ref (ad 10 0)), (2, .int x2), (3, .int x3)] [] 0 0 := by
    intro k38 K38 M x2 x3 hw H locs ls hW hS hl
    unfold b_X4_begin_78 at hw
    obtain ⟨v_30, ev_30⟩ : ∃ y : Int32, y = x3 + 1 := ⟨_, rfl⟩
    have hw := hw v_30 ev_30
    refine lv_iinc (v := v_30) (lv' := [(3, .int v_30), (0, .ref (ad 4 0)), (1, .ref (ad 10 0)), (2, .int x2)]) hx hb dX4_begin_78 hl (k := 3) rfl (by rw [ev_30]; rfl) (by decide) rfl (fun ls hl => ?_)
    refine lv_goto (tgt := 38) hx hb dX4_begin_81 (by decide) ?_
    exact K38 M x2 v_30 hw H locs ls hW hS (lv_sub hl [1, 2, 3, 0] rfl)
  have L_38 : ∀ (n : Nat) (M : Mem) (x2 : Int32) (x3 : Int32), l_X4_begin_38 Q n M x2 x3 → WL p l e rm_X4_begin s m args below meth c QQ E base 5 M ad 38 [(0, .ref (ad 4 0)), (1, .ref (ad 10 0)), (2, .int x2), (3, .int x3)] [] 0 0 := by
    intro n
    induction n with
    | zero => intro M x2 x3 hw; exact False.elim hw
    | succ n K38 =>
      intro M x2 x3 hw H locs ls hW hS hl
      obtain ⟨k38, hk38⟩ : ∃ z, z = l_X4_begin_38 Q n := ⟨_, rfl⟩
      have hw : b_X4_begin_38 Q k38 M x2 x3 := by rw [hk38]; exact hw
      rw [← hk38] at K38
      unfold b_X4_begin_38 at hw
      refine lv_iload_n hx hb dX4_begin_38 rfl (lv_at hl 3 rfl) ?_
      refine lv_iload_n hx hb dX4_begin_39 rfl (lv_at hl 2 rfl) ?_
      refine lv_icmp_ge (tgt := 84) hx hb dX4_begin_40 (by decide) (fun c_7 => ?_) (fun c_7 => ?_)
      · have hw := hw.1 c_7
        rw [← hQQ]
        exact e_V hx hb hr hlocks hW hS (Nat.le_of_ble_eq_true rfl) (Nat.le_of_ble_eq_true rfl) dX4_begin_84 ⟨hw, rfl⟩
      · have hw := hw.2 c_7
        refine lv_aload_n hx hb dX4_begin_43 rfl (lv_at hl 1 rfl) ?_
        refine lv_iload_n hx hb dX4_begin_44 rfl (lv_at hl 3 rfl) ?_
        obtain ⟨g_8, hw⟩ := hw
        obtain ⟨g_9, hw⟩ := hw
        refine r_aald hx hb hT.1 hW g_9 g_8 dX4_begin_45 (fun g_10 => ?_) (fun g_10 => ?_)
        · have hw := hw.1 g_10
          refine lv_astore (lv' := [(4, .ref (ad 2 x3.toNatClampNeg)), (0, .ref (ad 4 0)), (1, .ref (ad 10 0)), (2, .int x2), (3, .int x3)]) hx hb dX4_begin_46 hl (by decide) rfl (fun ls hl => ?_)
          refine lv_aload hx hb dX4_begin_48 (lv_at hl 0 rfl) ?_
          refine lv_ifnull hx hb dX4_begin_50 ?_
          refine lv_aload hx hb dX4_begin_53 (lv_at hl 0 rfl) ?_
          obtain ⟨g_11, hw⟩ := hw
          obtain ⟨g_12, hw⟩ := hw
          refine r_getR (κ2 := 0) (i2 := x3.toNatClampNeg) hx hb hts hown hT.1 hW clX2 3 (by decide) (hts _ k_122) (fun _ h9 => h9) 0 rfl rfl g_11 g_12 dX4_begin_55 ?_
          obtain ⟨g_13, hw⟩ := hw
          refine k_V (rn_V (As := []) (rest := []) (κ := 0) (i := x3.toNatClampNeg) ⟨hx, hb, hml, hown, hts⟩ hT hW hS hl (c_X0_clear l E base M ad x3.toNatClampNeg _ hw) cy_X0_clear k_123 k_124 k_125 g_13 (by decide) rfl rfl rfl rfl ⟨(Nat.le_of_ble_eq_true rfl), (Nat.le_of_ble_eq_true rfl)⟩ rfl rfl (Nat.le_of_ble_eq_true rfl) dX4_begin_58 ⟨(Nat.le_of_ble_eq_true rfl), (Nat.le_of_ble_eq_true rfl)⟩) hS kx_no (fun M_15 ad_16 H locs hP hW hS => ?_)
          obtain ⟨hw, rfl⟩ := hP
          refine lv_aload hx hb dX4_begin_61 (lv_at hl 0 rfl) ?_
          refine lv_aload_n hx hb dX4_begin_63 rfl (lv_at hl 1 rfl) ?_
          refine lv_aload hx hb dX4_begin_64 (lv_at hl 0 rfl) ?_
          obtain ⟨g_18, hw⟩ := hw
          refine k_I (rn_V (As := [.ref (ad 2 x3.toNatClampNeg)]) (rest := [.ref (ad 2 x3.toNatClampNeg)]) (κ := 4) (i := 0) ⟨hx, hb, hml, hown, hts⟩ hT hW hS hl (c_X4_findChosen l E base M_15 ad x3.toNatClampNeg _ hw) cy_X4_findChosen k_118 k_119 k_120 g_18 (by decide) rfl rfl rfl rfl ⟨(Nat.le_of_ble_eq_true rfl), (Nat.le_of_ble_eq_true rfl)⟩ rfl rfl (Nat.le_of_ble_eq_true rfl) dX4_begin_66 ⟨(Nat.le_of_ble_eq_true rfl), (Nat.le_of_ble_eq_true rfl)⟩) hS kx_no (fun r_22 M_20 ad_21 H locs hP hW hS => ?_)
          obtain ⟨hw, rfl⟩ := hP
          obtain ⟨g_23, hw⟩ := hw
          refine r_putI hx hb hts hown hT.1 hW hS clX2 13 (by decide) (hts _ k_126) (fun _ h9 => h9) rfl (by decide +kernel) rfl g_23 dX4_begin_69 (fun M_24 H locs hM_24 hW hS => ?_)
          have hw := hw M_24 hM_24
          refine lv_aload_n hx hb dX4_begin_72 rfl (lv_at hl 1 rfl) ?_
          refine lv_aload hx hb dX4_begin_73 (lv_at hl 0 rfl) ?_
          obtain ⟨g_25, hw⟩ := hw
          refine k_V (rn_V (As := [.ref (ad 2 x3.toNatClampNeg)]) (rest := []) (κ := 4) (i := 0) ⟨hx, hb, hml, hown, hts⟩ hT hW hS hl (c_X4_beginShowing l E base M_24 ad x3.toNatClampNeg _ hw) cy_X4_beginShowing k_127 k_128 k_129 g_25 (by decide) rfl rfl rfl rfl ⟨(Nat.le_of_ble_eq_true rfl), (Nat.le_of_ble_eq_true rfl)⟩ rfl rfl (Nat.le_of_ble_eq_true rfl) dX4_begin_75 ⟨(Nat.le_of_ble_eq_true rfl), (Nat.le_of_ble_eq_true rfl)⟩) hS kx_no (fun M_27 ad_28 H locs hP hW hS => ?_)
          obtain ⟨hw, rfl⟩ := hP
          exact L_78 k38 K38 M_27 x2 x3 hw H locs ls hW hS (lv_sub hl [1, 2, 3, 4] rfl)
        · have hw := hw.2 g_10
          refine lv_astoreN (lv' := [(4, .null), (0, .ref (ad 4 0)), (1, .ref (ad 10 0)), (2, .int x2), (3, .int x3)]) hx hb dX4_begin_46 hl (by decide) rfl (fun ls hl => ?_)
          refine lv_aloadN hx hb dX4_begin_48 (lv_at hl 0 rfl) ?_
          refine lv_ifnullN (tgt := 78) hx hb dX4_begin_50 (by decide) ?_
          exact L_78 k38 K38 M x2 x3 hw H locs ls hW hS (lv_sub hl [1, 2, 3, 4] rfl)
  have L_2 : ∀ (n : Nat) (M : Mem) (x1 : Int32), l_X4_begin_2 Q n M x1 → WL p l e rm_X4_begin s m args below meth c QQ E base 5 M ad 2 [(0, .ref (ad 4 0)), (1, .int x1)] [] 0 0 := by
    intro n
    induction n with
    | zero => intro M x1 hw; exact False.elim hw
    | succ n K2 =>
      intro M x1 hw H locs ls hW hS hl
      obtain ⟨k2, hk2⟩ : ∃ z, z = l_X4_begin_2 Q n := ⟨_, rfl⟩
      have hw : b_X4_begin_2 Q k2 M x1 := by rw [hk2]; exact hw
      rw [← hk2] at K2
      unfold b_X4_begin_2 at hw
      refine lv_iload_n hx hb dX4_begin_2 rfl (lv_at hl 1 rfl) ?_
      refine lv_aload_n hx hb dX4_begin_3 rfl (lv_at hl 0 rfl) ?_
      obtain ⟨g_1, hw⟩ := hw
      obtain ⟨g_2, hw⟩ := hw
      refine r_getR (κ2 := 12) (i2 := 0) hx hb hts hown hT.1 hW clX4 2 (by decide) (hts _ k_8) (fun _ h9 => h9) 12 rfl rfl g_1 g_2 dX4_begin_4 ?_
      obtain ⟨g_3, hw⟩ := hw
      refine r_alen (v := 12) hx hb hT.1 hW (by decide) 0 rfl (kTy 0) rfl (by decide) g_3 dX4_begin_7 ?_
      refine lv_icmp_ge (tgt := 28) hx hb dX4_begin_8 (by decide) (fun c_4 => ?_) (fun c_4 => ?_)
      · have hw := hw.1 c_4
        refine lv_aload_n hx hb dX4_begin_28 rfl (lv_at hl 0 rfl) ?_
        obtain ⟨g_5, hw⟩ := hw
        refine r_getR (κ2 := 10) (i2 := 0) hx hb hts hown hT.1 hW clX4 0 (by decide) (hts _ k_5) (fun _ h9 => h9) 10 rfl rfl g_1 g_5 dX4_begin_29 ?_
        refine lv_astore_n (lv' := [(1, .ref (ad 10 0)), (0, .ref (ad 4 0))]) hx hb dX4_begin_32 rfl hl (by decide) rfl (fun ls hl => ?_)
        refine lv_aload_n hx hb dX4_begin_33 rfl (lv_at hl 0 rfl) ?_
        obtain ⟨g_6, hw⟩ := hw
        refine r_alen (v := 6) hx hb hT.1 hW (by decide) 3 rfl (kTy 3) rfl (by decide) g_6 dX4_begin_34 ?_
        refine lv_istore_n (lv' := [(2, .int 6), (1, .ref (ad 10 0)), (0, .ref (ad 4 0))]) hx hb dX4_begin_35 rfl hl (by decide) rfl (fun ls hl => ?_)
        refine lv_iconst (v := 0) hx hb dX4_begin_36 (by decide) ?_
        refine lv_istore_n (lv' := [(3, .int 0), (2, .int 6), (1, .ref (ad 10 0)), (0, .ref (ad 4 0))]) hx hb dX4_begin_37 rfl hl (by decide) rfl (fun ls hl => ?_)
        obtain ⟨n9, hw⟩ := hw
        exact L_38 n9 M 6 0 hw H locs ls hW hS (lv_sub hl [3, 2, 1, 0] rfl)
      · have hw := hw.2 c_4
        refine lv_aload_n hx hb dX4_begin_11 rfl (lv_at hl 0 rfl) ?_
        refine r_getR (κ2 := 12) (i2 := 0) hx hb hts hown hT.1 hW clX4 2 (by decide) (hts _ k_8) (fun _ h9 => h9) 12 rfl rfl g_1 g_2 dX4_begin_12 ?_
        refine lv_iload_n hx hb dX4_begin_15 rfl (lv_at hl 1 rfl) ?_
        refine lv_aload_n hx hb dX4_begin_16 rfl (lv_at hl 0 rfl) ?_
        refine lv_iload_n hx hb dX4_begin_17 rfl (lv_at hl 1 rfl) ?_
        refine k_I (rn_V (As := [.int x1]) (rest := [.int x1, .ref (ad 12 0)]) (κ := 4) (i := 0) ⟨hx, hb, hml, hown, hts⟩ hT hW hS hl (c_X4_countHolders l E base M ad x1 _ hw) cy_X4_countHolders k_21 k_22 k_23 g_1 (by decide) rfl rfl rfl rfl ⟨(Nat.le_of_ble_eq_true rfl), (Nat.le_of_ble_eq_true rfl)⟩ rfl rfl (Nat.le_of_ble_eq_true rfl) dX4_begin_18 ⟨(Nat.le_of_ble_eq_true rfl), (Nat.le_of_ble_eq_true rfl)⟩) hS kx_no (fun r_34 M_32 ad_33 H locs hP hW hS => ?_)
        obtain ⟨hw, rfl⟩ := hP
        obtain ⟨g_35, hw⟩ := hw
        obtain ⟨g_36, hw⟩ := hw
        refine r_iast hx hb hT.1 hW hS (by decide) rfl (fun _ => rfl) 12 rfl g_36 g_35 dX4_begin_21 (fun M_37 H locs hM_37 hW hS => ?_)
        have hw := hw M_37 hM_37
        obtain ⟨v_38, ev_38⟩ : ∃ y : Int32, y = x1 + 1 := ⟨_, rfl⟩
        have hw := hw v_38 ev_38
        refine lv_iinc (v := v_38) (lv' := [(1, .int v_38), (0, .ref (ad 4 0))]) hx hb dX4_begin_22 hl (k := 1) rfl (by rw [ev_38]; rfl) (by decide) rfl (fun ls hl => ?_)
        refine lv_goto (tgt := 2) hx hb dX4_begin_25 (by decide) ?_
        exact K2 M_37 v_38 hw H locs ls hW hS (lv_sub hl [1, 0] rfl)
  unfold w_X4_begin at hw
  obtain ⟨H, hH⟩ : ∃ z, z = s.heap := ⟨_, rfl⟩
  obtain ⟨locs, hlo⟩ : ∃ z : List Loc, z = [] := ⟨_, rfl⟩
  have hS : va_S (fun q : Nat => base ≤ q) s.heap H locs := by rw [hlo, hH]; exact hS
  have hW : Wd E base M ad H := by rw [hH]; exact hW
  rw [show W p l e rm_X4_begin s m args below meth c s.heap [] 0 0 QQ (F0 m 0 ls []) = W p l e rm_X4_begin s m args below meth c H locs 0 0 QQ (F0 m 0 ls []) by rw [hlo, hH]]
  refine lv_iconst (v := 0) hx hb dX4_begin_0 (by decide) ?_
  refine lv_istore_n (lv' := [(1, .int 0), (0, .ref (ad 4 0))]) hx hb dX4_begin_1 rfl hl (by decide) rfl (fun ls hl => ?_)
  obtain ⟨n9, hw⟩ := hw
  exact L_2 n9 M 0 hw H locs ls hW hS (lv_sub hl [1, 0] rfl)
