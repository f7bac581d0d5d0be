def rm_J7_fill_53178_11 : Room := { frames := 0, cells := 0, slots := 0, locals := 0 }
set_option maxHeartbeats 4000000 in
set_option maxRecDepth 100000 in
theorem c_J7_fill_53178_11 (l : Launch) (E : GE) (base : Nat) (M : Mem) (ad : AD) (a1 : Int32) (Q : Mem → Prop) (hw : w_J7_fill_53178_11 M a1 Q) : Con l yJ7_fill_53178 cJ7_fill_53178 4 none rm_J7_fill_53178_11 0 0 E base [.ref (ad 11 0), .int a1] M ad (QcV E base (fun M1 ad1 => Q M1 ∧ ad = ad1)) noX := by
  refine con_start (by decide) (Nat.le_of_ble_eq_true rfl) ?_
  intro p e s m args below meth c ls QQ hQQ CT hnx hW hl
  obtain ⟨⟨hx, hb, hml, hown, hts⟩, hr, hlocks, hnm, hT⟩ := CT
  have hS : va_S (fun q : Nat => base ≤ q) s.heap s.heap [] := va_S.rf
  have hl : lv_has ls 4 [(0, .ref (ad 11 0)), (1, .int a1)] := hl
  have L_5 : ∀ (n : Nat) (M : Mem) (x1 : Int32) (x2 : Int32) (x3 : Int32), l_J7_fill_53178_11_5 Q n M x1 x2 x3 → WL p l e rm_J7_fill_53178_11 s m args below meth c QQ E base 4 M ad 5 [(0, .ref (ad 11 0)), (1, .int x1), (2, .int x2), (3, .int x3)] [] 0 0 := by
    intro n
    induction n with
    | zero => intro M x1 x2 x3 hw; exact False.elim hw
    | succ n K5 =>
      intro M x1 x2 x3 hw H locs ls hW hS hl
      obtain ⟨k5, hk5⟩ : ∃ z, z = l_J7_fill_53178_11_5 Q n := ⟨_, rfl⟩
      have hw : b_J7_fill_53178_11_5 Q k5 M x1 x2 x3 := by rw [hk5]; exact hw
      rw [← hk5] at K5
      unfold b_J7_fill_53178_11_5 at hw
      refine lv_iload_n hx hb dJ7_fill_53178_5 rfl (lv_at hl 2 rfl) ?_
      refine lv_iload_n hx hb dJ7_fill_53178_6 rfl (lv_at hl 3 rfl) ?_
      refine lv_icmp_ge (tgt := 20) hx hb dJ7_fill_53178_7 (by decide) (fun c_2 => ?_) (fun c_2 => ?_)
      · have hw := hw.1 c_2
        rw [← hQQ]
        exact e_V hx hb hr hlocks hW hS (Nat.le_of_ble_eq_true rfl) (Nat.le_of_ble_eq_true rfl) dJ7_fill_53178_20 ⟨hw, rfl⟩
      · have hw := hw.2 c_2
        refine lv_aload_n hx hb dJ7_fill_53178_10 rfl (lv_at hl 0 rfl) ?_
        refine lv_iload_n hx hb dJ7_fill_53178_11 rfl (lv_at hl 2 rfl) ?_
        refine lv_iload_n hx hb dJ7_fill_53178_12 rfl (lv_at hl 1 rfl) ?_
        obtain ⟨g_3, hw⟩ := hw
        obtain ⟨g_4, hw⟩ := hw
        refine r_iast hx hb hT.1 hW hS (by decide) rfl (fun _ => rfl) 12 rfl g_4 g_3 dJ7_fill_53178_13 (fun M_5 H locs hM_5 hW hS => ?_)
        have hw := hw M_5 hM_5
        obtain ⟨v_6, ev_6⟩ : ∃ y : Int32, y = x2 + 1 := ⟨_, rfl⟩
        have hw := hw v_6 ev_6
        refine lv_iinc (v := v_6) (lv' := [(2, .int v_6), (0, .ref (ad 11 0)), (1, .int x1), (3, .int x3)]) hx hb dJ7_fill_53178_14 hl (k := 2) rfl (by rw [ev_6]; rfl) (by decide) rfl (fun ls hl => ?_)
        refine lv_goto (tgt := 5) hx hb dJ7_fill_53178_17 (by decide) ?_
        exact K5 M_5 x1 v_6 x3 hw H locs ls hW hS (lv_sub hl [1, 2, 0, 3] rfl)
  unfold w_J7_fill_53178_11 at hw
  obtain ⟨H, hH⟩ : ∃ z, z = s.heap := ⟨_, rfl⟩
  obtain ⟨locs, hlo⟩ : ∃ z : List Loc, z = [] := ⟨_, rfl⟩
  have hS : va_S (fun q : Nat => base ≤ q) s.heap H locs := by rw [hlo, hH]; exact hS
  have hW : Wd E base M ad H := by rw [hH]; exact hW
  rw [show W p l e rm_J7_fill_53178_11 s m args below meth c s.heap [] 0 0 QQ (F0 m 0 ls []) = W p l e rm_J7_fill_53178_11 s m args below meth c H locs 0 0 QQ (F0 m 0 ls []) by rw [hlo, hH]]
  refine lv_iconst (v := 0) hx hb dJ7_fill_53178_0 (by decide) ?_
  refine lv_istore_n (lv' := [(2, .int 0), (0, .ref (ad 11 0)), (1, .int a1)]) hx hb dJ7_fill_53178_1 rfl hl (by decide) rfl (fun ls hl => ?_)
  refine lv_aload_n hx hb dJ7_fill_53178_2 rfl (lv_at hl 1 rfl) ?_
  obtain ⟨g_1, hw⟩ := hw
  refine r_alen (v := 12) hx hb hT.1 hW (by decide) 0 rfl (kTy 0) rfl (by decide) g_1 dJ7_fill_53178_3 ?_
  refine lv_istore_n (lv' := [(3, .int 12), (2, .int 0), (0, .ref (ad 11 0)), (1, .int a1)]) hx hb dJ7_fill_53178_4 rfl hl (by decide) rfl (fun ls hl => ?_)
  obtain ⟨n9, hw⟩ := hw
  exact L_5 n9 M a1 0 12 hw H locs ls hW hS (lv_sub hl [2, 3, 1, 0] rfl)
def rm_X4_init : Room := { frames := 1, cells := 3, slots := 30, locals := 30 }
def fr_X4_init : Nat → Nat → Bool := fun a _ => [10, 11, 12].contains a
set_option maxHeartbeats 4000000 in
set_option maxRecDepth 100000 in
theorem c_X4_init (l : Launch) (E : GE) (base : Nat) (M : Mem) (ad : AD)  (Q : Mem → Prop) (hw : w_X4_init M  Q) : Con l yX4_init cX4_init 1 none rm_X4_init 3 30 E base [.ref (ad 4 0)] M ad (QcV E base (fun M1 ad1 => Q M1 ∧ AG fr_X4_init ad ad1)) noX := by
  refine con_start (by decide) (Nat.le_of_ble_eq_true rfl) ?_
  intro p e s m args below meth c ls QQ hQQ CT hnx hW hl
  obtain ⟨⟨hx, hb, hml, hown, hts⟩, hr, hlocks, hnm, hT⟩ := CT
  have hS : va_S (fun q : Nat => base ≤ q) s.heap s.heap [] := va_S.rf
  have hl : lv_has ls 1 [(0, .ref (ad 4 0))] := hl
  unfold w_X4_init at hw
  obtain ⟨H, hH⟩ : ∃ z, z = s.heap := ⟨_, rfl⟩
  obtain ⟨locs, hlo⟩ : ∃ z : List Loc, z = [] := ⟨_, rfl⟩
  have hS : va_S (fun q : Nat => base ≤ q) s.heap H locs := by rw [hlo, hH]; exact hS
  have hW : Wd E base M ad H := by rw [hH]; exact hW
  rw [show W p l e rm_X4_init s m args below meth c s.heap [] 0 0 QQ (F0 m 0 ls []) = W p l e rm_X4_init s m args below meth c H locs 0 0 QQ (F0 m 0 ls []) by rw [hlo, hH]]
  refine lv_aload_n hx hb dX4_init_0 rfl (lv_at hl 0 rfl) ?_
  refine W.objInit hx hb hown (hts _ k_1) (hts _ k_2) (hts _ k_3) rfl (by rw [hml]; exact hl.1) rfl dX4_init_1 (Nat.le_of_ble_eq_true rfl) (Nat.le_of_ble_eq_true rfl) ?_
  refine W.eq (g2 := F0 m 4 ls []) rfl ?_
  refine lv_aload_n hx hb dX4_init_4 rfl (lv_at hl 0 rfl) ?_
  refine lv_bipush (v := 6) hx hb dX4_init_5 (by decide) ?_
  obtain ⟨g_1, hw⟩ := hw
  refine r_newq hx hb hown (hts _ k_4) hT.2.2.2.2.2.1 hT.1 hW hS hT.2.2.2.2.2.2.2 (by decide) (by decide) (Nat.le_of_ble_eq_true rfl) (Nat.le_of_ble_eq_true rfl) g_1 dX4_init_7 (fun q_2 M_3 ad_4 H hM_3 had_4 hW hS => ?_)
  have hw := hw M_3 hM_3
  rw [upA_ne (a := 4) (b := 0) had_4 (by decide)] at hl ⊢
  have g_5 : mE M_3 10 0 = true := mE_wN1 hM_3
  obtain ⟨g_6, hw⟩ := hw
  refine r_putFR (κ2 := 10) (i2 := 0) (ty := tyX4 0) hx hb hts hown hT.1 hW hS clX4 0 (by decide) (hts _ k_5) (fun _ h9 => h9) rfl hnm rfl (by decide +kernel) 10 rfl rfl rfl rfl g_5 g_6 dX4_init_10 (fun M_7 H locs hM_7 hW hS => ?_)
  have hw := hw M_7 hM_7
  refine lv_aload_n hx hb dX4_init_13 rfl (lv_at hl 0 rfl) ?_
  refine lv_bipush (v := 12) hx hb dX4_init_14 (by decide) ?_
  obtain ⟨g_8, hw⟩ := hw
  refine r_newa hx hb .int (hts _ k_6) hT.1 hW hS hT.2.2.2.2.2.2.2 (by decide) rfl rfl (fun h9 => h9) _ rfl (fun _ => Or.inl ⟨rfl, rfl⟩) 12 rfl (by decide) (by decide) (Nat.le_of_ble_eq_true rfl) (Nat.le_of_ble_eq_true rfl) (Nat.le_of_ble_eq_true rfl) g_8 dX4_init_16 (fun q_9 M_10 ad_11 H hM_10 had_11 hW hS => ?_)
  have hw := hw M_10 hM_10
  rw [upA_ne (a := 4) (b := 0) had_11 (by decide)] at hl ⊢
  have g_12 : mE M_10 10 0 = true := mE_wN hM_10 (by rw [hM_7]; exact g_5)
  have g_13 : mE M_10 4 0 = true := mE_wN hM_10 (by rw [hM_7]; exact g_6)
  have g_14 : mE M_10 11 0 = true := mE_wN1 hM_10
  refine r_putFR (κ2 := 11) (i2 := 0) (ty := tyX4 1) hx hb hts hown hT.1 hW hS clX4 1 (by decide) (hts _ k_7) (fun _ h9 => h9) rfl hnm rfl (by decide +kernel) 11 rfl rfl rfl rfl g_14 g_13 dX4_init_18 (fun M_15 H locs hM_15 hW hS => ?_)
  have hw := hw M_15 hM_15
  refine lv_aload_n hx hb dX4_init_21 rfl (lv_at hl 0 rfl) ?_
  refine lv_bipush (v := 12) hx hb dX4_init_22 (by decide) ?_
  obtain ⟨g_16, hw⟩ := hw
  refine r_newa hx hb .int (hts _ k_6) hT.1 hW hS hT.2.2.2.2.2.2.2 (by decide) rfl rfl (fun h9 => h9) _ rfl (fun _ => Or.inl ⟨rfl, rfl⟩) 12 rfl (by decide) (by decide) (Nat.le_of_ble_eq_true rfl) (Nat.le_of_ble_eq_true rfl) (Nat.le_of_ble_eq_true rfl) g_16 dX4_init_24 (fun q_17 M_18 ad_19 H hM_18 had_19 hW hS => ?_)
  have hw := hw M_18 hM_18
  rw [upA_ne (a := 4) (b := 0) had_19 (by decide)] at hl ⊢
  have g_20 : mE M_18 10 0 = true := mE_wN hM_18 (by rw [hM_15]; exact g_12)
  have g_21 : mE M_18 4 0 = true := mE_wN hM_18 (by rw [hM_15]; exact g_13)
  have g_22 : mE M_18 11 0 = true := mE_wN hM_18 (by rw [hM_15]; exact g_14)
  have g_23 : mE M_18 12 0 = true := mE_wN1 hM_18
  refine r_putFR (κ2 := 12) (i2 := 0) (ty := tyX4 2) hx hb hts hown hT.1 hW hS clX4 2 (by decide) (hts _ k_8) (fun _ h9 => h9) rfl hnm rfl (by decide +kernel) 12 rfl rfl rfl rfl g_23 g_21 dX4_init_26 (fun M_24 H locs hM_24 hW hS => ?_)
  have hw := hw M_24 hM_24
  refine lv_aload_n hx hb dX4_init_29 rfl (lv_at hl 0 rfl) ?_
  refine lv_iconst (v := 0) hx hb dX4_init_30 (by decide) ?_
  refine r_putI hx hb hts hown hT.1 hW hS clX4 3 (by decide) (hts _ k_9) (fun _ h9 => h9) rfl (by decide +kernel) rfl (by rw [hM_24]; exact g_21) dX4_init_31 (fun M_25 H locs hM_25 hW hS => ?_)
  have hw := hw M_25 hM_25
  refine lv_aload_n hx hb dX4_init_34 rfl (lv_at hl 0 rfl) ?_
  refine lv_iconst (v := 0) hx hb dX4_init_35 (by decide) ?_
  refine r_putI hx hb hts hown hT.1 hW hS clX4 4 (by decide) (hts _ k_10) (fun _ h9 => h9) rfl (by decide +kernel) rfl (by rw [hM_25, hM_24]; exact g_21) dX4_init_36 (fun M_26 H locs hM_26 hW hS => ?_)
  have hw := hw M_26 hM_26
  refine lv_aload_n hx hb dX4_init_39 rfl (lv_at hl 0 rfl) ?_
  obtain ⟨g_27, hw⟩ := hw
  refine r_getR (κ2 := 11) (i2 := 0) hx hb hts hown hT.1 hW clX4 1 (by decide) (hts _ k_7) (fun _ h9 => h9) 11 rfl rfl (by rw [hM_26, hM_25, hM_24]; exact g_21) g_27 dX4_init_40 ?_
  refine lv_iconst (v := 1) hx hb dX4_init_43 (by decide) ?_
  refine k_V (rn_S (As := [.ref (ad_19 11 0), .int 1]) (rest := []) ⟨hx, hb, hml, hown, hts⟩ hT hW hS hl (c_J7_fill_53178_11 l E base M_26 ad_19 1 _ hw) cy_J7_fill_53178 k_11 k_12 rfl rfl ⟨(Nat.le_of_ble_eq_true rfl), (Nat.le_of_ble_eq_true rfl)⟩ rfl rfl (Nat.le_of_ble_eq_true rfl) dX4_init_44 ⟨(Nat.le_of_ble_eq_true rfl), (Nat.le_of_ble_eq_true rfl)⟩) hS kx_no (fun M_29 ad_30 H locs hP hW hS => ?_)
  obtain ⟨hw, rfl⟩ := hP
  rw [← hQQ]
  exact e_V hx hb hr hlocks hW hS (Nat.le_of_ble_eq_true rfl) (Nat.le_of_ble_eq_true rfl) dX4_init_47 ⟨hw, (AG_new (AG_new (AG_new AG_refl rfl had_4) rfl had_11) rfl had_19)⟩
def rm_X4_peers : Room := { frames := 0, cells := 0, slots := 0, locals := 0 }
set_option maxHeartbeats 4000000 in
set_option maxRecDepth 100000 in
theorem c_X4_peers (l : Launch) (E : GE) (base : Nat) (M : Mem) (ad : AD)  (Q : Int32 → Mem → Prop) (hw : w_X4_peers M  Q) : Con l yX4_peers cX4_peers 3 (some .int) rm_X4_peers 0 0 E base [.ref (ad 4 0)] M ad (QcI E base (fun r M1 ad1 => Q r M1 ∧ ad = ad1)) noX := by
  refine con_start (by decide) (Nat.le_of_ble_eq_true rfl) ?_
  intro p e s m args below meth c ls QQ hQQ CT hnx hW hl
  obtain ⟨⟨hx, hb, hml, hown, hts⟩, hr, hlocks, hnm, hT⟩ := CT
  have hS : va_S (fun q : Nat => base ≤ q) s.heap s.heap [] := va_S.rf
  have hl : lv_has ls 3 [(0, .ref (ad 4 0))] := hl
  have L_28 : ∀ (k4 : Mem → Int32 → Int32 → Prop) (K4 : ∀ (M : Mem) (x1 : Int32) (x2 : Int32), k4 M x1 x2 → WL p l e rm_X4_peers s m args below meth c QQ E base 3 M ad 4 [(0, .ref (ad 4 0)), (1, .int x1), (2, .int x2)] [] 0 0) (M : Mem) (x1 : Int32) (x2 : Int32), b_X4_peers_28 k4 Q M x1 x2 → WL p l e rm_X4_peers s m args below meth c QQ E base 3 M ad 28 [(0, .ref (ad 4 0)), (1, .int x1), (2, .int x2)] [] 0 0 := by
    intro k4 K4 M x1 x2 hw H locs ls hW hS hl
    unfold b_X4_peers_28 at hw
    obtain ⟨v_8, ev_8⟩ : ∃ y : Int32, y = x2 + 1 := ⟨_, rfl⟩
    have hw := hw v_8 ev_8
    refine lv_iinc (v := v_8) (lv' := [(2, .int v_8), (0, .ref (ad 4 0)), (1, .int x1)]) hx hb dX4_peers_28 hl (k := 2) rfl (by rw [ev_8]; rfl) (by decide) rfl (fun ls hl => ?_)
    refine lv_goto (tgt := 4) hx hb dX4_peers_31 (by decide) ?_
    exact K4 M x1 v_8 hw H locs ls hW hS (lv_sub hl [1, 2, 0] rfl)
  have L_4 : ∀ (n : Nat) (M : Mem) (x1 : Int32) (x2 : Int32), l_X4_peers_4 Q n M x1 x2 → WL p l e rm_X4_peers s m args below meth c QQ E base 3 M ad 4 [(0, .ref (ad 4 0)), (1, .int x1), (2, .int x2)] [] 0 0 := by
    intro n
    induction n with
    | zero => intro M x1 x2 hw; exact False.elim hw
    | succ n K4 =>
      intro M x1 x2 hw H locs ls hW hS hl
      obtain ⟨k4, hk4⟩ : ∃ z, z = l_X4_peers_4 Q n := ⟨_, rfl⟩
      have hw : b_X4_peers_4 Q k4 M x1 x2 := by rw [hk4]; exact hw
      rw [← hk4] at K4
      unfold b_X4_peers_4 at hw
      refine lv_iload_n hx hb dX4_peers_4 rfl (lv_at hl 2 rfl) ?_
      refine lv_aload_n hx hb dX4_peers_5 rfl (lv_at hl 0 rfl) ?_
      obtain ⟨g_1, hw⟩ := hw
      obtain ⟨g_2, hw⟩ := hw
      refine r_getR (κ2 := 10) (i2 := 0) hx hb hts hown hT.1 hW clX4 0 (by decide) (hts _ k_5) (fun _ h9 => h9) 10 rfl rfl g_1 g_2 dX4_peers_6 ?_
      obtain ⟨g_3, hw⟩ := hw
      refine r_alen (v := 6) hx hb hT.1 hW (by decide) 3 rfl (kTy 3) rfl (by decide) g_3 dX4_peers_9 ?_
      refine lv_icmp_ge (tgt := 34) hx hb dX4_peers_10 (by decide) (fun c_4 => ?_) (fun c_4 => ?_)
      · have hw := hw.1 c_4
        refine lv_iload_n hx hb dX4_peers_34 rfl (lv_at hl 1 rfl) ?_
        rw [← hQQ]
        exact e_I hx hb hr hlocks hW hS (Nat.le_of_ble_eq_true rfl) (Nat.le_of_ble_eq_true rfl) dX4_peers_35 ⟨hw, rfl⟩
      · have hw := hw.2 c_4
        refine lv_aload_n hx hb dX4_peers_13 rfl (lv_at hl 0 rfl) ?_
        refine r_getR (κ2 := 10) (i2 := 0) hx hb hts hown hT.1 hW clX4 0 (by decide) (hts _ k_5) (fun _ h9 => h9) 10 rfl rfl g_1 g_2 dX4_peers_14 ?_
        refine lv_iload_n hx hb dX4_peers_17 rfl (lv_at hl 2 rfl) ?_
        obtain ⟨g_5, hw⟩ := hw
        refine r_aald hx hb hT.1 hW g_5 g_3 dX4_peers_18 (fun g_6 => ?_) (fun g_6 => ?_)
        · have hw := hw.1 g_6
          refine lv_ifnull hx hb dX4_peers_19 ?_
          refine lv_iload_n hx hb dX4_peers_22 rfl (lv_at hl 1 rfl) ?_
          refine lv_iconst (v := 1) hx hb dX4_peers_23 (by decide) ?_
          refine lv_iload_n hx hb dX4_peers_24 rfl (lv_at hl 2 rfl) ?_
          refine lv_ishl hx hb dX4_peers_25 ?_
          refine lv_ior hx hb dX4_peers_26 ?_
          refine lv_topi (fun v_7 ev_7 => ?_)
          have hw := hw v_7 ev_7
          refine lv_istore_n (lv' := [(1, .int v_7), (0, .ref (ad 4 0)), (2, .int x2)]) hx hb dX4_peers_27 rfl hl (by decide) rfl (fun ls hl => ?_)
          exact L_28 k4 K4 M v_7 x2 hw H locs ls hW hS (lv_sub hl [1, 0, 2] rfl)
        · have hw := hw.2 g_6
          refine lv_ifnullN (tgt := 28) hx hb dX4_peers_19 (by decide) ?_
          exact L_28 k4 K4 M x1 x2 hw H locs ls hW hS (lv_sub hl [0, 1, 2] rfl)
  unfold w_X4_peers at hw
  obtain ⟨H, hH⟩ : ∃ z, z = s.heap := ⟨_, rfl⟩
  obtain ⟨locs, hlo⟩ : ∃ z : List Loc, z = [] := ⟨_, rfl⟩
  have hS : va_S (fun q : Nat => base ≤ q) s.heap H locs := by rw [hlo, hH]; exact hS
  have hW : Wd E base M ad H := by rw [hH]; exact hW
  rw [show W p l e rm_X4_peers s m args below meth c s.heap [] 0 0 QQ (F0 m 0 ls []) = W p l e rm_X4_peers s m args below meth c H locs 0 0 QQ (F0 m 0 ls []) by rw [hlo, hH]]
  refine lv_iconst (v := 0) hx hb dX4_peers_0 (by decide) ?_
  refine lv_istore_n (lv' := [(1, .int 0), (0, .ref (ad 4 0))]) hx hb dX4_peers_1 rfl hl (by decide) rfl (fun ls hl => ?_)
  refine lv_iconst (v := 0) hx hb dX4_peers_2 (by decide) ?_
  refine lv_istore_n (lv' := [(2, .int 0), (1, .int 0), (0, .ref (ad 4 0))]) hx hb dX4_peers_3 rfl hl (by decide) rfl (fun ls hl => ?_)
  obtain ⟨n9, hw⟩ := hw
  exact L_4 n9 M 0 0 hw H locs ls hW hS (lv_sub hl [2, 1, 0] rfl)
def rm_X4_rounds : Room := { frames := 0, cells := 0, slots := 0, locals := 0 }
set_option maxHeartbeats 4000000 in
set_option maxRecDepth 100000 in
theorem c_X4_rounds (l : Launch) (E : GE) (base : Nat) (M : Mem) (ad : AD)  (Q : Int32 → Mem → Prop) (hw : w_X4_rounds M  Q) : Con l yX4_rounds cX4_rounds 1 (some .int) rm_X4_rounds 0 0 E base [.ref (ad 4 0)] M ad (QcI E base (fun r M1 ad1 => Q r M1 ∧ ad = ad1)) noX := by
  refine con_start (by decide) (Nat.le_of_ble_eq_true rfl) ?_
  intro p e s m args below meth c ls QQ hQQ CT hnx hW hl
  obtain ⟨⟨hx, hb, hml, hown, hts⟩, hr, hlocks, hnm, hT⟩ := CT
  have hS : va_S (fun q : Nat => base ≤ q) s.heap s.heap [] := va_S.rf
  have hl : lv_has ls 1 [(0, .ref (ad 4 0))] := hl
  unfold w_X4_rounds at hw
  obtain ⟨H, hH⟩ : ∃ z, z = s.heap := ⟨_, rfl⟩
  obtain ⟨locs, hlo⟩ : ∃ z : List Loc, z = [] := ⟨_, rfl⟩
  have hS : va_S (fun q : Nat => base ≤ q) s.heap H locs := by rw [hlo, hH]; exact hS
  have hW : Wd E base M ad H := by rw [hH]; exact hW
  rw [show W p l e rm_X4_rounds s m args below meth c s.heap [] 0 0 QQ (F0 m 0 ls []) = W p l e rm_X4_rounds s m args below meth c H locs 0 0 QQ (F0 m 0 ls []) by rw [hlo, hH]]
  refine lv_aload_n hx hb dX4_rounds_0 rfl (lv_at hl 0 rfl) ?_
  obtain ⟨g_1, hw⟩ := hw
  refine r_getI hx hb hts hown hT.1 hW clX4 4 (by decide) (hts _ k_10) (fun _ h9 => h9) rfl g_1 dX4_rounds_1 ?_
  rw [← hQQ]
  exact e_I hx hb hr hlocks hW hS (Nat.le_of_ble_eq_true rfl) (Nat.le_of_ble_eq_true rfl) dX4_rounds_4 ⟨hw, rfl⟩
def rm_X4_checkPiece : Room := { frames := 6, cells := 1, slots := 6, locals := 90 }
set_option maxHeartbeats 4000000 in
set_option maxRecDepth 100000 in
theorem c_X4_checkPiece (l : Launch) (hlt : l.stackTraces = false) (E : GE) (base : Nat) (M : Mem) (ad : AD) (a0 : Int32) (Q : Mem → Prop) (X : Nat → Mem → Prop) (hw : w_X4_checkPiece M a0 Q X) : Con l yX4_checkPiece cX4_checkPiece 1 none rm_X4_checkPiece 1 6 E base [.int a0] M ad (QcV E base (fun M1 ad1 => Q M1 ∧ ad = ad1)) (fun k M1 ad1 => X k M1 ∧ ad = ad1) := by
  refine con_start (by decide) (Nat.le_of_ble_eq_true rfl) ?_
  intro p e s m args below meth c ls QQ hQQ CT hnx hW hl
  obtain ⟨⟨hx, hb, hml, hown, hts⟩, hr, hlocks, hnm, hT⟩ := CT
  have hS : va_S (fun q : Nat => base ≤ q) s.heap s.heap [] := va_S.rf
  have hl : lv_has ls 1 [(0, .int a0)] := hl
  have L_10 : ∀ (M : Mem) , b_X4_checkPiece_10 Q X M → WL p l e rm_X4_checkPiece s m args below meth c QQ E base 1 M ad 10 [] [] 0 0 := by
    intro M hw H locs ls hW hS hl
    unfold b_X4_checkPiece_10 at hw
    rw [← hQQ]
    exact e_throw 1 (own := RX4) (text := "no such piece") hx hb hlt hown hts hT (by decide) k_13 k_14 at_X4_150_1 ag_X4_150_1 (by decide +kernel) dX4_checkPiece_10 dX4_checkPiece_13 dX4_checkPiece_14 dX4_checkPiece_16 dX4_checkPiece_19 hnx (Nat.le_of_ble_eq_true rfl) (Nat.le_of_ble_eq_true rfl) (Nat.le_of_ble_eq_true rfl) (Nat.le_of_ble_eq_true rfl) hlocks (by rw [hml]; exact hl.1) hW hS (Nat.le_of_ble_eq_true rfl) (Nat.le_of_ble_eq_true rfl) ⟨hw, rfl⟩
  unfold w_X4_checkPiece at hw
  obtain ⟨H, hH⟩ : ∃ z, z = s.heap := ⟨_, rfl⟩
  obtain ⟨locs, hlo⟩ : ∃ z : List Loc, z = [] := ⟨_, rfl⟩
  have hS : va_S (fun q : Nat => base ≤ q) s.heap H locs := by rw [hlo, hH]; exact hS
  have hW : Wd E base M ad H := by rw [hH]; exact hW
  rw [show W p l e rm_X4_checkPiece s m args below meth c s.heap [] 0 0 QQ (F0 m 0 ls []) = W p l e rm_X4_checkPiece s m args below meth c H locs 0 0 QQ (F0 m 0 ls []) by rw [hlo, hH]]
  refine lv_iload_n hx hb dX4_checkPiece_0 rfl (lv_at hl 0 rfl) ?_
  refine lv_if_lt (tgt := 10) hx hb dX4_checkPiece_1 (by decide) (fun c_1 => ?_) (fun c_1 => ?_)
  · have hw := hw.1 c_1
    exact L_10 M hw H locs ls hW hS (lv_sub hl [] rfl)
  · have hw := hw.2 c_1
    refine lv_iload_n hx hb dX4_checkPiece_4 rfl (lv_at hl 0 rfl) ?_
    refine lv_bipush (v := 12) hx hb dX4_checkPiece_5 (by decide) ?_
    refine lv_icmp_lt (tgt := 20) hx hb dX4_checkPiece_7 (by decide) (fun c_2 => ?_) (fun c_2 => ?_)
    · have hw := hw.1 c_2
      rw [← hQQ]
      exact e_V hx hb hr hlocks hW hS (Nat.le_of_ble_eq_true rfl) (Nat.le_of_ble_eq_true rfl) dX4_checkPiece_20 ⟨hw, rfl⟩
    · have hw := hw.2 c_2
      exact L_10 M hw H locs ls hW hS (lv_sub hl [] rfl)
def rm_X4_isIn : Room := { frames := 0, cells := 0, slots := 0, locals := 0 }
set_option maxHeartbeats 4000000 in
set_option maxRecDepth 100000 in
theorem c_X4_isIn (l : Launch) (E : GE) (base : Nat) (M : Mem) (ad : AD) (a0 : Int64) (a2 : Int32) (Q : Int32 → Mem → Prop) (hw : w_X4_isIn M a0 a2 Q) : Con l yX4_isIn cX4_isIn 3 (some .boolean) rm_X4_isIn 0 0 E base [.long a0, .int a2] M ad (QcI E base (fun r M1 ad1 => Q r M1 ∧ ad = ad1)) noX := by
  refine con_start (by decide) (Nat.le_of_ble_eq_true rfl) ?_
  intro p e s m args below meth c ls QQ hQQ CT hnx hW hl
  obtain ⟨⟨hx, hb, hml, hown, hts⟩, hr, hlocks, hnm, hT⟩ := CT
  have hS : va_S (fun q : Nat => base ≤ q) s.heap s.heap [] := va_S.rf
  have hl : lv_has ls 3 [(0, .long a0), (2, .int a2)] := hl
  unfold w_X4_isIn at hw
  obtain ⟨H, hH⟩ : ∃ z, z = s.heap := ⟨_, rfl⟩
  obtain ⟨locs, hlo⟩ : ∃ z : List Loc, z = [] := ⟨_, rfl⟩
  have hS : va_S (fun q : Nat => base ≤ q) s.heap H locs := by rw [hlo, hH]; exact hS
  have hW : Wd E base M ad H := by rw [hH]; exact hW
  rw [show W p l e rm_X4_isIn s m args below meth c s.heap [] 0 0 QQ (F0 m 0 ls []) = W p l e rm_X4_isIn s m args below meth c H locs 0 0 QQ (F0 m 0 ls []) by rw [hlo, hH]]
  refine lv_lload_n hx hb dX4_isIn_0 rfl (lv_at hl 0 rfl) ?_
  refine lv_iload_n hx hb dX4_isIn_1 rfl (lv_at hl 1 rfl) ?_
  refine lv_lshr hx hb dX4_isIn_2 rfl ?_
  refine lv_lconst (v := 1) hx hb dX4_isIn_3 (by decide) ?_
  refine lv_land hx hb dX4_isIn_4 ?_
  refine lv_lconst (v := 0) hx hb dX4_isIn_5 (by decide) ?_
  refine W.lcmp hx hb dX4_isIn_6 ?_
  refine lv_if_eq (tgt := 14) hx hb dX4_isIn_7 (by decide) (fun c_1 => ?_) (fun c_1 => ?_)
  · have hw := hw.1 c_1
    refine lv_iconst (v := 0) hx hb dX4_isIn_14 (by decide) ?_
    rw [← hQQ]
    exact e_Z hx hb hr hlocks hW hS (Nat.le_of_ble_eq_true rfl) (Nat.le_of_ble_eq_true rfl) dX4_isIn_15 (by decide) ⟨hw, rfl⟩
  · have hw := hw.2 c_1
    refine lv_iconst (v := 1) hx hb dX4_isIn_10 (by decide) ?_
    refine lv_goto (tgt := 15) hx hb dX4_isIn_11 (by decide) ?_
    rw [← hQQ]
    exact e_Z hx hb hr hlocks hW hS (Nat.le_of_ble_eq_true rfl) (Nat.le_of_ble_eq_true rfl) dX4_isIn_15 (by decide) ⟨hw, rfl⟩
def rm_X4_countHolders : Room := { frames := 1, cells := 0, slots := 0, locals := 22 }
set_option maxHeartbeats 4000000 in
set_option maxRecDepth 100000 in
theorem c_X4_countHolders (l : Launch) (E : GE) (base : Nat) (M : Mem) (ad : AD) (a1 : Int32) (Q : Int32 → Mem → Prop) (hw : w_X4_countHolders M a1 Q) : Con l yX4_countHolders cX4_countHolders 7 (some .int) rm_X4_countHolders 0 0 E base [.ref (ad 4 0), .int a1] M ad (QcI E base (fun r M1 ad1 => Q r M1 ∧ ad = ad1)) noX := by
  refine con_start (by decide) (Nat.le_of_ble_eq_true rfl) ?_
  intro p e s m args below meth c ls QQ hQQ CT hnx hW hl
  obtain ⟨⟨hx, hb, hml, hown, hts⟩, hr, hlocks, hnm, hT⟩ := CT
  have hS : va_S (fun q : Nat => base ≤ q) s.heap s.heap [] := va_S.rf
  have hl : lv_has ls 7 [(0, .ref (ad 4 0)), (1, .int a1)] := hl
  have L_51 : ∀ (k14 : Mem → Int32 → Int32 → Int32 → Int32 → Prop) (K14 : ∀ (M : Mem) (x1 : Int32) (x2 : Int32) (x4 : Int32) (x5 : Int32), k14 M x1 x2 x4 x5 → WL p l e rm_X4_countHolders s m args below meth c QQ E base 7 M ad 14 [(1, .int x1), (2, .int x2), (3, .ref (ad 10 0)), (4, .int x4), (5, .int x5)] [] 0 0) (M : Mem) (x1 : Int32) (x2 : Int32) (x4 : Int32) (x5 : Int32), b_X4_countHolders_51 k14 Q M x1 x2 x4 x5 → WL p l e rm_X4_countHolders s m args below meth c QQ E base 7 M ad 51 [(1, .int x1), (2, .int x2), (3, .ref (ad 10 0)), (4, .int x4), (5, .int x5)] [] 0 0 := by
    intro k14 K14 M x1 x2 x4 x5 hw H locs ls hW hS hl
    unfold b_X4_countHolders_51 at hw
    obtain ⟨v_16, ev_16⟩ : ∃ y : Int32, y = x5 + 1 := ⟨_, rfl⟩
    have hw := hw v_16 ev_16
    refine lv_iinc (v := v_16) (lv' := [(5, .int v_16), (1, .int x1), (2, .int x2), (3, .ref (ad 10 0)), (4, .int x4)]) hx hb dX4_countHolders_51 hl (k := 4) rfl (by rw [ev_16]; rfl) (by decide) rfl (fun ls hl => ?_)
    refine lv_goto (tgt := 14) hx hb dX4_countHolders_54 (by decide) ?_
    exact K14 M x1 x2 x4 v_16 hw H locs ls hW hS (lv_sub hl [1, 2, 3, 4, 0] rfl)
  have L_14 : ∀ (n : Nat) (M : Mem) (x1 : Int32) (x2 : Int32) (x4 : Int32) (x5 : Int32), l_X4_countHolders_14 Q n M x1 x2 x4 x5 → WL p l e rm_X4_countHolders s m args below meth c QQ E base 7 M ad 14 [(1, .int x1), (2, .int x2), (3, .ref (ad 10 0)), (4, .int x4), (5, .int x5)] [] 0 0 := by
    intro n
    induction n with
    | zero => intro M x1 x2 x4 x5 hw; exact False.elim hw
    | succ n K14 =>
      intro M x1 x2 x4 x5 hw H locs ls hW hS hl
      obtain ⟨k14, hk14⟩ : ∃ z, z = l_X4_countHolders_14 Q n := ⟨_, rfl⟩
      have hw : b_X4_countHolders_14 Q k14 M x1 x2 x4 x5 := by rw [hk14]; exact hw
      rw [← hk14] at K14
      unfold b_X4_countHolders_14 at hw
      refine lv_iload hx hb dX4_countHolders_14 (lv_at hl 4 rfl) ?_
      refine lv_iload hx hb dX4_countHolders_16 (lv_at hl 3 rfl) ?_
      refine lv_icmp_ge (tgt := 57) hx hb dX4_countHolders_18 (by decide) (fun c_4 => ?_) (fun c_4 => ?_)
      · have hw := hw.1 c_4
        refine lv_iload_n hx hb dX4_countHolders_57 rfl (lv_at hl 1 rfl) ?_
        rw [← hQQ]
        exact e_I hx hb hr hlocks hW hS (Nat.le_of_ble_eq_true rfl) (Nat.le_of_ble_eq_true rfl) dX4_countHolders_58 ⟨hw, rfl⟩
      · have hw := hw.2 c_4
        refine lv_aload_n hx hb dX4_countHolders_21 rfl (lv_at hl 2 rfl) ?_
        refine lv_iload hx hb dX4_countHolders_22 (lv_at hl 4 rfl) ?_
        obtain ⟨g_5, hw⟩ := hw
        obtain ⟨g_6, hw⟩ := hw
        refine r_aald hx hb hT.1 hW g_6 g_5 dX4_countHolders_24 (fun g_7 => ?_) (fun g_7 => ?_)
        · have hw := hw.1 g_7
          refine lv_astore (lv' := [(6, .ref (ad 2 x5.toNatClampNeg)), (1, .int x1), (2, .int x2), (3, .ref (ad 10 0)), (4, .int x4), (5, .int x5)]) hx hb dX4_countHolders_25 hl (by decide) rfl (fun ls hl => ?_)
          refine lv_aload hx hb dX4_countHolders_27 (lv_at hl 0 rfl) ?_
          refine lv_ifnull hx hb dX4_countHolders_29 ?_
          refine lv_aload hx hb dX4_countHolders_32 (lv_at hl 0 rfl) ?_
          obtain ⟨g_8, hw⟩ := hw
          obtain ⟨g_9, hw⟩ := hw
          refine r_getR (κ2 := 3) (i2 := x5.toNatClampNeg) hx hb hts hown hT.1 hW clX2 1 (by decide) (hts _ k_15) (fun _ h9 => h9) 3 rfl rfl g_8 g_9 dX4_countHolders_34 ?_
          obtain ⟨g_10, hw⟩ := hw
          refine r_getI hx hb hts hown hT.1 hW clX3 0 (by decide) (hts _ k_16) (fun _ h9 => h9) rfl g_10 dX4_countHolders_37 ?_
          refine lv_i2l hx hb dX4_countHolders_40 rfl ?_
          refine lv_iload_n hx hb dX4_countHolders_41 rfl (lv_at hl 1 rfl) ?_
          refine k_I (rn_S (As := [.long ((mI M 3 x5.toNatClampNeg 0).toInt64), .int x1]) (rest := []) ⟨hx, hb, hml, hown, hts⟩ hT hW hS hl (c_X4_isIn l E base M ad ((mI M 3 x5.toNatClampNeg 0).toInt64) x1 _ hw) cy_X4_isIn k_17 k_18 rfl rfl ⟨(Nat.le_of_ble_eq_true rfl), (Nat.le_of_ble_eq_true rfl)⟩ rfl rfl (Nat.le_of_ble_eq_true rfl) dX4_countHolders_42 ⟨(Nat.le_of_ble_eq_true rfl), (Nat.le_of_ble_eq_true rfl)⟩) hS kx_no (fun r_14 M_12 ad_13 H locs hP hW hS => ?_)
          obtain ⟨hw, rfl⟩ := hP
          refine lv_if_eq (tgt := 51) hx hb dX4_countHolders_45 (by decide) (fun c_15 => ?_) (fun c_15 => ?_)
          · have hw := hw.1 c_15
            exact L_51 k14 K14 M_12 x1 x2 x4 x5 hw H locs ls hW hS (lv_sub hl [1, 2, 3, 4, 5] rfl)
          · have hw := hw.2 c_15
            obtain ⟨v_17, ev_17⟩ : ∃ y : Int32, y = x2 + 1 := ⟨_, rfl⟩
            have hw := hw v_17 ev_17
            refine lv_iinc (v := v_17) (lv' := [(2, .int v_17), (6, .ref (ad 2 x5.toNatClampNeg)), (1, .int x1), (3, .ref (ad 10 0)), (4, .int x4), (5, .int x5)]) hx hb dX4_countHolders_48 hl (k := 2) rfl (by rw [ev_17]; rfl) (by decide) rfl (fun ls hl => ?_)
            exact L_51 k14 K14 M_12 x1 v_17 x4 x5 hw H locs ls hW hS (lv_sub hl [2, 0, 3, 4, 5] rfl)
        · have hw := hw.2 g_7
          refine lv_astoreN (lv' := [(6, .null), (1, .int x1), (2, .int x2), (3, .ref (ad 10 0)), (4, .int x4), (5, .int x5)]) hx hb dX4_countHolders_25 hl (by decide) rfl (fun ls hl => ?_)
          refine lv_aloadN hx hb dX4_countHolders_27 (lv_at hl 0 rfl) ?_
          refine lv_ifnullN (tgt := 51) hx hb dX4_countHolders_29 (by decide) ?_
          exact L_51 k14 K14 M x1 x2 x4 x5 hw H locs ls hW hS (lv_sub hl [1, 2, 3, 4, 5] rfl)
  unfold w_X4_countHolders at hw
  obtain ⟨H, hH⟩ : ∃ z, z = s.heap := ⟨_, rfl⟩
  obtain ⟨locs, hlo⟩ : ∃ z : List Loc, z = [] := ⟨_, rfl⟩
  have hS : va_S (fun q : Nat => base ≤ q) s.heap H locs := by rw [hlo, hH]; exact hS
  have hW : Wd E base M ad H := by rw [hH]; exact hW
  rw [show W p l e rm_X4_countHolders s m args below meth c s.heap [] 0 0 QQ (F0 m 0 ls []) = W p l e rm_X4_countHolders s m args below meth c H locs 0 0 QQ (F0 m 0 ls []) by rw [hlo, hH]]
  refine lv_iconst (v := 0) hx hb dX4_countHolders_0 (by decide) ?_
  refine lv_istore_n (lv' := [(2, .int 0), (0, .ref (ad 4 0)), (1, .int a1)]) hx hb dX4_countHolders_1 rfl hl (by decide) rfl (fun ls hl => ?_)
  refine lv_aload_n hx hb dX4_countHolders_2 rfl (lv_at hl 1 rfl) ?_
  obtain ⟨g_1, hw⟩ := hw
  obtain ⟨g_2, hw⟩ := hw
  refine r_getR (κ2 := 10) (i2 := 0) hx hb hts hown hT.1 hW clX4 0 (by decide) (hts _ k_5) (fun _ h9 => h9) 10 rfl rfl g_1 g_2 dX4_countHolders_3 ?_
  refine lv_astore_n (lv' := [(3, .ref (ad 10 0)), (2, .int 0), (0, .ref (ad 4 0)), (1, .int a1)]) hx hb dX4_countHolders_6 rfl hl (by decide) rfl (fun ls hl => ?_)
  refine lv_aload_n hx hb dX4_countHolders_7 rfl (lv_at hl 0 rfl) ?_
  obtain ⟨g_3, hw⟩ := hw
  refine r_alen (v := 6) hx hb hT.1 hW (by decide) 3 rfl (kTy 3) rfl (by decide) g_3 dX4_countHolders_8 ?_
  refine lv_istore (lv' := [(4, .int 6), (3, .ref (ad 10 0)), (2, .int 0), (0, .ref (ad 4 0)), (1, .int a1)]) hx hb dX4_countHolders_9 hl (by decide) rfl (fun ls hl => ?_)
  refine lv_iconst (v := 0) hx hb dX4_countHolders_11 (by decide) ?_
  refine lv_istore (lv' := [(5, .int 0), (4, .int 6), (3, .ref (ad 10 0)), (2, .int 0), (0, .ref (ad 4 0)), (1, .int a1)]) hx hb dX4_countHolders_12 hl (by decide) rfl (fun ls hl => ?_)
  obtain ⟨n9, hw⟩ := hw
  exact L_14 n9 M a1 0 6 0 hw H locs ls hW hS (lv_sub hl [5, 3, 2, 1, 0] rfl)
def rm_X4_holders : Room := { frames := 7, cells := 1, slots := 6, locals := 110 }
set_option maxHeartbeats 4000000 in
set_option maxRecDepth 100000 in
theorem c_X4_holders (l : Launch) (hlt : l.stackTraces = false) (E : GE) (base : Nat) (M : Mem) (ad : AD) (a1 : Int32) (Q : Int32 → Mem → Prop) (X : Nat → Mem → Prop) (hw : w_X4_holders M a1 Q X) : Con l yX4_holders cX4_holders 2 (some .int) rm_X4_holders 1 6 E base [.ref (ad 4 0), .int a1] M ad (QcI E base (fun r M1 ad1 => Q r M1 ∧ ad = ad1)) (fun k M1 ad1 => X k M1 ∧ ad = ad1) := by
  refine con_start (by decide) (Nat.le_of_ble_eq_true rfl) ?_
  intro p e s m args below meth c ls QQ hQQ CT hnx hW hl
  obtain ⟨⟨hx, hb, hml, hown, hts⟩, hr, hlocks, hnm, hT⟩ := CT
  have hS : va_S (fun q : Nat => base ≤ q) s.heap s.heap [] := va_S.rf
  have hl : lv_has ls 2 [(0, .ref (ad 4 0)), (1, .int a1)] := hl
  unfold w_X4_holders at hw
  obtain ⟨H, hH⟩ : ∃ z, z = s.heap := ⟨_, rfl⟩
  obtain ⟨locs, hlo⟩ : ∃ z : List Loc, z = [] := ⟨_, rfl⟩
  have hS : va_S (fun q : Nat => base ≤ q) s.heap H locs := by rw [hlo, hH]; exact hS
  have hW : Wd E base M ad H := by rw [hH]; exact hW
  rw [show W p l e rm_X4_holders s m args below meth c s.heap [] 0 0 QQ (F0 m 0 ls []) = W p l e rm_X4_holders s m args below meth c H locs 0 0 QQ (F0 m 0 ls []) by rw [hlo, hH]]
  refine lv_iload_n hx hb dX4_holders_0 rfl (lv_at hl 1 rfl) ?_
  refine k_V (rn_S (As := [.int a1]) (rest := []) ⟨hx, hb, hml, hown, hts⟩ hT hW hS hl (c_X4_checkPiece l hlt E base M ad a1 _ _ hw) cy_X4_checkPiece k_19 k_20 rfl rfl ⟨(Nat.le_of_ble_eq_true rfl), (Nat.le_of_ble_eq_true rfl)⟩ rfl rfl (Nat.le_of_ble_eq_true rfl) dX4_holders_1 ⟨(Nat.le_of_ble_eq_true rfl), (Nat.le_of_ble_eq_true rfl)⟩) hS (by rw [← hQQ]; exact kx_out hnx hlocks (Nat.le_of_ble_eq_true rfl) (Nat.le_of_ble_eq_true rfl) (fun _ _ _ h9 => h9)) (fun M_2 ad_3 H locs hP hW hS => ?_)
  obtain ⟨hw, rfl⟩ := hP
  refine lv_aload_n hx hb dX4_holders_4 rfl (lv_at hl 0 rfl) ?_
  refine lv_iload_n hx hb dX4_holders_5 rfl (lv_at hl 1 rfl) ?_
  obtain ⟨g_5, hw⟩ := hw
  refine k_I (rn_V (As := [.int a1]) (rest := []) (κ := 4) (i := 0) ⟨hx, hb, hml, hown, hts⟩ hT hW hS hl (c_X4_countHolders l E base M_2 ad a1 _ hw) cy_X4_countHolders k_21 k_22 k_23 g_5 (by decide) rfl rfl rfl rfl ⟨(Nat.le_of_ble_eq_true rfl), (Nat.le_of_ble_eq_true rfl)⟩ rfl rfl (Nat.le_of_ble_eq_true rfl) dX4_holders_6 ⟨(Nat.le_of_ble_eq_true rfl), (Nat.le_of_ble_eq_true rfl)⟩) hS kx_no (fun r_9 M_7 ad_8 H locs hP hW hS => ?_)
  obtain ⟨hw, rfl⟩ := hP
  rw [← hQQ]
  exact e_I hx hb hr hlocks hW hS (Nat.le_of_ble_eq_true rfl) (Nat.le_of_ble_eq_true rfl) dX4_holders_9 ⟨hw, rfl⟩
def rm_L_draw : Room := { frames := 0, cells := 0, slots := 0, locals := 0 }
set_option maxHeartbeats 4000000 in
set_option maxRecDepth 100000 in
theorem c_L_draw (l : Launch) (E : GE) (base : Nat) (M : Mem) (ad : AD) (a1 : Int32) (Q : Int32 → Mem → Prop) (hw : w_L_draw (sL E) (sX E) M a1 Q) : Con l yL_draw cL_draw 2 (some .int) rm_L_draw 0 0 E base [.ref (sB E), .int a1] M ad (QcI E base (fun r M1 ad1 => Q r M1 ∧ ad = ad1)) noX := by
  refine con_start (by decide) (Nat.le_of_ble_eq_true rfl) ?_
  intro p e s m args below meth c ls QQ hQQ CT hnx hW hl
  obtain ⟨⟨hx, hb, hml, hown, hts⟩, hr, hlocks, hnm, hT⟩ := CT
  have hXs := hT.2.2.2.2.2.2.1.1
  have hbl : sB E < s.heap.size := Nat.lt_of_lt_of_le hT.2.2.2.2.2.2.1.2 hT.2.2.2.2.2.2.2
  have hbA : ¬ (fun q : Nat => base ≤ q) (sB E) := Nat.not_le.mpr hT.2.2.2.2.2.2.1.2
  have hS : va_S (fun q : Nat => base ≤ q) s.heap s.heap [] := va_S.rf
  have hl : lv_has ls 2 [(0, .ref (sB E)), (1, .int a1)] := hl
  unfold w_L_draw at hw
  obtain ⟨H, hH⟩ : ∃ z, z = s.heap := ⟨_, rfl⟩
  obtain ⟨locs, hlo⟩ : ∃ z : List Loc, z = [] := ⟨_, rfl⟩
  have hS : va_S (fun q : Nat => base ≤ q) s.heap H locs := by rw [hlo, hH]; exact hS
  have hW : Wd E base M ad H := by rw [hH]; exact hW
  rw [show W p l e rm_L_draw s m args below meth c s.heap [] 0 0 QQ (F0 m 0 ls []) = W p l e rm_L_draw s m args below meth c H locs 0 0 QQ (F0 m 0 ls []) by rw [hlo, hH]]
  refine lv_iload_n hx hb dL_draw_0 rfl (lv_at hl 1 rfl) ?_
  refine lv_aload_n hx hb dL_draw_1 rfl (lv_at hl 0 rfl) ?_
  refine va_slen hx hb hXs hbl hbA hS dL_draw_2 ?_
  refine lv_icmp_ge (tgt := 15) hx hb dL_draw_3 (by decide) (fun c_1 => ?_) (fun c_1 => ?_)
  · have hw := hw.1 c_1
    refine lv_ldc hx hb hown (hts _ k_24) dL_draw_15 ?_
    refine lv_iload_n hx hb dL_draw_17 rfl (lv_at hl 1 rfl) ?_
    refine lv_iconst (v := 2) hx hb dL_draw_18 (by decide) ?_
    refine lv_iadd hx hb dL_draw_19 ?_
    refine lv_imul hx hb dL_draw_20 ?_
    refine lv_ldc hx hb hown (hts _ k_25) dL_draw_21 ?_
    refine lv_irem hx hb dL_draw_23 (by decide) ?_
    rw [← hQQ]
    exact e_I hx hb hr hlocks hW hS (Nat.le_of_ble_eq_true rfl) (Nat.le_of_ble_eq_true rfl) dL_draw_24 ⟨hw, rfl⟩
  · have hw := hw.2 c_1
    refine lv_aload_n hx hb dL_draw_6 rfl (lv_at hl 0 rfl) ?_
    refine lv_iload_n hx hb dL_draw_7 rfl (lv_at hl 1 rfl) ?_
    obtain ⟨g_2, hw⟩ := hw
    refine va_sld hx hb hXs hbl hbA hS g_2 dL_draw_8 ?_
    refine lv_ldc hx hb hown (hts _ k_26) dL_draw_9 ?_
    refine lv_iand hx hb dL_draw_11 ?_
    refine lv_goto (tgt := 24) hx hb dL_draw_12 (by decide) ?_
    rw [← hQQ]
    exact e_I hx hb hr hlocks hW hS (Nat.le_of_ble_eq_true rfl) (Nat.le_of_ble_eq_true rfl) dL_draw_24 ⟨hw, rfl⟩
def rm_X0_init : Room := { frames := 1, cells := 2, slots := 12, locals := 30 }
def fr_X0_init : Nat → Nat → Bool := fun a _ => [20, 21].contains a
set_option maxHeartbeats 4000000 in
set_option maxRecDepth 100000 in
theorem c_X0_init (l : Launch) (E : GE) (base : Nat) (M : Mem) (ad : AD) (t : Nat) (Q : Mem → Prop) (hw : w_X0_init M t Q) : Con l yX0_init cX0_init 1 none rm_X0_init 2 12 E base [.ref (ad 0 t)] M ad (QcV E base (fun M1 ad1 => Q M1 ∧ AG fr_X0_init ad ad1)) noX := by
  refine con_start (by decide) (Nat.le_of_ble_eq_true rfl) ?_
  intro p e s m args below meth c ls QQ hQQ CT hnx hW hl
  obtain ⟨⟨hx, hb, hml, hown, hts⟩, hr, hlocks, hnm, hT⟩ := CT
  have hS : va_S (fun q : Nat => base ≤ q) s.heap s.heap [] := va_S.rf
  have hl : lv_has ls 1 [(0, .ref (ad 0 t))] := hl
  unfold w_X0_init at hw
  obtain ⟨H, hH⟩ : ∃ z, z = s.heap := ⟨_, rfl⟩
  obtain ⟨locs, hlo⟩ : ∃ z : List Loc, z = [] := ⟨_, rfl⟩
  have hS : va_S (fun q : Nat => base ≤ q) s.heap H locs := by rw [hlo, hH]; exact hS
  have hW : Wd E base M ad H := by rw [hH]; exact hW
  rw [show W p l e rm_X0_init s m args below meth c s.heap [] 0 0 QQ (F0 m 0 ls []) = W p l e rm_X0_init s m args below meth c H locs 0 0 QQ (F0 m 0 ls []) by rw [hlo, hH]]
  refine lv_aload_n hx hb dX0_init_0 rfl (lv_at hl 0 rfl) ?_
  refine W.objInit hx hb hown (hts _ k_27) (hts _ k_2) (hts _ k_3) rfl (by rw [hml]; exact hl.1) rfl dX0_init_1 (Nat.le_of_ble_eq_true rfl) (Nat.le_of_ble_eq_true rfl) ?_
  refine W.eq (g2 := F0 m 4 ls []) rfl ?_
  refine lv_aload_n hx hb dX0_init_4 rfl (lv_at hl 0 rfl) ?_
  refine lv_bipush (v := 6) hx hb dX0_init_5 (by decide) ?_
  obtain ⟨g_1, hw⟩ := hw
  refine r_newa hx hb .int (hts _ k_6) hT.1 hW hS hT.2.2.2.2.2.2.2 (by decide) rfl rfl (fun h9 => h9) _ rfl (fun _ => Or.inl ⟨rfl, rfl⟩) 6 rfl (by decide) (by decide) (Nat.le_of_ble_eq_true rfl) (Nat.le_of_ble_eq_true rfl) (Nat.le_of_ble_eq_true rfl) g_1 dX0_init_7 (fun q_2 M_3 ad_4 H hM_3 had_4 hW hS => ?_)
  have hw := hw M_3 hM_3
  rw [upA_ne (a := 0) (b := t) had_4 (by decide)] at hl ⊢
  have g_5 : mE M_3 20 t = true := mE_wN1 hM_3
  obtain ⟨g_6, hw⟩ := hw
  refine r_putFR (κ2 := 20) (i2 := t) (ty := tyX0 0) hx hb hts hown hT.1 hW hS clX0 0 (by decide) (hts _ k_28) (fun _ h9 => h9) rfl hnm rfl (by decide +kernel) 20 rfl rfl rfl rfl g_5 g_6 dX0_init_9 (fun M_7 H locs hM_7 hW hS => ?_)
  have hw := hw M_7 hM_7
  refine lv_aload_n hx hb dX0_init_12 rfl (lv_at hl 0 rfl) ?_
  refine lv_bipush (v := 6) hx hb dX0_init_13 (by decide) ?_
  obtain ⟨g_8, hw⟩ := hw
  refine r_newa hx hb .int (hts _ k_6) hT.1 hW hS hT.2.2.2.2.2.2.2 (by decide) rfl rfl (fun h9 => h9) _ rfl (fun _ => Or.inl ⟨rfl, rfl⟩) 6 rfl (by decide) (by decide) (Nat.le_of_ble_eq_true rfl) (Nat.le_of_ble_eq_true rfl) (Nat.le_of_ble_eq_true rfl) g_8 dX0_init_15 (fun q_9 M_10 ad_11 H hM_10 had_11 hW hS => ?_)
  have hw := hw M_10 hM_10
  rw [upA_ne (a := 0) (b := t) had_11 (by decide)] at hl ⊢
  have g_12 : mE M_10 20 t = true := mE_wN hM_10 (by rw [hM_7]; exact g_5)
  have g_13 : mE M_10 0 t = true := mE_wN hM_10 (by rw [hM_7]; exact g_6)
  have g_14 : mE M_10 21 t = true := mE_wN1 hM_10
  refine r_putFR (κ2 := 21) (i2 := t) (ty := tyX0 1) hx hb hts hown hT.1 hW hS clX0 1 (by decide) (hts _ k_29) (fun _ h9 => h9) rfl hnm rfl (by decide +kernel) 21 rfl rfl rfl rfl g_14 g_13 dX0_init_17 (fun M_15 H locs hM_15 hW hS => ?_)
  have hw := hw M_15 hM_15
  refine lv_aload_n hx hb dX0_init_20 rfl (lv_at hl 0 rfl) ?_
  refine lv_iconst (v := 0) hx hb dX0_init_21 (by decide) ?_
  refine r_putI hx hb hts hown hT.1 hW hS clX0 2 (by decide) (hts _ k_30) (fun _ h9 => h9) rfl (by decide +kernel) rfl (by rw [hM_15]; exact g_13) dX0_init_22 (fun M_16 H locs hM_16 hW hS => ?_)
  have hw := hw M_16 hM_16
  refine lv_aload_n hx hb dX0_init_25 rfl (lv_at hl 0 rfl) ?_
  refine lv_lconst (v := 0) hx hb dX0_init_26 (by decide) ?_
  refine r_putL hx hb hts hown hT.1 hW hS clX0 3 (by decide) (hts _ k_31) (fun _ h9 => h9) rfl (by decide +kernel) rfl (by rw [hM_16, hM_15]; exact g_13) dX0_init_27 (fun M_17 H locs hM_17 hW hS => ?_)
  have hw := hw M_17 hM_17
  rw [← hQQ]
  exact e_V hx hb hr hlocks hW hS (Nat.le_of_ble_eq_true rfl) (Nat.le_of_ble_eq_true rfl) dX0_init_30 ⟨hw, (AG_new (AG_new AG_refl rfl had_4) rfl had_11)⟩
def rm_X3_init : Room := { frames := 1, cells := 0, slots := 0, locals := 30 }
set_option maxHeartbeats 4000000 in
set_option maxRecDepth 100000 in
theorem c_X3_init (l : Launch) (E : GE) (base : Nat) (M : Mem) (ad : AD) (t : Nat) (a1 : Int32) (Q : Mem → Prop) (hw : w_X3_init M t a1 Q) : Con l yX3_init cX3_init 2 none rm_X3_init 0 0 E base [.ref (ad 3 t), .int a1] M ad (QcV E base (fun M1 ad1 => Q M1 ∧ ad = ad1)) noX := by
  refine con_start (by decide) (Nat.le_of_ble_eq_true rfl) ?_
  intro p e s m args below meth c ls QQ hQQ CT hnx hW hl
  obtain ⟨⟨hx, hb, hml, hown, hts⟩, hr, hlocks, hnm, hT⟩ := CT
  have hS : va_S (fun q : Nat => base ≤ q) s.heap s.heap [] := va_S.rf
  have hl : lv_has ls 2 [(0, .ref (ad 3 t)), (1, .int a1)] := hl
  unfold w_X3_init at hw
  obtain ⟨H, hH⟩ : ∃ z, z = s.heap := ⟨_, rfl⟩
  obtain ⟨locs, hlo⟩ : ∃ z : List Loc, z = [] := ⟨_, rfl⟩
  have hS : va_S (fun q : Nat => base ≤ q) s.heap H locs := by rw [hlo, hH]; exact hS
  have hW : Wd E base M ad H := by rw [hH]; exact hW
  rw [show W p l e rm_X3_init s m args below meth c s.heap [] 0 0 QQ (F0 m 0 ls []) = W p l e rm_X3_init s m args below meth c H locs 0 0 QQ (F0 m 0 ls []) by rw [hlo, hH]]
  refine lv_aload_n hx hb dX3_init_0 rfl (lv_at hl 0 rfl) ?_
  refine W.objInit hx hb hown (hts _ k_32) (hts _ k_2) (hts _ k_3) rfl (by rw [hml]; exact hl.1) rfl dX3_init_1 (Nat.le_of_ble_eq_true rfl) (Nat.le_of_ble_eq_true rfl) ?_
  refine W.eq (g2 := F0 m 4 ls []) rfl ?_
  refine lv_aload_n hx hb dX3_init_4 rfl (lv_at hl 0 rfl) ?_
  refine lv_lconst (v := 0) hx hb dX3_init_5 (by decide) ?_
  obtain ⟨g_1, hw⟩ := hw
  refine r_putL hx hb hts hown hT.1 hW hS clX3 1 (by decide) (hts _ k_33) (fun _ h9 => h9) rfl (by decide +kernel) rfl g_1 dX3_init_6 (fun M_2 H locs hM_2 hW hS => ?_)
  have hw := hw M_2 hM_2
  refine lv_aload_n hx hb dX3_init_9 rfl (lv_at hl 0 rfl) ?_
  refine lv_lconst (v := 0) hx hb dX3_init_10 (by decide) ?_
  refine r_putL hx hb hts hown hT.1 hW hS clX3 2 (by decide) (hts _ k_34) (fun _ h9 => h9) rfl (by decide +kernel) rfl (by rw [hM_2]; exact g_1) dX3_init_11 (fun M_3 H locs hM_3 hW hS => ?_)
  have hw := hw M_3 hM_3
  refine lv_aload_n hx hb dX3_init_14 rfl (lv_at hl 0 rfl) ?_
  refine lv_iload_n hx hb dX3_init_15 rfl (lv_at hl 1 rfl) ?_
  refine r_putI hx hb hts hown hT.1 hW hS clX3 0 (by decide) (hts _ k_35) (fun _ h9 => h9) rfl (by decide +kernel) rfl (by rw [hM_3, hM_2]; exact g_1) dX3_init_16 (fun M_4 H locs hM_4 hW hS => ?_)
  have hw := hw M_4 hM_4
  rw [← hQQ]
  exact e_V hx hb hr hlocks hW hS (Nat.le_of_ble_eq_true rfl) (Nat.le_of_ble_eq_true rfl) dX3_init_19 ⟨hw, rfl⟩
def rm_X1_init : Room := { frames := 1, cells := 1, slots := 1000, locals := 30 }
def fr_X1_init : Nat → Nat → Bool := fun a _ => [22].contains a
set_option maxHeartbeats 4000000 in
set_option maxRecDepth 100000 in
theorem c_X1_init (l : Launch) (E : GE) (base : Nat) (M : Mem) (ad : AD) (t : Nat) (a1 : Int32) (Q : Mem → Prop) (hw : w_X1_init M t a1 Q) : Con l yX1_init cX1_init 2 none rm_X1_init 1 1000 E base [.ref (ad 1 t), .int a1] M ad (QcV E base (fun M1 ad1 => Q M1 ∧ AG fr_X1_init ad ad1)) noX := by
  refine con_start (by decide) (Nat.le_of_ble_eq_true rfl) ?_
  intro p e s m args below meth c ls QQ hQQ CT hnx hW hl
  obtain ⟨⟨hx, hb, hml, hown, hts⟩, hr, hlocks, hnm, hT⟩ := CT
  have hS : va_S (fun q : Nat => base ≤ q) s.heap s.heap [] := va_S.rf
  have hl : lv_has ls 2 [(0, .ref (ad 1 t)), (1, .int a1)] := hl
  unfold w_X1_init at hw
  obtain ⟨H, hH⟩ : ∃ z, z = s.heap := ⟨_, rfl⟩
  obtain ⟨locs, hlo⟩ : ∃ z : List Loc, z = [] := ⟨_, rfl⟩
  have hS : va_S (fun q : Nat => base ≤ q) s.heap H locs := by rw [hlo, hH]; exact hS
  have hW : Wd E base M ad H := by rw [hH]; exact hW
  rw [show W p l e rm_X1_init s m args below meth c s.heap [] 0 0 QQ (F0 m 0 ls []) = W p l e rm_X1_init s m args below meth c H locs 0 0 QQ (F0 m 0 ls []) by rw [hlo, hH]]
  refine lv_aload_n hx hb dX1_init_0 rfl (lv_at hl 0 rfl) ?_
  refine W.objInit hx hb hown (hts _ k_36) (hts _ k_2) (hts _ k_3) rfl (by rw [hml]; exact hl.1) rfl dX1_init_1 (Nat.le_of_ble_eq_true rfl) (Nat.le_of_ble_eq_true rfl) ?_
  refine W.eq (g2 := F0 m 4 ls []) rfl ?_
  refine lv_aload_n hx hb dX1_init_4 rfl (lv_at hl 0 rfl) ?_
  refine lv_sipush (v := 1000) hx hb dX1_init_5 (by decide) ?_
  obtain ⟨g_1, hw⟩ := hw
  refine r_newa hx hb .int (hts _ k_6) hT.1 hW hS hT.2.2.2.2.2.2.2 (by decide) rfl rfl (fun h9 => h9) _ rfl (fun _ => Or.inl ⟨rfl, rfl⟩) 1000 rfl (by decide) (by decide) (Nat.le_of_ble_eq_true rfl) (Nat.le_of_ble_eq_true rfl) (Nat.le_of_ble_eq_true rfl) g_1 dX1_init_8 (fun q_2 M_3 ad_4 H hM_3 had_4 hW hS => ?_)
  have hw := hw M_3 hM_3
  rw [upA_ne (a := 1) (b := t) had_4 (by decide)] at hl ⊢
  have g_5 : mE M_3 22 t = true := mE_wN1 hM_3
  obtain ⟨g_6, hw⟩ := hw
  refine r_putFR (κ2 := 22) (i2 := t) (ty := tyX1 1) hx hb hts hown hT.1 hW hS clX1 1 (by decide) (hts _ k_37) (fun _ h9 => h9) rfl hnm rfl (by decide +kernel) 22 rfl rfl rfl rfl g_5 g_6 dX1_init_10 (fun M_7 H locs hM_7 hW hS => ?_)
  have hw := hw M_7 hM_7
  refine lv_aload_n hx hb dX1_init_13 rfl (lv_at hl 0 rfl) ?_
  refine lv_iconst (v := 0) hx hb dX1_init_14 (by decide) ?_
  refine r_putI hx hb hts hown hT.1 hW hS clX1 2 (by decide) (hts _ k_38) (fun _ h9 => h9) rfl (by decide +kernel) rfl (by rw [hM_7]; exact g_6) dX1_init_15 (fun M_8 H locs hM_8 hW hS => ?_)
  have hw := hw M_8 hM_8
  refine lv_aload_n hx hb dX1_init_18 rfl (lv_at hl 0 rfl) ?_
  refine lv_iload_n hx hb dX1_init_19 rfl (lv_at hl 1 rfl) ?_
  refine r_putFI hx hb hts hown hT.1 hW hS clX1 0 (by decide) (hts _ k_39) (fun _ h9 => h9) rfl hnm rfl (by decide +kernel) rfl (by rw [hM_8, hM_7]; exact g_6) dX1_init_20 (fun M_9 H locs hM_9 hW hS => ?_)
  have hw := hw M_9 hM_9
  rw [← hQQ]
  exact e_V hx hb hr hlocks hW hS (Nat.le_of_ble_eq_true rfl) (Nat.le_of_ble_eq_true rfl) dX1_init_23 ⟨hw, (AG_new AG_refl rfl had_4)⟩
def rm_X2_init : Room := { frames := 2, cells := 10, slots := 1046, locals := 51 }
def fr_X2_init : Nat → Nat → Bool := fun a _ => [0, 1, 3, 20, 21, 22, 23, 24, 25, 26].contains a
set_option maxHeartbeats 4000000 in
set_option maxRecDepth 100000 in
theorem c_X2_init (l : Launch) (E : GE) (base : Nat) (M : Mem) (ad : AD) (t : Nat) (a1 : Int32) (a2 : Int32) (Q : Mem → Prop) (hw : w_X2_init M t a1 a2 Q) : Con l yX2_init cX2_init 3 none rm_X2_init 10 1046 E base [.ref (ad 2 t), .int a1, .int a2] M ad (QcV E base (fun M1 ad1 => Q M1 ∧ AG fr_X2_init ad ad1)) noX := by
  refine con_start (by decide) (Nat.le_of_ble_eq_true rfl) ?_
  intro p e s m args below meth c ls QQ hQQ CT hnx hW hl
  obtain ⟨⟨hx, hb, hml, hown, hts⟩, hr, hlocks, hnm, hT⟩ := CT
  have hS : va_S (fun q : Nat => base ≤ q) s.heap s.heap [] := va_S.rf
  have hl : lv_has ls 3 [(0, .ref (ad 2 t)), (1, .int a1), (2, .int a2)] := hl
  unfold w_X2_init at hw
  obtain ⟨H, hH⟩ : ∃ z, z = s.heap := ⟨_, rfl⟩
  obtain ⟨locs, hlo⟩ : ∃ z : List Loc, z = [] := ⟨_, rfl⟩
  have hS : va_S (fun q : Nat => base ≤ q) s.heap H locs := by rw [hlo, hH]; exact hS
  have hW : Wd E base M ad H := by rw [hH]; exact hW
  rw [show W p l e rm_X2_init s m args below meth c s.heap [] 0 0 QQ (F0 m 0 ls []) = W p l e rm_X2_init s m args below meth c H locs 0 0 QQ (F0 m 0 ls []) by rw [hlo, hH]]
  refine lv_aload_n hx hb dX2_init_0 rfl (lv_at hl 0 rfl) ?_
  refine W.objInit hx hb hown (hts _ k_40) (hts _ k_2) (hts _ k_3) rfl (by rw [hml]; exact hl.1) rfl dX2_init_1 (Nat.le_of_ble_eq_true rfl) (Nat.le_of_ble_eq_true rfl) ?_
  refine W.eq (g2 := F0 m 4 ls []) rfl ?_
  refine lv_aload_n hx hb dX2_init_4 rfl (lv_at hl 0 rfl) ?_
  obtain ⟨g_1, hw⟩ := hw
  refine r_new (dv := fun _ => .null) hx hb hts hown (hts _ k_41) (hts _ k_42) (hts _ k_43) hT.1 hW hS hT.2.2.2.2.2.2.2 clX0 tyX0 tyX0_ok (by decide) (Nat.le_of_ble_eq_true rfl) (Nat.le_of_ble_eq_true rfl) g_1 dX2_init_5 (fun q_2 M_3 ad_4 H hM_3 had_4 hW hS => ?_)
  have hw := hw M_3 hM_3
  rw [upA_ne (a := 2) (b := t) had_4 (by decide)] at hl ⊢
  have g_5 : mE M_3 0 t = true := mE_wN1 hM_3
  refine lv_dup hx hb dX2_init_8 rfl ?_
  refine k_V (rn_IN (As := []) (rest := [.ref (ad_4 0 t), .ref (ad_4 2 t)]) (κ := 0) (i := t) ⟨hx, hb, hml, hown, hts⟩ hT hW hS hl (c_X0_init l E base M_3 ad_4 t _ hw) cy_X0_init kn_1 rfl k_44 rfl rfl ⟨(Nat.le_of_ble_eq_true rfl), (Nat.le_of_ble_eq_true rfl)⟩ rfl rfl (Nat.le_of_ble_eq_true rfl) dX2_init_9 ⟨(Nat.le_of_ble_eq_true rfl), (Nat.le_of_ble_eq_true rfl)⟩) hS kx_no (fun M_7 ad_8 H locs hP hW hS => ?_)
  obtain ⟨hw, hag⟩ := hP
  have hag_10 := hag
  rw [hag_10 0 t (by rfl)] at ⊢
  rw [hag_10 2 t (by rfl)] at hl ⊢
  obtain ⟨g_11, hw⟩ := hw
  obtain ⟨g_13, hw⟩ := hw
  refine r_putFR (κ2 := 0) (i2 := t) (ty := tyX2 3) hx hb hts hown hT.1 hW hS clX2 3 (by decide) (hts _ k_45) (fun _ h9 => h9) rfl hnm rfl (by decide +kernel) 0 rfl rfl rfl rfl g_13 g_11 dX2_init_12 (fun M_12 H locs hM_12 hW hS => ?_)
  have hw := hw M_12 hM_12
  refine lv_aload_n hx hb dX2_init_15 rfl (lv_at hl 0 rfl) ?_
  refine lv_iconst (v := 0) hx hb dX2_init_16 (by decide) ?_
  refine r_putI hx hb hts hown hT.1 hW hS clX2 4 (by decide) (hts _ k_46) (fun _ h9 => h9) rfl (by decide +kernel) rfl (by rw [hM_12]; exact g_11) dX2_init_17 (fun M_14 H locs hM_14 hW hS => ?_)
  have hw := hw M_14 hM_14
  refine lv_aload_n hx hb dX2_init_20 rfl (lv_at hl 0 rfl) ?_
  refine lv_iconst (v := 0) hx hb dX2_init_21 (by decide) ?_
  refine r_putZ hx hb hts hown hT.1 hW hS clX2 5 (by decide) (hts _ k_47) (fun _ h9 => h9) rfl (by decide +kernel) rfl (by decide) (by rw [hM_14, hM_12]; exact g_11) dX2_init_22 (fun M_15 H locs hM_15 hW hS => ?_)
  have hw := hw M_15 hM_15
  refine lv_aload_n hx hb dX2_init_25 rfl (lv_at hl 0 rfl) ?_
  refine lv_iconst (v := 0) hx hb dX2_init_26 (by decide) ?_
  refine r_putZ hx hb hts hown hT.1 hW hS clX2 6 (by decide) (hts _ k_48) (fun _ h9 => h9) rfl (by decide +kernel) rfl (by decide) (by rw [hM_15, hM_14, hM_12]; exact g_11) dX2_init_27 (fun M_16 H locs hM_16 hW hS => ?_)
  have hw := hw M_16 hM_16
  refine lv_aload_n hx hb dX2_init_30 rfl (lv_at hl 0 rfl) ?_
  refine lv_bipush (v := 6) hx hb dX2_init_31 (by decide) ?_
  obtain ⟨g_17, hw⟩ := hw
  refine r_newa hx hb .long (hts _ k_49) hT.1 hW hS hT.2.2.2.2.2.2.2 (by decide) rfl rfl (fun h9 => h9) _ rfl (fun _ => Or.inr ⟨rfl, rfl⟩) 6 rfl (by decide) (by decide) (Nat.le_of_ble_eq_true rfl) (Nat.le_of_ble_eq_true rfl) (Nat.le_of_ble_eq_true rfl) g_17 dX2_init_33 (fun q_18 M_19 ad_20 H hM_19 had_20 hW hS => ?_)
  have hw := hw M_19 hM_19
  rw [upA_ne (a := 2) (b := t) had_20 (by decide)] at hl ⊢
  have g_21 : mE M_19 2 t = true := mE_wN hM_19 (by rw [hM_16, hM_15, hM_14, hM_12]; exact g_11)
  have g_22 : mE M_19 0 t = true := mE_wN hM_19 (by rw [hM_16, hM_15, hM_14, hM_12]; exact g_13)
  have g_23 : mE M_19 23 t = true := mE_wN1 hM_19
  refine r_putFR (κ2 := 23) (i2 := t) (ty := tyX2 7) hx hb hts hown hT.1 hW hS clX2 7 (by decide) (hts _ k_50) (fun _ h9 => h9) rfl hnm rfl (by decide +kernel) 23 rfl rfl rfl rfl g_23 g_21 dX2_init_35 (fun M_24 H locs hM_24 hW hS => ?_)
  have hw := hw M_24 hM_24
  refine lv_aload_n hx hb dX2_init_38 rfl (lv_at hl 0 rfl) ?_
  refine lv_bipush (v := 6) hx hb dX2_init_39 (by decide) ?_
  obtain ⟨g_25, hw⟩ := hw
  refine r_newa hx hb .int (hts _ k_6) hT.1 hW hS hT.2.2.2.2.2.2.2 (by decide) rfl rfl (fun h9 => h9) _ rfl (fun _ => Or.inl ⟨rfl, rfl⟩) 6 rfl (by decide) (by decide) (Nat.le_of_ble_eq_true rfl) (Nat.le_of_ble_eq_true rfl) (Nat.le_of_ble_eq_true rfl) g_25 dX2_init_41 (fun q_26 M_27 ad_28 H hM_27 had_28 hW hS => ?_)
  have hw := hw M_27 hM_27
  rw [upA_ne (a := 2) (b := t) had_28 (by decide)] at hl ⊢
  have g_29 : mE M_27 2 t = true := mE_wN hM_27 (by rw [hM_24]; exact g_21)
  have g_30 : mE M_27 0 t = true := mE_wN hM_27 (by rw [hM_24]; exact g_22)
  have g_31 : mE M_27 23 t = true := mE_wN hM_27 (by rw [hM_24]; exact g_23)
  have g_32 : mE M_27 24 t = true := mE_wN1 hM_27
  refine r_putFR (κ2 := 24) (i2 := t) (ty := tyX2 8) hx hb hts hown hT.1 hW hS clX2 8 (by decide) (hts _ k_51) (fun _ h9 => h9) rfl hnm rfl (by decide +kernel) 24 rfl rfl rfl rfl g_32 g_29 dX2_init_43 (fun M_33 H locs hM_33 hW hS => ?_)
  have hw := hw M_33 hM_33
  refine lv_aload_n hx hb dX2_init_46 rfl (lv_at hl 0 rfl) ?_
  refine lv_bipush (v := 6) hx hb dX2_init_47 (by decide) ?_
  obtain ⟨g_34, hw⟩ := hw
  refine r_newa hx hb .int (hts _ k_6) hT.1 hW hS hT.2.2.2.2.2.2.2 (by decide) rfl rfl (fun h9 => h9) _ rfl (fun _ => Or.inl ⟨rfl, rfl⟩) 6 rfl (by decide) (by decide) (Nat.le_of_ble_eq_true rfl) (Nat.le_of_ble_eq_true rfl) (Nat.le_of_ble_eq_true rfl) g_34 dX2_init_49 (fun q_35 M_36 ad_37 H hM_36 had_37 hW hS => ?_)
  have hw := hw M_36 hM_36
  rw [upA_ne (a := 2) (b := t) had_37 (by decide)] at hl ⊢
  have g_38 : mE M_36 2 t = true := mE_wN hM_36 (by rw [hM_33]; exact g_29)
  have g_39 : mE M_36 0 t = true := mE_wN hM_36 (by rw [hM_33]; exact g_30)
  have g_40 : mE M_36 23 t = true := mE_wN hM_36 (by rw [hM_33]; exact g_31)
  have g_41 : mE M_36 24 t = true := mE_wN hM_36 (by rw [hM_33]; exact g_32)
  have g_42 : mE M_36 25 t = true := mE_wN1 hM_36
  refine r_putFR (κ2 := 25) (i2 := t) (ty := tyX2 9) hx hb hts hown hT.1 hW hS clX2 9 (by decide) (hts _ k_52) (fun _ h9 => h9) rfl hnm rfl (by decide +kernel) 25 rfl rfl rfl rfl g_42 g_38 dX2_init_51 (fun M_43 H locs hM_43 hW hS => ?_)
  have hw := hw M_43 hM_43
  refine lv_aload_n hx hb dX2_init_54 rfl (lv_at hl 0 rfl) ?_
  refine lv_iconst (v := 0) hx hb dX2_init_55 (by decide) ?_
  refine r_putI hx hb hts hown hT.1 hW hS clX2 10 (by decide) (hts _ k_53) (fun _ h9 => h9) rfl (by decide +kernel) rfl (by rw [hM_43]; exact g_38) dX2_init_56 (fun M_44 H locs hM_44 hW hS => ?_)
  have hw := hw M_44 hM_44
  refine lv_aload_n hx hb dX2_init_59 rfl (lv_at hl 0 rfl) ?_
  refine lv_iconst (v := 0) hx hb dX2_init_60 (by decide) ?_
  refine r_putI hx hb hts hown hT.1 hW hS clX2 11 (by decide) (hts _ k_54) (fun _ h9 => h9) rfl (by decide +kernel) rfl (by rw [hM_44, hM_43]; exact g_38) dX2_init_61 (fun M_45 H locs hM_45 hW hS => ?_)
  have hw := hw M_45 hM_45
  refine lv_aload_n hx hb dX2_init_64 rfl (lv_at hl 0 rfl) ?_
  refine lv_bipush (v := 6) hx hb dX2_init_65 (by decide) ?_
  obtain ⟨g_46, hw⟩ := hw
  refine r_newa hx hb .int (hts _ k_6) hT.1 hW hS hT.2.2.2.2.2.2.2 (by decide) rfl rfl (fun h9 => h9) _ rfl (fun _ => Or.inl ⟨rfl, rfl⟩) 6 rfl (by decide) (by decide) (Nat.le_of_ble_eq_true rfl) (Nat.le_of_ble_eq_true rfl) (Nat.le_of_ble_eq_true rfl) g_46 dX2_init_67 (fun q_47 M_48 ad_49 H hM_48 had_49 hW hS => ?_)
  have hw := hw M_48 hM_48
  rw [upA_ne (a := 2) (b := t) had_49 (by decide)] at hl ⊢
  have g_50 : mE M_48 2 t = true := mE_wN hM_48 (by rw [hM_45, hM_44, hM_43]; exact g_38)
  have g_51 : mE M_48 0 t = true := mE_wN hM_48 (by rw [hM_45, hM_44, hM_43]; exact g_39)
  have g_52 : mE M_48 23 t = true := mE_wN hM_48 (by rw [hM_45, hM_44, hM_43]; exact g_40)
  have g_53 : mE M_48 24 t = true := mE_wN hM_48 (by rw [hM_45, hM_44, hM_43]; exact g_41)
  have g_54 : mE M_48 25 t = true := mE_wN hM_48 (by rw [hM_45, hM_44, hM_43]; exact g_42)
  have g_55 : mE M_48 26 t = true := mE_wN1 hM_48
  refine r_putFR (κ2 := 26) (i2 := t) (ty := tyX2 12) hx hb hts hown hT.1 hW hS clX2 12 (by decide) (hts _ k_55) (fun _ h9 => h9) rfl hnm rfl (by decide +kernel) 26 rfl rfl rfl rfl g_55 g_50 dX2_init_69 (fun M_56 H locs hM_56 hW hS => ?_)
  have hw := hw M_56 hM_56
  refine lv_aload_n hx hb dX2_init_72 rfl (lv_at hl 0 rfl) ?_
  refine lv_iconst (v := 0) hx hb dX2_init_73 (by decide) ?_
  refine r_putI hx hb hts hown hT.1 hW hS clX2 13 (by decide) (hts _ k_56) (fun _ h9 => h9) rfl (by decide +kernel) rfl (by rw [hM_56]; exact g_50) dX2_init_74 (fun M_57 H locs hM_57 hW hS => ?_)
  have hw := hw M_57 hM_57
  refine lv_aload_n hx hb dX2_init_77 rfl (lv_at hl 0 rfl) ?_
  refine lv_iload_n hx hb dX2_init_78 rfl (lv_at hl 1 rfl) ?_
  refine r_putFI hx hb hts hown hT.1 hW hS clX2 0 (by decide) (hts _ k_57) (fun _ h9 => h9) rfl hnm rfl (by decide +kernel) rfl (by rw [hM_57, hM_56]; exact g_50) dX2_init_79 (fun M_58 H locs hM_58 hW hS => ?_)
  have hw := hw M_58 hM_58
  refine lv_aload_n hx hb dX2_init_82 rfl (lv_at hl 0 rfl) ?_
  obtain ⟨g_59, hw⟩ := hw
  refine r_new (dv := fun _ => .null) hx hb hts hown (hts _ k_58) (hts _ k_59) (hts _ k_60) hT.1 hW hS hT.2.2.2.2.2.2.2 clX3 tyX3 tyX3_ok (by decide) (Nat.le_of_ble_eq_true rfl) (Nat.le_of_ble_eq_true rfl) g_59 dX2_init_83 (fun q_60 M_61 ad_62 H hM_61 had_62 hW hS => ?_)
  have hw := hw M_61 hM_61
  rw [upA_ne (a := 2) (b := t) had_62 (by decide)] at hl ⊢
  have g_63 : mE M_61 2 t = true := mE_wN hM_61 (by rw [hM_58, hM_57, hM_56]; exact g_50)
  have g_64 : mE M_61 0 t = true := mE_wN hM_61 (by rw [hM_58, hM_57, hM_56]; exact g_51)
  have g_65 : mE M_61 23 t = true := mE_wN hM_61 (by rw [hM_58, hM_57, hM_56]; exact g_52)
  have g_66 : mE M_61 24 t = true := mE_wN hM_61 (by rw [hM_58, hM_57, hM_56]; exact g_53)
  have g_67 : mE M_61 25 t = true := mE_wN hM_61 (by rw [hM_58, hM_57, hM_56]; exact g_54)
  have g_68 : mE M_61 26 t = true := mE_wN hM_61 (by rw [hM_58, hM_57, hM_56]; exact g_55)
  have g_69 : mE M_61 3 t = true := mE_wN1 hM_61
  refine lv_dup hx hb dX2_init_86 rfl ?_
  refine lv_iload_n hx hb dX2_init_87 rfl (lv_at hl 2 rfl) ?_
  refine k_V (rn_I (As := [.int a2]) (rest := [.ref (ad_62 3 t), .ref (ad_62 2 t)]) (κ := 3) (i := t) ⟨hx, hb, hml, hown, hts⟩ hT hW hS hl (c_X3_init l E base M_61 ad_62 t a2 _ hw) cy_X3_init rfl k_61 k_62 rfl rfl ⟨(Nat.le_of_ble_eq_true rfl), (Nat.le_of_ble_eq_true rfl)⟩ rfl rfl (Nat.le_of_ble_eq_true rfl) dX2_init_88 ⟨(Nat.le_of_ble_eq_true rfl), (Nat.le_of_ble_eq_true rfl)⟩) hS kx_no (fun M_71 ad_72 H locs hP hW hS => ?_)
  obtain ⟨hw, rfl⟩ := hP
  obtain ⟨g_74, hw⟩ := hw
  obtain ⟨g_76, hw⟩ := hw
  refine r_putFR (κ2 := 3) (i2 := t) (ty := tyX2 1) hx hb hts hown hT.1 hW hS clX2 1 (by decide) (hts _ k_63) (fun _ h9 => h9) rfl hnm rfl (by decide +kernel) 3 rfl rfl rfl rfl g_76 g_74 dX2_init_91 (fun M_75 H locs hM_75 hW hS => ?_)
  have hw := hw M_75 hM_75
  refine lv_aload_n hx hb dX2_init_94 rfl (lv_at hl 0 rfl) ?_
  obtain ⟨g_77, hw⟩ := hw
  refine r_new (dv := fun _ => .null) hx hb hts hown (hts _ k_64) (hts _ k_65) (hts _ k_66) hT.1 hW hS hT.2.2.2.2.2.2.2 clX1 tyX1 tyX1_ok (by decide) (Nat.le_of_ble_eq_true rfl) (Nat.le_of_ble_eq_true rfl) g_77 dX2_init_95 (fun q_78 M_79 ad_80 H hM_79 had_80 hW hS => ?_)
  have hw := hw M_79 hM_79
  rw [upA_ne (a := 2) (b := t) had_80 (by decide)] at hl ⊢
  have g_81 : mE M_79 2 t = true := mE_wN hM_79 (by rw [hM_75]; exact g_74)
  have g_82 : mE M_79 3 t = true := mE_wN hM_79 (by rw [hM_75]; exact g_76)
  have g_83 : mE M_79 1 t = true := mE_wN1 hM_79
  refine lv_dup hx hb dX2_init_98 rfl ?_
  refine lv_iload_n hx hb dX2_init_99 rfl (lv_at hl 2 rfl) ?_
  refine k_V (rn_I (As := [.int a2]) (rest := [.ref (ad_80 1 t), .ref (ad_80 2 t)]) (κ := 1) (i := t) ⟨hx, hb, hml, hown, hts⟩ hT hW hS hl (c_X1_init l E base M_79 ad_80 t a2 _ hw) cy_X1_init rfl k_67 k_68 rfl rfl ⟨(Nat.le_of_ble_eq_true rfl), (Nat.le_of_ble_eq_true rfl)⟩ rfl rfl (Nat.le_of_ble_eq_true rfl) dX2_init_100 ⟨(Nat.le_of_ble_eq_true rfl), (Nat.le_of_ble_eq_true rfl)⟩) hS kx_no (fun M_85 ad_86 H locs hP hW hS => ?_)
  obtain ⟨hw, hag⟩ := hP
  have hag_88 := hag
  rw [hag_88 1 t (by rfl)] at ⊢
  rw [hag_88 2 t (by rfl)] at hl ⊢
  obtain ⟨g_89, hw⟩ := hw
  obtain ⟨g_91, hw⟩ := hw
  refine r_putFR (κ2 := 1) (i2 := t) (ty := tyX2 2) hx hb hts hown hT.1 hW hS clX2 2 (by decide) (hts _ k_69) (fun _ h9 => h9) rfl hnm rfl (by decide +kernel) 1 rfl rfl rfl rfl g_91 g_89 dX2_init_103 (fun M_90 H locs hM_90 hW hS => ?_)
  have hw := hw M_90 hM_90
  rw [← hQQ]
  exact e_V hx hb hr hlocks hW hS (Nat.le_of_ble_eq_true rfl) (Nat.le_of_ble_eq_true rfl) dX2_init_106 ⟨hw, (AG_call (AG_new (AG_new (AG_new (AG_new (AG_new (AG_new (AG_call (AG_new AG_refl rfl had_4) hag_10 (fun a b h => by revert h; simp [fr_X2_init, fr_X0_init]; omega)) rfl had_20) rfl had_28) rfl had_37) rfl had_49) rfl had_62) rfl had_80) hag_88 (fun a b h => by revert h; simp [fr_X2_init, fr_X1_init]; omega))⟩
def rm_X4_join : Room := { frames := 6, cells := 11, slots := 1060, locals := 90 }
def fr_X4_join : Nat → Nat → Bool := fun a _ => [0, 1, 2, 3, 20, 21, 22, 23, 24, 25, 26].contains a
set_option maxHeartbeats 4000000 in
set_option maxRecDepth 100000 in
theorem c_X4_join (l : Launch) (hlt : l.stackTraces = false) (E : GE) (base : Nat) (M : Mem) (ad : AD) (a1 : Int32) (Q : Int32 → Mem → Prop) (X : Nat → Mem → Prop) (hw : w_X4_join M a1 Q X) : Con l yX4_join cX4_join 3 (some .int) rm_X4_join 11 1060 E base [.ref (ad 4 0), .int a1] M ad (QcI E base (fun r M1 ad1 => Q r M1 ∧ AG fr_X4_join ad ad1)) (fun k M1 ad1 => X k M1 ∧ AG fr_X4_join ad ad1) := by
  refine con_start (by decide) (Nat.le_of_ble_eq_true rfl) ?_
  intro p e s m args below meth c ls QQ hQQ CT hnx hW hl
  obtain ⟨⟨hx, hb, hml, hown, hts⟩, hr, hlocks, hnm, hT⟩ := CT
  have hS : va_S (fun q : Nat => base ≤ q) s.heap s.heap [] := va_S.rf
  have hl : lv_has ls 3 [(0, .ref (ad 4 0)), (1, .int a1)] := hl
  have L_48 : ∀ (ad9 : AD) (hag9 : AG fr_X4_join ad ad9) (M : Mem) (x2 : Int32) (s0 : Int32) (s1 : Int32) (s2 : Nat) (s3 : Nat) (s4 : Int32), b_X4_join_48 Q X M x2 s0 s1 s2 s3 s4 → WL p l e rm_X4_join s m args below meth c QQ E base 3 M ad9 48 [(0, .ref (ad9 4 0)), (2, .int x2)] [.int s0, .int s1, .ref (ad9 2 s2), .ref (ad9 2 s3), .int s4, .ref (ad9 10 0)] 1 14 := by
    intro ad9 hag9 M x2 s0 s1 s2 s3 s4 hw H locs ls hW hS hl
    unfold b_X4_join_48 at hw
    obtain ⟨g_14, hw⟩ := hw
    refine k_V (rn_I (As := [.int s1, .int s0]) (rest := [.ref (ad9 2 s3), .int s4, .ref (ad9 10 0)]) (κ := 2) (i := s2) ⟨hx, hb, hml, hown, hts⟩ hT hW hS hl (c_X2_init l E base M ad9 s2 s1 s0 _ hw) cy_X2_init rfl k_72 k_73 rfl rfl ⟨(Nat.le_of_ble_eq_true rfl), (Nat.le_of_ble_eq_true rfl)⟩ rfl rfl (Nat.le_of_ble_eq_true rfl) dX4_join_48 ⟨(Nat.le_of_ble_eq_true rfl), (Nat.le_of_ble_eq_true rfl)⟩) hS kx_no (fun M_16 ad_17 H locs hP hW hS => ?_)
    obtain ⟨hw, hag⟩ := hP
    have hag_19 := hag
    rw [hag_19 2 s3 (by rfl)] at ⊢
    rw [hag_19 4 0 (by rfl)] at hl
    rw [hag_19 10 0 (by rfl)] at ⊢
    obtain ⟨g_20, hw⟩ := hw
    obtain ⟨g_21, hw⟩ := hw
    obtain ⟨g_23, hw⟩ := hw
    obtain ⟨g_24, hw⟩ := hw
    refine r_aast hx hb hT.1 hW hS g_21 g_23 g_20 g_24 dX4_join_51 (fun M_22 H locs hM_22 hW hS => ?_)
    have hw := hw M_22 hM_22
    refine lv_aload_n hx hb dX4_join_52 rfl (lv_at hl 0 rfl) ?_
    refine lv_dup hx hb dX4_join_53 rfl ?_
    obtain ⟨g_25, hw⟩ := hw
    refine r_getI hx hb hts hown hT.1 hW clX4 3 (by decide) (hts _ k_9) (fun _ h9 => h9) rfl g_25 dX4_join_54 ?_
    refine lv_iconst (v := 1) hx hb dX4_join_57 (by decide) ?_
    refine lv_iadd hx hb dX4_join_58 ?_
    refine r_putI hx hb hts hown hT.1 hW hS clX4 3 (by decide) (hts _ k_9) (fun _ h9 => h9) rfl (by decide +kernel) rfl g_25 dX4_join_59 (fun M_26 H locs hM_26 hW hS => ?_)
    have hw := hw M_26 hM_26
    refine lv_iload_n hx hb dX4_join_62 rfl (lv_at hl 1 rfl) ?_
    rw [← hQQ]
    exact e_I hx hb hr hlocks hW hS (Nat.le_of_ble_eq_true rfl) (Nat.le_of_ble_eq_true rfl) dX4_join_63 ⟨hw, (AG_call hag9 hag_19 (fun a b h => by revert h; simp [fr_X4_join, fr_X2_init]; omega))⟩
  unfold w_X4_join at hw
  obtain ⟨H, hH⟩ : ∃ z, z = s.heap := ⟨_, rfl⟩
  obtain ⟨locs, hlo⟩ : ∃ z : List Loc, z = [] := ⟨_, rfl⟩
  have hS : va_S (fun q : Nat => base ≤ q) s.heap H locs := by rw [hlo, hH]; exact hS
  have hW : Wd E base M ad H := by rw [hH]; exact hW
  rw [show W p l e rm_X4_join s m args below meth c s.heap [] 0 0 QQ (F0 m 0 ls []) = W p l e rm_X4_join s m args below meth c H locs 0 0 QQ (F0 m 0 ls []) by rw [hlo, hH]]
  refine lv_aload_n hx hb dX4_join_0 rfl (lv_at hl 0 rfl) ?_
  obtain ⟨g_1, hw⟩ := hw
  refine r_getI hx hb hts hown hT.1 hW clX4 3 (by decide) (hts _ k_9) (fun _ h9 => h9) rfl g_1 dX4_join_1 ?_
  refine lv_aload_n hx hb dX4_join_4 rfl (lv_at hl 0 rfl) ?_
  obtain ⟨g_2, hw⟩ := hw
  refine r_getR (κ2 := 10) (i2 := 0) hx hb hts hown hT.1 hW clX4 0 (by decide) (hts _ k_5) (fun _ h9 => h9) 10 rfl rfl g_1 g_2 dX4_join_5 ?_
  obtain ⟨g_3, hw⟩ := hw
  refine r_alen (v := 6) hx hb hT.1 hW (by decide) 3 rfl (kTy 3) rfl (by decide) g_3 dX4_join_8 ?_
  refine lv_icmp_lt (tgt := 22) hx hb dX4_join_9 (by decide) (fun c_4 => ?_) (fun c_4 => ?_)
  · have hw := hw.1 c_4
    refine lv_aload_n hx hb dX4_join_22 rfl (lv_at hl 0 rfl) ?_
    refine r_getI hx hb hts hown hT.1 hW clX4 3 (by decide) (hts _ k_9) (fun _ h9 => h9) rfl g_1 dX4_join_23 ?_
    refine lv_topi (fun v_5 ev_5 => ?_)
    have hw := hw v_5 ev_5
    refine lv_istore_n (lv' := [(2, .int v_5), (0, .ref (ad 4 0)), (1, .int a1)]) hx hb dX4_join_26 rfl hl (by decide) rfl (fun ls hl => ?_)
    refine lv_aload_n hx hb dX4_join_27 rfl (lv_at hl 1 rfl) ?_
    refine r_getR (κ2 := 10) (i2 := 0) hx hb hts hown hT.1 hW clX4 0 (by decide) (hts _ k_5) (fun _ h9 => h9) 10 rfl rfl g_1 g_2 dX4_join_28 ?_
    refine lv_iload_n hx hb dX4_join_31 rfl (lv_at hl 0 rfl) ?_
    obtain ⟨g_6, hw⟩ := hw
    refine r_new (dv := fun _ => .null) hx hb hts hown (hts _ k_4) (hts _ k_70) (hts _ k_71) hT.1 hW hS hT.2.2.2.2.2.2.2 clX2 tyX2 tyX2_ok (by decide) (Nat.le_of_ble_eq_true rfl) (Nat.le_of_ble_eq_true rfl) g_6 dX4_join_32 (fun q_7 M_8 ad_9 H hM_8 had_9 hW hS => ?_)
    have hw := hw M_8 hM_8
    rw [upA_ne (a := 4) (b := 0) had_9 (by decide)] at hl
    rw [upA_ne (a := 10) (b := 0) had_9 (by decide)] at ⊢
    have g_10 : mE M_8 4 0 = true := mE_wN hM_8 g_1
    have g_11 : mE M_8 10 0 = true := mE_wN hM_8 g_3
    have g_12 : mE M_8 2 v_5.toNatClampNeg = true := mE_wN1 hM_8
    refine lv_dup hx hb dX4_join_35 rfl ?_
    refine lv_iload_n hx hb dX4_join_36 rfl (lv_at hl 0 rfl) ?_
    refine lv_iload_n hx hb dX4_join_37 rfl (lv_at hl 2 rfl) ?_
    refine lv_if_eq (tgt := 47) hx hb dX4_join_38 (by decide) (fun c_13 => ?_) (fun c_13 => ?_)
    · have hw := hw.1 c_13
      refine lv_iconst (v := 0) hx hb dX4_join_47 (by decide) ?_
      exact L_48 ad_9 (AG_new AG_refl rfl had_9) M_8 v_5 0 v_5 v_5.toNatClampNeg v_5.toNatClampNeg v_5 hw H locs ls hW hS (lv_sub hl [1, 0] rfl)
    · have hw := hw.2 c_13
      refine lv_sipush (v := 4095) hx hb dX4_join_41 (by decide) ?_
      refine lv_goto (tgt := 48) hx hb dX4_join_44 (by decide) ?_
      exact L_48 ad_9 (AG_new AG_refl rfl had_9) M_8 v_5 4095 v_5 v_5.toNatClampNeg v_5.toNatClampNeg v_5 hw H locs ls hW hS (lv_sub hl [1, 0] rfl)
  · have hw := hw.2 c_4
    rw [← hQQ]
    exact e_throw 0 (own := RX4) (text := "all peers have joined") hx hb hlt hown hts hT (by decide) k_74 k_75 at_X4_39_0 ag_X4_39_0 (by decide +kernel) dX4_join_12 dX4_join_15 dX4_join_16 dX4_join_18 dX4_join_21 hnx (Nat.le_of_ble_eq_true rfl) (Nat.le_of_ble_eq_true rfl) (Nat.le_of_ble_eq_true rfl) (Nat.le_of_ble_eq_true rfl) hlocks (by rw [hml]; exact hl.1) hW hS (Nat.le_of_ble_eq_true rfl) (Nat.le_of_ble_eq_true rfl) ⟨hw, AG_refl⟩
