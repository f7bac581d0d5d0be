def rm_J7_fill_53178_11 : Room := { frames := 0, cells := 0, slots := 0, locals := 0 }
set_option maxHeartbeats 4000000 in
set_option maxRecDepth 100000 in
theorem c_J7_fill_53178_11 (l : Launch) (E : GE) (base : Nat) (M : Mem) (ad : AD) (a1 : Int32) (Q : Mem → Prop) (hw : w_J7_fill_53178_11 M a1 Q) : Con l yJ7_fill_53178 cJ7_fill_53178 4 none rm_J7_fill_53178_11 0 0 E base [.ref (ad 11 0), .int a1] M ad (QcV E base (fun M1 ad1 => Q M1 ∧ ad = ad1)) noX := by
  refine con_start (by decide) (Nat.le_of_ble_eq_true rfl) ?_
  intro p e s m args below meth c ls QQ hQQ CT hnx hW hl
  obtain ⟨⟨hx, hb, hml, hown, hts⟩, hr, hlocks, hnm, hT⟩ := CT
  have hS : va_S (fun q : Nat => base ≤ q) s.heap s.heap [] := va_S.rf
  have hl : lv_has ls 4 [(0, .ref (ad 11 0)), (1, .int a1)] := hl
  have L_5 : ∀ (n : Nat) (M : Mem) (x1 : Int32) (x2 : Int32) (x3 : Int32), l_J7_fill_53178_11_5 Q n M x1 x2 x3 → WL p l e rm_J7_fill_53178_11 s m args below meth c QQ E base 4 M ad 5 [(0, .ref (ad 11 0)), (1, .int x1), (2, .int x2), (3, .int x3)] [] 0 0 := by
    intro n
    induction n with
    | zero => intro M x1 x2 x3 hw; exact False.elim hw
    | succ n K5 =>
      intro M x1 x2 x3 hw H locs ls hW hS hl
      obtain ⟨k5, hk5⟩ : ∃ z, z = l_J7_fill_53178_11_5 Q n := ⟨_, rfl⟩
      have hw : b_J7_fill_53178_11_5 Q k5 M x1 x2 x3 := by rw [hk5]; exact hw
      rw [← hk5] at K5
      unfold b_J7_fill_53178_11_5 at hw
      refine lv_iload_n hx hb dJ7_fill_53178_5 rfl (lv_at hl 2 rfl) ?_
      refine lv_iload_n hx hb dJ7_fill_53178_6 rfl (lv_at hl 3 rfl) ?_
      refine lv_icmp_ge (tgt := 20) hx hb dJ7_fill_53178_7 (by decide) (fun c_2 => ?_) (fun c_2 => ?_)
      · have hw := hw.1 c_2
        rw [← hQQ]
        exact e_V hx hb hr hlocks hW hS (Nat.le_of_ble_eq_true rfl) (Nat.le_of_ble_eq_true rfl) dJ7_fill_53178_20 ⟨hw, rfl⟩
      · have hw := hw.2 c_2
        refine lv_aload_n hx hb dJ7_fill_53178_10 rfl (lv_at hl 0 rfl) ?_
        refine lv_iload_n hx hb dJ7_fill_53178_11 rfl (lv_at hl 2 rfl) ?_
        refine lv_iload_n hx hb dJ7_fill_53178_12 rfl (lv_at hl 1 rfl) ?_
        obtain ⟨g_3, hw⟩ := hw
        obtain ⟨g_4, hw⟩ := hw
        refine r_iast hx hb hT.1 hW hS (by decide) rfl (fun _ => rfl) 12 rfl g_4 g_3 dJ7_fill_53178_13 (fun M_5 H locs hM_5 hW hS => ?_)
        have hw := hw M_5 hM_5
        obtain ⟨v_6, ev_6⟩ : ∃ y : Int32, y = x2 + 1 := ⟨_, rfl⟩
        have hw := hw v_6 ev_6
        refine lv_iinc (v := v_6) (lv' := [(2, .int v_6), (0, .ref (ad 11 0)), (1, .int x1), (3, .int x3)]) hx hb dJ7_fill_53178_14 hl (k := 2) rfl (by rw [ev_6]; rfl) (by decide) rfl (fun ls hl => ?_)
        refine lv_goto (tgt := 5) hx hb dJ7_fill_53178_17 (by decide) ?_
        exact K5 M_5 x1 v_6 x3 hw H locs ls hW hS (lv_sub hl [1, 2, 0, 3] rfl)
  unfold w_J7_fill_53178_11 at hw
  obtain ⟨H, hH⟩ : ∃ z, z = s.heap := ⟨_, rfl⟩
  obtain ⟨locs, hlo⟩ : ∃ z : List Loc, z = [] := ⟨_, rfl⟩
  have hS : va_S (fun q : Nat => base ≤ q) s.heap H locs := by rw [hlo, hH]; exact hS
  have hW : Wd E base M ad H := by rw [hH]; exact hW
  rw [show W p l e rm_J7_fill_53178_11 s m args below meth c s.heap [] 0 0 QQ (F0 m 0 ls []) = W p l e rm_J7_fill_53178_11 s m args below meth c H locs 0 0 QQ (F0 m 0 ls []) by rw [hlo, hH]]
  refine lv_iconst (v := 0) hx hb dJ7_fill_53178_0 (by decide) ?_
  refine lv_istore_n (lv' := [(2, .int 0), (0, .ref (ad 11 0)), (1, .int a1)]) hx hb dJ7_fill_53178_1 rfl hl (by decide) rfl (fun ls hl => ?_)
  refine lv_aload_n hx hb dJ7_fill_53178_2 rfl (lv_at hl 1 rfl) ?_
  obtain ⟨g_1, hw⟩ := hw
  refine r_alen (v := 12) hx hb hT.1 hW (by decide) 0 rfl (kTy 0) rfl (by decide) g_1 dJ7_fill_53178_3 ?_
  refine lv_istore_n (lv' := [(3, .int 12), (2, .int 0), (0, .ref (ad 11 0)), (1, .int a1)]) hx hb dJ7_fill_53178_4 rfl hl (by decide) rfl (fun ls hl => ?_)
  obtain ⟨n9, hw⟩ := hw
  exact L_5 n9 M a1 0 12 hw H locs ls hW hS (lv_sub hl [2, 3, 1, 0] rfl)
def rm_X4_init : Room := { frames := 1, cells := 3, slots := 30, locals := 30 }
def fr_X4_init : Nat → Nat → Bool := fun a _ => [10, 11, 12].contains a
set_option maxHeartbeats 4000000 in
set_option maxRecDepth 100000 in
theorem c_X4_init (l : Launch) (E : GE) (base : Nat) (M : Mem) (ad : AD)  (Q : Mem → Prop) (hw : w_X4_init M  Q) : Con l yX4_init cX4_init 1 none rm_X4_init 3 30 E base [.ref (ad 4 0)] M ad (QcV E base (fun M1 ad1 => Q M1 ∧ AG fr_X4_init ad ad1)) noX := by
  refine con_start (by decide) (Nat.le_of_ble_eq_true rfl) ?_
  intro p e s m args below meth c ls QQ hQQ CT hnx hW hl
  obtain ⟨⟨hx, hb, hml, hown, hts⟩, hr, hlocks, hnm, hT⟩ := CT
  have hS : va_S (fun q : Nat => base ≤ q) s.heap s.heap [] := va_S.rf
  have hl : lv_has ls 1 [(0, .ref (ad 4 0))] := hl
  unfold w_X4_init at hw
  obtain ⟨H, hH⟩ : ∃ z, z = s.heap := ⟨_, rfl⟩
  obtain ⟨locs, hlo⟩ : ∃ z : List Loc, z = [] := ⟨_, rfl⟩
  have hS : va_S (fun q : Nat => base ≤ q) s.heap H locs := by rw [hlo, hH]; exact hS
  have hW : Wd E base M ad H := by rw [hH]; exact hW
  rw [show W p l e rm_X4_init s m args below meth c s.heap [] 0 0 QQ (F0 m 0 ls []) = W p l e rm_X4_init s m args below meth c H locs 0 0 QQ (F0 m 0 ls []) by rw [hlo, hH]]
  refine lv_aload_n hx hb dX4_init_0 rfl (lv_at hl 0 rfl) ?_
  refine W.objInit hx hb hown (hts _ k_1) (hts _ k_2) (hts _ k_3) rfl (by rw [hml]; exact hl.1) rfl dX4_init_1 (Nat.le_of_ble_eq_true rfl) (Nat.le_of_ble_eq_true rfl) ?_
  refine W.eq (g2 := F0 m 4 ls []) rfl ?_
  refine lv_aload_n hx hb dX4_init_4 rfl (lv_at hl 0 rfl) ?_
  refine lv_bipush (v := 6) hx hb dX4_init_5 (by decide) ?_
  obtain ⟨g_1, hw⟩ := hw
  refine r_newq hx hb hown (hts _ k_4) hT.2.2.2.2.2.1 hT.1 hW hS hT.2.2.2.2.2.2.2 (by decide) (by decide) (Nat.le_of_ble_eq_true rfl) (Nat.le_of_ble_eq_true rfl) g_1 dX4_init_7 (fun q_2 M_3 ad_4 H hM_3 had_4 hW hS => ?_)
  have hw := hw M_3 hM_3
  rw [upA_ne (a := 4) (b := 0) had_4 (by decide)] at hl ⊢
  have g_5 : mE M_3 10 0 = true := mE_wN1 hM_3
  obtain ⟨g_6, hw⟩ := hw
  refine r_putFR (κ2 := 10) (i2 := 0) (ty := tyX4 0) hx hb hts hown hT.1 hW hS clX4 0 (by decide) (hts _ k_5) (fun _ h9 => h9) rfl hnm rfl (by decide +kernel) 10 rfl rfl rfl rfl g_5 g_6 dX4_init_10 (fun M_7 H locs hM_7 hW hS => ?_)
  have hw := hw M_7 hM_7
  refine lv_aload_n hx hb dX4_init_13 rfl (lv_at hl 0 rfl) ?_
  refine lv_bipush (v := 12) hx hb dX4_init_14 (by decide) ?_
  obtain ⟨g_8, hw⟩ := hw
  refine r_newa hx hb .int (hts _ k_6) hT.1 hW hS hT.2.2.2.2.2.2.2 (by decide) rfl rfl (fun h9 => h9) _ rfl (fun _ => Or.inl ⟨rfl, rfl⟩) 12 rfl (by decide) (by decide) (Nat.le_of_ble_eq_true rfl) (Nat.le_of_ble_eq_true rfl) (Nat.le_of_ble_eq_true rfl) g_8 dX4_init_16 (fun q_9 M_10 ad_11 H hM_10 had_11 hW hS => ?_)
  have hw := hw M_10 hM_10
  rw [upA_ne (a := 4) (b := 0) had_11 (by decide)] at hl ⊢
  have g_12 : mE M_10 10 0 = true := mE_wN hM_10 (by rw [hM_7]; exact g_5)
  have g_13 : mE M_10 4 0 = true := mE_wN hM_10 (by rw [hM_7]; exact g_6)
  have g_14 : mE M_10 11 0 = true := mE_wN1 hM_10
  refine r_putFR (κ2 := 11) (i2 := 0) (ty := tyX4 1) hx hb hts hown hT.1 hW hS clX4 1 (by decide) (hts _ k_7) (fun _ h9 => h9) rfl hnm rfl (by decide +kernel) 11 rfl rfl rfl rfl g_14 g_13 dX4_init_18 (fun M_15 H locs hM_15 hW hS => ?_)
  have hw := hw M_15 hM_15
  refine lv_aload_n hx hb dX4_init_21 rfl (lv_at hl 0 rfl) ?_
  refine lv_bipush (v := 12) hx hb dX4_init_22 (by decide) ?_
  obtain ⟨g_16, hw⟩ := hw
  refine r_newa hx hb .int (hts _ k_6) hT.1 hW hS hT.2.2.2.2.2.2.2 (by decide) rfl rfl (fun h9 => h9) _ rfl (fun _ => Or.inl ⟨rfl, rfl⟩) 12 rfl (by decide) (by decide) (Nat.le_of_ble_eq_true rfl) (Nat.le_of_ble_eq_true rfl) (Nat.le_of_ble_eq_true rfl) g_16 dX4_init_24 (fun q_17 M_18 ad_19 H hM_18 had_19 hW hS => ?_)
  have hw := hw M_18 hM_18
  rw [upA_ne (a := 4) (b := 0) had_19 (by decide)] at hl ⊢
  have g_20 : mE M_18 10 0 = true := mE_wN hM_18 (by rw [hM_15]; exact g_12)
  have g_21 : mE M_18 4 0 = true := mE_wN hM_18 (by rw [hM_15]; exact g_13)
  have g_22 : mE M_18 11 0 = true := mE_wN hM_18 (by rw [hM_15]; exact g_14)
  have g_23 : mE M_18 12 0 = true := mE_wN1 hM_18
  refine r_putFR (κ2 := 12) (i2 := 0) (ty := tyX4 2) hx hb hts hown hT.1 hW hS clX4 2 (by decide) (hts _ k_8) (fun _ h9 => h9) rfl hnm rfl (by decide +kernel) 12 rfl rfl rfl rfl g_23 g_21 dX4_init_26 (fun M_24 H locs hM_24 hW hS => ?_)
  have hw := hw M_24 hM_24
  refine lv_aload_n hx hb dX4_init_29 rfl (lv_at hl 0 rfl) ?_
  refine lv_iconst (v := 0) hx hb dX4_init_30 (by decide) ?_
  refine r_putI hx hb hts hown hT.1 hW hS clX4 3 (by decide) (hts _ k_9) (fun _ h9 => h9) rfl (by decide +kernel) rfl (by rw [hM_24]; exact g_21) dX4_init_31 (fun M_25 H locs hM_25 hW hS => ?_)
  have hw := hw M_25 hM_25
  refine lv_aload_n hx hb dX4_init_34 rfl (lv_at hl 0 rfl) ?_
  refine lv_iconst (v := 0) hx hb dX4_init_35 (by decide) ?_
  refine r_putI hx hb hts hown hT.1 hW hS clX4 4 (by decide) (hts _ k_10) (fun _ h9 => h9) rfl (by decide +kernel) rfl (by rw [hM_25, hM_24]; exact g_21) dX4_init_36 (fun M_26 H locs hM_26 hW hS => ?_)
  have hw := hw M_26 hM_26
  refine lv_aload_n hx hb dX4_init_39 rfl (lv_at hl 0 rfl) ?_
  obtain ⟨g_27, hw⟩ := hw
  refine r_getR (κ2 := 11) (i2 := 0) hx hb hts hown hT.1 hW clX4 1 (by decide) (hts _ k_7) (fun _ h9 => h9) 11 rfl rfl (by rw [hM_26, hM_25, hM_24]; exact g_21) g_27 dX4_init_40 ?_
  refine lv_iconst (v := 1) hx hb dX4_init_43 (by decide) ?_
  refine k_V (rn_S (As := [.ref (ad_19 11 0), .int 1]) (rest := []) ⟨hx, hb, hml, hown, hts⟩ hT hW hS hl (c_J7_fill_53178_11 l E base M_26 ad_19 1 _ hw) cy_J7_fill_53178 k_11 k_12 rfl rfl ⟨(Nat.le_of_ble_eq_true rfl), (Nat.le_of_ble_eq_true rfl)⟩ rfl rfl (Nat.le_of_ble_eq_true rfl) dX4_init_44 ⟨(Nat.le_of_ble_eq_true rfl), (Nat.le_of_ble_eq_true rfl)⟩) hS kx_no (fun M_29 ad_30 H locs hP hW hS => ?_)
  obtain ⟨hw, rfl⟩ := hP
  rw [← hQQ]
  exact e_V hx hb hr hlocks hW hS (Nat.le_of_ble_eq_true rfl) (Nat.le_of_ble_eq_true rfl) dX4_init_47 ⟨hw, (AG_new (AG_new (AG_new AG_refl rfl had_4) rfl had_11) rfl had_19)⟩
def rm_X5_init : Room := { frames := 1, cells := 19, slots := 810, locals := 30 }
def fr_X5_init : Nat → Nat → Bool := fun a _ => [32, 34, 35, 36, 37, 38, 39, 40, 41, 42, 43, 44, 45, 46, 47, 48, 50, 51, 52].contains a
set_option maxHeartbeats 4000000 in
set_option maxRecDepth 100000 in
theorem c_X5_init (l : Launch) (E : GE) (base : Nat) (M : Mem) (ad : AD)  (Q : Mem → Prop) (hw : w_X5_init M  Q) : Con l yX5_init cX5_init 2 none rm_X5_init 19 810 E base [.ref (ad 5 0)] M ad (QcV E base (fun M1 ad1 => Q M1 ∧ AG fr_X5_init ad ad1)) noX := by
  refine con_start (by decide) (Nat.le_of_ble_eq_true rfl) ?_
  intro p e s m args below meth c ls QQ hQQ CT hnx hW hl
  obtain ⟨⟨hx, hb, hml, hown, hts⟩, hr, hlocks, hnm, hT⟩ := CT
  have hS : va_S (fun q : Nat => base ≤ q) s.heap s.heap [] := va_S.rf
  have hl : lv_has ls 2 [(0, .ref (ad 5 0))] := hl
  have L_159 : ∀ (n : Nat) (ad9 : AD) (hag9 : AG fr_X5_init ad ad9) (M : Mem) (x1 : Int32), l_X5_init_159 Q n M x1 → WL p l e rm_X5_init s m args below meth c QQ E base 2 M ad9 159 [(0, .ref (ad9 5 0)), (1, .int x1)] [] 19 810 := by
    intro n
    induction n with
    | zero => intro ad9 hag9 M x1 hw; exact False.elim hw
    | succ n K159 =>
      intro ad9 hag9 M x1 hw H locs ls hW hS hl
      obtain ⟨k159, hk159⟩ : ∃ z, z = l_X5_init_159 Q n := ⟨_, rfl⟩
      have hw : b_X5_init_159 Q k159 M x1 := by rw [hk159]; exact hw
      rw [← hk159] at K159
      unfold b_X5_init_159 at hw
      refine lv_iload_n hx hb dX5_init_159 rfl (lv_at hl 1 rfl) ?_
      refine lv_bipush (v := 12) hx hb dX5_init_160 (by decide) ?_
      refine lv_icmp_ge (tgt := 178) hx hb dX5_init_162 (by decide) (fun c_305 => ?_) (fun c_305 => ?_)
      · have hw := hw.1 c_305
        rw [← hQQ]
        exact e_V hx hb hr hlocks hW hS (Nat.le_of_ble_eq_true rfl) (Nat.le_of_ble_eq_true rfl) dX5_init_178 ⟨hw, hag9⟩
      · have hw := hw.2 c_305
        refine lv_aload_n hx hb dX5_init_165 rfl (lv_at hl 0 rfl) ?_
        obtain ⟨g_306, hw⟩ := hw
        obtain ⟨g_307, hw⟩ := hw
        refine r_getR (κ2 := 32) (i2 := 0) hx hb hts hown hT.1 hW clX5 2 (by decide) (hts _ k_14) (fun _ h9 => h9) 32 rfl rfl g_306 g_307 dX5_init_166 ?_
        refine lv_iload_n hx hb dX5_init_169 rfl (lv_at hl 1 rfl) ?_
        refine lv_iconst (v := 1) hx hb dX5_init_170 (by decide) ?_
        obtain ⟨g_308, hw⟩ := hw
        obtain ⟨g_309, hw⟩ := hw
        refine r_iast hx hb hT.1 hW hS (by decide) rfl (fun _ => rfl) 12 rfl g_309 g_308 dX5_init_171 (fun M_310 H locs hM_310 hW hS => ?_)
        have hw := hw M_310 hM_310
        obtain ⟨v_311, ev_311⟩ : ∃ y : Int32, y = x1 + 1 := ⟨_, rfl⟩
        have hw := hw v_311 ev_311
        refine lv_iinc (v := v_311) (lv' := [(1, .int v_311), (0, .ref (ad9 5 0))]) hx hb dX5_init_172 hl (k := 1) rfl (by rw [ev_311]; rfl) (by decide) rfl (fun ls hl => ?_)
        refine lv_goto (tgt := 159) hx hb dX5_init_175 (by decide) ?_
        exact K159 ad9 hag9 M_310 v_311 hw H locs ls hW hS (lv_sub hl [1, 0] rfl)
  unfold w_X5_init at hw
  obtain ⟨H, hH⟩ : ∃ z, z = s.heap := ⟨_, rfl⟩
  obtain ⟨locs, hlo⟩ : ∃ z : List Loc, z = [] := ⟨_, rfl⟩
  have hS : va_S (fun q : Nat => base ≤ q) s.heap H locs := by rw [hlo, hH]; exact hS
  have hW : Wd E base M ad H := by rw [hH]; exact hW
  rw [show W p l e rm_X5_init s m args below meth c s.heap [] 0 0 QQ (F0 m 0 ls []) = W p l e rm_X5_init s m args below meth c H locs 0 0 QQ (F0 m 0 ls []) by rw [hlo, hH]]
  refine lv_aload_n hx hb dX5_init_0 rfl (lv_at hl 0 rfl) ?_
  refine W.objInit hx hb hown (hts _ k_13) (hts _ k_2) (hts _ k_3) rfl (by rw [hml]; exact hl.1) rfl dX5_init_1 (Nat.le_of_ble_eq_true rfl) (Nat.le_of_ble_eq_true rfl) ?_
  refine W.eq (g2 := F0 m 4 ls []) rfl ?_
  refine lv_aload_n hx hb dX5_init_4 rfl (lv_at hl 0 rfl) ?_
  refine lv_bipush (v := 12) hx hb dX5_init_5 (by decide) ?_
  obtain ⟨g_1, hw⟩ := hw
  refine r_newa hx hb .int (hts _ k_6) hT.1 hW hS hT.2.2.2.2.2.2.2 (by decide) rfl rfl (fun h9 => h9) _ rfl (fun _ => Or.inl ⟨rfl, rfl⟩) 12 rfl (by decide) (by decide) (Nat.le_of_ble_eq_true rfl) (Nat.le_of_ble_eq_true rfl) (Nat.le_of_ble_eq_true rfl) g_1 dX5_init_7 (fun q_2 M_3 ad_4 H hM_3 had_4 hW hS => ?_)
  have hw := hw M_3 hM_3
  rw [upA_ne (a := 5) (b := 0) had_4 (by decide)] at hl ⊢
  have g_5 : mE M_3 32 0 = true := mE_wN1 hM_3
  obtain ⟨g_6, hw⟩ := hw
  refine r_putFR (κ2 := 32) (i2 := 0) (ty := tyX5 2) hx hb hts hown hT.1 hW hS clX5 2 (by decide) (hts _ k_14) (fun _ h9 => h9) rfl hnm rfl (by decide +kernel) 32 rfl rfl rfl rfl g_5 g_6 dX5_init_9 (fun M_7 H locs hM_7 hW hS => ?_)
  have hw := hw M_7 hM_7
  refine lv_aload_n hx hb dX5_init_12 rfl (lv_at hl 0 rfl) ?_
  refine lv_bipush (v := 6) hx hb dX5_init_13 (by decide) ?_
  obtain ⟨g_8, hw⟩ := hw
  refine r_newa hx hb .boolean (hts _ k_15) hT.1 hW hS hT.2.2.2.2.2.2.2 (by decide) rfl rfl (fun h9 => h9) _ rfl (fun _ => Or.inl ⟨rfl, rfl⟩) 6 rfl (by decide) (by decide) (Nat.le_of_ble_eq_true rfl) (Nat.le_of_ble_eq_true rfl) (Nat.le_of_ble_eq_true rfl) g_8 dX5_init_15 (fun q_9 M_10 ad_11 H hM_10 had_11 hW hS => ?_)
  have hw := hw M_10 hM_10
  rw [upA_ne (a := 5) (b := 0) had_11 (by decide)] at hl ⊢
  have g_12 : mE M_10 32 0 = true := mE_wN hM_10 (by rw [hM_7]; exact g_5)
  have g_13 : mE M_10 5 0 = true := mE_wN hM_10 (by rw [hM_7]; exact g_6)
  have g_14 : mE M_10 34 0 = true := mE_wN1 hM_10
  refine r_putFR (κ2 := 34) (i2 := 0) (ty := tyX5 4) hx hb hts hown hT.1 hW hS clX5 4 (by decide) (hts _ k_16) (fun _ h9 => h9) rfl hnm rfl (by decide +kernel) 34 rfl rfl rfl rfl g_14 g_13 dX5_init_17 (fun M_15 H locs hM_15 hW hS => ?_)
  have hw := hw M_15 hM_15
  refine lv_aload_n hx hb dX5_init_20 rfl (lv_at hl 0 rfl) ?_
  refine lv_bipush (v := 6) hx hb dX5_init_21 (by decide) ?_
  obtain ⟨g_16, hw⟩ := hw
  refine r_newa hx hb .int (hts _ k_6) hT.1 hW hS hT.2.2.2.2.2.2.2 (by decide) rfl rfl (fun h9 => h9) _ rfl (fun _ => Or.inl ⟨rfl, rfl⟩) 6 rfl (by decide) (by decide) (Nat.le_of_ble_eq_true rfl) (Nat.le_of_ble_eq_true rfl) (Nat.le_of_ble_eq_true rfl) g_16 dX5_init_23 (fun q_17 M_18 ad_19 H hM_18 had_19 hW hS => ?_)
  have hw := hw M_18 hM_18
  rw [upA_ne (a := 5) (b := 0) had_19 (by decide)] at hl ⊢
  have g_20 : mE M_18 32 0 = true := mE_wN hM_18 (by rw [hM_15]; exact g_12)
  have g_21 : mE M_18 5 0 = true := mE_wN hM_18 (by rw [hM_15]; exact g_13)
  have g_22 : mE M_18 34 0 = true := mE_wN hM_18 (by rw [hM_15]; exact g_14)
  have g_23 : mE M_18 35 0 = true := mE_wN1 hM_18
  refine r_putFR (κ2 := 35) (i2 := 0) (ty := tyX5 5) hx hb hts hown hT.1 hW hS clX5 5 (by decide) (hts _ k_17) (fun _ h9 => h9) rfl hnm rfl (by decide +kernel) 35 rfl rfl rfl rfl g_23 g_21 dX5_init_25 (fun M_24 H locs hM_24 hW hS => ?_)
  have hw := hw M_24 hM_24
  refine lv_aload_n hx hb dX5_init_28 rfl (lv_at hl 0 rfl) ?_
  refine lv_bipush (v := 6) hx hb dX5_init_29 (by decide) ?_
  obtain ⟨g_25, hw⟩ := hw
  refine r_newa hx hb .boolean (hts _ k_15) hT.1 hW hS hT.2.2.2.2.2.2.2 (by decide) rfl rfl (fun h9 => h9) _ rfl (fun _ => Or.inl ⟨rfl, rfl⟩) 6 rfl (by decide) (by decide) (Nat.le_of_ble_eq_true rfl) (Nat.le_of_ble_eq_true rfl) (Nat.le_of_ble_eq_true rfl) g_25 dX5_init_31 (fun q_26 M_27 ad_28 H hM_27 had_28 hW hS => ?_)
  have hw := hw M_27 hM_27
  rw [upA_ne (a := 5) (b := 0) had_28 (by decide)] at hl ⊢
  have g_29 : mE M_27 32 0 = true := mE_wN hM_27 (by rw [hM_24]; exact g_20)
  have g_30 : mE M_27 5 0 = true := mE_wN hM_27 (by rw [hM_24]; exact g_21)
  have g_31 : mE M_27 34 0 = true := mE_wN hM_27 (by rw [hM_24]; exact g_22)
  have g_32 : mE M_27 35 0 = true := mE_wN hM_27 (by rw [hM_24]; exact g_23)
  have g_33 : mE M_27 36 0 = true := mE_wN1 hM_27
  refine r_putFR (κ2 := 36) (i2 := 0) (ty := tyX5 6) hx hb hts hown hT.1 hW hS clX5 6 (by decide) (hts _ k_18) (fun _ h9 => h9) rfl hnm rfl (by decide +kernel) 36 rfl rfl rfl rfl g_33 g_30 dX5_init_33 (fun M_34 H locs hM_34 hW hS => ?_)
  have hw := hw M_34 hM_34
  refine lv_aload_n hx hb dX5_init_36 rfl (lv_at hl 0 rfl) ?_
  refine lv_bipush (v := 6) hx hb dX5_init_37 (by decide) ?_
  obtain ⟨g_35, hw⟩ := hw
  refine r_newa hx hb .boolean (hts _ k_15) hT.1 hW hS hT.2.2.2.2.2.2.2 (by decide) rfl rfl (fun h9 => h9) _ rfl (fun _ => Or.inl ⟨rfl, rfl⟩) 6 rfl (by decide) (by decide) (Nat.le_of_ble_eq_true rfl) (Nat.le_of_ble_eq_true rfl) (Nat.le_of_ble_eq_true rfl) g_35 dX5_init_39 (fun q_36 M_37 ad_38 H hM_37 had_38 hW hS => ?_)
  have hw := hw M_37 hM_37
  rw [upA_ne (a := 5) (b := 0) had_38 (by decide)] at hl ⊢
  have g_39 : mE M_37 32 0 = true := mE_wN hM_37 (by rw [hM_34]; exact g_29)
  have g_40 : mE M_37 5 0 = true := mE_wN hM_37 (by rw [hM_34]; exact g_30)
  have g_41 : mE M_37 34 0 = true := mE_wN hM_37 (by rw [hM_34]; exact g_31)
  have g_42 : mE M_37 35 0 = true := mE_wN hM_37 (by rw [hM_34]; exact g_32)
  have g_43 : mE M_37 36 0 = true := mE_wN hM_37 (by rw [hM_34]; exact g_33)
  have g_44 : mE M_37 37 0 = true := mE_wN1 hM_37
  refine r_putFR (κ2 := 37) (i2 := 0) (ty := tyX5 7) hx hb hts hown hT.1 hW hS clX5 7 (by decide) (hts _ k_19) (fun _ h9 => h9) rfl hnm rfl (by decide +kernel) 37 rfl rfl rfl rfl g_44 g_40 dX5_init_41 (fun M_45 H locs hM_45 hW hS => ?_)
  have hw := hw M_45 hM_45
  refine lv_aload_n hx hb dX5_init_44 rfl (lv_at hl 0 rfl) ?_
  refine lv_bipush (v := 6) hx hb dX5_init_45 (by decide) ?_
  obtain ⟨g_46, hw⟩ := hw
  refine r_newa hx hb .int (hts _ k_6) hT.1 hW hS hT.2.2.2.2.2.2.2 (by decide) rfl rfl (fun h9 => h9) _ rfl (fun _ => Or.inl ⟨rfl, rfl⟩) 6 rfl (by decide) (by decide) (Nat.le_of_ble_eq_true rfl) (Nat.le_of_ble_eq_true rfl) (Nat.le_of_ble_eq_true rfl) g_46 dX5_init_47 (fun q_47 M_48 ad_49 H hM_48 had_49 hW hS => ?_)
  have hw := hw M_48 hM_48
  rw [upA_ne (a := 5) (b := 0) had_49 (by decide)] at hl ⊢
  have g_50 : mE M_48 32 0 = true := mE_wN hM_48 (by rw [hM_45]; exact g_39)
  have g_51 : mE M_48 5 0 = true := mE_wN hM_48 (by rw [hM_45]; exact g_40)
  have g_52 : mE M_48 34 0 = true := mE_wN hM_48 (by rw [hM_45]; exact g_41)
  have g_53 : mE M_48 35 0 = true := mE_wN hM_48 (by rw [hM_45]; exact g_42)
  have g_54 : mE M_48 36 0 = true := mE_wN hM_48 (by rw [hM_45]; exact g_43)
  have g_55 : mE M_48 37 0 = true := mE_wN hM_48 (by rw [hM_45]; exact g_44)
  have g_56 : mE M_48 38 0 = true := mE_wN1 hM_48
  refine r_putFR (κ2 := 38) (i2 := 0) (ty := tyX5 8) hx hb hts hown hT.1 hW hS clX5 8 (by decide) (hts _ k_20) (fun _ h9 => h9) rfl hnm rfl (by decide +kernel) 38 rfl rfl rfl rfl g_56 g_51 dX5_init_49 (fun M_57 H locs hM_57 hW hS => ?_)
  have hw := hw M_57 hM_57
  refine lv_aload_n hx hb dX5_init_52 rfl (lv_at hl 0 rfl) ?_
  refine lv_bipush (v := 6) hx hb dX5_init_53 (by decide) ?_
  obtain ⟨g_58, hw⟩ := hw
  refine r_newa hx hb .int (hts _ k_6) hT.1 hW hS hT.2.2.2.2.2.2.2 (by decide) rfl rfl (fun h9 => h9) _ rfl (fun _ => Or.inl ⟨rfl, rfl⟩) 6 rfl (by decide) (by decide) (Nat.le_of_ble_eq_true rfl) (Nat.le_of_ble_eq_true rfl) (Nat.le_of_ble_eq_true rfl) g_58 dX5_init_55 (fun q_59 M_60 ad_61 H hM_60 had_61 hW hS => ?_)
  have hw := hw M_60 hM_60
  rw [upA_ne (a := 5) (b := 0) had_61 (by decide)] at hl ⊢
  have g_62 : mE M_60 32 0 = true := mE_wN hM_60 (by rw [hM_57]; exact g_50)
  have g_63 : mE M_60 5 0 = true := mE_wN hM_60 (by rw [hM_57]; exact g_51)
  have g_64 : mE M_60 34 0 = true := mE_wN hM_60 (by rw [hM_57]; exact g_52)
  have g_65 : mE M_60 35 0 = true := mE_wN hM_60 (by rw [hM_57]; exact g_53)
  have g_66 : mE M_60 36 0 = true := mE_wN hM_60 (by rw [hM_57]; exact g_54)
  have g_67 : mE M_60 37 0 = true := mE_wN hM_60 (by rw [hM_57]; exact g_55)
  have g_68 : mE M_60 38 0 = true := mE_wN hM_60 (by rw [hM_57]; exact g_56)
  have g_69 : mE M_60 39 0 = true := mE_wN1 hM_60
  refine r_putFR (κ2 := 39) (i2 := 0) (ty := tyX5 9) hx hb hts hown hT.1 hW hS clX5 9 (by decide) (hts _ k_21) (fun _ h9 => h9) rfl hnm rfl (by decide +kernel) 39 rfl rfl rfl rfl g_69 g_63 dX5_init_57 (fun M_70 H locs hM_70 hW hS => ?_)
  have hw := hw M_70 hM_70
  refine lv_aload_n hx hb dX5_init_60 rfl (lv_at hl 0 rfl) ?_
  refine lv_bipush (v := 72) hx hb dX5_init_61 (by decide) ?_
  obtain ⟨g_71, hw⟩ := hw
  refine r_newa hx hb .int (hts _ k_6) hT.1 hW hS hT.2.2.2.2.2.2.2 (by decide) rfl rfl (fun h9 => h9) _ rfl (fun _ => Or.inl ⟨rfl, rfl⟩) 72 rfl (by decide) (by decide) (Nat.le_of_ble_eq_true rfl) (Nat.le_of_ble_eq_true rfl) (Nat.le_of_ble_eq_true rfl) g_71 dX5_init_63 (fun q_72 M_73 ad_74 H hM_73 had_74 hW hS => ?_)
  have hw := hw M_73 hM_73
  rw [upA_ne (a := 5) (b := 0) had_74 (by decide)] at hl ⊢
  have g_75 : mE M_73 32 0 = true := mE_wN hM_73 (by rw [hM_70]; exact g_62)
  have g_76 : mE M_73 5 0 = true := mE_wN hM_73 (by rw [hM_70]; exact g_63)
  have g_77 : mE M_73 34 0 = true := mE_wN hM_73 (by rw [hM_70]; exact g_64)
  have g_78 : mE M_73 35 0 = true := mE_wN hM_73 (by rw [hM_70]; exact g_65)
  have g_79 : mE M_73 36 0 = true := mE_wN hM_73 (by rw [hM_70]; exact g_66)
  have g_80 : mE M_73 37 0 = true := mE_wN hM_73 (by rw [hM_70]; exact g_67)
  have g_81 : mE M_73 38 0 = true := mE_wN hM_73 (by rw [hM_70]; exact g_68)
  have g_82 : mE M_73 39 0 = true := mE_wN hM_73 (by rw [hM_70]; exact g_69)
  have g_83 : mE M_73 40 0 = true := mE_wN1 hM_73
  refine r_putFR (κ2 := 40) (i2 := 0) (ty := tyX5 10) hx hb hts hown hT.1 hW hS clX5 10 (by decide) (hts _ k_22) (fun _ h9 => h9) rfl hnm rfl (by decide +kernel) 40 rfl rfl rfl rfl g_83 g_76 dX5_init_65 (fun M_84 H locs hM_84 hW hS => ?_)
  have hw := hw M_84 hM_84
  refine lv_aload_n hx hb dX5_init_68 rfl (lv_at hl 0 rfl) ?_
  refine lv_bipush (v := 72) hx hb dX5_init_69 (by decide) ?_
  obtain ⟨g_85, hw⟩ := hw
  refine r_newa hx hb .int (hts _ k_6) hT.1 hW hS hT.2.2.2.2.2.2.2 (by decide) rfl rfl (fun h9 => h9) _ rfl (fun _ => Or.inl ⟨rfl, rfl⟩) 72 rfl (by decide) (by decide) (Nat.le_of_ble_eq_true rfl) (Nat.le_of_ble_eq_true rfl) (Nat.le_of_ble_eq_true rfl) g_85 dX5_init_71 (fun q_86 M_87 ad_88 H hM_87 had_88 hW hS => ?_)
  have hw := hw M_87 hM_87
  rw [upA_ne (a := 5) (b := 0) had_88 (by decide)] at hl ⊢
  have g_89 : mE M_87 32 0 = true := mE_wN hM_87 (by rw [hM_84]; exact g_75)
  have g_90 : mE M_87 5 0 = true := mE_wN hM_87 (by rw [hM_84]; exact g_76)
  have g_91 : mE M_87 34 0 = true := mE_wN hM_87 (by rw [hM_84]; exact g_77)
  have g_92 : mE M_87 35 0 = true := mE_wN hM_87 (by rw [hM_84]; exact g_78)
  have g_93 : mE M_87 36 0 = true := mE_wN hM_87 (by rw [hM_84]; exact g_79)
  have g_94 : mE M_87 37 0 = true := mE_wN hM_87 (by rw [hM_84]; exact g_80)
  have g_95 : mE M_87 38 0 = true := mE_wN hM_87 (by rw [hM_84]; exact g_81)
  have g_96 : mE M_87 39 0 = true := mE_wN hM_87 (by rw [hM_84]; exact g_82)
  have g_97 : mE M_87 40 0 = true := mE_wN hM_87 (by rw [hM_84]; exact g_83)
  have g_98 : mE M_87 41 0 = true := mE_wN1 hM_87
  refine r_putFR (κ2 := 41) (i2 := 0) (ty := tyX5 11) hx hb hts hown hT.1 hW hS clX5 11 (by decide) (hts _ k_23) (fun _ h9 => h9) rfl hnm rfl (by decide +kernel) 41 rfl rfl rfl rfl g_98 g_90 dX5_init_73 (fun M_99 H locs hM_99 hW hS => ?_)
  have hw := hw M_99 hM_99
  refine lv_aload_n hx hb dX5_init_76 rfl (lv_at hl 0 rfl) ?_
  refine lv_bipush (v := 72) hx hb dX5_init_77 (by decide) ?_
  obtain ⟨g_100, hw⟩ := hw
  refine r_newa hx hb .int (hts _ k_6) hT.1 hW hS hT.2.2.2.2.2.2.2 (by decide) rfl rfl (fun h9 => h9) _ rfl (fun _ => Or.inl ⟨rfl, rfl⟩) 72 rfl (by decide) (by decide) (Nat.le_of_ble_eq_true rfl) (Nat.le_of_ble_eq_true rfl) (Nat.le_of_ble_eq_true rfl) g_100 dX5_init_79 (fun q_101 M_102 ad_103 H hM_102 had_103 hW hS => ?_)
  have hw := hw M_102 hM_102
  rw [upA_ne (a := 5) (b := 0) had_103 (by decide)] at hl ⊢
  have g_104 : mE M_102 32 0 = true := mE_wN hM_102 (by rw [hM_99]; exact g_89)
  have g_105 : mE M_102 5 0 = true := mE_wN hM_102 (by rw [hM_99]; exact g_90)
  have g_106 : mE M_102 34 0 = true := mE_wN hM_102 (by rw [hM_99]; exact g_91)
  have g_107 : mE M_102 35 0 = true := mE_wN hM_102 (by rw [hM_99]; exact g_92)
  have g_108 : mE M_102 36 0 = true := mE_wN hM_102 (by rw [hM_99]; exact g_93)
  have g_109 : mE M_102 37 0 = true := mE_wN hM_102 (by rw [hM_99]; exact g_94)
  have g_110 : mE M_102 38 0 = true := mE_wN hM_102 (by rw [hM_99]; exact g_95)
  have g_111 : mE M_102 39 0 = true := mE_wN hM_102 (by rw [hM_99]; exact g_96)
  have g_112 : mE M_102 40 0 = true := mE_wN hM_102 (by rw [hM_99]; exact g_97)
  have g_113 : mE M_102 41 0 = true := mE_wN hM_102 (by rw [hM_99]; exact g_98)
  have g_114 : mE M_102 42 0 = true := mE_wN1 hM_102
  refine r_putFR (κ2 := 42) (i2 := 0) (ty := tyX5 12) hx hb hts hown hT.1 hW hS clX5 12 (by decide) (hts _ k_24) (fun _ h9 => h9) rfl hnm rfl (by decide +kernel) 42 rfl rfl rfl rfl g_114 g_105 dX5_init_81 (fun M_115 H locs hM_115 hW hS => ?_)
  have hw := hw M_115 hM_115
  refine lv_aload_n hx hb dX5_init_84 rfl (lv_at hl 0 rfl) ?_
  refine lv_sipush (v := 288) hx hb dX5_init_85 (by decide) ?_
  obtain ⟨g_116, hw⟩ := hw
  refine r_newa hx hb .int (hts _ k_6) hT.1 hW hS hT.2.2.2.2.2.2.2 (by decide) rfl rfl (fun h9 => h9) _ rfl (fun _ => Or.inl ⟨rfl, rfl⟩) 288 rfl (by decide) (by decide) (Nat.le_of_ble_eq_true rfl) (Nat.le_of_ble_eq_true rfl) (Nat.le_of_ble_eq_true rfl) g_116 dX5_init_88 (fun q_117 M_118 ad_119 H hM_118 had_119 hW hS => ?_)
  have hw := hw M_118 hM_118
  rw [upA_ne (a := 5) (b := 0) had_119 (by decide)] at hl ⊢
  have g_120 : mE M_118 32 0 = true := mE_wN hM_118 (by rw [hM_115]; exact g_104)
  have g_121 : mE M_118 5 0 = true := mE_wN hM_118 (by rw [hM_115]; exact g_105)
  have g_122 : mE M_118 34 0 = true := mE_wN hM_118 (by rw [hM_115]; exact g_106)
  have g_123 : mE M_118 35 0 = true := mE_wN hM_118 (by rw [hM_115]; exact g_107)
  have g_124 : mE M_118 36 0 = true := mE_wN hM_118 (by rw [hM_115]; exact g_108)
  have g_125 : mE M_118 37 0 = true := mE_wN hM_118 (by rw [hM_115]; exact g_109)
  have g_126 : mE M_118 38 0 = true := mE_wN hM_118 (by rw [hM_115]; exact g_110)
  have g_127 : mE M_118 39 0 = true := mE_wN hM_118 (by rw [hM_115]; exact g_111)
  have g_128 : mE M_118 40 0 = true := mE_wN hM_118 (by rw [hM_115]; exact g_112)
  have g_129 : mE M_118 41 0 = true := mE_wN hM_118 (by rw [hM_115]; exact g_113)
  have g_130 : mE M_118 42 0 = true := mE_wN hM_118 (by rw [hM_115]; exact g_114)
  have g_131 : mE M_118 43 0 = true := mE_wN1 hM_118
  refine r_putFR (κ2 := 43) (i2 := 0) (ty := tyX5 13) hx hb hts hown hT.1 hW hS clX5 13 (by decide) (hts _ k_25) (fun _ h9 => h9) rfl hnm rfl (by decide +kernel) 43 rfl rfl rfl rfl g_131 g_121 dX5_init_90 (fun M_132 H locs hM_132 hW hS => ?_)
  have hw := hw M_132 hM_132
  refine lv_aload_n hx hb dX5_init_93 rfl (lv_at hl 0 rfl) ?_
  refine lv_bipush (v := 36) hx hb dX5_init_94 (by decide) ?_
  obtain ⟨g_133, hw⟩ := hw
  refine r_newa hx hb .int (hts _ k_6) hT.1 hW hS hT.2.2.2.2.2.2.2 (by decide) rfl rfl (fun h9 => h9) _ rfl (fun _ => Or.inl ⟨rfl, rfl⟩) 36 rfl (by decide) (by decide) (Nat.le_of_ble_eq_true rfl) (Nat.le_of_ble_eq_true rfl) (Nat.le_of_ble_eq_true rfl) g_133 dX5_init_96 (fun q_134 M_135 ad_136 H hM_135 had_136 hW hS => ?_)
  have hw := hw M_135 hM_135
  rw [upA_ne (a := 5) (b := 0) had_136 (by decide)] at hl ⊢
  have g_137 : mE M_135 32 0 = true := mE_wN hM_135 (by rw [hM_132]; exact g_120)
  have g_138 : mE M_135 5 0 = true := mE_wN hM_135 (by rw [hM_132]; exact g_121)
  have g_139 : mE M_135 34 0 = true := mE_wN hM_135 (by rw [hM_132]; exact g_122)
  have g_140 : mE M_135 35 0 = true := mE_wN hM_135 (by rw [hM_132]; exact g_123)
  have g_141 : mE M_135 36 0 = true := mE_wN hM_135 (by rw [hM_132]; exact g_124)
  have g_142 : mE M_135 37 0 = true := mE_wN hM_135 (by rw [hM_132]; exact g_125)
  have g_143 : mE M_135 38 0 = true := mE_wN hM_135 (by rw [hM_132]; exact g_126)
  have g_144 : mE M_135 39 0 = true := mE_wN hM_135 (by rw [hM_132]; exact g_127)
  have g_145 : mE M_135 40 0 = true := mE_wN hM_135 (by rw [hM_132]; exact g_128)
  have g_146 : mE M_135 41 0 = true := mE_wN hM_135 (by rw [hM_132]; exact g_129)
  have g_147 : mE M_135 42 0 = true := mE_wN hM_135 (by rw [hM_132]; exact g_130)
  have g_148 : mE M_135 43 0 = true := mE_wN hM_135 (by rw [hM_132]; exact g_131)
  have g_149 : mE M_135 44 0 = true := mE_wN1 hM_135
  refine r_putFR (κ2 := 44) (i2 := 0) (ty := tyX5 14) hx hb hts hown hT.1 hW hS clX5 14 (by decide) (hts _ k_26) (fun _ h9 => h9) rfl hnm rfl (by decide +kernel) 44 rfl rfl rfl rfl g_149 g_138 dX5_init_98 (fun M_150 H locs hM_150 hW hS => ?_)
  have hw := hw M_150 hM_150
  refine lv_aload_n hx hb dX5_init_101 rfl (lv_at hl 0 rfl) ?_
  refine lv_bipush (v := 36) hx hb dX5_init_102 (by decide) ?_
  obtain ⟨g_151, hw⟩ := hw
  refine r_newa hx hb .int (hts _ k_6) hT.1 hW hS hT.2.2.2.2.2.2.2 (by decide) rfl rfl (fun h9 => h9) _ rfl (fun _ => Or.inl ⟨rfl, rfl⟩) 36 rfl (by decide) (by decide) (Nat.le_of_ble_eq_true rfl) (Nat.le_of_ble_eq_true rfl) (Nat.le_of_ble_eq_true rfl) g_151 dX5_init_104 (fun q_152 M_153 ad_154 H hM_153 had_154 hW hS => ?_)
  have hw := hw M_153 hM_153
  rw [upA_ne (a := 5) (b := 0) had_154 (by decide)] at hl ⊢
  have g_155 : mE M_153 32 0 = true := mE_wN hM_153 (by rw [hM_150]; exact g_137)
  have g_156 : mE M_153 5 0 = true := mE_wN hM_153 (by rw [hM_150]; exact g_138)
  have g_157 : mE M_153 34 0 = true := mE_wN hM_153 (by rw [hM_150]; exact g_139)
  have g_158 : mE M_153 35 0 = true := mE_wN hM_153 (by rw [hM_150]; exact g_140)
  have g_159 : mE M_153 36 0 = true := mE_wN hM_153 (by rw [hM_150]; exact g_141)
  have g_160 : mE M_153 37 0 = true := mE_wN hM_153 (by rw [hM_150]; exact g_142)
  have g_161 : mE M_153 38 0 = true := mE_wN hM_153 (by rw [hM_150]; exact g_143)
  have g_162 : mE M_153 39 0 = true := mE_wN hM_153 (by rw [hM_150]; exact g_144)
  have g_163 : mE M_153 40 0 = true := mE_wN hM_153 (by rw [hM_150]; exact g_145)
  have g_164 : mE M_153 41 0 = true := mE_wN hM_153 (by rw [hM_150]; exact g_146)
  have g_165 : mE M_153 42 0 = true := mE_wN hM_153 (by rw [hM_150]; exact g_147)
  have g_166 : mE M_153 43 0 = true := mE_wN hM_153 (by rw [hM_150]; exact g_148)
  have g_167 : mE M_153 44 0 = true := mE_wN hM_153 (by rw [hM_150]; exact g_149)
  have g_168 : mE M_153 45 0 = true := mE_wN1 hM_153
  refine r_putFR (κ2 := 45) (i2 := 0) (ty := tyX5 15) hx hb hts hown hT.1 hW hS clX5 15 (by decide) (hts _ k_27) (fun _ h9 => h9) rfl hnm rfl (by decide +kernel) 45 rfl rfl rfl rfl g_168 g_156 dX5_init_106 (fun M_169 H locs hM_169 hW hS => ?_)
  have hw := hw M_169 hM_169
  refine lv_aload_n hx hb dX5_init_109 rfl (lv_at hl 0 rfl) ?_
  refine lv_bipush (v := 36) hx hb dX5_init_110 (by decide) ?_
  obtain ⟨g_170, hw⟩ := hw
  refine r_newa hx hb .boolean (hts _ k_15) hT.1 hW hS hT.2.2.2.2.2.2.2 (by decide) rfl rfl (fun h9 => h9) _ rfl (fun _ => Or.inl ⟨rfl, rfl⟩) 36 rfl (by decide) (by decide) (Nat.le_of_ble_eq_true rfl) (Nat.le_of_ble_eq_true rfl) (Nat.le_of_ble_eq_true rfl) g_170 dX5_init_112 (fun q_171 M_172 ad_173 H hM_172 had_173 hW hS => ?_)
  have hw := hw M_172 hM_172
  rw [upA_ne (a := 5) (b := 0) had_173 (by decide)] at hl ⊢
  have g_174 : mE M_172 32 0 = true := mE_wN hM_172 (by rw [hM_169]; exact g_155)
  have g_175 : mE M_172 5 0 = true := mE_wN hM_172 (by rw [hM_169]; exact g_156)
  have g_176 : mE M_172 34 0 = true := mE_wN hM_172 (by rw [hM_169]; exact g_157)
  have g_177 : mE M_172 35 0 = true := mE_wN hM_172 (by rw [hM_169]; exact g_158)
  have g_178 : mE M_172 36 0 = true := mE_wN hM_172 (by rw [hM_169]; exact g_159)
  have g_179 : mE M_172 37 0 = true := mE_wN hM_172 (by rw [hM_169]; exact g_160)
  have g_180 : mE M_172 38 0 = true := mE_wN hM_172 (by rw [hM_169]; exact g_161)
  have g_181 : mE M_172 39 0 = true := mE_wN hM_172 (by rw [hM_169]; exact g_162)
  have g_182 : mE M_172 40 0 = true := mE_wN hM_172 (by rw [hM_169]; exact g_163)
  have g_183 : mE M_172 41 0 = true := mE_wN hM_172 (by rw [hM_169]; exact g_164)
  have g_184 : mE M_172 42 0 = true := mE_wN hM_172 (by rw [hM_169]; exact g_165)
  have g_185 : mE M_172 43 0 = true := mE_wN hM_172 (by rw [hM_169]; exact g_166)
  have g_186 : mE M_172 44 0 = true := mE_wN hM_172 (by rw [hM_169]; exact g_167)
  have g_187 : mE M_172 45 0 = true := mE_wN hM_172 (by rw [hM_169]; exact g_168)
  have g_188 : mE M_172 46 0 = true := mE_wN1 hM_172
  refine r_putFR (κ2 := 46) (i2 := 0) (ty := tyX5 16) hx hb hts hown hT.1 hW hS clX5 16 (by decide) (hts _ k_28) (fun _ h9 => h9) rfl hnm rfl (by decide +kernel) 46 rfl rfl rfl rfl g_188 g_175 dX5_init_114 (fun M_189 H locs hM_189 hW hS => ?_)
  have hw := hw M_189 hM_189
  refine lv_aload_n hx hb dX5_init_117 rfl (lv_at hl 0 rfl) ?_
  refine lv_bipush (v := 36) hx hb dX5_init_118 (by decide) ?_
  obtain ⟨g_190, hw⟩ := hw
  refine r_newa hx hb .int (hts _ k_6) hT.1 hW hS hT.2.2.2.2.2.2.2 (by decide) rfl rfl (fun h9 => h9) _ rfl (fun _ => Or.inl ⟨rfl, rfl⟩) 36 rfl (by decide) (by decide) (Nat.le_of_ble_eq_true rfl) (Nat.le_of_ble_eq_true rfl) (Nat.le_of_ble_eq_true rfl) g_190 dX5_init_120 (fun q_191 M_192 ad_193 H hM_192 had_193 hW hS => ?_)
  have hw := hw M_192 hM_192
  rw [upA_ne (a := 5) (b := 0) had_193 (by decide)] at hl ⊢
  have g_194 : mE M_192 32 0 = true := mE_wN hM_192 (by rw [hM_189]; exact g_174)
  have g_195 : mE M_192 5 0 = true := mE_wN hM_192 (by rw [hM_189]; exact g_175)
  have g_196 : mE M_192 34 0 = true := mE_wN hM_192 (by rw [hM_189]; exact g_176)
  have g_197 : mE M_192 35 0 = true := mE_wN hM_192 (by rw [hM_189]; exact g_177)
  have g_198 : mE M_192 36 0 = true := mE_wN hM_192 (by rw [hM_189]; exact g_178)
  have g_199 : mE M_192 37 0 = true := mE_wN hM_192 (by rw [hM_189]; exact g_179)
  have g_200 : mE M_192 38 0 = true := mE_wN hM_192 (by rw [hM_189]; exact g_180)
  have g_201 : mE M_192 39 0 = true := mE_wN hM_192 (by rw [hM_189]; exact g_181)
  have g_202 : mE M_192 40 0 = true := mE_wN hM_192 (by rw [hM_189]; exact g_182)
  have g_203 : mE M_192 41 0 = true := mE_wN hM_192 (by rw [hM_189]; exact g_183)
  have g_204 : mE M_192 42 0 = true := mE_wN hM_192 (by rw [hM_189]; exact g_184)
  have g_205 : mE M_192 43 0 = true := mE_wN hM_192 (by rw [hM_189]; exact g_185)
  have g_206 : mE M_192 44 0 = true := mE_wN hM_192 (by rw [hM_189]; exact g_186)
  have g_207 : mE M_192 45 0 = true := mE_wN hM_192 (by rw [hM_189]; exact g_187)
  have g_208 : mE M_192 46 0 = true := mE_wN hM_192 (by rw [hM_189]; exact g_188)
  have g_209 : mE M_192 47 0 = true := mE_wN1 hM_192
  refine r_putFR (κ2 := 47) (i2 := 0) (ty := tyX5 17) hx hb hts hown hT.1 hW hS clX5 17 (by decide) (hts _ k_29) (fun _ h9 => h9) rfl hnm rfl (by decide +kernel) 47 rfl rfl rfl rfl g_209 g_195 dX5_init_122 (fun M_210 H locs hM_210 hW hS => ?_)
  have hw := hw M_210 hM_210
  refine lv_aload_n hx hb dX5_init_125 rfl (lv_at hl 0 rfl) ?_
  refine lv_bipush (v := 6) hx hb dX5_init_126 (by decide) ?_
  obtain ⟨g_211, hw⟩ := hw
  refine r_newa hx hb .int (hts _ k_6) hT.1 hW hS hT.2.2.2.2.2.2.2 (by decide) rfl rfl (fun h9 => h9) _ rfl (fun _ => Or.inl ⟨rfl, rfl⟩) 6 rfl (by decide) (by decide) (Nat.le_of_ble_eq_true rfl) (Nat.le_of_ble_eq_true rfl) (Nat.le_of_ble_eq_true rfl) g_211 dX5_init_128 (fun q_212 M_213 ad_214 H hM_213 had_214 hW hS => ?_)
  have hw := hw M_213 hM_213
  rw [upA_ne (a := 5) (b := 0) had_214 (by decide)] at hl ⊢
  have g_215 : mE M_213 32 0 = true := mE_wN hM_213 (by rw [hM_210]; exact g_194)
  have g_216 : mE M_213 5 0 = true := mE_wN hM_213 (by rw [hM_210]; exact g_195)
  have g_217 : mE M_213 34 0 = true := mE_wN hM_213 (by rw [hM_210]; exact g_196)
  have g_218 : mE M_213 35 0 = true := mE_wN hM_213 (by rw [hM_210]; exact g_197)
  have g_219 : mE M_213 36 0 = true := mE_wN hM_213 (by rw [hM_210]; exact g_198)
  have g_220 : mE M_213 37 0 = true := mE_wN hM_213 (by rw [hM_210]; exact g_199)
  have g_221 : mE M_213 38 0 = true := mE_wN hM_213 (by rw [hM_210]; exact g_200)
  have g_222 : mE M_213 39 0 = true := mE_wN hM_213 (by rw [hM_210]; exact g_201)
  have g_223 : mE M_213 40 0 = true := mE_wN hM_213 (by rw [hM_210]; exact g_202)
  have g_224 : mE M_213 41 0 = true := mE_wN hM_213 (by rw [hM_210]; exact g_203)
  have g_225 : mE M_213 42 0 = true := mE_wN hM_213 (by rw [hM_210]; exact g_204)
  have g_226 : mE M_213 43 0 = true := mE_wN hM_213 (by rw [hM_210]; exact g_205)
  have g_227 : mE M_213 44 0 = true := mE_wN hM_213 (by rw [hM_210]; exact g_206)
  have g_228 : mE M_213 45 0 = true := mE_wN hM_213 (by rw [hM_210]; exact g_207)
  have g_229 : mE M_213 46 0 = true := mE_wN hM_213 (by rw [hM_210]; exact g_208)
  have g_230 : mE M_213 47 0 = true := mE_wN hM_213 (by rw [hM_210]; exact g_209)
  have g_231 : mE M_213 48 0 = true := mE_wN1 hM_213
  refine r_putFR (κ2 := 48) (i2 := 0) (ty := tyX5 18) hx hb hts hown hT.1 hW hS clX5 18 (by decide) (hts _ k_30) (fun _ h9 => h9) rfl hnm rfl (by decide +kernel) 48 rfl rfl rfl rfl g_231 g_216 dX5_init_130 (fun M_232 H locs hM_232 hW hS => ?_)
  have hw := hw M_232 hM_232
  refine lv_aload_n hx hb dX5_init_133 rfl (lv_at hl 0 rfl) ?_
  refine lv_bipush (v := 36) hx hb dX5_init_134 (by decide) ?_
  obtain ⟨g_233, hw⟩ := hw
  refine r_newa hx hb .int (hts _ k_6) hT.1 hW hS hT.2.2.2.2.2.2.2 (by decide) rfl rfl (fun h9 => h9) _ rfl (fun _ => Or.inl ⟨rfl, rfl⟩) 36 rfl (by decide) (by decide) (Nat.le_of_ble_eq_true rfl) (Nat.le_of_ble_eq_true rfl) (Nat.le_of_ble_eq_true rfl) g_233 dX5_init_136 (fun q_234 M_235 ad_236 H hM_235 had_236 hW hS => ?_)
  have hw := hw M_235 hM_235
  rw [upA_ne (a := 5) (b := 0) had_236 (by decide)] at hl ⊢
  have g_237 : mE M_235 32 0 = true := mE_wN hM_235 (by rw [hM_232]; exact g_215)
  have g_238 : mE M_235 5 0 = true := mE_wN hM_235 (by rw [hM_232]; exact g_216)
  have g_239 : mE M_235 34 0 = true := mE_wN hM_235 (by rw [hM_232]; exact g_217)
  have g_240 : mE M_235 35 0 = true := mE_wN hM_235 (by rw [hM_232]; exact g_218)
  have g_241 : mE M_235 36 0 = true := mE_wN hM_235 (by rw [hM_232]; exact g_219)
  have g_242 : mE M_235 37 0 = true := mE_wN hM_235 (by rw [hM_232]; exact g_220)
  have g_243 : mE M_235 38 0 = true := mE_wN hM_235 (by rw [hM_232]; exact g_221)
  have g_244 : mE M_235 39 0 = true := mE_wN hM_235 (by rw [hM_232]; exact g_222)
  have g_245 : mE M_235 40 0 = true := mE_wN hM_235 (by rw [hM_232]; exact g_223)
  have g_246 : mE M_235 41 0 = true := mE_wN hM_235 (by rw [hM_232]; exact g_224)
  have g_247 : mE M_235 42 0 = true := mE_wN hM_235 (by rw [hM_232]; exact g_225)
  have g_248 : mE M_235 43 0 = true := mE_wN hM_235 (by rw [hM_232]; exact g_226)
  have g_249 : mE M_235 44 0 = true := mE_wN hM_235 (by rw [hM_232]; exact g_227)
  have g_250 : mE M_235 45 0 = true := mE_wN hM_235 (by rw [hM_232]; exact g_228)
  have g_251 : mE M_235 46 0 = true := mE_wN hM_235 (by rw [hM_232]; exact g_229)
  have g_252 : mE M_235 47 0 = true := mE_wN hM_235 (by rw [hM_232]; exact g_230)
  have g_253 : mE M_235 48 0 = true := mE_wN hM_235 (by rw [hM_232]; exact g_231)
  have g_254 : mE M_235 50 0 = true := mE_wN1 hM_235
  refine r_putFR (κ2 := 50) (i2 := 0) (ty := tyX5 20) hx hb hts hown hT.1 hW hS clX5 20 (by decide) (hts _ k_31) (fun _ h9 => h9) rfl hnm rfl (by decide +kernel) 50 rfl rfl rfl rfl g_254 g_238 dX5_init_138 (fun M_255 H locs hM_255 hW hS => ?_)
  have hw := hw M_255 hM_255
  refine lv_aload_n hx hb dX5_init_141 rfl (lv_at hl 0 rfl) ?_
  refine lv_bipush (v := 36) hx hb dX5_init_142 (by decide) ?_
  obtain ⟨g_256, hw⟩ := hw
  refine r_newa hx hb .int (hts _ k_6) hT.1 hW hS hT.2.2.2.2.2.2.2 (by decide) rfl rfl (fun h9 => h9) _ rfl (fun _ => Or.inl ⟨rfl, rfl⟩) 36 rfl (by decide) (by decide) (Nat.le_of_ble_eq_true rfl) (Nat.le_of_ble_eq_true rfl) (Nat.le_of_ble_eq_true rfl) g_256 dX5_init_144 (fun q_257 M_258 ad_259 H hM_258 had_259 hW hS => ?_)
  have hw := hw M_258 hM_258
  rw [upA_ne (a := 5) (b := 0) had_259 (by decide)] at hl ⊢
  have g_260 : mE M_258 32 0 = true := mE_wN hM_258 (by rw [hM_255]; exact g_237)
  have g_261 : mE M_258 5 0 = true := mE_wN hM_258 (by rw [hM_255]; exact g_238)
  have g_262 : mE M_258 34 0 = true := mE_wN hM_258 (by rw [hM_255]; exact g_239)
  have g_263 : mE M_258 35 0 = true := mE_wN hM_258 (by rw [hM_255]; exact g_240)
  have g_264 : mE M_258 36 0 = true := mE_wN hM_258 (by rw [hM_255]; exact g_241)
  have g_265 : mE M_258 37 0 = true := mE_wN hM_258 (by rw [hM_255]; exact g_242)
  have g_266 : mE M_258 38 0 = true := mE_wN hM_258 (by rw [hM_255]; exact g_243)
  have g_267 : mE M_258 39 0 = true := mE_wN hM_258 (by rw [hM_255]; exact g_244)
  have g_268 : mE M_258 40 0 = true := mE_wN hM_258 (by rw [hM_255]; exact g_245)
  have g_269 : mE M_258 41 0 = true := mE_wN hM_258 (by rw [hM_255]; exact g_246)
  have g_270 : mE M_258 42 0 = true := mE_wN hM_258 (by rw [hM_255]; exact g_247)
  have g_271 : mE M_258 43 0 = true := mE_wN hM_258 (by rw [hM_255]; exact g_248)
  have g_272 : mE M_258 44 0 = true := mE_wN hM_258 (by rw [hM_255]; exact g_249)
  have g_273 : mE M_258 45 0 = true := mE_wN hM_258 (by rw [hM_255]; exact g_250)
  have g_274 : mE M_258 46 0 = true := mE_wN hM_258 (by rw [hM_255]; exact g_251)
  have g_275 : mE M_258 47 0 = true := mE_wN hM_258 (by rw [hM_255]; exact g_252)
  have g_276 : mE M_258 48 0 = true := mE_wN hM_258 (by rw [hM_255]; exact g_253)
  have g_277 : mE M_258 50 0 = true := mE_wN hM_258 (by rw [hM_255]; exact g_254)
  have g_278 : mE M_258 51 0 = true := mE_wN1 hM_258
  refine r_putFR (κ2 := 51) (i2 := 0) (ty := tyX5 21) hx hb hts hown hT.1 hW hS clX5 21 (by decide) (hts _ k_32) (fun _ h9 => h9) rfl hnm rfl (by decide +kernel) 51 rfl rfl rfl rfl g_278 g_261 dX5_init_146 (fun M_279 H locs hM_279 hW hS => ?_)
  have hw := hw M_279 hM_279
  refine lv_aload_n hx hb dX5_init_149 rfl (lv_at hl 0 rfl) ?_
  refine lv_bipush (v := 36) hx hb dX5_init_150 (by decide) ?_
  obtain ⟨g_280, hw⟩ := hw
  refine r_newa hx hb .int (hts _ k_6) hT.1 hW hS hT.2.2.2.2.2.2.2 (by decide) rfl rfl (fun h9 => h9) _ rfl (fun _ => Or.inl ⟨rfl, rfl⟩) 36 rfl (by decide) (by decide) (Nat.le_of_ble_eq_true rfl) (Nat.le_of_ble_eq_true rfl) (Nat.le_of_ble_eq_true rfl) g_280 dX5_init_152 (fun q_281 M_282 ad_283 H hM_282 had_283 hW hS => ?_)
  have hw := hw M_282 hM_282
  rw [upA_ne (a := 5) (b := 0) had_283 (by decide)] at hl ⊢
  have g_284 : mE M_282 32 0 = true := mE_wN hM_282 (by rw [hM_279]; exact g_260)
  have g_285 : mE M_282 5 0 = true := mE_wN hM_282 (by rw [hM_279]; exact g_261)
  have g_286 : mE M_282 34 0 = true := mE_wN hM_282 (by rw [hM_279]; exact g_262)
  have g_287 : mE M_282 35 0 = true := mE_wN hM_282 (by rw [hM_279]; exact g_263)
  have g_288 : mE M_282 36 0 = true := mE_wN hM_282 (by rw [hM_279]; exact g_264)
  have g_289 : mE M_282 37 0 = true := mE_wN hM_282 (by rw [hM_279]; exact g_265)
  have g_290 : mE M_282 38 0 = true := mE_wN hM_282 (by rw [hM_279]; exact g_266)
  have g_291 : mE M_282 39 0 = true := mE_wN hM_282 (by rw [hM_279]; exact g_267)
  have g_292 : mE M_282 40 0 = true := mE_wN hM_282 (by rw [hM_279]; exact g_268)
  have g_293 : mE M_282 41 0 = true := mE_wN hM_282 (by rw [hM_279]; exact g_269)
  have g_294 : mE M_282 42 0 = true := mE_wN hM_282 (by rw [hM_279]; exact g_270)
  have g_295 : mE M_282 43 0 = true := mE_wN hM_282 (by rw [hM_279]; exact g_271)
  have g_296 : mE M_282 44 0 = true := mE_wN hM_282 (by rw [hM_279]; exact g_272)
  have g_297 : mE M_282 45 0 = true := mE_wN hM_282 (by rw [hM_279]; exact g_273)
  have g_298 : mE M_282 46 0 = true := mE_wN hM_282 (by rw [hM_279]; exact g_274)
  have g_299 : mE M_282 47 0 = true := mE_wN hM_282 (by rw [hM_279]; exact g_275)
  have g_300 : mE M_282 48 0 = true := mE_wN hM_282 (by rw [hM_279]; exact g_276)
  have g_301 : mE M_282 50 0 = true := mE_wN hM_282 (by rw [hM_279]; exact g_277)
  have g_302 : mE M_282 51 0 = true := mE_wN hM_282 (by rw [hM_279]; exact g_278)
  have g_303 : mE M_282 52 0 = true := mE_wN1 hM_282
  refine r_putFR (κ2 := 52) (i2 := 0) (ty := tyX5 22) hx hb hts hown hT.1 hW hS clX5 22 (by decide) (hts _ k_33) (fun _ h9 => h9) rfl hnm rfl (by decide +kernel) 52 rfl rfl rfl rfl g_303 g_285 dX5_init_154 (fun M_304 H locs hM_304 hW hS => ?_)
  have hw := hw M_304 hM_304
  refine lv_iconst (v := 0) hx hb dX5_init_157 (by decide) ?_
  refine lv_istore_n (lv' := [(1, .int 0), (0, .ref (ad_283 5 0))]) hx hb dX5_init_158 rfl hl (by decide) rfl (fun ls hl => ?_)
  obtain ⟨n9, hw⟩ := hw
  exact L_159 n9 ad_283 (AG_new (AG_new (AG_new (AG_new (AG_new (AG_new (AG_new (AG_new (AG_new (AG_new (AG_new (AG_new (AG_new (AG_new (AG_new (AG_new (AG_new (AG_new (AG_new AG_refl rfl had_4) rfl had_11) rfl had_19) rfl had_28) rfl had_38) rfl had_49) rfl had_61) rfl had_74) rfl had_88) rfl had_103) rfl had_119) rfl had_136) rfl had_154) rfl had_173) rfl had_193) rfl had_214) rfl had_236) rfl had_259) rfl had_283) M_304 0 hw H locs ls hW hS (lv_sub hl [1, 0] rfl)
def rm_X0_init : Room := { frames := 1, cells := 2, slots := 12, locals := 30 }
def fr_X0_init : Nat → Nat → Bool := fun a _ => [20, 21].contains a
set_option maxHeartbeats 4000000 in
set_option maxRecDepth 100000 in
theorem c_X0_init (l : Launch) (E : GE) (base : Nat) (M : Mem) (ad : AD) (t : Nat) (Q : Mem → Prop) (hw : w_X0_init M t Q) : Con l yX0_init cX0_init 1 none rm_X0_init 2 12 E base [.ref (ad 0 t)] M ad (QcV E base (fun M1 ad1 => Q M1 ∧ AG fr_X0_init ad ad1)) noX := by
  refine con_start (by decide) (Nat.le_of_ble_eq_true rfl) ?_
  intro p e s m args below meth c ls QQ hQQ CT hnx hW hl
  obtain ⟨⟨hx, hb, hml, hown, hts⟩, hr, hlocks, hnm, hT⟩ := CT
  have hS : va_S (fun q : Nat => base ≤ q) s.heap s.heap [] := va_S.rf
  have hl : lv_has ls 1 [(0, .ref (ad 0 t))] := hl
  unfold w_X0_init at hw
  obtain ⟨H, hH⟩ : ∃ z, z = s.heap := ⟨_, rfl⟩
  obtain ⟨locs, hlo⟩ : ∃ z : List Loc, z = [] := ⟨_, rfl⟩
  have hS : va_S (fun q : Nat => base ≤ q) s.heap H locs := by rw [hlo, hH]; exact hS
  have hW : Wd E base M ad H := by rw [hH]; exact hW
  rw [show W p l e rm_X0_init s m args below meth c s.heap [] 0 0 QQ (F0 m 0 ls []) = W p l e rm_X0_init s m args below meth c H locs 0 0 QQ (F0 m 0 ls []) by rw [hlo, hH]]
  refine lv_aload_n hx hb dX0_init_0 rfl (lv_at hl 0 rfl) ?_
  refine W.objInit hx hb hown (hts _ k_34) (hts _ k_2) (hts _ k_3) rfl (by rw [hml]; exact hl.1) rfl dX0_init_1 (Nat.le_of_ble_eq_true rfl) (Nat.le_of_ble_eq_true rfl) ?_
  refine W.eq (g2 := F0 m 4 ls []) rfl ?_
  refine lv_aload_n hx hb dX0_init_4 rfl (lv_at hl 0 rfl) ?_
  refine lv_bipush (v := 6) hx hb dX0_init_5 (by decide) ?_
  obtain ⟨g_1, hw⟩ := hw
  refine r_newa hx hb .int (hts _ k_6) hT.1 hW hS hT.2.2.2.2.2.2.2 (by decide) rfl rfl (fun h9 => h9) _ rfl (fun _ => Or.inl ⟨rfl, rfl⟩) 6 rfl (by decide) (by decide) (Nat.le_of_ble_eq_true rfl) (Nat.le_of_ble_eq_true rfl) (Nat.le_of_ble_eq_true rfl) g_1 dX0_init_7 (fun q_2 M_3 ad_4 H hM_3 had_4 hW hS => ?_)
  have hw := hw M_3 hM_3
  rw [upA_ne (a := 0) (b := t) had_4 (by decide)] at hl ⊢
  have g_5 : mE M_3 20 t = true := mE_wN1 hM_3
  obtain ⟨g_6, hw⟩ := hw
  refine r_putFR (κ2 := 20) (i2 := t) (ty := tyX0 0) hx hb hts hown hT.1 hW hS clX0 0 (by decide) (hts _ k_35) (fun _ h9 => h9) rfl hnm rfl (by decide +kernel) 20 rfl rfl rfl rfl g_5 g_6 dX0_init_9 (fun M_7 H locs hM_7 hW hS => ?_)
  have hw := hw M_7 hM_7
  refine lv_aload_n hx hb dX0_init_12 rfl (lv_at hl 0 rfl) ?_
  refine lv_bipush (v := 6) hx hb dX0_init_13 (by decide) ?_
  obtain ⟨g_8, hw⟩ := hw
  refine r_newa hx hb .int (hts _ k_6) hT.1 hW hS hT.2.2.2.2.2.2.2 (by decide) rfl rfl (fun h9 => h9) _ rfl (fun _ => Or.inl ⟨rfl, rfl⟩) 6 rfl (by decide) (by decide) (Nat.le_of_ble_eq_true rfl) (Nat.le_of_ble_eq_true rfl) (Nat.le_of_ble_eq_true rfl) g_8 dX0_init_15 (fun q_9 M_10 ad_11 H hM_10 had_11 hW hS => ?_)
  have hw := hw M_10 hM_10
  rw [upA_ne (a := 0) (b := t) had_11 (by decide)] at hl ⊢
  have g_12 : mE M_10 20 t = true := mE_wN hM_10 (by rw [hM_7]; exact g_5)
  have g_13 : mE M_10 0 t = true := mE_wN hM_10 (by rw [hM_7]; exact g_6)
  have g_14 : mE M_10 21 t = true := mE_wN1 hM_10
  refine r_putFR (κ2 := 21) (i2 := t) (ty := tyX0 1) hx hb hts hown hT.1 hW hS clX0 1 (by decide) (hts _ k_36) (fun _ h9 => h9) rfl hnm rfl (by decide +kernel) 21 rfl rfl rfl rfl g_14 g_13 dX0_init_17 (fun M_15 H locs hM_15 hW hS => ?_)
  have hw := hw M_15 hM_15
  refine lv_aload_n hx hb dX0_init_20 rfl (lv_at hl 0 rfl) ?_
  refine lv_iconst (v := 0) hx hb dX0_init_21 (by decide) ?_
  refine r_putI hx hb hts hown hT.1 hW hS clX0 2 (by decide) (hts _ k_37) (fun _ h9 => h9) rfl (by decide +kernel) rfl (by rw [hM_15]; exact g_13) dX0_init_22 (fun M_16 H locs hM_16 hW hS => ?_)
  have hw := hw M_16 hM_16
  refine lv_aload_n hx hb dX0_init_25 rfl (lv_at hl 0 rfl) ?_
  refine lv_lconst (v := 0) hx hb dX0_init_26 (by decide) ?_
  refine r_putL hx hb hts hown hT.1 hW hS clX0 3 (by decide) (hts _ k_38) (fun _ h9 => h9) rfl (by decide +kernel) rfl (by rw [hM_16, hM_15]; exact g_13) dX0_init_27 (fun M_17 H locs hM_17 hW hS => ?_)
  have hw := hw M_17 hM_17
  rw [← hQQ]
  exact e_V hx hb hr hlocks hW hS (Nat.le_of_ble_eq_true rfl) (Nat.le_of_ble_eq_true rfl) dX0_init_30 ⟨hw, (AG_new (AG_new AG_refl rfl had_4) rfl had_11)⟩
def rm_X3_init : Room := { frames := 1, cells := 0, slots := 0, locals := 30 }
set_option maxHeartbeats 4000000 in
set_option maxRecDepth 100000 in
theorem c_X3_init (l : Launch) (E : GE) (base : Nat) (M : Mem) (ad : AD) (t : Nat) (a1 : Int32) (Q : Mem → Prop) (hw : w_X3_init M t a1 Q) : Con l yX3_init cX3_init 2 none rm_X3_init 0 0 E base [.ref (ad 3 t), .int a1] M ad (QcV E base (fun M1 ad1 => Q M1 ∧ ad = ad1)) noX := by
  refine con_start (by decide) (Nat.le_of_ble_eq_true rfl) ?_
  intro p e s m args below meth c ls QQ hQQ CT hnx hW hl
  obtain ⟨⟨hx, hb, hml, hown, hts⟩, hr, hlocks, hnm, hT⟩ := CT
  have hS : va_S (fun q : Nat => base ≤ q) s.heap s.heap [] := va_S.rf
  have hl : lv_has ls 2 [(0, .ref (ad 3 t)), (1, .int a1)] := hl
  unfold w_X3_init at hw
  obtain ⟨H, hH⟩ : ∃ z, z = s.heap := ⟨_, rfl⟩
  obtain ⟨locs, hlo⟩ : ∃ z : List Loc, z = [] := ⟨_, rfl⟩
  have hS : va_S (fun q : Nat => base ≤ q) s.heap H locs := by rw [hlo, hH]; exact hS
  have hW : Wd E base M ad H := by rw [hH]; exact hW
  rw [show W p l e rm_X3_init s m args below meth c s.heap [] 0 0 QQ (F0 m 0 ls []) = W p l e rm_X3_init s m args below meth c H locs 0 0 QQ (F0 m 0 ls []) by rw [hlo, hH]]
  refine lv_aload_n hx hb dX3_init_0 rfl (lv_at hl 0 rfl) ?_
  refine W.objInit hx hb hown (hts _ k_39) (hts _ k_2) (hts _ k_3) rfl (by rw [hml]; exact hl.1) rfl dX3_init_1 (Nat.le_of_ble_eq_true rfl) (Nat.le_of_ble_eq_true rfl) ?_
  refine W.eq (g2 := F0 m 4 ls []) rfl ?_
  refine lv_aload_n hx hb dX3_init_4 rfl (lv_at hl 0 rfl) ?_
  refine lv_lconst (v := 0) hx hb dX3_init_5 (by decide) ?_
  obtain ⟨g_1, hw⟩ := hw
  refine r_putL hx hb hts hown hT.1 hW hS clX3 1 (by decide) (hts _ k_40) (fun _ h9 => h9) rfl (by decide +kernel) rfl g_1 dX3_init_6 (fun M_2 H locs hM_2 hW hS => ?_)
  have hw := hw M_2 hM_2
  refine lv_aload_n hx hb dX3_init_9 rfl (lv_at hl 0 rfl) ?_
  refine lv_lconst (v := 0) hx hb dX3_init_10 (by decide) ?_
  refine r_putL hx hb hts hown hT.1 hW hS clX3 2 (by decide) (hts _ k_41) (fun _ h9 => h9) rfl (by decide +kernel) rfl (by rw [hM_2]; exact g_1) dX3_init_11 (fun M_3 H locs hM_3 hW hS => ?_)
  have hw := hw M_3 hM_3
  refine lv_aload_n hx hb dX3_init_14 rfl (lv_at hl 0 rfl) ?_
  refine lv_iload_n hx hb dX3_init_15 rfl (lv_at hl 1 rfl) ?_
  refine r_putI hx hb hts hown hT.1 hW hS clX3 0 (by decide) (hts _ k_42) (fun _ h9 => h9) rfl (by decide +kernel) rfl (by rw [hM_3, hM_2]; exact g_1) dX3_init_16 (fun M_4 H locs hM_4 hW hS => ?_)
  have hw := hw M_4 hM_4
  rw [← hQQ]
  exact e_V hx hb hr hlocks hW hS (Nat.le_of_ble_eq_true rfl) (Nat.le_of_ble_eq_true rfl) dX3_init_19 ⟨hw, rfl⟩
def rm_X1_init : Room := { frames := 1, cells := 1, slots := 1000, locals := 30 }
def fr_X1_init : Nat → Nat → Bool := fun a _ => [22].contains a
set_option maxHeartbeats 4000000 in
set_option maxRecDepth 100000 in
theorem c_X1_init (l : Launch) (E : GE) (base : Nat) (M : Mem) (ad : AD) (t : Nat) (a1 : Int32) (Q : Mem → Prop) (hw : w_X1_init M t a1 Q) : Con l yX1_init cX1_init 2 none rm_X1_init 1 1000 E base [.ref (ad 1 t), .int a1] M ad (QcV E base (fun M1 ad1 => Q M1 ∧ AG fr_X1_init ad ad1)) noX := by
  refine con_start (by decide) (Nat.le_of_ble_eq_true rfl) ?_
  intro p e s m args below meth c ls QQ hQQ CT hnx hW hl
  obtain ⟨⟨hx, hb, hml, hown, hts⟩, hr, hlocks, hnm, hT⟩ := CT
  have hS : va_S (fun q : Nat => base ≤ q) s.heap s.heap [] := va_S.rf
  have hl : lv_has ls 2 [(0, .ref (ad 1 t)), (1, .int a1)] := hl
  unfold w_X1_init at hw
  obtain ⟨H, hH⟩ : ∃ z, z = s.heap := ⟨_, rfl⟩
  obtain ⟨locs, hlo⟩ : ∃ z : List Loc, z = [] := ⟨_, rfl⟩
  have hS : va_S (fun q : Nat => base ≤ q) s.heap H locs := by rw [hlo, hH]; exact hS
  have hW : Wd E base M ad H := by rw [hH]; exact hW
  rw [show W p l e rm_X1_init s m args below meth c s.heap [] 0 0 QQ (F0 m 0 ls []) = W p l e rm_X1_init s m args below meth c H locs 0 0 QQ (F0 m 0 ls []) by rw [hlo, hH]]
  refine lv_aload_n hx hb dX1_init_0 rfl (lv_at hl 0 rfl) ?_
  refine W.objInit hx hb hown (hts _ k_43) (hts _ k_2) (hts _ k_3) rfl (by rw [hml]; exact hl.1) rfl dX1_init_1 (Nat.le_of_ble_eq_true rfl) (Nat.le_of_ble_eq_true rfl) ?_
  refine W.eq (g2 := F0 m 4 ls []) rfl ?_
  refine lv_aload_n hx hb dX1_init_4 rfl (lv_at hl 0 rfl) ?_
  refine lv_sipush (v := 1000) hx hb dX1_init_5 (by decide) ?_
  obtain ⟨g_1, hw⟩ := hw
  refine r_newa hx hb .int (hts _ k_6) hT.1 hW hS hT.2.2.2.2.2.2.2 (by decide) rfl rfl (fun h9 => h9) _ rfl (fun _ => Or.inl ⟨rfl, rfl⟩) 1000 rfl (by decide) (by decide) (Nat.le_of_ble_eq_true rfl) (Nat.le_of_ble_eq_true rfl) (Nat.le_of_ble_eq_true rfl) g_1 dX1_init_8 (fun q_2 M_3 ad_4 H hM_3 had_4 hW hS => ?_)
  have hw := hw M_3 hM_3
  rw [upA_ne (a := 1) (b := t) had_4 (by decide)] at hl ⊢
  have g_5 : mE M_3 22 t = true := mE_wN1 hM_3
  obtain ⟨g_6, hw⟩ := hw
  refine r_putFR (κ2 := 22) (i2 := t) (ty := tyX1 1) hx hb hts hown hT.1 hW hS clX1 1 (by decide) (hts _ k_44) (fun _ h9 => h9) rfl hnm rfl (by decide +kernel) 22 rfl rfl rfl rfl g_5 g_6 dX1_init_10 (fun M_7 H locs hM_7 hW hS => ?_)
  have hw := hw M_7 hM_7
  refine lv_aload_n hx hb dX1_init_13 rfl (lv_at hl 0 rfl) ?_
  refine lv_iconst (v := 0) hx hb dX1_init_14 (by decide) ?_
  refine r_putI hx hb hts hown hT.1 hW hS clX1 2 (by decide) (hts _ k_45) (fun _ h9 => h9) rfl (by decide +kernel) rfl (by rw [hM_7]; exact g_6) dX1_init_15 (fun M_8 H locs hM_8 hW hS => ?_)
  have hw := hw M_8 hM_8
  refine lv_aload_n hx hb dX1_init_18 rfl (lv_at hl 0 rfl) ?_
  refine lv_iload_n hx hb dX1_init_19 rfl (lv_at hl 1 rfl) ?_
  refine r_putFI hx hb hts hown hT.1 hW hS clX1 0 (by decide) (hts _ k_46) (fun _ h9 => h9) rfl hnm rfl (by decide +kernel) rfl (by rw [hM_8, hM_7]; exact g_6) dX1_init_20 (fun M_9 H locs hM_9 hW hS => ?_)
  have hw := hw M_9 hM_9
  rw [← hQQ]
  exact e_V hx hb hr hlocks hW hS (Nat.le_of_ble_eq_true rfl) (Nat.le_of_ble_eq_true rfl) dX1_init_23 ⟨hw, (AG_new AG_refl rfl had_4)⟩
def rm_X2_init : Room := { frames := 2, cells := 10, slots := 1046, locals := 51 }
def fr_X2_init : Nat → Nat → Bool := fun a _ => [0, 1, 3, 20, 21, 22, 23, 24, 25, 26].contains a
set_option maxHeartbeats 4000000 in
set_option maxRecDepth 100000 in
theorem c_X2_init (l : Launch) (E : GE) (base : Nat) (M : Mem) (ad : AD) (t : Nat) (a1 : Int32) (a2 : Int32) (Q : Mem → Prop) (hw : w_X2_init M t a1 a2 Q) : Con l yX2_init cX2_init 3 none rm_X2_init 10 1046 E base [.ref (ad 2 t), .int a1, .int a2] M ad (QcV E base (fun M1 ad1 => Q M1 ∧ AG fr_X2_init ad ad1)) noX := by
  refine con_start (by decide) (Nat.le_of_ble_eq_true rfl) ?_
  intro p e s m args below meth c ls QQ hQQ CT hnx hW hl
  obtain ⟨⟨hx, hb, hml, hown, hts⟩, hr, hlocks, hnm, hT⟩ := CT
  have hS : va_S (fun q : Nat => base ≤ q) s.heap s.heap [] := va_S.rf
  have hl : lv_has ls 3 [(0, .ref (ad 2 t)), (1, .int a1), (2, .int a2)] := hl
  unfold w_X2_init at hw
  obtain ⟨H, hH⟩ : ∃ z, z = s.heap := ⟨_, rfl⟩
  obtain ⟨locs, hlo⟩ : ∃ z : List Loc, z = [] := ⟨_, rfl⟩
  have hS : va_S (fun q : Nat => base ≤ q) s.heap H locs := by rw [hlo, hH]; exact hS
  have hW : Wd E base M ad H := by rw [hH]; exact hW
  rw [show W p l e rm_X2_init s m args below meth c s.heap [] 0 0 QQ (F0 m 0 ls []) = W p l e rm_X2_init s m args below meth c H locs 0 0 QQ (F0 m 0 ls []) by rw [hlo, hH]]
  refine lv_aload_n hx hb dX2_init_0 rfl (lv_at hl 0 rfl) ?_
  refine W.objInit hx hb hown (hts _ k_47) (hts _ k_2) (hts _ k_3) rfl (by rw [hml]; exact hl.1) rfl dX2_init_1 (Nat.le_of_ble_eq_true rfl) (Nat.le_of_ble_eq_true rfl) ?_
  refine W.eq (g2 := F0 m 4 ls []) rfl ?_
  refine lv_aload_n hx hb dX2_init_4 rfl (lv_at hl 0 rfl) ?_
  obtain ⟨g_1, hw⟩ := hw
  refine r_new (dv := fun _ => .null) hx hb hts hown (hts _ k_48) (hts _ k_49) (hts _ k_50) hT.1 hW hS hT.2.2.2.2.2.2.2 clX0 tyX0 tyX0_ok (by decide) (Nat.le_of_ble_eq_true rfl) (Nat.le_of_ble_eq_true rfl) g_1 dX2_init_5 (fun q_2 M_3 ad_4 H hM_3 had_4 hW hS => ?_)
  have hw := hw M_3 hM_3
  rw [upA_ne (a := 2) (b := t) had_4 (by decide)] at hl ⊢
  have g_5 : mE M_3 0 t = true := mE_wN1 hM_3
  refine lv_dup hx hb dX2_init_8 rfl ?_
  refine k_V (rn_IN (As := []) (rest := [.ref (ad_4 0 t), .ref (ad_4 2 t)]) (κ := 0) (i := t) ⟨hx, hb, hml, hown, hts⟩ hT hW hS hl (c_X0_init l E base M_3 ad_4 t _ hw) cy_X0_init kn_1 rfl k_51 rfl rfl ⟨(Nat.le_of_ble_eq_true rfl), (Nat.le_of_ble_eq_true rfl)⟩ rfl rfl (Nat.le_of_ble_eq_true rfl) dX2_init_9 ⟨(Nat.le_of_ble_eq_true rfl), (Nat.le_of_ble_eq_true rfl)⟩) hS kx_no (fun M_7 ad_8 H locs hP hW hS => ?_)
  obtain ⟨hw, hag⟩ := hP
  have hag_10 := hag
  rw [hag_10 0 t (by rfl)] at ⊢
  rw [hag_10 2 t (by rfl)] at hl ⊢
  obtain ⟨g_11, hw⟩ := hw
  obtain ⟨g_13, hw⟩ := hw
  refine r_putFR (κ2 := 0) (i2 := t) (ty := tyX2 3) hx hb hts hown hT.1 hW hS clX2 3 (by decide) (hts _ k_52) (fun _ h9 => h9) rfl hnm rfl (by decide +kernel) 0 rfl rfl rfl rfl g_13 g_11 dX2_init_12 (fun M_12 H locs hM_12 hW hS => ?_)
  have hw := hw M_12 hM_12
  refine lv_aload_n hx hb dX2_init_15 rfl (lv_at hl 0 rfl) ?_
  refine lv_iconst (v := 0) hx hb dX2_init_16 (by decide) ?_
  refine r_putI hx hb hts hown hT.1 hW hS clX2 4 (by decide) (hts _ k_53) (fun _ h9 => h9) rfl (by decide +kernel) rfl (by rw [hM_12]; exact g_11) dX2_init_17 (fun M_14 H locs hM_14 hW hS => ?_)
  have hw := hw M_14 hM_14
  refine lv_aload_n hx hb dX2_init_20 rfl (lv_at hl 0 rfl) ?_
  refine lv_iconst (v := 0) hx hb dX2_init_21 (by decide) ?_
  refine r_putZ hx hb hts hown hT.1 hW hS clX2 5 (by decide) (hts _ k_54) (fun _ h9 => h9) rfl (by decide +kernel) rfl (by decide) (by rw [hM_14, hM_12]; exact g_11) dX2_init_22 (fun M_15 H locs hM_15 hW hS => ?_)
  have hw := hw M_15 hM_15
  refine lv_aload_n hx hb dX2_init_25 rfl (lv_at hl 0 rfl) ?_
  refine lv_iconst (v := 0) hx hb dX2_init_26 (by decide) ?_
  refine r_putZ hx hb hts hown hT.1 hW hS clX2 6 (by decide) (hts _ k_55) (fun _ h9 => h9) rfl (by decide +kernel) rfl (by decide) (by rw [hM_15, hM_14, hM_12]; exact g_11) dX2_init_27 (fun M_16 H locs hM_16 hW hS => ?_)
  have hw := hw M_16 hM_16
  refine lv_aload_n hx hb dX2_init_30 rfl (lv_at hl 0 rfl) ?_
  refine lv_bipush (v := 6) hx hb dX2_init_31 (by decide) ?_
  obtain ⟨g_17, hw⟩ := hw
  refine r_newa hx hb .long (hts _ k_56) hT.1 hW hS hT.2.2.2.2.2.2.2 (by decide) rfl rfl (fun h9 => h9) _ rfl (fun _ => Or.inr ⟨rfl, rfl⟩) 6 rfl (by decide) (by decide) (Nat.le_of_ble_eq_true rfl) (Nat.le_of_ble_eq_true rfl) (Nat.le_of_ble_eq_true rfl) g_17 dX2_init_33 (fun q_18 M_19 ad_20 H hM_19 had_20 hW hS => ?_)
  have hw := hw M_19 hM_19
  rw [upA_ne (a := 2) (b := t) had_20 (by decide)] at hl ⊢
  have g_21 : mE M_19 2 t = true := mE_wN hM_19 (by rw [hM_16, hM_15, hM_14, hM_12]; exact g_11)
  have g_22 : mE M_19 0 t = true := mE_wN hM_19 (by rw [hM_16, hM_15, hM_14, hM_12]; exact g_13)
  have g_23 : mE M_19 23 t = true := mE_wN1 hM_19
  refine r_putFR (κ2 := 23) (i2 := t) (ty := tyX2 7) hx hb hts hown hT.1 hW hS clX2 7 (by decide) (hts _ k_57) (fun _ h9 => h9) rfl hnm rfl (by decide +kernel) 23 rfl rfl rfl rfl g_23 g_21 dX2_init_35 (fun M_24 H locs hM_24 hW hS => ?_)
  have hw := hw M_24 hM_24
  refine lv_aload_n hx hb dX2_init_38 rfl (lv_at hl 0 rfl) ?_
  refine lv_bipush (v := 6) hx hb dX2_init_39 (by decide) ?_
  obtain ⟨g_25, hw⟩ := hw
  refine r_newa hx hb .int (hts _ k_6) hT.1 hW hS hT.2.2.2.2.2.2.2 (by decide) rfl rfl (fun h9 => h9) _ rfl (fun _ => Or.inl ⟨rfl, rfl⟩) 6 rfl (by decide) (by decide) (Nat.le_of_ble_eq_true rfl) (Nat.le_of_ble_eq_true rfl) (Nat.le_of_ble_eq_true rfl) g_25 dX2_init_41 (fun q_26 M_27 ad_28 H hM_27 had_28 hW hS => ?_)
  have hw := hw M_27 hM_27
  rw [upA_ne (a := 2) (b := t) had_28 (by decide)] at hl ⊢
  have g_29 : mE M_27 2 t = true := mE_wN hM_27 (by rw [hM_24]; exact g_21)
  have g_30 : mE M_27 0 t = true := mE_wN hM_27 (by rw [hM_24]; exact g_22)
  have g_31 : mE M_27 23 t = true := mE_wN hM_27 (by rw [hM_24]; exact g_23)
  have g_32 : mE M_27 24 t = true := mE_wN1 hM_27
  refine r_putFR (κ2 := 24) (i2 := t) (ty := tyX2 8) hx hb hts hown hT.1 hW hS clX2 8 (by decide) (hts _ k_58) (fun _ h9 => h9) rfl hnm rfl (by decide +kernel) 24 rfl rfl rfl rfl g_32 g_29 dX2_init_43 (fun M_33 H locs hM_33 hW hS => ?_)
  have hw := hw M_33 hM_33
  refine lv_aload_n hx hb dX2_init_46 rfl (lv_at hl 0 rfl) ?_
  refine lv_bipush (v := 6) hx hb dX2_init_47 (by decide) ?_
  obtain ⟨g_34, hw⟩ := hw
  refine r_newa hx hb .int (hts _ k_6) hT.1 hW hS hT.2.2.2.2.2.2.2 (by decide) rfl rfl (fun h9 => h9) _ rfl (fun _ => Or.inl ⟨rfl, rfl⟩) 6 rfl (by decide) (by decide) (Nat.le_of_ble_eq_true rfl) (Nat.le_of_ble_eq_true rfl) (Nat.le_of_ble_eq_true rfl) g_34 dX2_init_49 (fun q_35 M_36 ad_37 H hM_36 had_37 hW hS => ?_)
  have hw := hw M_36 hM_36
  rw [upA_ne (a := 2) (b := t) had_37 (by decide)] at hl ⊢
  have g_38 : mE M_36 2 t = true := mE_wN hM_36 (by rw [hM_33]; exact g_29)
  have g_39 : mE M_36 0 t = true := mE_wN hM_36 (by rw [hM_33]; exact g_30)
  have g_40 : mE M_36 23 t = true := mE_wN hM_36 (by rw [hM_33]; exact g_31)
  have g_41 : mE M_36 24 t = true := mE_wN hM_36 (by rw [hM_33]; exact g_32)
  have g_42 : mE M_36 25 t = true := mE_wN1 hM_36
  refine r_putFR (κ2 := 25) (i2 := t) (ty := tyX2 9) hx hb hts hown hT.1 hW hS clX2 9 (by decide) (hts _ k_59) (fun _ h9 => h9) rfl hnm rfl (by decide +kernel) 25 rfl rfl rfl rfl g_42 g_38 dX2_init_51 (fun M_43 H locs hM_43 hW hS => ?_)
  have hw := hw M_43 hM_43
  refine lv_aload_n hx hb dX2_init_54 rfl (lv_at hl 0 rfl) ?_
  refine lv_iconst (v := 0) hx hb dX2_init_55 (by decide) ?_
  refine r_putI hx hb hts hown hT.1 hW hS clX2 10 (by decide) (hts _ k_60) (fun _ h9 => h9) rfl (by decide +kernel) rfl (by rw [hM_43]; exact g_38) dX2_init_56 (fun M_44 H locs hM_44 hW hS => ?_)
  have hw := hw M_44 hM_44
  refine lv_aload_n hx hb dX2_init_59 rfl (lv_at hl 0 rfl) ?_
  refine lv_iconst (v := 0) hx hb dX2_init_60 (by decide) ?_
  refine r_putI hx hb hts hown hT.1 hW hS clX2 11 (by decide) (hts _ k_61) (fun _ h9 => h9) rfl (by decide +kernel) rfl (by rw [hM_44, hM_43]; exact g_38) dX2_init_61 (fun M_45 H locs hM_45 hW hS => ?_)
  have hw := hw M_45 hM_45
  refine lv_aload_n hx hb dX2_init_64 rfl (lv_at hl 0 rfl) ?_
  refine lv_bipush (v := 6) hx hb dX2_init_65 (by decide) ?_
  obtain ⟨g_46, hw⟩ := hw
  refine r_newa hx hb .int (hts _ k_6) hT.1 hW hS hT.2.2.2.2.2.2.2 (by decide) rfl rfl (fun h9 => h9) _ rfl (fun _ => Or.inl ⟨rfl, rfl⟩) 6 rfl (by decide) (by decide) (Nat.le_of_ble_eq_true rfl) (Nat.le_of_ble_eq_true rfl) (Nat.le_of_ble_eq_true rfl) g_46 dX2_init_67 (fun q_47 M_48 ad_49 H hM_48 had_49 hW hS => ?_)
  have hw := hw M_48 hM_48
  rw [upA_ne (a := 2) (b := t) had_49 (by decide)] at hl ⊢
  have g_50 : mE M_48 2 t = true := mE_wN hM_48 (by rw [hM_45, hM_44, hM_43]; exact g_38)
  have g_51 : mE M_48 0 t = true := mE_wN hM_48 (by rw [hM_45, hM_44, hM_43]; exact g_39)
  have g_52 : mE M_48 23 t = true := mE_wN hM_48 (by rw [hM_45, hM_44, hM_43]; exact g_40)
  have g_53 : mE M_48 24 t = true := mE_wN hM_48 (by rw [hM_45, hM_44, hM_43]; exact g_41)
  have g_54 : mE M_48 25 t = true := mE_wN hM_48 (by rw [hM_45, hM_44, hM_43]; exact g_42)
  have g_55 : mE M_48 26 t = true := mE_wN1 hM_48
  refine r_putFR (κ2 := 26) (i2 := t) (ty := tyX2 12) hx hb hts hown hT.1 hW hS clX2 12 (by decide) (hts _ k_62) (fun _ h9 => h9) rfl hnm rfl (by decide +kernel) 26 rfl rfl rfl rfl g_55 g_50 dX2_init_69 (fun M_56 H locs hM_56 hW hS => ?_)
  have hw := hw M_56 hM_56
  refine lv_aload_n hx hb dX2_init_72 rfl (lv_at hl 0 rfl) ?_
  refine lv_iconst (v := 0) hx hb dX2_init_73 (by decide) ?_
  refine r_putI hx hb hts hown hT.1 hW hS clX2 13 (by decide) (hts _ k_63) (fun _ h9 => h9) rfl (by decide +kernel) rfl (by rw [hM_56]; exact g_50) dX2_init_74 (fun M_57 H locs hM_57 hW hS => ?_)
  have hw := hw M_57 hM_57
  refine lv_aload_n hx hb dX2_init_77 rfl (lv_at hl 0 rfl) ?_
  refine lv_iload_n hx hb dX2_init_78 rfl (lv_at hl 1 rfl) ?_
  refine r_putFI hx hb hts hown hT.1 hW hS clX2 0 (by decide) (hts _ k_64) (fun _ h9 => h9) rfl hnm rfl (by decide +kernel) rfl (by rw [hM_57, hM_56]; exact g_50) dX2_init_79 (fun M_58 H locs hM_58 hW hS => ?_)
  have hw := hw M_58 hM_58
  refine lv_aload_n hx hb dX2_init_82 rfl (lv_at hl 0 rfl) ?_
  obtain ⟨g_59, hw⟩ := hw
  refine r_new (dv := fun _ => .null) hx hb hts hown (hts _ k_65) (hts _ k_66) (hts _ k_67) hT.1 hW hS hT.2.2.2.2.2.2.2 clX3 tyX3 tyX3_ok (by decide) (Nat.le_of_ble_eq_true rfl) (Nat.le_of_ble_eq_true rfl) g_59 dX2_init_83 (fun q_60 M_61 ad_62 H hM_61 had_62 hW hS => ?_)
  have hw := hw M_61 hM_61
  rw [upA_ne (a := 2) (b := t) had_62 (by decide)] at hl ⊢
  have g_63 : mE M_61 2 t = true := mE_wN hM_61 (by rw [hM_58, hM_57, hM_56]; exact g_50)
  have g_64 : mE M_61 0 t = true := mE_wN hM_61 (by rw [hM_58, hM_57, hM_56]; exact g_51)
  have g_65 : mE M_61 23 t = true := mE_wN hM_61 (by rw [hM_58, hM_57, hM_56]; exact g_52)
  have g_66 : mE M_61 24 t = true := mE_wN hM_61 (by rw [hM_58, hM_57, hM_56]; exact g_53)
  have g_67 : mE M_61 25 t = true := mE_wN hM_61 (by rw [hM_58, hM_57, hM_56]; exact g_54)
  have g_68 : mE M_61 26 t = true := mE_wN hM_61 (by rw [hM_58, hM_57, hM_56]; exact g_55)
  have g_69 : mE M_61 3 t = true := mE_wN1 hM_61
  refine lv_dup hx hb dX2_init_86 rfl ?_
  refine lv_iload_n hx hb dX2_init_87 rfl (lv_at hl 2 rfl) ?_
  refine k_V (rn_I (As := [.int a2]) (rest := [.ref (ad_62 3 t), .ref (ad_62 2 t)]) (κ := 3) (i := t) ⟨hx, hb, hml, hown, hts⟩ hT hW hS hl (c_X3_init l E base M_61 ad_62 t a2 _ hw) cy_X3_init rfl k_68 k_69 rfl rfl ⟨(Nat.le_of_ble_eq_true rfl), (Nat.le_of_ble_eq_true rfl)⟩ rfl rfl (Nat.le_of_ble_eq_true rfl) dX2_init_88 ⟨(Nat.le_of_ble_eq_true rfl), (Nat.le_of_ble_eq_true rfl)⟩) hS kx_no (fun M_71 ad_72 H locs hP hW hS => ?_)
  obtain ⟨hw, rfl⟩ := hP
  obtain ⟨g_74, hw⟩ := hw
  obtain ⟨g_76, hw⟩ := hw
  refine r_putFR (κ2 := 3) (i2 := t) (ty := tyX2 1) hx hb hts hown hT.1 hW hS clX2 1 (by decide) (hts _ k_70) (fun _ h9 => h9) rfl hnm rfl (by decide +kernel) 3 rfl rfl rfl rfl g_76 g_74 dX2_init_91 (fun M_75 H locs hM_75 hW hS => ?_)
  have hw := hw M_75 hM_75
  refine lv_aload_n hx hb dX2_init_94 rfl (lv_at hl 0 rfl) ?_
  obtain ⟨g_77, hw⟩ := hw
  refine r_new (dv := fun _ => .null) hx hb hts hown (hts _ k_71) (hts _ k_72) (hts _ k_73) hT.1 hW hS hT.2.2.2.2.2.2.2 clX1 tyX1 tyX1_ok (by decide) (Nat.le_of_ble_eq_true rfl) (Nat.le_of_ble_eq_true rfl) g_77 dX2_init_95 (fun q_78 M_79 ad_80 H hM_79 had_80 hW hS => ?_)
  have hw := hw M_79 hM_79
  rw [upA_ne (a := 2) (b := t) had_80 (by decide)] at hl ⊢
  have g_81 : mE M_79 2 t = true := mE_wN hM_79 (by rw [hM_75]; exact g_74)
  have g_82 : mE M_79 3 t = true := mE_wN hM_79 (by rw [hM_75]; exact g_76)
  have g_83 : mE M_79 1 t = true := mE_wN1 hM_79
  refine lv_dup hx hb dX2_init_98 rfl ?_
  refine lv_iload_n hx hb dX2_init_99 rfl (lv_at hl 2 rfl) ?_
  refine k_V (rn_I (As := [.int a2]) (rest := [.ref (ad_80 1 t), .ref (ad_80 2 t)]) (κ := 1) (i := t) ⟨hx, hb, hml, hown, hts⟩ hT hW hS hl (c_X1_init l E base M_79 ad_80 t a2 _ hw) cy_X1_init rfl k_74 k_75 rfl rfl ⟨(Nat.le_of_ble_eq_true rfl), (Nat.le_of_ble_eq_true rfl)⟩ rfl rfl (Nat.le_of_ble_eq_true rfl) dX2_init_100 ⟨(Nat.le_of_ble_eq_true rfl), (Nat.le_of_ble_eq_true rfl)⟩) hS kx_no (fun M_85 ad_86 H locs hP hW hS => ?_)
  obtain ⟨hw, hag⟩ := hP
  have hag_88 := hag
  rw [hag_88 1 t (by rfl)] at ⊢
  rw [hag_88 2 t (by rfl)] at hl ⊢
  obtain ⟨g_89, hw⟩ := hw
  obtain ⟨g_91, hw⟩ := hw
  refine r_putFR (κ2 := 1) (i2 := t) (ty := tyX2 2) hx hb hts hown hT.1 hW hS clX2 2 (by decide) (hts _ k_76) (fun _ h9 => h9) rfl hnm rfl (by decide +kernel) 1 rfl rfl rfl rfl g_91 g_89 dX2_init_103 (fun M_90 H locs hM_90 hW hS => ?_)
  have hw := hw M_90 hM_90
  rw [← hQQ]
  exact e_V hx hb hr hlocks hW hS (Nat.le_of_ble_eq_true rfl) (Nat.le_of_ble_eq_true rfl) dX2_init_106 ⟨hw, (AG_call (AG_new (AG_new (AG_new (AG_new (AG_new (AG_new (AG_call (AG_new AG_refl rfl had_4) hag_10 (fun a b h => by revert h; simp [fr_X2_init, fr_X0_init]; omega)) rfl had_20) rfl had_28) rfl had_37) rfl had_49) rfl had_62) rfl had_80) hag_88 (fun a b h => by revert h; simp [fr_X2_init, fr_X1_init]; omega))⟩
