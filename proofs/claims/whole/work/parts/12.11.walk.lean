def rm_X4_chosen : Room := { frames := 7, cells := 1, slots := 6, locals := 150 }
set_option maxHeartbeats 4000000 in
set_option maxRecDepth 100000 in
theorem c_X4_chosen (l : Launch) (hlt : l.stackTraces = false) (E : GE) (base : Nat) (M : Mem) (ad : AD) (a1 : Int32) (Q : Int32 → Mem → Prop) (X : Nat → Mem → Prop) (hw : w_X4_chosen M a1 Q X) : Con l yX4_chosen cX4_chosen 2 (some .int) rm_X4_chosen 1 6 E base [.ref (ad 4 0), .int a1] M ad (QcI E base (fun r M1 ad1 => Q r M1 ∧ ad = ad1)) (fun k M1 ad1 => X k M1 ∧ ad = ad1) := by
  refine con_start (by decide) (Nat.le_of_ble_eq_true rfl) ?_
  intro p e s m args below meth c ls QQ hQQ CT hnx hW hl
  obtain ⟨⟨hx, hb, hml, hown, hts⟩, hr, hlocks, hnm, hT⟩ := CT
  have hS : va_S (fun q : Nat => base ≤ q) s.heap s.heap [] := va_S.rf
  have hl : lv_has ls 2 [(0, .ref (ad 4 0)), (1, .int a1)] := hl
  unfold w_X4_chosen at hw
  obtain ⟨H, hH⟩ : ∃ z, z = s.heap := ⟨_, rfl⟩
  obtain ⟨locs, hlo⟩ : ∃ z : List Loc, z = [] := ⟨_, rfl⟩
  have hS : va_S (fun q : Nat => base ≤ q) s.heap H locs := by rw [hlo, hH]; exact hS
  have hW : Wd E base M ad H := by rw [hH]; exact hW
  rw [show W p l e rm_X4_chosen s m args below meth c s.heap [] 0 0 QQ (F0 m 0 ls []) = W p l e rm_X4_chosen s m args below meth c H locs 0 0 QQ (F0 m 0 ls []) by rw [hlo, hH]]
  refine lv_aload_n hx hb dX4_chosen_0 rfl (lv_at hl 0 rfl) ?_
  refine lv_aload_n hx hb dX4_chosen_1 rfl (lv_at hl 0 rfl) ?_
  refine lv_iload_n hx hb dX4_chosen_2 rfl (lv_at hl 1 rfl) ?_
  obtain ⟨g_1, hw⟩ := hw
  refine k_Q (rn_V (As := [.int a1]) (rest := [.ref (ad 4 0)]) (κ := 4) (i := 0) ⟨hx, hb, hml, hown, hts⟩ hT hW hS hl (c_X4_known l hlt E base M ad a1 _ _ hw) cy_X4_known k_97 k_98 k_99 g_1 (by decide) rfl rfl rfl rfl ⟨(Nat.le_of_ble_eq_true rfl), (Nat.le_of_ble_eq_true rfl)⟩ rfl rfl (Nat.le_of_ble_eq_true rfl) dX4_chosen_3 ⟨(Nat.le_of_ble_eq_true rfl), (Nat.le_of_ble_eq_true rfl)⟩) hS (by rw [← hQQ]; exact kx_out hnx hlocks (Nat.le_of_ble_eq_true rfl) (Nat.le_of_ble_eq_true rfl) (fun _ _ _ h9 => h9)) (fun M_3 ad_4 H locs hP hW hS => absurd hP (fun ⟨_, h9, _⟩ => by cases h9)) (fun r_5 M_3 ad_4 H locs hP hW hS => ?_)
  obtain ⟨_, h9, hw, rfl⟩ := hP
  cases h9
  obtain ⟨g_6, hw⟩ := hw
  refine k_I (rn_V (As := [.ref (ad 2 r_5)]) (rest := []) (κ := 4) (i := 0) ⟨hx, hb, hml, hown, hts⟩ hT hW hS hl (c_X4_findChosen l E base M_3 ad r_5 _ hw) cy_X4_findChosen k_172 k_173 k_174 g_6 (by decide) rfl rfl rfl rfl ⟨(Nat.le_of_ble_eq_true rfl), (Nat.le_of_ble_eq_true rfl)⟩ rfl rfl (Nat.le_of_ble_eq_true rfl) dX4_chosen_6 ⟨(Nat.le_of_ble_eq_true rfl), (Nat.le_of_ble_eq_true rfl)⟩) hS kx_no (fun r_10 M_8 ad_9 H locs hP hW hS => ?_)
  obtain ⟨hw, rfl⟩ := hP
  rw [← hQQ]
  exact e_I hx hb hr hlocks hW hS (Nat.le_of_ble_eq_true rfl) (Nat.le_of_ble_eq_true rfl) dX4_chosen_9 ⟨hw, rfl⟩
def rm_L_chosen : Room := { frames := 8, cells := 1, slots := 6, locals := 171 }
set_option maxHeartbeats 4000000 in
set_option maxRecDepth 100000 in
theorem c_L_chosen (l : Launch) (hlt : l.stackTraces = false) (E : GE) (base : Nat) (M : Mem) (ad : AD) (a1 : Int32) (Q : Int32 → Mem → Prop) (hw : w_L_chosen M a1 Q) : ConW l yL_chosen cL_chosen 4 (some .int) [(0, 9, 12, 19)] rm_L_chosen 1 6 E base [.ref (ad 4 0), .int a1, .ref (ad 60 0)] M ad (QcI E base (fun r M1 ad1 => Q r M1 ∧ ad = ad1)) noX := by
  refine conW_start (by decide) (Nat.le_of_ble_eq_true rfl) ?_
  intro p e s m args below meth c ls QQ hQQ CT htab hW hl
  obtain ⟨⟨hx, hb, hml, hown, hts⟩, hr, hlocks, hnm, hT⟩ := CT
  have hS : va_S (fun q : Nat => base ≤ q) s.heap s.heap [] := va_S.rf
  have hl : lv_has ls 4 [(0, .ref (ad 4 0)), (1, .int a1), (2, .ref (ad 60 0))] := hl
  unfold w_L_chosen at hw
  obtain ⟨H, hH⟩ : ∃ z, z = s.heap := ⟨_, rfl⟩
  obtain ⟨locs, hlo⟩ : ∃ z : List Loc, z = [] := ⟨_, rfl⟩
  have hS : va_S (fun q : Nat => base ≤ q) s.heap H locs := by rw [hlo, hH]; exact hS
  have hW : Wd E base M ad H := by rw [hH]; exact hW
  rw [show W p l e rm_L_chosen s m args below meth c s.heap [] 0 0 QQ (F0 m 0 ls []) = W p l e rm_L_chosen s m args below meth c H locs 0 0 QQ (F0 m 0 ls []) by rw [hlo, hH]]
  refine lv_aload_n hx hb dL_chosen_0 rfl (lv_at hl 2 rfl) ?_
  refine lv_iconst (v := 0) hx hb dL_chosen_1 (by decide) ?_
  refine lv_aload_n hx hb dL_chosen_2 rfl (lv_at hl 0 rfl) ?_
  refine lv_iload_n hx hb dL_chosen_3 rfl (lv_at hl 1 rfl) ?_
  obtain ⟨g_1, hw⟩ := hw
  refine k_I (rn_V (As := [.int a1]) (rest := [.int 0, .ref (ad 60 0)]) (κ := 4) (i := 0) ⟨hx, hb, hml, hown, hts⟩ hT hW hS hl (c_X4_chosen l hlt E base M ad a1 _ _ hw) cy_X4_chosen k_333 k_334 k_335 g_1 (by decide) rfl rfl rfl rfl ⟨(Nat.le_of_ble_eq_true rfl), (Nat.le_of_ble_eq_true rfl)⟩ rfl rfl (Nat.le_of_ble_eq_true rfl) dL_chosen_4 ⟨(Nat.le_of_ble_eq_true rfl), (Nat.le_of_ble_eq_true rfl)⟩) hS (fun k9 M_2 adx q9 ce9 H locs hP hW hS hce hcv hcl => ?_) (fun r_5 M_3 ad_4 H locs hP hW hS => ?_)
  · obtain ⟨hw, rfl⟩ := hP
    obtain ⟨rfl, hw⟩ := hw
    refine vx_catch (name := exN 1) (E := exN 1) hown [] ⟨0, 9, 12, 19⟩ [] (by rw [htab]; rfl) (fun z hz => nomatch hz) rfl (by decide) (hts _ k_111) (va_Nw.use rfl (hT.2.1 _ kn_3)) hce hcv hcl ?_
    refine lv_astore_n (lv' := [(3, .ref q9), (0, .ref (ad 4 0)), (1, .int a1), (2, .ref (ad 60 0))]) hx hb dL_chosen_12 rfl hl (by decide) rfl (fun ls hl => ?_)
    refine lv_iconst (v := 1) hx hb dL_chosen_13 (by decide) ?_
    rw [← hQQ]
    exact e_I hx hb hr hlocks hW hS (Nat.le_of_ble_eq_true rfl) (Nat.le_of_ble_eq_true rfl) dL_chosen_14 ⟨hw, rfl⟩
  · obtain ⟨hw, rfl⟩ := hP
    refine lv_i2l hx hb dL_chosen_7 rfl ?_
    obtain ⟨g_6, hw⟩ := hw
    obtain ⟨g_7, hw⟩ := hw
    refine r_last hx hb hT.1 hW hS (by decide) rfl (fun _ => rfl) 1 rfl g_7 g_6 dL_chosen_8 (fun M_8 H locs hM_8 hW hS => ?_)
    have hw := hw M_8 hM_8
    refine lv_goto (tgt := 15) hx hb dL_chosen_9 (by decide) ?_
    refine lv_iconst (v := 0) hx hb dL_chosen_15 (by decide) ?_
    rw [← hQQ]
    exact e_I hx hb hr hlocks hW hS (Nat.le_of_ble_eq_true rfl) (Nat.le_of_ble_eq_true rfl) dL_chosen_16 ⟨hw, rfl⟩
def rm_X5_chosen : Room := { frames := 5, cells := 0, slots := 0, locals := 120 }
set_option maxHeartbeats 4000000 in
set_option maxRecDepth 100000 in
theorem c_X5_chosen (l : Launch) (E : GE) (base : Nat) (M : Mem) (ad : AD) (a1 : Int32) (Q : Int32 → Mem → Prop) (hw : w_X5_chosen M a1 Q) : Con l yX5_chosen cX5_chosen 2 (some .int) rm_X5_chosen 0 0 E base [.ref (ad 5 0), .int a1] M ad (QcI E base (fun r M1 ad1 => Q r M1 ∧ ad = ad1)) noX := by
  refine con_start (by decide) (Nat.le_of_ble_eq_true rfl) ?_
  intro p e s m args below meth c ls QQ hQQ CT hnx hW hl
  obtain ⟨⟨hx, hb, hml, hown, hts⟩, hr, hlocks, hnm, hT⟩ := CT
  have hS : va_S (fun q : Nat => base ≤ q) s.heap s.heap [] := va_S.rf
  have hl : lv_has ls 2 [(0, .ref (ad 5 0)), (1, .int a1)] := hl
  have L_14 : ∀ (M : Mem) (x1 : Int32) (s0 : Int32), b_X5_chosen_14 Q M x1 s0 → WL p l e rm_X5_chosen s m args below meth c QQ E base 2 M ad 14 [(0, .ref (ad 5 0)), (1, .int x1)] [.int s0, .ref (ad 5 0)] 0 0 := by
    intro M x1 s0 hw H locs ls hW hS hl
    unfold b_X5_chosen_14 at hw
    obtain ⟨g_7, hw⟩ := hw
    refine k_I (rn_V (As := [.int s0]) (rest := []) (κ := 5) (i := 0) ⟨hx, hb, hml, hown, hts⟩ hT hW hS hl (c_X5_fits l E base M ad s0 _ hw) cy_X5_fits k_89 k_90 k_91 g_7 (by decide) rfl rfl rfl rfl ⟨(Nat.le_of_ble_eq_true rfl), (Nat.le_of_ble_eq_true rfl)⟩ rfl rfl (Nat.le_of_ble_eq_true rfl) dX5_chosen_14 ⟨(Nat.le_of_ble_eq_true rfl), (Nat.le_of_ble_eq_true rfl)⟩) hS kx_no (fun r_11 M_9 ad_10 H locs hP hW hS => ?_)
    obtain ⟨hw, rfl⟩ := hP
    refine lv_if_eq (tgt := 28) hx hb dX5_chosen_17 (by decide) (fun c_12 => ?_) (fun c_12 => ?_)
    · have hw := hw.1 c_12
      refine lv_iconst (v := 0) hx hb dX5_chosen_28 (by decide) ?_
      rw [← hQQ]
      exact e_I hx hb hr hlocks hW hS (Nat.le_of_ble_eq_true rfl) (Nat.le_of_ble_eq_true rfl) dX5_chosen_29 ⟨hw, rfl⟩
    · have hw := hw.2 c_12
      refine lv_aload_n hx hb dX5_chosen_20 rfl (lv_at hl 0 rfl) ?_
      refine lv_iload_n hx hb dX5_chosen_21 rfl (lv_at hl 1 rfl) ?_
      obtain ⟨g_13, hw⟩ := hw
      refine k_I (rn_V (As := [.int x1]) (rest := []) (κ := 5) (i := 0) ⟨hx, hb, hml, hown, hts⟩ hT hW hS hl (c_X5_choiceOf l E base M_9 ad x1 _ hw) cy_X5_choiceOf k_275 k_276 k_277 g_13 (by decide) rfl rfl rfl rfl ⟨(Nat.le_of_ble_eq_true rfl), (Nat.le_of_ble_eq_true rfl)⟩ rfl rfl (Nat.le_of_ble_eq_true rfl) dX5_chosen_22 ⟨(Nat.le_of_ble_eq_true rfl), (Nat.le_of_ble_eq_true rfl)⟩) hS kx_no (fun r_17 M_15 ad_16 H locs hP hW hS => ?_)
      obtain ⟨hw, rfl⟩ := hP
      refine lv_goto (tgt := 29) hx hb dX5_chosen_25 (by decide) ?_
      rw [← hQQ]
      exact e_I hx hb hr hlocks hW hS (Nat.le_of_ble_eq_true rfl) (Nat.le_of_ble_eq_true rfl) dX5_chosen_29 ⟨hw, rfl⟩
  unfold w_X5_chosen at hw
  obtain ⟨H, hH⟩ : ∃ z, z = s.heap := ⟨_, rfl⟩
  obtain ⟨locs, hlo⟩ : ∃ z : List Loc, z = [] := ⟨_, rfl⟩
  have hS : va_S (fun q : Nat => base ≤ q) s.heap H locs := by rw [hlo, hH]; exact hS
  have hW : Wd E base M ad H := by rw [hH]; exact hW
  rw [show W p l e rm_X5_chosen s m args below meth c s.heap [] 0 0 QQ (F0 m 0 ls []) = W p l e rm_X5_chosen s m args below meth c H locs 0 0 QQ (F0 m 0 ls []) by rw [hlo, hH]]
  refine lv_aload_n hx hb dX5_chosen_0 rfl (lv_at hl 0 rfl) ?_
  refine lv_aload_n hx hb dX5_chosen_1 rfl (lv_at hl 0 rfl) ?_
  refine lv_iload_n hx hb dX5_chosen_2 rfl (lv_at hl 1 rfl) ?_
  obtain ⟨g_1, hw⟩ := hw
  refine k_I (rn_V (As := [.int a1]) (rest := [.ref (ad 5 0)]) (κ := 5) (i := 0) ⟨hx, hb, hml, hown, hts⟩ hT hW hS hl (c_X5_isPeer l E base M ad a1 _ hw) cy_X5_isPeer k_112 k_113 k_114 g_1 (by decide) rfl rfl rfl rfl ⟨(Nat.le_of_ble_eq_true rfl), (Nat.le_of_ble_eq_true rfl)⟩ rfl rfl (Nat.le_of_ble_eq_true rfl) dX5_chosen_3 ⟨(Nat.le_of_ble_eq_true rfl), (Nat.le_of_ble_eq_true rfl)⟩) hS kx_no (fun r_5 M_3 ad_4 H locs hP hW hS => ?_)
  obtain ⟨hw, rfl⟩ := hP
  refine lv_if_eq (tgt := 13) hx hb dX5_chosen_6 (by decide) (fun c_6 => ?_) (fun c_6 => ?_)
  · have hw := hw.1 c_6
    refine lv_iconst (v := 1) hx hb dX5_chosen_13 (by decide) ?_
    exact L_14 M_3 a1 1 hw H locs ls hW hS (lv_sub hl [0, 1] rfl)
  · have hw := hw.2 c_6
    refine lv_iconst (v := 0) hx hb dX5_chosen_9 (by decide) ?_
    refine lv_goto (tgt := 14) hx hb dX5_chosen_10 (by decide) ?_
    exact L_14 M_3 a1 0 hw H locs ls hW hS (lv_sub hl [0, 1] rfl)
def rm_X4_got : Room := { frames := 7, cells := 2, slots := 12, locals := 112 }
set_option maxHeartbeats 4000000 in
set_option maxRecDepth 100000 in
theorem c_X4_got (l : Launch) (hlt : l.stackTraces = false) (E : GE) (base : Nat) (M : Mem) (ad : AD) (a1 : Int32) (a2 : Int32) (Q : Int32 → Mem → Prop) (X : Nat → Mem → Prop) (hw : w_X4_got M a1 a2 Q X) : Con l yX4_got cX4_got 3 (some .int) rm_X4_got 2 12 E base [.ref (ad 4 0), .int a1, .int a2] M ad (QcI E base (fun r M1 ad1 => Q r M1 ∧ ad = ad1)) (fun k M1 ad1 => X k M1 ∧ ad = ad1) := by
  refine con_start (by decide) (Nat.le_of_ble_eq_true rfl) ?_
  intro p e s m args below meth c ls QQ hQQ CT hnx hW hl
  obtain ⟨⟨hx, hb, hml, hown, hts⟩, hr, hlocks, hnm, hT⟩ := CT
  have hS : va_S (fun q : Nat => base ≤ q) s.heap s.heap [] := va_S.rf
  have hl : lv_has ls 3 [(0, .ref (ad 4 0)), (1, .int a1), (2, .int a2)] := hl
  unfold w_X4_got at hw
  obtain ⟨H, hH⟩ : ∃ z, z = s.heap := ⟨_, rfl⟩
  obtain ⟨locs, hlo⟩ : ∃ z : List Loc, z = [] := ⟨_, rfl⟩
  have hS : va_S (fun q : Nat => base ≤ q) s.heap H locs := by rw [hlo, hH]; exact hS
  have hW : Wd E base M ad H := by rw [hH]; exact hW
  rw [show W p l e rm_X4_got s m args below meth c s.heap [] 0 0 QQ (F0 m 0 ls []) = W p l e rm_X4_got s m args below meth c H locs 0 0 QQ (F0 m 0 ls []) by rw [hlo, hH]]
  refine lv_aload_n hx hb dX4_got_0 rfl (lv_at hl 0 rfl) ?_
  refine lv_iload_n hx hb dX4_got_1 rfl (lv_at hl 1 rfl) ?_
  obtain ⟨g_1, hw⟩ := hw
  refine k_Q (rn_V (As := [.int a1]) (rest := []) (κ := 4) (i := 0) ⟨hx, hb, hml, hown, hts⟩ hT hW hS hl (c_X4_known l hlt E base M ad a1 _ _ hw) cy_X4_known k_97 k_98 k_99 g_1 (by decide) rfl rfl rfl rfl ⟨(Nat.le_of_ble_eq_true rfl), (Nat.le_of_ble_eq_true rfl)⟩ rfl rfl (Nat.le_of_ble_eq_true rfl) dX4_got_2 ⟨(Nat.le_of_ble_eq_true rfl), (Nat.le_of_ble_eq_true rfl)⟩) hS (by rw [← hQQ]; exact kx_out hnx hlocks (Nat.le_of_ble_eq_true rfl) (Nat.le_of_ble_eq_true rfl) (fun _ _ _ h9 => h9)) (fun M_3 ad_4 H locs hP hW hS => absurd hP (fun ⟨_, h9, _⟩ => by cases h9)) (fun r_5 M_3 ad_4 H locs hP hW hS => ?_)
  obtain ⟨_, h9, hw, rfl⟩ := hP
  cases h9
  obtain ⟨g_6, hw⟩ := hw
  obtain ⟨g_7, hw⟩ := hw
  refine r_getR (κ2 := 24) (i2 := r_5) hx hb hts hown hT.1 hW clX2 8 (by decide) (hts _ k_156) (fun _ h9 => h9) 24 rfl rfl g_6 g_7 dX4_got_5 ?_
  refine lv_aload_n hx hb dX4_got_8 rfl (lv_at hl 0 rfl) ?_
  refine lv_iload_n hx hb dX4_got_9 rfl (lv_at hl 2 rfl) ?_
  obtain ⟨g_8, hw⟩ := hw
  refine k_Q (rn_V (As := [.int a2]) (rest := [.ref (ad 24 r_5)]) (κ := 4) (i := 0) ⟨hx, hb, hml, hown, hts⟩ hT hW hS hl (c_X4_known l hlt E base M_3 ad a2 _ _ hw) cy_X4_known k_97 k_98 k_99 g_8 (by decide) rfl rfl rfl rfl ⟨(Nat.le_of_ble_eq_true rfl), (Nat.le_of_ble_eq_true rfl)⟩ rfl rfl (Nat.le_of_ble_eq_true rfl) dX4_got_10 ⟨(Nat.le_of_ble_eq_true rfl), (Nat.le_of_ble_eq_true rfl)⟩) hS (by rw [← hQQ]; exact kx_out hnx hlocks (Nat.le_of_ble_eq_true rfl) (Nat.le_of_ble_eq_true rfl) (fun _ _ _ h9 => h9)) (fun M_10 ad_11 H locs hP hW hS => absurd hP (fun ⟨_, h9, _⟩ => by cases h9)) (fun r_12 M_10 ad_11 H locs hP hW hS => ?_)
  obtain ⟨_, h9, hw, rfl⟩ := hP
  cases h9
  obtain ⟨g_13, hw⟩ := hw
  refine r_getI hx hb hts hown hT.1 hW clX2 0 (by decide) (hts _ k_100) (fun _ h9 => h9) rfl g_13 dX4_got_13 ?_
  obtain ⟨g_14, hw⟩ := hw
  obtain ⟨g_15, hw⟩ := hw
  refine r_iald hx hb hT.1 hW (by decide) rfl (fun _ => rfl) 6 rfl g_15 g_14 dX4_got_16 ?_
  rw [← hQQ]
  exact e_I hx hb hr hlocks hW hS (Nat.le_of_ble_eq_true rfl) (Nat.le_of_ble_eq_true rfl) dX4_got_17 ⟨hw, rfl⟩
def rm_L_got : Room := { frames := 8, cells := 2, slots := 12, locals := 134 }
set_option maxHeartbeats 4000000 in
set_option maxRecDepth 100000 in
theorem c_L_got (l : Launch) (hlt : l.stackTraces = false) (E : GE) (base : Nat) (M : Mem) (ad : AD) (a1 : Int32) (a2 : Int32) (Q : Int32 → Mem → Prop) (hw : w_L_got M a1 a2 Q) : ConW l yL_got cL_got 5 (some .int) [(0, 10, 13, 19)] rm_L_got 2 12 E base [.ref (ad 4 0), .int a1, .int a2, .ref (ad 60 0)] M ad (QcI E base (fun r M1 ad1 => Q r M1 ∧ ad = ad1)) noX := by
  refine conW_start (by decide) (Nat.le_of_ble_eq_true rfl) ?_
  intro p e s m args below meth c ls QQ hQQ CT htab hW hl
  obtain ⟨⟨hx, hb, hml, hown, hts⟩, hr, hlocks, hnm, hT⟩ := CT
  have hS : va_S (fun q : Nat => base ≤ q) s.heap s.heap [] := va_S.rf
  have hl : lv_has ls 5 [(0, .ref (ad 4 0)), (1, .int a1), (2, .int a2), (3, .ref (ad 60 0))] := hl
  unfold w_L_got at hw
  obtain ⟨H, hH⟩ : ∃ z, z = s.heap := ⟨_, rfl⟩
  obtain ⟨locs, hlo⟩ : ∃ z : List Loc, z = [] := ⟨_, rfl⟩
  have hS : va_S (fun q : Nat => base ≤ q) s.heap H locs := by rw [hlo, hH]; exact hS
  have hW : Wd E base M ad H := by rw [hH]; exact hW
  rw [show W p l e rm_L_got s m args below meth c s.heap [] 0 0 QQ (F0 m 0 ls []) = W p l e rm_L_got s m args below meth c H locs 0 0 QQ (F0 m 0 ls []) by rw [hlo, hH]]
  refine lv_aload_n hx hb dL_got_0 rfl (lv_at hl 3 rfl) ?_
  refine lv_iconst (v := 0) hx hb dL_got_1 (by decide) ?_
  refine lv_aload_n hx hb dL_got_2 rfl (lv_at hl 0 rfl) ?_
  refine lv_iload_n hx hb dL_got_3 rfl (lv_at hl 1 rfl) ?_
  refine lv_iload_n hx hb dL_got_4 rfl (lv_at hl 2 rfl) ?_
  obtain ⟨g_1, hw⟩ := hw
  refine k_I (rn_V (As := [.int a1, .int a2]) (rest := [.int 0, .ref (ad 60 0)]) (κ := 4) (i := 0) ⟨hx, hb, hml, hown, hts⟩ hT hW hS hl (c_X4_got l hlt E base M ad a1 a2 _ _ hw) cy_X4_got k_336 k_337 k_338 g_1 (by decide) rfl rfl rfl rfl ⟨(Nat.le_of_ble_eq_true rfl), (Nat.le_of_ble_eq_true rfl)⟩ rfl rfl (Nat.le_of_ble_eq_true rfl) dL_got_5 ⟨(Nat.le_of_ble_eq_true rfl), (Nat.le_of_ble_eq_true rfl)⟩) hS (fun k9 M_2 adx q9 ce9 H locs hP hW hS hce hcv hcl => ?_) (fun r_5 M_3 ad_4 H locs hP hW hS => ?_)
  · obtain ⟨hw, rfl⟩ := hP
    obtain ⟨rfl, hw⟩ := hw
    refine vx_catch (name := exN 1) (E := exN 1) hown [] ⟨0, 10, 13, 19⟩ [] (by rw [htab]; rfl) (fun z hz => nomatch hz) rfl (by decide) (hts _ k_111) (va_Nw.use rfl (hT.2.1 _ kn_3)) hce hcv hcl ?_
    refine lv_astore (lv' := [(4, .ref q9), (0, .ref (ad 4 0)), (1, .int a1), (2, .int a2), (3, .ref (ad 60 0))]) hx hb dL_got_13 hl (by decide) rfl (fun ls hl => ?_)
    refine lv_iconst (v := 1) hx hb dL_got_15 (by decide) ?_
    rw [← hQQ]
    exact e_I hx hb hr hlocks hW hS (Nat.le_of_ble_eq_true rfl) (Nat.le_of_ble_eq_true rfl) dL_got_16 ⟨hw, rfl⟩
  · obtain ⟨hw, rfl⟩ := hP
    refine lv_i2l hx hb dL_got_8 rfl ?_
    obtain ⟨g_6, hw⟩ := hw
    obtain ⟨g_7, hw⟩ := hw
    refine r_last hx hb hT.1 hW hS (by decide) rfl (fun _ => rfl) 1 rfl g_7 g_6 dL_got_9 (fun M_8 H locs hM_8 hW hS => ?_)
    have hw := hw M_8 hM_8
    refine lv_goto (tgt := 17) hx hb dL_got_10 (by decide) ?_
    refine lv_iconst (v := 0) hx hb dL_got_17 (by decide) ?_
    rw [← hQQ]
    exact e_I hx hb hr hlocks hW hS (Nat.le_of_ble_eq_true rfl) (Nat.le_of_ble_eq_true rfl) dL_got_18 ⟨hw, rfl⟩
def rm_X5_got : Room := { frames := 2, cells := 0, slots := 0, locals := 43 }
set_option maxHeartbeats 4000000 in
set_option maxRecDepth 100000 in
theorem c_X5_got (l : Launch) (E : GE) (base : Nat) (M : Mem) (ad : AD) (a1 : Int32) (a2 : Int32) (Q : Int32 → Mem → Prop) (hw : w_X5_got M a1 a2 Q) : Con l yX5_got cX5_got 3 (some .int) rm_X5_got 0 0 E base [.ref (ad 5 0), .int a1, .int a2] M ad (QcI E base (fun r M1 ad1 => Q r M1 ∧ ad = ad1)) noX := by
  refine con_start (by decide) (Nat.le_of_ble_eq_true rfl) ?_
  intro p e s m args below meth c ls QQ hQQ CT hnx hW hl
  obtain ⟨⟨hx, hb, hml, hown, hts⟩, hr, hlocks, hnm, hT⟩ := CT
  have hS : va_S (fun q : Nat => base ≤ q) s.heap s.heap [] := va_S.rf
  have hl : lv_has ls 3 [(0, .ref (ad 5 0)), (1, .int a1), (2, .int a2)] := hl
  unfold w_X5_got at hw
  obtain ⟨H, hH⟩ : ∃ z, z = s.heap := ⟨_, rfl⟩
  obtain ⟨locs, hlo⟩ : ∃ z : List Loc, z = [] := ⟨_, rfl⟩
  have hS : va_S (fun q : Nat => base ≤ q) s.heap H locs := by rw [hlo, hH]; exact hS
  have hW : Wd E base M ad H := by rw [hH]; exact hW
  rw [show W p l e rm_X5_got s m args below meth c s.heap [] 0 0 QQ (F0 m 0 ls []) = W p l e rm_X5_got s m args below meth c H locs 0 0 QQ (F0 m 0 ls []) by rw [hlo, hH]]
  refine lv_aload_n hx hb dX5_got_0 rfl (lv_at hl 0 rfl) ?_
  refine lv_iload_n hx hb dX5_got_1 rfl (lv_at hl 1 rfl) ?_
  refine lv_iload_n hx hb dX5_got_2 rfl (lv_at hl 2 rfl) ?_
  obtain ⟨g_1, hw⟩ := hw
  refine k_I (rn_V (As := [.int a1, .int a2]) (rest := []) (κ := 5) (i := 0) ⟨hx, hb, hml, hown, hts⟩ hT hW hS hl (c_X5_arePeers l E base M ad a1 a2 _ hw) cy_X5_arePeers k_330 k_331 k_332 g_1 (by decide) rfl rfl rfl rfl ⟨(Nat.le_of_ble_eq_true rfl), (Nat.le_of_ble_eq_true rfl)⟩ rfl rfl (Nat.le_of_ble_eq_true rfl) dX5_got_3 ⟨(Nat.le_of_ble_eq_true rfl), (Nat.le_of_ble_eq_true rfl)⟩) hS kx_no (fun r_5 M_3 ad_4 H locs hP hW hS => ?_)
  obtain ⟨hw, rfl⟩ := hP
  refine lv_if_eq (tgt := 22) hx hb dX5_got_6 (by decide) (fun c_6 => ?_) (fun c_6 => ?_)
  · have hw := hw.1 c_6
    refine lv_iconst (v := 0) hx hb dX5_got_22 (by decide) ?_
    rw [← hQQ]
    exact e_I hx hb hr hlocks hW hS (Nat.le_of_ble_eq_true rfl) (Nat.le_of_ble_eq_true rfl) dX5_got_23 ⟨hw, rfl⟩
  · have hw := hw.2 c_6
    refine lv_aload_n hx hb dX5_got_9 rfl (lv_at hl 0 rfl) ?_
    obtain ⟨g_7, hw⟩ := hw
    obtain ⟨g_8, hw⟩ := hw
    refine r_getR (κ2 := 44) (i2 := 0) hx hb hts hown hT.1 hW clX5 14 (by decide) (hts _ k_26) (fun _ h9 => h9) 44 rfl rfl g_7 g_8 dX5_got_10 ?_
    refine lv_iload_n hx hb dX5_got_13 rfl (lv_at hl 1 rfl) ?_
    refine lv_iload_n hx hb dX5_got_14 rfl (lv_at hl 2 rfl) ?_
    refine k_I (rn_S (As := [.int a1, .int a2]) (rest := [.ref (ad 44 0)]) ⟨hx, hb, hml, hown, hts⟩ hT hW hS hl (c_X5_pair l E base M_3 ad a1 a2 _ hw) cy_X5_pair k_263 k_264 rfl rfl ⟨(Nat.le_of_ble_eq_true rfl), (Nat.le_of_ble_eq_true rfl)⟩ rfl rfl (Nat.le_of_ble_eq_true rfl) dX5_got_15 ⟨(Nat.le_of_ble_eq_true rfl), (Nat.le_of_ble_eq_true rfl)⟩) hS kx_no (fun r_12 M_10 ad_11 H locs hP hW hS => ?_)
    obtain ⟨hw, rfl⟩ := hP
    obtain ⟨g_13, hw⟩ := hw
    obtain ⟨g_14, hw⟩ := hw
    refine r_iald hx hb hT.1 hW (by decide) rfl (fun _ => rfl) 36 rfl g_14 g_13 dX5_got_18 ?_
    refine lv_goto (tgt := 23) hx hb dX5_got_19 (by decide) ?_
    rw [← hQQ]
    exact e_I hx hb hr hlocks hW hS (Nat.le_of_ble_eq_true rfl) (Nat.le_of_ble_eq_true rfl) dX5_got_23 ⟨hw, rfl⟩
def rm_X4_doubles : Room := { frames := 7, cells := 1, slots := 6, locals := 112 }
set_option maxHeartbeats 4000000 in
set_option maxRecDepth 100000 in
theorem c_X4_doubles (l : Launch) (hlt : l.stackTraces = false) (E : GE) (base : Nat) (M : Mem) (ad : AD) (a1 : Int32) (Q : Int32 → Mem → Prop) (X : Nat → Mem → Prop) (hw : w_X4_doubles M a1 Q X) : Con l yX4_doubles cX4_doubles 2 (some .int) rm_X4_doubles 1 6 E base [.ref (ad 4 0), .int a1] M ad (QcI E base (fun r M1 ad1 => Q r M1 ∧ ad = ad1)) (fun k M1 ad1 => X k M1 ∧ ad = ad1) := by
  refine con_start (by decide) (Nat.le_of_ble_eq_true rfl) ?_
  intro p e s m args below meth c ls QQ hQQ CT hnx hW hl
  obtain ⟨⟨hx, hb, hml, hown, hts⟩, hr, hlocks, hnm, hT⟩ := CT
  have hS : va_S (fun q : Nat => base ≤ q) s.heap s.heap [] := va_S.rf
  have hl : lv_has ls 2 [(0, .ref (ad 4 0)), (1, .int a1)] := hl
  unfold w_X4_doubles at hw
  obtain ⟨H, hH⟩ : ∃ z, z = s.heap := ⟨_, rfl⟩
  obtain ⟨locs, hlo⟩ : ∃ z : List Loc, z = [] := ⟨_, rfl⟩
  have hS : va_S (fun q : Nat => base ≤ q) s.heap H locs := by rw [hlo, hH]; exact hS
  have hW : Wd E base M ad H := by rw [hH]; exact hW
  rw [show W p l e rm_X4_doubles s m args below meth c s.heap [] 0 0 QQ (F0 m 0 ls []) = W p l e rm_X4_doubles s m args below meth c H locs 0 0 QQ (F0 m 0 ls []) by rw [hlo, hH]]
  refine lv_aload_n hx hb dX4_doubles_0 rfl (lv_at hl 0 rfl) ?_
  refine lv_iload_n hx hb dX4_doubles_1 rfl (lv_at hl 1 rfl) ?_
  obtain ⟨g_1, hw⟩ := hw
  refine k_Q (rn_V (As := [.int a1]) (rest := []) (κ := 4) (i := 0) ⟨hx, hb, hml, hown, hts⟩ hT hW hS hl (c_X4_known l hlt E base M ad a1 _ _ hw) cy_X4_known k_97 k_98 k_99 g_1 (by decide) rfl rfl rfl rfl ⟨(Nat.le_of_ble_eq_true rfl), (Nat.le_of_ble_eq_true rfl)⟩ rfl rfl (Nat.le_of_ble_eq_true rfl) dX4_doubles_2 ⟨(Nat.le_of_ble_eq_true rfl), (Nat.le_of_ble_eq_true rfl)⟩) hS (by rw [← hQQ]; exact kx_out hnx hlocks (Nat.le_of_ble_eq_true rfl) (Nat.le_of_ble_eq_true rfl) (fun _ _ _ h9 => h9)) (fun M_3 ad_4 H locs hP hW hS => absurd hP (fun ⟨_, h9, _⟩ => by cases h9)) (fun r_5 M_3 ad_4 H locs hP hW hS => ?_)
  obtain ⟨_, h9, hw, rfl⟩ := hP
  cases h9
  obtain ⟨g_6, hw⟩ := hw
  refine r_getI hx hb hts hown hT.1 hW clX2 11 (by decide) (hts _ k_214) (fun _ h9 => h9) rfl g_6 dX4_doubles_5 ?_
  rw [← hQQ]
  exact e_I hx hb hr hlocks hW hS (Nat.le_of_ble_eq_true rfl) (Nat.le_of_ble_eq_true rfl) dX4_doubles_8 ⟨hw, rfl⟩
def rm_L_doubles : Room := { frames := 8, cells := 1, slots := 6, locals := 133 }
set_option maxHeartbeats 4000000 in
set_option maxRecDepth 100000 in
theorem c_L_doubles (l : Launch) (hlt : l.stackTraces = false) (E : GE) (base : Nat) (M : Mem) (ad : AD) (a1 : Int32) (Q : Int32 → Mem → Prop) (hw : w_L_doubles M a1 Q) : ConW l yL_doubles cL_doubles 4 (some .int) [(0, 9, 12, 19)] rm_L_doubles 1 6 E base [.ref (ad 4 0), .int a1, .ref (ad 60 0)] M ad (QcI E base (fun r M1 ad1 => Q r M1 ∧ ad = ad1)) noX := by
  refine conW_start (by decide) (Nat.le_of_ble_eq_true rfl) ?_
  intro p e s m args below meth c ls QQ hQQ CT htab hW hl
  obtain ⟨⟨hx, hb, hml, hown, hts⟩, hr, hlocks, hnm, hT⟩ := CT
  have hS : va_S (fun q : Nat => base ≤ q) s.heap s.heap [] := va_S.rf
  have hl : lv_has ls 4 [(0, .ref (ad 4 0)), (1, .int a1), (2, .ref (ad 60 0))] := hl
  unfold w_L_doubles at hw
  obtain ⟨H, hH⟩ : ∃ z, z = s.heap := ⟨_, rfl⟩
  obtain ⟨locs, hlo⟩ : ∃ z : List Loc, z = [] := ⟨_, rfl⟩
  have hS : va_S (fun q : Nat => base ≤ q) s.heap H locs := by rw [hlo, hH]; exact hS
  have hW : Wd E base M ad H := by rw [hH]; exact hW
  rw [show W p l e rm_L_doubles s m args below meth c s.heap [] 0 0 QQ (F0 m 0 ls []) = W p l e rm_L_doubles s m args below meth c H locs 0 0 QQ (F0 m 0 ls []) by rw [hlo, hH]]
  refine lv_aload_n hx hb dL_doubles_0 rfl (lv_at hl 2 rfl) ?_
  refine lv_iconst (v := 0) hx hb dL_doubles_1 (by decide) ?_
  refine lv_aload_n hx hb dL_doubles_2 rfl (lv_at hl 0 rfl) ?_
  refine lv_iload_n hx hb dL_doubles_3 rfl (lv_at hl 1 rfl) ?_
  obtain ⟨g_1, hw⟩ := hw
  refine k_I (rn_V (As := [.int a1]) (rest := [.int 0, .ref (ad 60 0)]) (κ := 4) (i := 0) ⟨hx, hb, hml, hown, hts⟩ hT hW hS hl (c_X4_doubles l hlt E base M ad a1 _ _ hw) cy_X4_doubles k_339 k_340 k_341 g_1 (by decide) rfl rfl rfl rfl ⟨(Nat.le_of_ble_eq_true rfl), (Nat.le_of_ble_eq_true rfl)⟩ rfl rfl (Nat.le_of_ble_eq_true rfl) dL_doubles_4 ⟨(Nat.le_of_ble_eq_true rfl), (Nat.le_of_ble_eq_true rfl)⟩) hS (fun k9 M_2 adx q9 ce9 H locs hP hW hS hce hcv hcl => ?_) (fun r_5 M_3 ad_4 H locs hP hW hS => ?_)
  · obtain ⟨hw, rfl⟩ := hP
    obtain ⟨rfl, hw⟩ := hw
    refine vx_catch (name := exN 1) (E := exN 1) hown [] ⟨0, 9, 12, 19⟩ [] (by rw [htab]; rfl) (fun z hz => nomatch hz) rfl (by decide) (hts _ k_111) (va_Nw.use rfl (hT.2.1 _ kn_3)) hce hcv hcl ?_
    refine lv_astore_n (lv' := [(3, .ref q9), (0, .ref (ad 4 0)), (1, .int a1), (2, .ref (ad 60 0))]) hx hb dL_doubles_12 rfl hl (by decide) rfl (fun ls hl => ?_)
    refine lv_iconst (v := 1) hx hb dL_doubles_13 (by decide) ?_
    rw [← hQQ]
    exact e_I hx hb hr hlocks hW hS (Nat.le_of_ble_eq_true rfl) (Nat.le_of_ble_eq_true rfl) dL_doubles_14 ⟨hw, rfl⟩
  · obtain ⟨hw, rfl⟩ := hP
    refine lv_i2l hx hb dL_doubles_7 rfl ?_
    obtain ⟨g_6, hw⟩ := hw
    obtain ⟨g_7, hw⟩ := hw
    refine r_last hx hb hT.1 hW hS (by decide) rfl (fun _ => rfl) 1 rfl g_7 g_6 dL_doubles_8 (fun M_8 H locs hM_8 hW hS => ?_)
    have hw := hw M_8 hM_8
    refine lv_goto (tgt := 15) hx hb dL_doubles_9 (by decide) ?_
    refine lv_iconst (v := 0) hx hb dL_doubles_15 (by decide) ?_
    rw [← hQQ]
    exact e_I hx hb hr hlocks hW hS (Nat.le_of_ble_eq_true rfl) (Nat.le_of_ble_eq_true rfl) dL_doubles_16 ⟨hw, rfl⟩
def rm_X5_doubles : Room := { frames := 1, cells := 0, slots := 0, locals := 21 }
set_option maxHeartbeats 4000000 in
set_option maxRecDepth 100000 in
theorem c_X5_doubles (l : Launch) (E : GE) (base : Nat) (M : Mem) (ad : AD) (a1 : Int32) (Q : Int32 → Mem → Prop) (hw : w_X5_doubles M a1 Q) : Con l yX5_doubles cX5_doubles 2 (some .int) rm_X5_doubles 0 0 E base [.ref (ad 5 0), .int a1] M ad (QcI E base (fun r M1 ad1 => Q r M1 ∧ ad = ad1)) noX := by
  refine con_start (by decide) (Nat.le_of_ble_eq_true rfl) ?_
  intro p e s m args below meth c ls QQ hQQ CT hnx hW hl
  obtain ⟨⟨hx, hb, hml, hown, hts⟩, hr, hlocks, hnm, hT⟩ := CT
  have hS : va_S (fun q : Nat => base ≤ q) s.heap s.heap [] := va_S.rf
  have hl : lv_has ls 2 [(0, .ref (ad 5 0)), (1, .int a1)] := hl
  have L_14 : ∀ (M : Mem) (x1 : Int32) (s0 : Int32), b_X5_doubles_14 Q M x1 s0 → WL p l e rm_X5_doubles s m args below meth c QQ E base 2 M ad 14 [(0, .ref (ad 5 0)), (1, .int x1)] [.int s0, .ref (ad 5 0)] 0 0 := by
    intro M x1 s0 hw H locs ls hW hS hl
    unfold b_X5_doubles_14 at hw
    obtain ⟨g_7, hw⟩ := hw
    refine k_I (rn_V (As := [.int s0]) (rest := []) (κ := 5) (i := 0) ⟨hx, hb, hml, hown, hts⟩ hT hW hS hl (c_X5_fits l E base M ad s0 _ hw) cy_X5_fits k_89 k_90 k_91 g_7 (by decide) rfl rfl rfl rfl ⟨(Nat.le_of_ble_eq_true rfl), (Nat.le_of_ble_eq_true rfl)⟩ rfl rfl (Nat.le_of_ble_eq_true rfl) dX5_doubles_14 ⟨(Nat.le_of_ble_eq_true rfl), (Nat.le_of_ble_eq_true rfl)⟩) hS kx_no (fun r_11 M_9 ad_10 H locs hP hW hS => ?_)
    obtain ⟨hw, rfl⟩ := hP
    refine lv_if_eq (tgt := 29) hx hb dX5_doubles_17 (by decide) (fun c_12 => ?_) (fun c_12 => ?_)
    · have hw := hw.1 c_12
      refine lv_iconst (v := 0) hx hb dX5_doubles_29 (by decide) ?_
      rw [← hQQ]
      exact e_I hx hb hr hlocks hW hS (Nat.le_of_ble_eq_true rfl) (Nat.le_of_ble_eq_true rfl) dX5_doubles_30 ⟨hw, rfl⟩
    · have hw := hw.2 c_12
      refine lv_aload_n hx hb dX5_doubles_20 rfl (lv_at hl 0 rfl) ?_
      obtain ⟨g_13, hw⟩ := hw
      obtain ⟨g_14, hw⟩ := hw
      refine r_getR (κ2 := 39) (i2 := 0) hx hb hts hown hT.1 hW clX5 9 (by decide) (hts _ k_21) (fun _ h9 => h9) 39 rfl rfl g_13 g_14 dX5_doubles_21 ?_
      refine lv_iload_n hx hb dX5_doubles_24 rfl (lv_at hl 1 rfl) ?_
      obtain ⟨g_15, hw⟩ := hw
      obtain ⟨g_16, hw⟩ := hw
      refine r_iald hx hb hT.1 hW (by decide) rfl (fun _ => rfl) 6 rfl g_16 g_15 dX5_doubles_25 ?_
      refine lv_goto (tgt := 30) hx hb dX5_doubles_26 (by decide) ?_
      rw [← hQQ]
      exact e_I hx hb hr hlocks hW hS (Nat.le_of_ble_eq_true rfl) (Nat.le_of_ble_eq_true rfl) dX5_doubles_30 ⟨hw, rfl⟩
  unfold w_X5_doubles at hw
  obtain ⟨H, hH⟩ : ∃ z, z = s.heap := ⟨_, rfl⟩
  obtain ⟨locs, hlo⟩ : ∃ z : List Loc, z = [] := ⟨_, rfl⟩
  have hS : va_S (fun q : Nat => base ≤ q) s.heap H locs := by rw [hlo, hH]; exact hS
  have hW : Wd E base M ad H := by rw [hH]; exact hW
  rw [show W p l e rm_X5_doubles s m args below meth c s.heap [] 0 0 QQ (F0 m 0 ls []) = W p l e rm_X5_doubles s m args below meth c H locs 0 0 QQ (F0 m 0 ls []) by rw [hlo, hH]]
  refine lv_aload_n hx hb dX5_doubles_0 rfl (lv_at hl 0 rfl) ?_
  refine lv_aload_n hx hb dX5_doubles_1 rfl (lv_at hl 0 rfl) ?_
  refine lv_iload_n hx hb dX5_doubles_2 rfl (lv_at hl 1 rfl) ?_
  obtain ⟨g_1, hw⟩ := hw
  refine k_I (rn_V (As := [.int a1]) (rest := [.ref (ad 5 0)]) (κ := 5) (i := 0) ⟨hx, hb, hml, hown, hts⟩ hT hW hS hl (c_X5_isPeer l E base M ad a1 _ hw) cy_X5_isPeer k_112 k_113 k_114 g_1 (by decide) rfl rfl rfl rfl ⟨(Nat.le_of_ble_eq_true rfl), (Nat.le_of_ble_eq_true rfl)⟩ rfl rfl (Nat.le_of_ble_eq_true rfl) dX5_doubles_3 ⟨(Nat.le_of_ble_eq_true rfl), (Nat.le_of_ble_eq_true rfl)⟩) hS kx_no (fun r_5 M_3 ad_4 H locs hP hW hS => ?_)
  obtain ⟨hw, rfl⟩ := hP
  refine lv_if_eq (tgt := 13) hx hb dX5_doubles_6 (by decide) (fun c_6 => ?_) (fun c_6 => ?_)
  · have hw := hw.1 c_6
    refine lv_iconst (v := 1) hx hb dX5_doubles_13 (by decide) ?_
    exact L_14 M_3 a1 1 hw H locs ls hW hS (lv_sub hl [0, 1] rfl)
  · have hw := hw.2 c_6
    refine lv_iconst (v := 0) hx hb dX5_doubles_9 (by decide) ?_
    refine lv_goto (tgt := 14) hx hb dX5_doubles_10 (by decide) ?_
    exact L_14 M_3 a1 0 hw H locs ls hW hS (lv_sub hl [0, 1] rfl)
def rm_X4_strikes : Room := { frames := 7, cells := 2, slots := 12, locals := 112 }
set_option maxHeartbeats 4000000 in
set_option maxRecDepth 100000 in
theorem c_X4_strikes (l : Launch) (hlt : l.stackTraces = false) (E : GE) (base : Nat) (M : Mem) (ad : AD) (a1 : Int32) (a2 : Int32) (Q : Int32 → Mem → Prop) (X : Nat → Mem → Prop) (hw : w_X4_strikes M a1 a2 Q X) : Con l yX4_strikes cX4_strikes 3 (some .int) rm_X4_strikes 2 12 E base [.ref (ad 4 0), .int a1, .int a2] M ad (QcI E base (fun r M1 ad1 => Q r M1 ∧ ad = ad1)) (fun k M1 ad1 => X k M1 ∧ ad = ad1) := by
  refine con_start (by decide) (Nat.le_of_ble_eq_true rfl) ?_
  intro p e s m args below meth c ls QQ hQQ CT hnx hW hl
  obtain ⟨⟨hx, hb, hml, hown, hts⟩, hr, hlocks, hnm, hT⟩ := CT
  have hS : va_S (fun q : Nat => base ≤ q) s.heap s.heap [] := va_S.rf
  have hl : lv_has ls 3 [(0, .ref (ad 4 0)), (1, .int a1), (2, .int a2)] := hl
  unfold w_X4_strikes at hw
  obtain ⟨H, hH⟩ : ∃ z, z = s.heap := ⟨_, rfl⟩
  obtain ⟨locs, hlo⟩ : ∃ z : List Loc, z = [] := ⟨_, rfl⟩
  have hS : va_S (fun q : Nat => base ≤ q) s.heap H locs := by rw [hlo, hH]; exact hS
  have hW : Wd E base M ad H := by rw [hH]; exact hW
  rw [show W p l e rm_X4_strikes s m args below meth c s.heap [] 0 0 QQ (F0 m 0 ls []) = W p l e rm_X4_strikes s m args below meth c H locs 0 0 QQ (F0 m 0 ls []) by rw [hlo, hH]]
  refine lv_aload_n hx hb dX4_strikes_0 rfl (lv_at hl 0 rfl) ?_
  refine lv_iload_n hx hb dX4_strikes_1 rfl (lv_at hl 1 rfl) ?_
  obtain ⟨g_1, hw⟩ := hw
  refine k_Q (rn_V (As := [.int a1]) (rest := []) (κ := 4) (i := 0) ⟨hx, hb, hml, hown, hts⟩ hT hW hS hl (c_X4_known l hlt E base M ad a1 _ _ hw) cy_X4_known k_97 k_98 k_99 g_1 (by decide) rfl rfl rfl rfl ⟨(Nat.le_of_ble_eq_true rfl), (Nat.le_of_ble_eq_true rfl)⟩ rfl rfl (Nat.le_of_ble_eq_true rfl) dX4_strikes_2 ⟨(Nat.le_of_ble_eq_true rfl), (Nat.le_of_ble_eq_true rfl)⟩) hS (by rw [← hQQ]; exact kx_out hnx hlocks (Nat.le_of_ble_eq_true rfl) (Nat.le_of_ble_eq_true rfl) (fun _ _ _ h9 => h9)) (fun M_3 ad_4 H locs hP hW hS => absurd hP (fun ⟨_, h9, _⟩ => by cases h9)) (fun r_5 M_3 ad_4 H locs hP hW hS => ?_)
  obtain ⟨_, h9, hw, rfl⟩ := hP
  cases h9
  obtain ⟨g_6, hw⟩ := hw
  obtain ⟨g_7, hw⟩ := hw
  refine r_getR (κ2 := 25) (i2 := r_5) hx hb hts hown hT.1 hW clX2 9 (by decide) (hts _ k_342) (fun _ h9 => h9) 25 rfl rfl g_6 g_7 dX4_strikes_5 ?_
  refine lv_aload_n hx hb dX4_strikes_8 rfl (lv_at hl 0 rfl) ?_
  refine lv_iload_n hx hb dX4_strikes_9 rfl (lv_at hl 2 rfl) ?_
  obtain ⟨g_8, hw⟩ := hw
  refine k_Q (rn_V (As := [.int a2]) (rest := [.ref (ad 25 r_5)]) (κ := 4) (i := 0) ⟨hx, hb, hml, hown, hts⟩ hT hW hS hl (c_X4_known l hlt E base M_3 ad a2 _ _ hw) cy_X4_known k_97 k_98 k_99 g_8 (by decide) rfl rfl rfl rfl ⟨(Nat.le_of_ble_eq_true rfl), (Nat.le_of_ble_eq_true rfl)⟩ rfl rfl (Nat.le_of_ble_eq_true rfl) dX4_strikes_10 ⟨(Nat.le_of_ble_eq_true rfl), (Nat.le_of_ble_eq_true rfl)⟩) hS (by rw [← hQQ]; exact kx_out hnx hlocks (Nat.le_of_ble_eq_true rfl) (Nat.le_of_ble_eq_true rfl) (fun _ _ _ h9 => h9)) (fun M_10 ad_11 H locs hP hW hS => absurd hP (fun ⟨_, h9, _⟩ => by cases h9)) (fun r_12 M_10 ad_11 H locs hP hW hS => ?_)
  obtain ⟨_, h9, hw, rfl⟩ := hP
  cases h9
  obtain ⟨g_13, hw⟩ := hw
  refine r_getI hx hb hts hown hT.1 hW clX2 0 (by decide) (hts _ k_100) (fun _ h9 => h9) rfl g_13 dX4_strikes_13 ?_
  obtain ⟨g_14, hw⟩ := hw
  obtain ⟨g_15, hw⟩ := hw
  refine r_iald hx hb hT.1 hW (by decide) rfl (fun _ => rfl) 6 rfl g_15 g_14 dX4_strikes_16 ?_
  rw [← hQQ]
  exact e_I hx hb hr hlocks hW hS (Nat.le_of_ble_eq_true rfl) (Nat.le_of_ble_eq_true rfl) dX4_strikes_17 ⟨hw, rfl⟩
def rm_L_strikes : Room := { frames := 8, cells := 2, slots := 12, locals := 134 }
set_option maxHeartbeats 4000000 in
set_option maxRecDepth 100000 in
theorem c_L_strikes (l : Launch) (hlt : l.stackTraces = false) (E : GE) (base : Nat) (M : Mem) (ad : AD) (a1 : Int32) (a2 : Int32) (Q : Int32 → Mem → Prop) (hw : w_L_strikes M a1 a2 Q) : ConW l yL_strikes cL_strikes 5 (some .int) [(0, 10, 13, 19)] rm_L_strikes 2 12 E base [.ref (ad 4 0), .int a1, .int a2, .ref (ad 60 0)] M ad (QcI E base (fun r M1 ad1 => Q r M1 ∧ ad = ad1)) noX := by
  refine conW_start (by decide) (Nat.le_of_ble_eq_true rfl) ?_
  intro p e s m args below meth c ls QQ hQQ CT htab hW hl
  obtain ⟨⟨hx, hb, hml, hown, hts⟩, hr, hlocks, hnm, hT⟩ := CT
  have hS : va_S (fun q : Nat => base ≤ q) s.heap s.heap [] := va_S.rf
  have hl : lv_has ls 5 [(0, .ref (ad 4 0)), (1, .int a1), (2, .int a2), (3, .ref (ad 60 0))] := hl
  unfold w_L_strikes at hw
  obtain ⟨H, hH⟩ : ∃ z, z = s.heap := ⟨_, rfl⟩
  obtain ⟨locs, hlo⟩ : ∃ z : List Loc, z = [] := ⟨_, rfl⟩
  have hS : va_S (fun q : Nat => base ≤ q) s.heap H locs := by rw [hlo, hH]; exact hS
  have hW : Wd E base M ad H := by rw [hH]; exact hW
  rw [show W p l e rm_L_strikes s m args below meth c s.heap [] 0 0 QQ (F0 m 0 ls []) = W p l e rm_L_strikes s m args below meth c H locs 0 0 QQ (F0 m 0 ls []) by rw [hlo, hH]]
  refine lv_aload_n hx hb dL_strikes_0 rfl (lv_at hl 3 rfl) ?_
  refine lv_iconst (v := 0) hx hb dL_strikes_1 (by decide) ?_
  refine lv_aload_n hx hb dL_strikes_2 rfl (lv_at hl 0 rfl) ?_
  refine lv_iload_n hx hb dL_strikes_3 rfl (lv_at hl 1 rfl) ?_
  refine lv_iload_n hx hb dL_strikes_4 rfl (lv_at hl 2 rfl) ?_
  obtain ⟨g_1, hw⟩ := hw
  refine k_I (rn_V (As := [.int a1, .int a2]) (rest := [.int 0, .ref (ad 60 0)]) (κ := 4) (i := 0) ⟨hx, hb, hml, hown, hts⟩ hT hW hS hl (c_X4_strikes l hlt E base M ad a1 a2 _ _ hw) cy_X4_strikes k_343 k_344 k_345 g_1 (by decide) rfl rfl rfl rfl ⟨(Nat.le_of_ble_eq_true rfl), (Nat.le_of_ble_eq_true rfl)⟩ rfl rfl (Nat.le_of_ble_eq_true rfl) dL_strikes_5 ⟨(Nat.le_of_ble_eq_true rfl), (Nat.le_of_ble_eq_true rfl)⟩) hS (fun k9 M_2 adx q9 ce9 H locs hP hW hS hce hcv hcl => ?_) (fun r_5 M_3 ad_4 H locs hP hW hS => ?_)
  · obtain ⟨hw, rfl⟩ := hP
    obtain ⟨rfl, hw⟩ := hw
    refine vx_catch (name := exN 1) (E := exN 1) hown [] ⟨0, 10, 13, 19⟩ [] (by rw [htab]; rfl) (fun z hz => nomatch hz) rfl (by decide) (hts _ k_111) (va_Nw.use rfl (hT.2.1 _ kn_3)) hce hcv hcl ?_
    refine lv_astore (lv' := [(4, .ref q9), (0, .ref (ad 4 0)), (1, .int a1), (2, .int a2), (3, .ref (ad 60 0))]) hx hb dL_strikes_13 hl (by decide) rfl (fun ls hl => ?_)
    refine lv_iconst (v := 1) hx hb dL_strikes_15 (by decide) ?_
    rw [← hQQ]
    exact e_I hx hb hr hlocks hW hS (Nat.le_of_ble_eq_true rfl) (Nat.le_of_ble_eq_true rfl) dL_strikes_16 ⟨hw, rfl⟩
  · obtain ⟨hw, rfl⟩ := hP
    refine lv_i2l hx hb dL_strikes_8 rfl ?_
    obtain ⟨g_6, hw⟩ := hw
    obtain ⟨g_7, hw⟩ := hw
    refine r_last hx hb hT.1 hW hS (by decide) rfl (fun _ => rfl) 1 rfl g_7 g_6 dL_strikes_9 (fun M_8 H locs hM_8 hW hS => ?_)
    have hw := hw M_8 hM_8
    refine lv_goto (tgt := 17) hx hb dL_strikes_10 (by decide) ?_
    refine lv_iconst (v := 0) hx hb dL_strikes_17 (by decide) ?_
    rw [← hQQ]
    exact e_I hx hb hr hlocks hW hS (Nat.le_of_ble_eq_true rfl) (Nat.le_of_ble_eq_true rfl) dL_strikes_18 ⟨hw, rfl⟩
def rm_X5_strikes : Room := { frames := 2, cells := 0, slots := 0, locals := 43 }
set_option maxHeartbeats 4000000 in
set_option maxRecDepth 100000 in
theorem c_X5_strikes (l : Launch) (E : GE) (base : Nat) (M : Mem) (ad : AD) (a1 : Int32) (a2 : Int32) (Q : Int32 → Mem → Prop) (hw : w_X5_strikes M a1 a2 Q) : Con l yX5_strikes cX5_strikes 3 (some .int) rm_X5_strikes 0 0 E base [.ref (ad 5 0), .int a1, .int a2] M ad (QcI E base (fun r M1 ad1 => Q r M1 ∧ ad = ad1)) noX := by
  refine con_start (by decide) (Nat.le_of_ble_eq_true rfl) ?_
  intro p e s m args below meth c ls QQ hQQ CT hnx hW hl
  obtain ⟨⟨hx, hb, hml, hown, hts⟩, hr, hlocks, hnm, hT⟩ := CT
  have hS : va_S (fun q : Nat => base ≤ q) s.heap s.heap [] := va_S.rf
  have hl : lv_has ls 3 [(0, .ref (ad 5 0)), (1, .int a1), (2, .int a2)] := hl
  unfold w_X5_strikes at hw
  obtain ⟨H, hH⟩ : ∃ z, z = s.heap := ⟨_, rfl⟩
  obtain ⟨locs, hlo⟩ : ∃ z : List Loc, z = [] := ⟨_, rfl⟩
  have hS : va_S (fun q : Nat => base ≤ q) s.heap H locs := by rw [hlo, hH]; exact hS
  have hW : Wd E base M ad H := by rw [hH]; exact hW
  rw [show W p l e rm_X5_strikes s m args below meth c s.heap [] 0 0 QQ (F0 m 0 ls []) = W p l e rm_X5_strikes s m args below meth c H locs 0 0 QQ (F0 m 0 ls []) by rw [hlo, hH]]
  refine lv_aload_n hx hb dX5_strikes_0 rfl (lv_at hl 0 rfl) ?_
  refine lv_iload_n hx hb dX5_strikes_1 rfl (lv_at hl 1 rfl) ?_
  refine lv_iload_n hx hb dX5_strikes_2 rfl (lv_at hl 2 rfl) ?_
  obtain ⟨g_1, hw⟩ := hw
  refine k_I (rn_V (As := [.int a1, .int a2]) (rest := []) (κ := 5) (i := 0) ⟨hx, hb, hml, hown, hts⟩ hT hW hS hl (c_X5_arePeers l E base M ad a1 a2 _ hw) cy_X5_arePeers k_330 k_331 k_332 g_1 (by decide) rfl rfl rfl rfl ⟨(Nat.le_of_ble_eq_true rfl), (Nat.le_of_ble_eq_true rfl)⟩ rfl rfl (Nat.le_of_ble_eq_true rfl) dX5_strikes_3 ⟨(Nat.le_of_ble_eq_true rfl), (Nat.le_of_ble_eq_true rfl)⟩) hS kx_no (fun r_5 M_3 ad_4 H locs hP hW hS => ?_)
  obtain ⟨hw, rfl⟩ := hP
  refine lv_if_eq (tgt := 22) hx hb dX5_strikes_6 (by decide) (fun c_6 => ?_) (fun c_6 => ?_)
  · have hw := hw.1 c_6
    refine lv_iconst (v := 0) hx hb dX5_strikes_22 (by decide) ?_
    rw [← hQQ]
    exact e_I hx hb hr hlocks hW hS (Nat.le_of_ble_eq_true rfl) (Nat.le_of_ble_eq_true rfl) dX5_strikes_23 ⟨hw, rfl⟩
  · have hw := hw.2 c_6
    refine lv_aload_n hx hb dX5_strikes_9 rfl (lv_at hl 0 rfl) ?_
    obtain ⟨g_7, hw⟩ := hw
    obtain ⟨g_8, hw⟩ := hw
    refine r_getR (κ2 := 45) (i2 := 0) hx hb hts hown hT.1 hW clX5 15 (by decide) (hts _ k_27) (fun _ h9 => h9) 45 rfl rfl g_7 g_8 dX5_strikes_10 ?_
    refine lv_iload_n hx hb dX5_strikes_13 rfl (lv_at hl 1 rfl) ?_
    refine lv_iload_n hx hb dX5_strikes_14 rfl (lv_at hl 2 rfl) ?_
    refine k_I (rn_S (As := [.int a1, .int a2]) (rest := [.ref (ad 45 0)]) ⟨hx, hb, hml, hown, hts⟩ hT hW hS hl (c_X5_pair l E base M_3 ad a1 a2 _ hw) cy_X5_pair k_263 k_264 rfl rfl ⟨(Nat.le_of_ble_eq_true rfl), (Nat.le_of_ble_eq_true rfl)⟩ rfl rfl (Nat.le_of_ble_eq_true rfl) dX5_strikes_15 ⟨(Nat.le_of_ble_eq_true rfl), (Nat.le_of_ble_eq_true rfl)⟩) hS kx_no (fun r_12 M_10 ad_11 H locs hP hW hS => ?_)
    obtain ⟨hw, rfl⟩ := hP
    obtain ⟨g_13, hw⟩ := hw
    obtain ⟨g_14, hw⟩ := hw
    refine r_iald hx hb hT.1 hW (by decide) rfl (fun _ => rfl) 36 rfl g_14 g_13 dX5_strikes_18 ?_
    refine lv_goto (tgt := 23) hx hb dX5_strikes_19 (by decide) ?_
    rw [← hQQ]
    exact e_I hx hb hr hlocks hW hS (Nat.le_of_ble_eq_true rfl) (Nat.le_of_ble_eq_true rfl) dX5_strikes_23 ⟨hw, rfl⟩
def rm_X4_isBanned : Room := { frames := 7, cells := 2, slots := 12, locals := 112 }
set_option maxHeartbeats 4000000 in
set_option maxRecDepth 100000 in
theorem c_X4_isBanned (l : Launch) (hlt : l.stackTraces = false) (E : GE) (base : Nat) (M : Mem) (ad : AD) (a1 : Int32) (a2 : Int32) (Q : Int32 → Mem → Prop) (X : Nat → Mem → Prop) (hw : w_X4_isBanned M a1 a2 Q X) : Con l yX4_isBanned cX4_isBanned 3 (some .boolean) rm_X4_isBanned 2 12 E base [.ref (ad 4 0), .int a1, .int a2] M ad (QcI E base (fun r M1 ad1 => Q r M1 ∧ ad = ad1)) (fun k M1 ad1 => X k M1 ∧ ad = ad1) := by
  refine con_start (by decide) (Nat.le_of_ble_eq_true rfl) ?_
  intro p e s m args below meth c ls QQ hQQ CT hnx hW hl
  obtain ⟨⟨hx, hb, hml, hown, hts⟩, hr, hlocks, hnm, hT⟩ := CT
  have hS : va_S (fun q : Nat => base ≤ q) s.heap s.heap [] := va_S.rf
  have hl : lv_has ls 3 [(0, .ref (ad 4 0)), (1, .int a1), (2, .int a2)] := hl
  unfold w_X4_isBanned at hw
  obtain ⟨H, hH⟩ : ∃ z, z = s.heap := ⟨_, rfl⟩
  obtain ⟨locs, hlo⟩ : ∃ z : List Loc, z = [] := ⟨_, rfl⟩
  have hS : va_S (fun q : Nat => base ≤ q) s.heap H locs := by rw [hlo, hH]; exact hS
  have hW : Wd E base M ad H := by rw [hH]; exact hW
  rw [show W p l e rm_X4_isBanned s m args below meth c s.heap [] 0 0 QQ (F0 m 0 ls []) = W p l e rm_X4_isBanned s m args below meth c H locs 0 0 QQ (F0 m 0 ls []) by rw [hlo, hH]]
  refine lv_aload_n hx hb dX4_isBanned_0 rfl (lv_at hl 0 rfl) ?_
  refine lv_iload_n hx hb dX4_isBanned_1 rfl (lv_at hl 1 rfl) ?_
  obtain ⟨g_1, hw⟩ := hw
  refine k_Q (rn_V (As := [.int a1]) (rest := []) (κ := 4) (i := 0) ⟨hx, hb, hml, hown, hts⟩ hT hW hS hl (c_X4_known l hlt E base M ad a1 _ _ hw) cy_X4_known k_97 k_98 k_99 g_1 (by decide) rfl rfl rfl rfl ⟨(Nat.le_of_ble_eq_true rfl), (Nat.le_of_ble_eq_true rfl)⟩ rfl rfl (Nat.le_of_ble_eq_true rfl) dX4_isBanned_2 ⟨(Nat.le_of_ble_eq_true rfl), (Nat.le_of_ble_eq_true rfl)⟩) hS (by rw [← hQQ]; exact kx_out hnx hlocks (Nat.le_of_ble_eq_true rfl) (Nat.le_of_ble_eq_true rfl) (fun _ _ _ h9 => h9)) (fun M_3 ad_4 H locs hP hW hS => absurd hP (fun ⟨_, h9, _⟩ => by cases h9)) (fun r_5 M_3 ad_4 H locs hP hW hS => ?_)
  obtain ⟨_, h9, hw, rfl⟩ := hP
  cases h9
  obtain ⟨g_6, hw⟩ := hw
  refine r_getI hx hb hts hown hT.1 hW clX2 10 (by decide) (hts _ k_152) (fun _ h9 => h9) rfl g_6 dX4_isBanned_5 ?_
  refine lv_i2l hx hb dX4_isBanned_8 rfl ?_
  refine lv_aload_n hx hb dX4_isBanned_9 rfl (lv_at hl 0 rfl) ?_
  refine lv_iload_n hx hb dX4_isBanned_10 rfl (lv_at hl 2 rfl) ?_
  obtain ⟨g_7, hw⟩ := hw
  refine k_Q (rn_V (As := [.int a2]) (rest := [.long ((mI M_3 2 r_5 10).toInt64)]) (κ := 4) (i := 0) ⟨hx, hb, hml, hown, hts⟩ hT hW hS hl (c_X4_known l hlt E base M_3 ad a2 _ _ hw) cy_X4_known k_97 k_98 k_99 g_7 (by decide) rfl rfl rfl rfl ⟨(Nat.le_of_ble_eq_true rfl), (Nat.le_of_ble_eq_true rfl)⟩ rfl rfl (Nat.le_of_ble_eq_true rfl) dX4_isBanned_11 ⟨(Nat.le_of_ble_eq_true rfl), (Nat.le_of_ble_eq_true rfl)⟩) hS (by rw [← hQQ]; exact kx_out hnx hlocks (Nat.le_of_ble_eq_true rfl) (Nat.le_of_ble_eq_true rfl) (fun _ _ _ h9 => h9)) (fun M_9 ad_10 H locs hP hW hS => absurd hP (fun ⟨_, h9, _⟩ => by cases h9)) (fun r_11 M_9 ad_10 H locs hP hW hS => ?_)
  obtain ⟨_, h9, hw, rfl⟩ := hP
  cases h9
  obtain ⟨g_12, hw⟩ := hw
  refine r_getI hx hb hts hown hT.1 hW clX2 0 (by decide) (hts _ k_100) (fun _ h9 => h9) rfl g_12 dX4_isBanned_14 ?_
  refine k_I (rn_S (As := [.long ((mI M_3 2 r_5 10).toInt64), .int (mI M_9 2 r_11 0)]) (rest := []) ⟨hx, hb, hml, hown, hts⟩ hT hW hS hl (c_X4_isIn l E base M_9 ad ((mI M_3 2 r_5 10).toInt64) (mI M_9 2 r_11 0) _ hw) cy_X4_isIn k_136 k_137 rfl rfl ⟨(Nat.le_of_ble_eq_true rfl), (Nat.le_of_ble_eq_true rfl)⟩ rfl rfl (Nat.le_of_ble_eq_true rfl) dX4_isBanned_17 ⟨(Nat.le_of_ble_eq_true rfl), (Nat.le_of_ble_eq_true rfl)⟩) hS kx_no (fun r_16 M_14 ad_15 H locs hP hW hS => ?_)
  obtain ⟨hw, rfl⟩ := hP
  obtain ⟨g_17, hw⟩ := hw
  rw [← hQQ]
  exact e_Z hx hb hr hlocks hW hS (Nat.le_of_ble_eq_true rfl) (Nat.le_of_ble_eq_true rfl) dX4_isBanned_20 g_17 ⟨hw, rfl⟩
def rm_L_isBanned : Room := { frames := 8, cells := 2, slots := 12, locals := 134 }
set_option maxHeartbeats 4000000 in
set_option maxRecDepth 100000 in
theorem c_L_isBanned (l : Launch) (hlt : l.stackTraces = false) (E : GE) (base : Nat) (M : Mem) (ad : AD) (a1 : Int32) (a2 : Int32) (Q : Int32 → Mem → Prop) (hw : w_L_isBanned M a1 a2 Q) : ConW l yL_isBanned cL_isBanned 5 (some .int) [(0, 17, 20, 19)] rm_L_isBanned 2 12 E base [.ref (ad 4 0), .int a1, .int a2, .ref (ad 60 0)] M ad (QcI E base (fun r M1 ad1 => Q r M1 ∧ ad = ad1)) noX := by
  refine conW_start (by decide) (Nat.le_of_ble_eq_true rfl) ?_
  intro p e s m args below meth c ls QQ hQQ CT htab hW hl
  obtain ⟨⟨hx, hb, hml, hown, hts⟩, hr, hlocks, hnm, hT⟩ := CT
  have hS : va_S (fun q : Nat => base ≤ q) s.heap s.heap [] := va_S.rf
  have hl : lv_has ls 5 [(0, .ref (ad 4 0)), (1, .int a1), (2, .int a2), (3, .ref (ad 60 0))] := hl
  have L_16 : ∀ (M : Mem) (s0 : Int64) (s1 : Int32), b_L_isBanned_16 Q M s0 s1 → WL p l e rm_L_isBanned s m args below meth c QQ E base 5 M ad 16 [] [.long s0, .int s1, .ref (ad 60 0)] 2 12 := by
    intro M s0 s1 hw H locs ls hW hS hl
    unfold b_L_isBanned_16 at hw
    obtain ⟨g_7, hw⟩ := hw
    obtain ⟨g_8, hw⟩ := hw
    refine r_last hx hb hT.1 hW hS (by decide) rfl (fun _ => rfl) 1 rfl g_8 g_7 dL_isBanned_16 (fun M_9 H locs hM_9 hW hS => ?_)
    have hw := hw M_9 hM_9
    refine lv_goto (tgt := 24) hx hb dL_isBanned_17 (by decide) ?_
    refine lv_iconst (v := 0) hx hb dL_isBanned_24 (by decide) ?_
    rw [← hQQ]
    exact e_I hx hb hr hlocks hW hS (Nat.le_of_ble_eq_true rfl) (Nat.le_of_ble_eq_true rfl) dL_isBanned_25 ⟨hw, rfl⟩
  unfold w_L_isBanned at hw
  obtain ⟨H, hH⟩ : ∃ z, z = s.heap := ⟨_, rfl⟩
  obtain ⟨locs, hlo⟩ : ∃ z : List Loc, z = [] := ⟨_, rfl⟩
  have hS : va_S (fun q : Nat => base ≤ q) s.heap H locs := by rw [hlo, hH]; exact hS
  have hW : Wd E base M ad H := by rw [hH]; exact hW
  rw [show W p l e rm_L_isBanned s m args below meth c s.heap [] 0 0 QQ (F0 m 0 ls []) = W p l e rm_L_isBanned s m args below meth c H locs 0 0 QQ (F0 m 0 ls []) by rw [hlo, hH]]
  refine lv_aload_n hx hb dL_isBanned_0 rfl (lv_at hl 3 rfl) ?_
  refine lv_iconst (v := 0) hx hb dL_isBanned_1 (by decide) ?_
  refine lv_aload_n hx hb dL_isBanned_2 rfl (lv_at hl 0 rfl) ?_
  refine lv_iload_n hx hb dL_isBanned_3 rfl (lv_at hl 1 rfl) ?_
  refine lv_iload_n hx hb dL_isBanned_4 rfl (lv_at hl 2 rfl) ?_
  obtain ⟨g_1, hw⟩ := hw
  refine k_I (rn_V (As := [.int a1, .int a2]) (rest := [.int 0, .ref (ad 60 0)]) (κ := 4) (i := 0) ⟨hx, hb, hml, hown, hts⟩ hT hW hS hl (c_X4_isBanned l hlt E base M ad a1 a2 _ _ hw) cy_X4_isBanned k_346 k_347 k_348 g_1 (by decide) rfl rfl rfl rfl ⟨(Nat.le_of_ble_eq_true rfl), (Nat.le_of_ble_eq_true rfl)⟩ rfl rfl (Nat.le_of_ble_eq_true rfl) dL_isBanned_5 ⟨(Nat.le_of_ble_eq_true rfl), (Nat.le_of_ble_eq_true rfl)⟩) hS (fun k9 M_2 adx q9 ce9 H locs hP hW hS hce hcv hcl => ?_) (fun r_5 M_3 ad_4 H locs hP hW hS => ?_)
  · obtain ⟨hw, rfl⟩ := hP
    obtain ⟨rfl, hw⟩ := hw
    refine vx_catch (name := exN 1) (E := exN 1) hown [] ⟨0, 17, 20, 19⟩ [] (by rw [htab]; rfl) (fun z hz => nomatch hz) rfl (by decide) (hts _ k_111) (va_Nw.use rfl (hT.2.1 _ kn_3)) hce hcv hcl ?_
    refine lv_astore (lv' := [(4, .ref q9), (0, .ref (ad 4 0)), (1, .int a1), (2, .int a2), (3, .ref (ad 60 0))]) hx hb dL_isBanned_20 hl (by decide) rfl (fun ls hl => ?_)
    refine lv_iconst (v := 1) hx hb dL_isBanned_22 (by decide) ?_
    rw [← hQQ]
    exact e_I hx hb hr hlocks hW hS (Nat.le_of_ble_eq_true rfl) (Nat.le_of_ble_eq_true rfl) dL_isBanned_23 ⟨hw, rfl⟩
  · obtain ⟨hw, rfl⟩ := hP
    refine lv_if_eq (tgt := 15) hx hb dL_isBanned_8 (by decide) (fun c_6 => ?_) (fun c_6 => ?_)
    · have hw := hw.1 c_6
      refine lv_lconst (v := 0) hx hb dL_isBanned_15 (by decide) ?_
      exact L_16 M_3 0 0 hw H locs ls hW hS (lv_sub hl [] rfl)
    · have hw := hw.2 c_6
      refine lv_lconst (v := 1) hx hb dL_isBanned_11 (by decide) ?_
      refine lv_goto (tgt := 16) hx hb dL_isBanned_12 (by decide) ?_
      exact L_16 M_3 1 0 hw H locs ls hW hS (lv_sub hl [] rfl)
def rm_X5_isBanned : Room := { frames := 2, cells := 0, slots := 0, locals := 43 }
set_option maxHeartbeats 4000000 in
set_option maxRecDepth 100000 in
theorem c_X5_isBanned (l : Launch) (E : GE) (base : Nat) (M : Mem) (ad : AD) (a1 : Int32) (a2 : Int32) (Q : Int32 → Mem → Prop) (hw : w_X5_isBanned M a1 a2 Q) : Con l yX5_isBanned cX5_isBanned 3 (some .boolean) rm_X5_isBanned 0 0 E base [.ref (ad 5 0), .int a1, .int a2] M ad (QcI E base (fun r M1 ad1 => Q r M1 ∧ ad = ad1)) noX := by
  refine con_start (by decide) (Nat.le_of_ble_eq_true rfl) ?_
  intro p e s m args below meth c ls QQ hQQ CT hnx hW hl
  obtain ⟨⟨hx, hb, hml, hown, hts⟩, hr, hlocks, hnm, hT⟩ := CT
  have hS : va_S (fun q : Nat => base ≤ q) s.heap s.heap [] := va_S.rf
  have hl : lv_has ls 3 [(0, .ref (ad 5 0)), (1, .int a1), (2, .int a2)] := hl
  unfold w_X5_isBanned at hw
  obtain ⟨H, hH⟩ : ∃ z, z = s.heap := ⟨_, rfl⟩
  obtain ⟨locs, hlo⟩ : ∃ z : List Loc, z = [] := ⟨_, rfl⟩
  have hS : va_S (fun q : Nat => base ≤ q) s.heap H locs := by rw [hlo, hH]; exact hS
  have hW : Wd E base M ad H := by rw [hH]; exact hW
  rw [show W p l e rm_X5_isBanned s m args below meth c s.heap [] 0 0 QQ (F0 m 0 ls []) = W p l e rm_X5_isBanned s m args below meth c H locs 0 0 QQ (F0 m 0 ls []) by rw [hlo, hH]]
  refine lv_aload_n hx hb dX5_isBanned_0 rfl (lv_at hl 0 rfl) ?_
  refine lv_iload_n hx hb dX5_isBanned_1 rfl (lv_at hl 1 rfl) ?_
  refine lv_iload_n hx hb dX5_isBanned_2 rfl (lv_at hl 2 rfl) ?_
  obtain ⟨g_1, hw⟩ := hw
  refine k_I (rn_V (As := [.int a1, .int a2]) (rest := []) (κ := 5) (i := 0) ⟨hx, hb, hml, hown, hts⟩ hT hW hS hl (c_X5_arePeers l E base M ad a1 a2 _ hw) cy_X5_arePeers k_330 k_331 k_332 g_1 (by decide) rfl rfl rfl rfl ⟨(Nat.le_of_ble_eq_true rfl), (Nat.le_of_ble_eq_true rfl)⟩ rfl rfl (Nat.le_of_ble_eq_true rfl) dX5_isBanned_3 ⟨(Nat.le_of_ble_eq_true rfl), (Nat.le_of_ble_eq_true rfl)⟩) hS kx_no (fun r_5 M_3 ad_4 H locs hP hW hS => ?_)
  obtain ⟨hw, rfl⟩ := hP
  refine lv_if_eq (tgt := 26) hx hb dX5_isBanned_6 (by decide) (fun c_6 => ?_) (fun c_6 => ?_)
  · have hw := hw.1 c_6
    refine lv_iconst (v := 0) hx hb dX5_isBanned_26 (by decide) ?_
    rw [← hQQ]
    exact e_Z hx hb hr hlocks hW hS (Nat.le_of_ble_eq_true rfl) (Nat.le_of_ble_eq_true rfl) dX5_isBanned_27 (by decide) ⟨hw, rfl⟩
  · have hw := hw.2 c_6
    refine lv_aload_n hx hb dX5_isBanned_9 rfl (lv_at hl 0 rfl) ?_
    obtain ⟨g_7, hw⟩ := hw
    obtain ⟨g_8, hw⟩ := hw
    refine r_getR (κ2 := 46) (i2 := 0) hx hb hts hown hT.1 hW clX5 16 (by decide) (hts _ k_28) (fun _ h9 => h9) 46 rfl rfl g_7 g_8 dX5_isBanned_10 ?_
    refine lv_iload_n hx hb dX5_isBanned_13 rfl (lv_at hl 1 rfl) ?_
    refine lv_iload_n hx hb dX5_isBanned_14 rfl (lv_at hl 2 rfl) ?_
    refine k_I (rn_S (As := [.int a1, .int a2]) (rest := [.ref (ad 46 0)]) ⟨hx, hb, hml, hown, hts⟩ hT hW hS hl (c_X5_pair l E base M_3 ad a1 a2 _ hw) cy_X5_pair k_263 k_264 rfl rfl ⟨(Nat.le_of_ble_eq_true rfl), (Nat.le_of_ble_eq_true rfl)⟩ rfl rfl (Nat.le_of_ble_eq_true rfl) dX5_isBanned_15 ⟨(Nat.le_of_ble_eq_true rfl), (Nat.le_of_ble_eq_true rfl)⟩) hS kx_no (fun r_12 M_10 ad_11 H locs hP hW hS => ?_)
    obtain ⟨hw, rfl⟩ := hP
    obtain ⟨g_13, hw⟩ := hw
    obtain ⟨g_14, hw⟩ := hw
    refine r_zald hx hb hT.1 hW (by decide) rfl (fun _ => rfl) 36 rfl g_14 g_13 dX5_isBanned_18 ?_
    refine lv_if_eq (tgt := 26) hx hb dX5_isBanned_19 (by decide) (fun c_15 => ?_) (fun c_15 => ?_)
    · have hw := hw.1 c_15
      refine lv_iconst (v := 0) hx hb dX5_isBanned_26 (by decide) ?_
      rw [← hQQ]
      exact e_Z hx hb hr hlocks hW hS (Nat.le_of_ble_eq_true rfl) (Nat.le_of_ble_eq_true rfl) dX5_isBanned_27 (by decide) ⟨hw, rfl⟩
    · have hw := hw.2 c_15
      refine lv_iconst (v := 1) hx hb dX5_isBanned_22 (by decide) ?_
      refine lv_goto (tgt := 27) hx hb dX5_isBanned_23 (by decide) ?_
      rw [← hQQ]
      exact e_Z hx hb hr hlocks hW hS (Nat.le_of_ble_eq_true rfl) (Nat.le_of_ble_eq_true rfl) dX5_isBanned_27 (by decide) ⟨hw, rfl⟩
