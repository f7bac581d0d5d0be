def rm_L_setPriority : Room := { frames := 8, cells := 2, slots := 12, locals := 133 }
set_option maxHeartbeats 4000000 in
set_option maxRecDepth 100000 in
theorem c_L_setPriority (l : Launch) (hlt : l.stackTraces = false) (E : GE) (base : Nat) (M : Mem) (ad : AD) (a1 : Int32) (a2 : Int32) (Q : Int32 → Mem → Prop) (hw : w_L_setPriority M a1 a2 Q) : ConW l yL_setPriority cL_setPriority 5 (some .int) [(0, 10, 13, 19), (0, 10, 17, 25)] rm_L_setPriority 2 12 E base [.ref (ad 4 0), .int a1, .int a2, .ref (ad 60 0)] M ad (QcI E base (fun r M1 ad1 => Q r M1 ∧ ad = ad1)) noX := by
  refine conW_start (by decide) (Nat.le_of_ble_eq_true rfl) ?_
  intro p e s m args below meth c ls QQ hQQ CT htab hW hl
  obtain ⟨⟨hx, hb, hml, hown, hts⟩, hr, hlocks, hnm, hT⟩ := CT
  have hS : va_S (fun q : Nat => base ≤ q) s.heap s.heap [] := va_S.rf
  have hl : lv_has ls 5 [(0, .ref (ad 4 0)), (1, .int a1), (2, .int a2), (3, .ref (ad 60 0))] := hl
  unfold w_L_setPriority at hw
  obtain ⟨H, hH⟩ : ∃ z, z = s.heap := ⟨_, rfl⟩
  obtain ⟨locs, hlo⟩ : ∃ z : List Loc, z = [] := ⟨_, rfl⟩
  have hS : va_S (fun q : Nat => base ≤ q) s.heap H locs := by rw [hlo, hH]; exact hS
  have hW : Wd E base M ad H := by rw [hH]; exact hW
  rw [show W p l e rm_L_setPriority s m args below meth c s.heap [] 0 0 QQ (F0 m 0 ls []) = W p l e rm_L_setPriority s m args below meth c H locs 0 0 QQ (F0 m 0 ls []) by rw [hlo, hH]]
  refine lv_aload_n hx hb dL_setPriority_0 rfl (lv_at hl 3 rfl) ?_
  refine lv_iconst (v := 0) hx hb dL_setPriority_1 (by decide) ?_
  refine lv_aload_n hx hb dL_setPriority_2 rfl (lv_at hl 0 rfl) ?_
  refine lv_iload_n hx hb dL_setPriority_3 rfl (lv_at hl 1 rfl) ?_
  refine lv_iload_n hx hb dL_setPriority_4 rfl (lv_at hl 2 rfl) ?_
  obtain ⟨g_1, hw⟩ := hw
  refine k_I (rn_V (As := [.int a1, .int a2]) (rest := [.int 0, .ref (ad 60 0)]) (κ := 4) (i := 0) ⟨hx, hb, hml, hown, hts⟩ hT hW hS hl (c_X4_setPriority l hlt E base M ad a1 a2 _ _ hw) cy_X4_setPriority k_121 k_122 k_123 g_1 (by decide) rfl rfl rfl rfl ⟨(Nat.le_of_ble_eq_true rfl), (Nat.le_of_ble_eq_true rfl)⟩ rfl rfl (Nat.le_of_ble_eq_true rfl) dL_setPriority_5 ⟨(Nat.le_of_ble_eq_true rfl), (Nat.le_of_ble_eq_true rfl)⟩) hS (fun k9 M_2 adx q9 ce9 H locs hP hW hS hce hcv hcl => ?_) (fun r_5 M_3 ad_4 H locs hP hW hS => ?_)
  · obtain ⟨hw, rfl⟩ := hP
    rcases hw with ⟨rfl, hw⟩ | ⟨rfl, hw⟩
    · refine vx_catch (name := exN 1) (E := exN 1) hown [] ⟨0, 10, 13, 19⟩ [⟨0, 10, 17, 25⟩] (by rw [htab]; rfl) (fun z hz => nomatch hz) rfl (by decide) (hts _ k_111) (va_Nw.use rfl (hT.2.1 _ kn_3)) hce hcv hcl ?_
      refine lv_astore (lv' := [(4, .ref q9), (0, .ref (ad 4 0)), (1, .int a1), (2, .int a2), (3, .ref (ad 60 0))]) hx hb dL_setPriority_13 hl (by decide) rfl (fun ls hl => ?_)
      refine lv_iconst (v := 1) hx hb dL_setPriority_15 (by decide) ?_
      rw [← hQQ]
      exact e_I hx hb hr hlocks hW hS (Nat.le_of_ble_eq_true rfl) (Nat.le_of_ble_eq_true rfl) dL_setPriority_16 ⟨hw, rfl⟩
    · refine vx_catch (name := exN 2) (E := exN 2) hown [⟨0, 10, 13, 19⟩] ⟨0, 10, 17, 25⟩ [] (by rw [htab]; rfl) (fun z hz => by rcases List.mem_singleton.mp hz with rfl; exact Or.inr ⟨by decide, exN 1, hts _ k_111, hT.2.2.2.2.2.2.1 (2, 1) (by decide)⟩) rfl (by decide) (hts _ k_124) (va_Nw.use rfl (hT.2.1 _ kn_4)) hce hcv hcl ?_
      refine lv_astore (lv' := [(4, .ref q9), (0, .ref (ad 4 0)), (1, .int a1), (2, .int a2), (3, .ref (ad 60 0))]) hx hb dL_setPriority_17 hl (by decide) rfl (fun ls hl => ?_)
      refine lv_iconst (v := 2) hx hb dL_setPriority_19 (by decide) ?_
      rw [← hQQ]
      exact e_I hx hb hr hlocks hW hS (Nat.le_of_ble_eq_true rfl) (Nat.le_of_ble_eq_true rfl) dL_setPriority_20 ⟨hw, rfl⟩
  · obtain ⟨hw, rfl⟩ := hP
    refine lv_i2l hx hb dL_setPriority_8 rfl ?_
    obtain ⟨g_6, hw⟩ := hw
    obtain ⟨g_7, hw⟩ := hw
    refine r_last hx hb hT.1 hW hS (by decide) rfl (fun _ => rfl) 1 rfl g_7 g_6 dL_setPriority_9 (fun M_8 H locs hM_8 hW hS => ?_)
    have hw := hw M_8 hM_8
    refine lv_goto (tgt := 21) hx hb dL_setPriority_10 (by decide) ?_
    refine lv_iconst (v := 0) hx hb dL_setPriority_21 (by decide) ?_
    rw [← hQQ]
    exact e_I hx hb hr hlocks hW hS (Nat.le_of_ble_eq_true rfl) (Nat.le_of_ble_eq_true rfl) dL_setPriority_22 ⟨hw, rfl⟩
def rm_X5_isPiece : Room := { frames := 0, cells := 0, slots := 0, locals := 0 }
set_option maxHeartbeats 4000000 in
set_option maxRecDepth 100000 in
theorem c_X5_isPiece (l : Launch) (E : GE) (base : Nat) (M : Mem) (ad : AD) (a0 : Int32) (Q : Int32 → Mem → Prop) (hw : w_X5_isPiece M a0 Q) : Con l yX5_isPiece cX5_isPiece 1 (some .boolean) rm_X5_isPiece 0 0 E base [.int a0] M ad (QcI E base (fun r M1 ad1 => Q r M1 ∧ ad = ad1)) noX := by
  refine con_start (by decide) (Nat.le_of_ble_eq_true rfl) ?_
  intro p e s m args below meth c ls QQ hQQ CT hnx hW hl
  obtain ⟨⟨hx, hb, hml, hown, hts⟩, hr, hlocks, hnm, hT⟩ := CT
  have hS : va_S (fun q : Nat => base ≤ q) s.heap s.heap [] := va_S.rf
  have hl : lv_has ls 1 [(0, .int a0)] := hl
  unfold w_X5_isPiece at hw
  obtain ⟨H, hH⟩ : ∃ z, z = s.heap := ⟨_, rfl⟩
  obtain ⟨locs, hlo⟩ : ∃ z : List Loc, z = [] := ⟨_, rfl⟩
  have hS : va_S (fun q : Nat => base ≤ q) s.heap H locs := by rw [hlo, hH]; exact hS
  have hW : Wd E base M ad H := by rw [hH]; exact hW
  rw [show W p l e rm_X5_isPiece s m args below meth c s.heap [] 0 0 QQ (F0 m 0 ls []) = W p l e rm_X5_isPiece s m args below meth c H locs 0 0 QQ (F0 m 0 ls []) by rw [hlo, hH]]
  refine lv_iload_n hx hb dX5_isPiece_0 rfl (lv_at hl 0 rfl) ?_
  refine lv_if_lt (tgt := 14) hx hb dX5_isPiece_1 (by decide) (fun c_1 => ?_) (fun c_1 => ?_)
  · have hw := hw.1 c_1
    refine lv_iconst (v := 0) hx hb dX5_isPiece_14 (by decide) ?_
    rw [← hQQ]
    exact e_Z hx hb hr hlocks hW hS (Nat.le_of_ble_eq_true rfl) (Nat.le_of_ble_eq_true rfl) dX5_isPiece_15 (by decide) ⟨hw, rfl⟩
  · have hw := hw.2 c_1
    refine lv_iload_n hx hb dX5_isPiece_4 rfl (lv_at hl 0 rfl) ?_
    refine lv_bipush (v := 12) hx hb dX5_isPiece_5 (by decide) ?_
    refine lv_icmp_ge (tgt := 14) hx hb dX5_isPiece_7 (by decide) (fun c_2 => ?_) (fun c_2 => ?_)
    · have hw := hw.1 c_2
      refine lv_iconst (v := 0) hx hb dX5_isPiece_14 (by decide) ?_
      rw [← hQQ]
      exact e_Z hx hb hr hlocks hW hS (Nat.le_of_ble_eq_true rfl) (Nat.le_of_ble_eq_true rfl) dX5_isPiece_15 (by decide) ⟨hw, rfl⟩
    · have hw := hw.2 c_2
      refine lv_iconst (v := 1) hx hb dX5_isPiece_10 (by decide) ?_
      refine lv_goto (tgt := 15) hx hb dX5_isPiece_11 (by decide) ?_
      rw [← hQQ]
      exact e_Z hx hb hr hlocks hW hS (Nat.le_of_ble_eq_true rfl) (Nat.le_of_ble_eq_true rfl) dX5_isPiece_15 (by decide) ⟨hw, rfl⟩
def rm_X5_setPriority : Room := { frames := 1, cells := 0, slots := 0, locals := 21 }
set_option maxHeartbeats 4000000 in
set_option maxRecDepth 100000 in
theorem c_X5_setPriority (l : Launch) (E : GE) (base : Nat) (M : Mem) (ad : AD) (a1 : Int32) (a2 : Int32) (Q : Int32 → Mem → Prop) (hw : w_X5_setPriority M a1 a2 Q) : Con l yX5_setPriority cX5_setPriority 4 (some .int) rm_X5_setPriority 0 0 E base [.ref (ad 5 0), .int a1, .int a2] M ad (QcI E base (fun r M1 ad1 => Q r M1 ∧ ad = ad1)) noX := by
  refine con_start (by decide) (Nat.le_of_ble_eq_true rfl) ?_
  intro p e s m args below meth c ls QQ hQQ CT hnx hW hl
  obtain ⟨⟨hx, hb, hml, hown, hts⟩, hr, hlocks, hnm, hT⟩ := CT
  have hS : va_S (fun q : Nat => base ≤ q) s.heap s.heap [] := va_S.rf
  have hl : lv_has ls 4 [(0, .ref (ad 5 0)), (1, .int a1), (2, .int a2)] := hl
  have L_26 : ∀ (M : Mem) (x1 : Int32) (x2 : Int32) (s0 : Int32), b_X5_setPriority_26 Q M x1 x2 s0 → WL p l e rm_X5_setPriority s m args below meth c QQ E base 4 M ad 26 [(0, .ref (ad 5 0)), (1, .int x1), (2, .int x2)] [.int s0, .ref (ad 5 0)] 0 0 := by
    intro M x1 x2 s0 hw H locs ls hW hS hl
    unfold b_X5_setPriority_26 at hw
    obtain ⟨g_7, hw⟩ := hw
    refine k_I (rn_V (As := [.int s0]) (rest := []) (κ := 5) (i := 0) ⟨hx, hb, hml, hown, hts⟩ hT hW hS hl (c_X5_fits l E base M ad s0 _ hw) cy_X5_fits k_89 k_90 k_91 g_7 (by decide) rfl rfl rfl rfl ⟨(Nat.le_of_ble_eq_true rfl), (Nat.le_of_ble_eq_true rfl)⟩ rfl rfl (Nat.le_of_ble_eq_true rfl) dX5_setPriority_26 ⟨(Nat.le_of_ble_eq_true rfl), (Nat.le_of_ble_eq_true rfl)⟩) hS kx_no (fun r_11 M_9 ad_10 H locs hP hW hS => ?_)
    obtain ⟨hw, rfl⟩ := hP
    refine lv_if_ne (tgt := 34) hx hb dX5_setPriority_29 (by decide) (fun c_12 => ?_) (fun c_12 => ?_)
    · have hw := hw.2 c_12
      refine lv_aload_n hx hb dX5_setPriority_34 rfl (lv_at hl 0 rfl) ?_
      obtain ⟨g_13, hw⟩ := hw
      obtain ⟨g_14, hw⟩ := hw
      refine r_getR (κ2 := 32) (i2 := 0) hx hb hts hown hT.1 hW clX5 2 (by decide) (hts _ k_14) (fun _ h9 => h9) 32 rfl rfl g_13 g_14 dX5_setPriority_35 ?_
      refine lv_iload_n hx hb dX5_setPriority_38 rfl (lv_at hl 1 rfl) ?_
      obtain ⟨g_15, hw⟩ := hw
      obtain ⟨g_16, hw⟩ := hw
      refine r_iald hx hb hT.1 hW (by decide) rfl (fun _ => rfl) 12 rfl g_16 g_15 dX5_setPriority_39 ?_
      refine lv_topi (fun v_17 ev_17 => ?_)
      have hw := hw v_17 ev_17
      refine lv_istore_n (lv' := [(3, .int v_17), (0, .ref (ad 5 0)), (1, .int x1), (2, .int x2)]) hx hb dX5_setPriority_40 rfl hl (by decide) rfl (fun ls hl => ?_)
      refine lv_aload_n hx hb dX5_setPriority_41 rfl (lv_at hl 1 rfl) ?_
      refine r_getR (κ2 := 32) (i2 := 0) hx hb hts hown hT.1 hW clX5 2 (by decide) (hts _ k_14) (fun _ h9 => h9) 32 rfl rfl g_13 g_14 dX5_setPriority_42 ?_
      refine lv_iload_n hx hb dX5_setPriority_45 rfl (lv_at hl 2 rfl) ?_
      refine lv_iload_n hx hb dX5_setPriority_46 rfl (lv_at hl 3 rfl) ?_
      obtain ⟨g_18, hw⟩ := hw
      refine r_iast hx hb hT.1 hW hS (by decide) rfl (fun _ => rfl) 12 rfl g_18 g_15 dX5_setPriority_47 (fun M_19 H locs hM_19 hW hS => ?_)
      have hw := hw M_19 hM_19
      refine lv_iload_n hx hb dX5_setPriority_48 rfl (lv_at hl 0 rfl) ?_
      rw [← hQQ]
      exact e_I hx hb hr hlocks hW hS (Nat.le_of_ble_eq_true rfl) (Nat.le_of_ble_eq_true rfl) dX5_setPriority_49 ⟨hw, rfl⟩
    · have hw := hw.1 c_12
      refine lv_iconst (v := 0) hx hb dX5_setPriority_32 (by decide) ?_
      rw [← hQQ]
      exact e_I hx hb hr hlocks hW hS (Nat.le_of_ble_eq_true rfl) (Nat.le_of_ble_eq_true rfl) dX5_setPriority_33 ⟨hw, rfl⟩
  have L_21 : ∀ (M : Mem) (x1 : Int32) (x2 : Int32), b_X5_setPriority_21 Q M x1 x2 → WL p l e rm_X5_setPriority s m args below meth c QQ E base 4 M ad 21 [(0, .ref (ad 5 0)), (1, .int x1), (2, .int x2)] [.ref (ad 5 0)] 0 0 := by
    intro M x1 x2 hw H locs ls hW hS hl
    unfold b_X5_setPriority_21 at hw
    refine lv_iconst (v := 2) hx hb dX5_setPriority_21 (by decide) ?_
    refine lv_goto (tgt := 26) hx hb dX5_setPriority_22 (by decide) ?_
    exact L_26 M x1 x2 2 hw H locs ls hW hS (lv_sub hl [0, 1, 2] rfl)
  unfold w_X5_setPriority at hw
  obtain ⟨H, hH⟩ : ∃ z, z = s.heap := ⟨_, rfl⟩
  obtain ⟨locs, hlo⟩ : ∃ z : List Loc, z = [] := ⟨_, rfl⟩
  have hS : va_S (fun q : Nat => base ≤ q) s.heap H locs := by rw [hlo, hH]; exact hS
  have hW : Wd E base M ad H := by rw [hH]; exact hW
  rw [show W p l e rm_X5_setPriority s m args below meth c s.heap [] 0 0 QQ (F0 m 0 ls []) = W p l e rm_X5_setPriority s m args below meth c H locs 0 0 QQ (F0 m 0 ls []) by rw [hlo, hH]]
  refine lv_aload_n hx hb dX5_setPriority_0 rfl (lv_at hl 0 rfl) ?_
  refine lv_iload_n hx hb dX5_setPriority_1 rfl (lv_at hl 1 rfl) ?_
  refine k_I (rn_S (As := [.int a1]) (rest := [.ref (ad 5 0)]) ⟨hx, hb, hml, hown, hts⟩ hT hW hS hl (c_X5_isPiece l E base M ad a1 _ hw) cy_X5_isPiece k_125 k_126 rfl rfl ⟨(Nat.le_of_ble_eq_true rfl), (Nat.le_of_ble_eq_true rfl)⟩ rfl rfl (Nat.le_of_ble_eq_true rfl) dX5_setPriority_2 ⟨(Nat.le_of_ble_eq_true rfl), (Nat.le_of_ble_eq_true rfl)⟩) hS kx_no (fun r_4 M_2 ad_3 H locs hP hW hS => ?_)
  obtain ⟨hw, rfl⟩ := hP
  refine lv_if_ne (tgt := 12) hx hb dX5_setPriority_5 (by decide) (fun c_5 => ?_) (fun c_5 => ?_)
  · have hw := hw.2 c_5
    refine lv_iload_n hx hb dX5_setPriority_12 rfl (lv_at hl 2 rfl) ?_
    refine lv_if_lt (tgt := 21) hx hb dX5_setPriority_13 (by decide) (fun c_6 => ?_) (fun c_6 => ?_)
    · have hw := hw.1 c_6
      exact L_21 M_2 a1 a2 hw H locs ls hW hS (lv_sub hl [0, 1, 2] rfl)
    · have hw := hw.2 c_6
      refine lv_iload_n hx hb dX5_setPriority_16 rfl (lv_at hl 2 rfl) ?_
      refine lv_iconst (v := 3) hx hb dX5_setPriority_17 (by decide) ?_
      refine lv_icmp_le (tgt := 25) hx hb dX5_setPriority_18 (by decide) (fun c_20 => ?_) (fun c_20 => ?_)
      · have hw := hw.1 c_20
        refine lv_iconst (v := 0) hx hb dX5_setPriority_25 (by decide) ?_
        exact L_26 M_2 a1 a2 0 hw H locs ls hW hS (lv_sub hl [0, 1, 2] rfl)
      · have hw := hw.2 c_20
        exact L_21 M_2 a1 a2 hw H locs ls hW hS (lv_sub hl [0, 1, 2] rfl)
  · have hw := hw.1 c_5
    refine lv_iconst (v := 1) hx hb dX5_setPriority_8 (by decide) ?_
    refine lv_goto (tgt := 26) hx hb dX5_setPriority_9 (by decide) ?_
    exact L_26 M_2 a1 a2 1 hw H locs ls hW hS (lv_sub hl [0, 1, 2] rfl)
def rm_X4_setSequence : Room := { frames := 7, cells := 1, slots := 6, locals := 112 }
set_option maxHeartbeats 4000000 in
set_option maxRecDepth 100000 in
theorem c_X4_setSequence (l : Launch) (hlt : l.stackTraces = false) (E : GE) (base : Nat) (M : Mem) (ad : AD) (a1 : Int32) (a2 : Int32) (Q : Int32 → Mem → Prop) (X : Nat → Mem → Prop) (hw : w_X4_setSequence M a1 a2 Q X) : Con l yX4_setSequence cX4_setSequence 5 (some .boolean) rm_X4_setSequence 1 6 E base [.ref (ad 4 0), .int a1, .int a2] M ad (QcI E base (fun r M1 ad1 => Q r M1 ∧ ad = ad1)) (fun k M1 ad1 => X k M1 ∧ ad = ad1) := by
  refine con_start (by decide) (Nat.le_of_ble_eq_true rfl) ?_
  intro p e s m args below meth c ls QQ hQQ CT hnx hW hl
  obtain ⟨⟨hx, hb, hml, hown, hts⟩, hr, hlocks, hnm, hT⟩ := CT
  have hS : va_S (fun q : Nat => base ≤ q) s.heap s.heap [] := va_S.rf
  have hl : lv_has ls 5 [(0, .ref (ad 4 0)), (1, .int a1), (2, .int a2)] := hl
  have L_19 : ∀ (M : Mem) (x2 : Int32) (x3 : Nat) (s0 : Int32), b_X4_setSequence_19 Q X M x2 x3 s0 → WL p l e rm_X4_setSequence s m args below meth c QQ E base 5 M ad 19 [(2, .int x2), (3, .ref (ad 2 x3))] [.int s0] 1 6 := by
    intro M x2 x3 s0 hw H locs ls hW hS hl
    unfold b_X4_setSequence_19 at hw
    refine lv_istore (lv' := [(4, .int s0), (2, .int x2), (3, .ref (ad 2 x3))]) hx hb dX4_setSequence_19 hl (by decide) rfl (fun ls hl => ?_)
    refine lv_aload_n hx hb dX4_setSequence_21 rfl (lv_at hl 2 rfl) ?_
    refine lv_iload_n hx hb dX4_setSequence_22 rfl (lv_at hl 1 rfl) ?_
    obtain ⟨g_8, hw⟩ := hw
    obtain ⟨g_10, hw⟩ := hw
    refine r_putZ hx hb hts hown hT.1 hW hS clX2 5 (by decide) (hts _ k_127) (fun _ h9 => h9) rfl (by decide +kernel) rfl g_10 g_8 dX4_setSequence_23 (fun M_9 H locs hM_9 hW hS => ?_)
    have hw := hw M_9 hM_9
    refine lv_iload hx hb dX4_setSequence_26 (lv_at hl 0 rfl) ?_
    obtain ⟨g_11, hw⟩ := hw
    rw [← hQQ]
    exact e_Z hx hb hr hlocks hW hS (Nat.le_of_ble_eq_true rfl) (Nat.le_of_ble_eq_true rfl) dX4_setSequence_28 g_11 ⟨hw, rfl⟩
  unfold w_X4_setSequence at hw
  obtain ⟨H, hH⟩ : ∃ z, z = s.heap := ⟨_, rfl⟩
  obtain ⟨locs, hlo⟩ : ∃ z : List Loc, z = [] := ⟨_, rfl⟩
  have hS : va_S (fun q : Nat => base ≤ q) s.heap H locs := by rw [hlo, hH]; exact hS
  have hW : Wd E base M ad H := by rw [hH]; exact hW
  rw [show W p l e rm_X4_setSequence s m args below meth c s.heap [] 0 0 QQ (F0 m 0 ls []) = W p l e rm_X4_setSequence s m args below meth c H locs 0 0 QQ (F0 m 0 ls []) by rw [hlo, hH]]
  refine lv_aload_n hx hb dX4_setSequence_0 rfl (lv_at hl 0 rfl) ?_
  refine lv_iload_n hx hb dX4_setSequence_1 rfl (lv_at hl 1 rfl) ?_
  obtain ⟨g_1, hw⟩ := hw
  refine k_Q (rn_V (As := [.int a1]) (rest := []) (κ := 4) (i := 0) ⟨hx, hb, hml, hown, hts⟩ hT hW hS hl (c_X4_known l hlt E base M ad a1 _ _ hw) cy_X4_known k_97 k_98 k_99 g_1 (by decide) rfl rfl rfl rfl ⟨(Nat.le_of_ble_eq_true rfl), (Nat.le_of_ble_eq_true rfl)⟩ rfl rfl (Nat.le_of_ble_eq_true rfl) dX4_setSequence_2 ⟨(Nat.le_of_ble_eq_true rfl), (Nat.le_of_ble_eq_true rfl)⟩) hS (by rw [← hQQ]; exact kx_out hnx hlocks (Nat.le_of_ble_eq_true rfl) (Nat.le_of_ble_eq_true rfl) (fun _ _ _ h9 => h9)) (fun M_3 ad_4 H locs hP hW hS => absurd hP (fun ⟨_, h9, _⟩ => by cases h9)) (fun r_5 M_3 ad_4 H locs hP hW hS => ?_)
  obtain ⟨_, h9, hw, rfl⟩ := hP
  cases h9
  refine lv_astore_n (lv' := [(3, .ref (ad 2 r_5)), (0, .ref (ad 4 0)), (1, .int a1), (2, .int a2)]) hx hb dX4_setSequence_5 rfl hl (by decide) rfl (fun ls hl => ?_)
  refine lv_aload_n hx hb dX4_setSequence_6 rfl (lv_at hl 0 rfl) ?_
  obtain ⟨g_6, hw⟩ := hw
  refine r_getI hx hb hts hown hT.1 hW clX2 5 (by decide) (hts _ k_127) (fun _ h9 => h9) rfl g_6 dX4_setSequence_7 ?_
  refine lv_iload_n hx hb dX4_setSequence_10 rfl (lv_at hl 3 rfl) ?_
  refine lv_icmp_eq (tgt := 18) hx hb dX4_setSequence_11 (by decide) (fun c_7 => ?_) (fun c_7 => ?_)
  · have hw := hw.1 c_7
    refine lv_iconst (v := 0) hx hb dX4_setSequence_18 (by decide) ?_
    exact L_19 M_3 a2 r_5 0 hw H locs ls hW hS (lv_sub hl [3, 0] rfl)
  · have hw := hw.2 c_7
    refine lv_iconst (v := 1) hx hb dX4_setSequence_14 (by decide) ?_
    refine lv_goto (tgt := 19) hx hb dX4_setSequence_15 (by decide) ?_
    exact L_19 M_3 a2 r_5 1 hw H locs ls hW hS (lv_sub hl [3, 0] rfl)
def rm_L_setSequence : Room := { frames := 8, cells := 1, slots := 6, locals := 136 }
set_option maxHeartbeats 4000000 in
set_option maxRecDepth 100000 in
theorem c_L_setSequence (l : Launch) (hlt : l.stackTraces = false) (E : GE) (base : Nat) (M : Mem) (ad : AD) (a1 : Int32) (a2 : Int32) (Q : Int32 → Mem → Prop) (hw : w_L_setSequence M a1 a2 Q) : ConW l yL_setSequence cL_setSequence 5 (some .int) [(0, 17, 20, 19)] rm_L_setSequence 1 6 E base [.ref (ad 4 0), .int a1, .int a2, .ref (ad 60 0)] M ad (QcI E base (fun r M1 ad1 => Q r M1 ∧ ad = ad1)) noX := by
  refine conW_start (by decide) (Nat.le_of_ble_eq_true rfl) ?_
  intro p e s m args below meth c ls QQ hQQ CT htab hW hl
  obtain ⟨⟨hx, hb, hml, hown, hts⟩, hr, hlocks, hnm, hT⟩ := CT
  have hS : va_S (fun q : Nat => base ≤ q) s.heap s.heap [] := va_S.rf
  have hl : lv_has ls 5 [(0, .ref (ad 4 0)), (1, .int a1), (2, .int a2), (3, .ref (ad 60 0))] := hl
  have L_16 : ∀ (M : Mem) (s0 : Int64) (s1 : Int32), b_L_setSequence_16 Q M s0 s1 → WL p l e rm_L_setSequence s m args below meth c QQ E base 5 M ad 16 [] [.long s0, .int s1, .ref (ad 60 0)] 1 6 := by
    intro M s0 s1 hw H locs ls hW hS hl
    unfold b_L_setSequence_16 at hw
    obtain ⟨g_7, hw⟩ := hw
    obtain ⟨g_8, hw⟩ := hw
    refine r_last hx hb hT.1 hW hS (by decide) rfl (fun _ => rfl) 1 rfl g_8 g_7 dL_setSequence_16 (fun M_9 H locs hM_9 hW hS => ?_)
    have hw := hw M_9 hM_9
    refine lv_goto (tgt := 24) hx hb dL_setSequence_17 (by decide) ?_
    refine lv_iconst (v := 0) hx hb dL_setSequence_24 (by decide) ?_
    rw [← hQQ]
    exact e_I hx hb hr hlocks hW hS (Nat.le_of_ble_eq_true rfl) (Nat.le_of_ble_eq_true rfl) dL_setSequence_25 ⟨hw, rfl⟩
  unfold w_L_setSequence at hw
  obtain ⟨H, hH⟩ : ∃ z, z = s.heap := ⟨_, rfl⟩
  obtain ⟨locs, hlo⟩ : ∃ z : List Loc, z = [] := ⟨_, rfl⟩
  have hS : va_S (fun q : Nat => base ≤ q) s.heap H locs := by rw [hlo, hH]; exact hS
  have hW : Wd E base M ad H := by rw [hH]; exact hW
  rw [show W p l e rm_L_setSequence s m args below meth c s.heap [] 0 0 QQ (F0 m 0 ls []) = W p l e rm_L_setSequence s m args below meth c H locs 0 0 QQ (F0 m 0 ls []) by rw [hlo, hH]]
  refine lv_aload_n hx hb dL_setSequence_0 rfl (lv_at hl 3 rfl) ?_
  refine lv_iconst (v := 0) hx hb dL_setSequence_1 (by decide) ?_
  refine lv_aload_n hx hb dL_setSequence_2 rfl (lv_at hl 0 rfl) ?_
  refine lv_iload_n hx hb dL_setSequence_3 rfl (lv_at hl 1 rfl) ?_
  refine lv_iload_n hx hb dL_setSequence_4 rfl (lv_at hl 2 rfl) ?_
  obtain ⟨g_1, hw⟩ := hw
  refine k_I (rn_V (As := [.int a1, .int a2]) (rest := [.int 0, .ref (ad 60 0)]) (κ := 4) (i := 0) ⟨hx, hb, hml, hown, hts⟩ hT hW hS hl (c_X4_setSequence l hlt E base M ad a1 a2 _ _ hw) cy_X4_setSequence k_128 k_129 k_130 g_1 (by decide) rfl rfl rfl rfl ⟨(Nat.le_of_ble_eq_true rfl), (Nat.le_of_ble_eq_true rfl)⟩ rfl rfl (Nat.le_of_ble_eq_true rfl) dL_setSequence_5 ⟨(Nat.le_of_ble_eq_true rfl), (Nat.le_of_ble_eq_true rfl)⟩) hS (fun k9 M_2 adx q9 ce9 H locs hP hW hS hce hcv hcl => ?_) (fun r_5 M_3 ad_4 H locs hP hW hS => ?_)
  · obtain ⟨hw, rfl⟩ := hP
    obtain ⟨rfl, hw⟩ := hw
    refine vx_catch (name := exN 1) (E := exN 1) hown [] ⟨0, 17, 20, 19⟩ [] (by rw [htab]; rfl) (fun z hz => nomatch hz) rfl (by decide) (hts _ k_111) (va_Nw.use rfl (hT.2.1 _ kn_3)) hce hcv hcl ?_
    refine lv_astore (lv' := [(4, .ref q9), (0, .ref (ad 4 0)), (1, .int a1), (2, .int a2), (3, .ref (ad 60 0))]) hx hb dL_setSequence_20 hl (by decide) rfl (fun ls hl => ?_)
    refine lv_iconst (v := 1) hx hb dL_setSequence_22 (by decide) ?_
    rw [← hQQ]
    exact e_I hx hb hr hlocks hW hS (Nat.le_of_ble_eq_true rfl) (Nat.le_of_ble_eq_true rfl) dL_setSequence_23 ⟨hw, rfl⟩
  · obtain ⟨hw, rfl⟩ := hP
    refine lv_if_eq (tgt := 15) hx hb dL_setSequence_8 (by decide) (fun c_6 => ?_) (fun c_6 => ?_)
    · have hw := hw.1 c_6
      refine lv_lconst (v := 0) hx hb dL_setSequence_15 (by decide) ?_
      exact L_16 M_3 0 0 hw H locs ls hW hS (lv_sub hl [] rfl)
    · have hw := hw.2 c_6
      refine lv_lconst (v := 1) hx hb dL_setSequence_11 (by decide) ?_
      refine lv_goto (tgt := 16) hx hb dL_setSequence_12 (by decide) ?_
      exact L_16 M_3 1 0 hw H locs ls hW hS (lv_sub hl [] rfl)
def rm_X5_setSequence : Room := { frames := 1, cells := 0, slots := 0, locals := 21 }
set_option maxHeartbeats 4000000 in
set_option maxRecDepth 100000 in
theorem c_X5_setSequence (l : Launch) (E : GE) (base : Nat) (M : Mem) (ad : AD) (a1 : Int32) (a2 : Int32) (Q : Int32 → Mem → Prop) (hw : w_X5_setSequence M a1 a2 Q) : Con l yX5_setSequence cX5_setSequence 4 (some .boolean) rm_X5_setSequence 0 0 E base [.ref (ad 5 0), .int a1, .int a2] M ad (QcI E base (fun r M1 ad1 => Q r M1 ∧ ad = ad1)) noX := by
  refine con_start (by decide) (Nat.le_of_ble_eq_true rfl) ?_
  intro p e s m args below meth c ls QQ hQQ CT hnx hW hl
  obtain ⟨⟨hx, hb, hml, hown, hts⟩, hr, hlocks, hnm, hT⟩ := CT
  have hS : va_S (fun q : Nat => base ≤ q) s.heap s.heap [] := va_S.rf
  have hl : lv_has ls 4 [(0, .ref (ad 5 0)), (1, .int a1), (2, .int a2)] := hl
  have L_14 : ∀ (M : Mem) (x1 : Int32) (x2 : Int32) (s0 : Int32), b_X5_setSequence_14 Q M x1 x2 s0 → WL p l e rm_X5_setSequence s m args below meth c QQ E base 4 M ad 14 [(0, .ref (ad 5 0)), (1, .int x1), (2, .int x2)] [.int s0, .ref (ad 5 0)] 0 0 := by
    intro M x1 x2 s0 hw H locs ls hW hS hl
    unfold b_X5_setSequence_14 at hw
    obtain ⟨g_7, hw⟩ := hw
    refine k_I (rn_V (As := [.int s0]) (rest := []) (κ := 5) (i := 0) ⟨hx, hb, hml, hown, hts⟩ hT hW hS hl (c_X5_fits l E base M ad s0 _ hw) cy_X5_fits k_89 k_90 k_91 g_7 (by decide) rfl rfl rfl rfl ⟨(Nat.le_of_ble_eq_true rfl), (Nat.le_of_ble_eq_true rfl)⟩ rfl rfl (Nat.le_of_ble_eq_true rfl) dX5_setSequence_14 ⟨(Nat.le_of_ble_eq_true rfl), (Nat.le_of_ble_eq_true rfl)⟩) hS kx_no (fun r_11 M_9 ad_10 H locs hP hW hS => ?_)
    obtain ⟨hw, rfl⟩ := hP
    refine lv_if_ne (tgt := 22) hx hb dX5_setSequence_17 (by decide) (fun c_12 => ?_) (fun c_12 => ?_)
    · have hw := hw.2 c_12
      refine lv_aload_n hx hb dX5_setSequence_22 rfl (lv_at hl 0 rfl) ?_
      obtain ⟨g_13, hw⟩ := hw
      obtain ⟨g_14, hw⟩ := hw
      refine r_getR (κ2 := 37) (i2 := 0) hx hb hts hown hT.1 hW clX5 7 (by decide) (hts _ k_19) (fun _ h9 => h9) 37 rfl rfl g_13 g_14 dX5_setSequence_23 ?_
      refine lv_iload_n hx hb dX5_setSequence_26 rfl (lv_at hl 1 rfl) ?_
      obtain ⟨g_15, hw⟩ := hw
      obtain ⟨g_16, hw⟩ := hw
      refine r_zald hx hb hT.1 hW (by decide) rfl (fun _ => rfl) 6 rfl g_16 g_15 dX5_setSequence_27 ?_
      refine lv_topi (fun v_17 ev_17 => ?_)
      have hw := hw v_17 ev_17
      refine lv_istore_n (lv' := [(3, .int v_17), (0, .ref (ad 5 0)), (1, .int x1), (2, .int x2)]) hx hb dX5_setSequence_28 rfl hl (by decide) rfl (fun ls hl => ?_)
      refine lv_aload_n hx hb dX5_setSequence_29 rfl (lv_at hl 1 rfl) ?_
      refine r_getR (κ2 := 37) (i2 := 0) hx hb hts hown hT.1 hW clX5 7 (by decide) (hts _ k_19) (fun _ h9 => h9) 37 rfl rfl g_13 g_14 dX5_setSequence_30 ?_
      refine lv_iload_n hx hb dX5_setSequence_33 rfl (lv_at hl 2 rfl) ?_
      refine lv_iload_n hx hb dX5_setSequence_34 rfl (lv_at hl 3 rfl) ?_
      obtain ⟨g_18, hw⟩ := hw
      obtain ⟨g_20, hw⟩ := hw
      refine r_zast hx hb hT.1 hW hS (by decide) rfl (fun _ => rfl) 6 rfl g_20 g_18 g_15 dX5_setSequence_35 (fun M_19 H locs hM_19 hW hS => ?_)
      have hw := hw M_19 hM_19
      refine lv_iload_n hx hb dX5_setSequence_36 rfl (lv_at hl 0 rfl) ?_
      refine lv_iload_n hx hb dX5_setSequence_37 rfl (lv_at hl 3 rfl) ?_
      refine lv_icmp_eq (tgt := 45) hx hb dX5_setSequence_38 (by decide) (fun c_21 => ?_) (fun c_21 => ?_)
      · have hw := hw.1 c_21
        refine lv_iconst (v := 0) hx hb dX5_setSequence_45 (by decide) ?_
        rw [← hQQ]
        exact e_Z hx hb hr hlocks hW hS (Nat.le_of_ble_eq_true rfl) (Nat.le_of_ble_eq_true rfl) dX5_setSequence_46 (by decide) ⟨hw, rfl⟩
      · have hw := hw.2 c_21
        refine lv_iconst (v := 1) hx hb dX5_setSequence_41 (by decide) ?_
        refine lv_goto (tgt := 46) hx hb dX5_setSequence_42 (by decide) ?_
        rw [← hQQ]
        exact e_Z hx hb hr hlocks hW hS (Nat.le_of_ble_eq_true rfl) (Nat.le_of_ble_eq_true rfl) dX5_setSequence_46 (by decide) ⟨hw, rfl⟩
    · have hw := hw.1 c_12
      refine lv_iconst (v := 0) hx hb dX5_setSequence_20 (by decide) ?_
      rw [← hQQ]
      exact e_Z hx hb hr hlocks hW hS (Nat.le_of_ble_eq_true rfl) (Nat.le_of_ble_eq_true rfl) dX5_setSequence_21 (by decide) ⟨hw, rfl⟩
  unfold w_X5_setSequence at hw
  obtain ⟨H, hH⟩ : ∃ z, z = s.heap := ⟨_, rfl⟩
  obtain ⟨locs, hlo⟩ : ∃ z : List Loc, z = [] := ⟨_, rfl⟩
  have hS : va_S (fun q : Nat => base ≤ q) s.heap H locs := by rw [hlo, hH]; exact hS
  have hW : Wd E base M ad H := by rw [hH]; exact hW
  rw [show W p l e rm_X5_setSequence s m args below meth c s.heap [] 0 0 QQ (F0 m 0 ls []) = W p l e rm_X5_setSequence s m args below meth c H locs 0 0 QQ (F0 m 0 ls []) by rw [hlo, hH]]
  refine lv_aload_n hx hb dX5_setSequence_0 rfl (lv_at hl 0 rfl) ?_
  refine lv_aload_n hx hb dX5_setSequence_1 rfl (lv_at hl 0 rfl) ?_
  refine lv_iload_n hx hb dX5_setSequence_2 rfl (lv_at hl 1 rfl) ?_
  obtain ⟨g_1, hw⟩ := hw
  refine k_I (rn_V (As := [.int a1]) (rest := [.ref (ad 5 0)]) (κ := 5) (i := 0) ⟨hx, hb, hml, hown, hts⟩ hT hW hS hl (c_X5_isPeer l E base M ad a1 _ hw) cy_X5_isPeer k_112 k_113 k_114 g_1 (by decide) rfl rfl rfl rfl ⟨(Nat.le_of_ble_eq_true rfl), (Nat.le_of_ble_eq_true rfl)⟩ rfl rfl (Nat.le_of_ble_eq_true rfl) dX5_setSequence_3 ⟨(Nat.le_of_ble_eq_true rfl), (Nat.le_of_ble_eq_true rfl)⟩) hS kx_no (fun r_5 M_3 ad_4 H locs hP hW hS => ?_)
  obtain ⟨hw, rfl⟩ := hP
  refine lv_if_eq (tgt := 13) hx hb dX5_setSequence_6 (by decide) (fun c_6 => ?_) (fun c_6 => ?_)
  · have hw := hw.1 c_6
    refine lv_iconst (v := 1) hx hb dX5_setSequence_13 (by decide) ?_
    exact L_14 M_3 a1 a2 1 hw H locs ls hW hS (lv_sub hl [0, 1, 2] rfl)
  · have hw := hw.2 c_6
    refine lv_iconst (v := 0) hx hb dX5_setSequence_9 (by decide) ?_
    refine lv_goto (tgt := 14) hx hb dX5_setSequence_10 (by decide) ?_
    exact L_14 M_3 a1 a2 0 hw H locs ls hW hS (lv_sub hl [0, 1, 2] rfl)
def rm_X4_setCareful : Room := { frames := 7, cells := 1, slots := 6, locals := 112 }
set_option maxHeartbeats 4000000 in
set_option maxRecDepth 100000 in
theorem c_X4_setCareful (l : Launch) (hlt : l.stackTraces = false) (E : GE) (base : Nat) (M : Mem) (ad : AD) (a1 : Int32) (a2 : Int32) (Q : Int32 → Mem → Prop) (X : Nat → Mem → Prop) (hw : w_X4_setCareful M a1 a2 Q X) : Con l yX4_setCareful cX4_setCareful 5 (some .boolean) rm_X4_setCareful 1 6 E base [.ref (ad 4 0), .int a1, .int a2] M ad (QcI E base (fun r M1 ad1 => Q r M1 ∧ ad = ad1)) (fun k M1 ad1 => X k M1 ∧ ad = ad1) := by
  refine con_start (by decide) (Nat.le_of_ble_eq_true rfl) ?_
  intro p e s m args below meth c ls QQ hQQ CT hnx hW hl
  obtain ⟨⟨hx, hb, hml, hown, hts⟩, hr, hlocks, hnm, hT⟩ := CT
  have hS : va_S (fun q : Nat => base ≤ q) s.heap s.heap [] := va_S.rf
  have hl : lv_has ls 5 [(0, .ref (ad 4 0)), (1, .int a1), (2, .int a2)] := hl
  have L_19 : ∀ (M : Mem) (x2 : Int32) (x3 : Nat) (s0 : Int32), b_X4_setCareful_19 Q X M x2 x3 s0 → WL p l e rm_X4_setCareful s m args below meth c QQ E base 5 M ad 19 [(2, .int x2), (3, .ref (ad 2 x3))] [.int s0] 1 6 := by
    intro M x2 x3 s0 hw H locs ls hW hS hl
    unfold b_X4_setCareful_19 at hw
    refine lv_istore (lv' := [(4, .int s0), (2, .int x2), (3, .ref (ad 2 x3))]) hx hb dX4_setCareful_19 hl (by decide) rfl (fun ls hl => ?_)
    refine lv_aload_n hx hb dX4_setCareful_21 rfl (lv_at hl 2 rfl) ?_
    refine lv_iload_n hx hb dX4_setCareful_22 rfl (lv_at hl 1 rfl) ?_
    obtain ⟨g_8, hw⟩ := hw
    obtain ⟨g_10, hw⟩ := hw
    refine r_putZ hx hb hts hown hT.1 hW hS clX2 6 (by decide) (hts _ k_131) (fun _ h9 => h9) rfl (by decide +kernel) rfl g_10 g_8 dX4_setCareful_23 (fun M_9 H locs hM_9 hW hS => ?_)
    have hw := hw M_9 hM_9
    refine lv_iload hx hb dX4_setCareful_26 (lv_at hl 0 rfl) ?_
    obtain ⟨g_11, hw⟩ := hw
    rw [← hQQ]
    exact e_Z hx hb hr hlocks hW hS (Nat.le_of_ble_eq_true rfl) (Nat.le_of_ble_eq_true rfl) dX4_setCareful_28 g_11 ⟨hw, rfl⟩
  unfold w_X4_setCareful at hw
  obtain ⟨H, hH⟩ : ∃ z, z = s.heap := ⟨_, rfl⟩
  obtain ⟨locs, hlo⟩ : ∃ z : List Loc, z = [] := ⟨_, rfl⟩
  have hS : va_S (fun q : Nat => base ≤ q) s.heap H locs := by rw [hlo, hH]; exact hS
  have hW : Wd E base M ad H := by rw [hH]; exact hW
  rw [show W p l e rm_X4_setCareful s m args below meth c s.heap [] 0 0 QQ (F0 m 0 ls []) = W p l e rm_X4_setCareful s m args below meth c H locs 0 0 QQ (F0 m 0 ls []) by rw [hlo, hH]]
  refine lv_aload_n hx hb dX4_setCareful_0 rfl (lv_at hl 0 rfl) ?_
  refine lv_iload_n hx hb dX4_setCareful_1 rfl (lv_at hl 1 rfl) ?_
  obtain ⟨g_1, hw⟩ := hw
  refine k_Q (rn_V (As := [.int a1]) (rest := []) (κ := 4) (i := 0) ⟨hx, hb, hml, hown, hts⟩ hT hW hS hl (c_X4_known l hlt E base M ad a1 _ _ hw) cy_X4_known k_97 k_98 k_99 g_1 (by decide) rfl rfl rfl rfl ⟨(Nat.le_of_ble_eq_true rfl), (Nat.le_of_ble_eq_true rfl)⟩ rfl rfl (Nat.le_of_ble_eq_true rfl) dX4_setCareful_2 ⟨(Nat.le_of_ble_eq_true rfl), (Nat.le_of_ble_eq_true rfl)⟩) hS (by rw [← hQQ]; exact kx_out hnx hlocks (Nat.le_of_ble_eq_true rfl) (Nat.le_of_ble_eq_true rfl) (fun _ _ _ h9 => h9)) (fun M_3 ad_4 H locs hP hW hS => absurd hP (fun ⟨_, h9, _⟩ => by cases h9)) (fun r_5 M_3 ad_4 H locs hP hW hS => ?_)
  obtain ⟨_, h9, hw, rfl⟩ := hP
  cases h9
  refine lv_astore_n (lv' := [(3, .ref (ad 2 r_5)), (0, .ref (ad 4 0)), (1, .int a1), (2, .int a2)]) hx hb dX4_setCareful_5 rfl hl (by decide) rfl (fun ls hl => ?_)
  refine lv_aload_n hx hb dX4_setCareful_6 rfl (lv_at hl 0 rfl) ?_
  obtain ⟨g_6, hw⟩ := hw
  refine r_getI hx hb hts hown hT.1 hW clX2 6 (by decide) (hts _ k_131) (fun _ h9 => h9) rfl g_6 dX4_setCareful_7 ?_
  refine lv_iload_n hx hb dX4_setCareful_10 rfl (lv_at hl 3 rfl) ?_
  refine lv_icmp_eq (tgt := 18) hx hb dX4_setCareful_11 (by decide) (fun c_7 => ?_) (fun c_7 => ?_)
  · have hw := hw.1 c_7
    refine lv_iconst (v := 0) hx hb dX4_setCareful_18 (by decide) ?_
    exact L_19 M_3 a2 r_5 0 hw H locs ls hW hS (lv_sub hl [3, 0] rfl)
  · have hw := hw.2 c_7
    refine lv_iconst (v := 1) hx hb dX4_setCareful_14 (by decide) ?_
    refine lv_goto (tgt := 19) hx hb dX4_setCareful_15 (by decide) ?_
    exact L_19 M_3 a2 r_5 1 hw H locs ls hW hS (lv_sub hl [3, 0] rfl)
def rm_L_setCareful : Room := { frames := 8, cells := 1, slots := 6, locals := 136 }
set_option maxHeartbeats 4000000 in
set_option maxRecDepth 100000 in
theorem c_L_setCareful (l : Launch) (hlt : l.stackTraces = false) (E : GE) (base : Nat) (M : Mem) (ad : AD) (a1 : Int32) (a2 : Int32) (Q : Int32 → Mem → Prop) (hw : w_L_setCareful M a1 a2 Q) : ConW l yL_setCareful cL_setCareful 5 (some .int) [(0, 17, 20, 19)] rm_L_setCareful 1 6 E base [.ref (ad 4 0), .int a1, .int a2, .ref (ad 60 0)] M ad (QcI E base (fun r M1 ad1 => Q r M1 ∧ ad = ad1)) noX := by
  refine conW_start (by decide) (Nat.le_of_ble_eq_true rfl) ?_
  intro p e s m args below meth c ls QQ hQQ CT htab hW hl
  obtain ⟨⟨hx, hb, hml, hown, hts⟩, hr, hlocks, hnm, hT⟩ := CT
  have hS : va_S (fun q : Nat => base ≤ q) s.heap s.heap [] := va_S.rf
  have hl : lv_has ls 5 [(0, .ref (ad 4 0)), (1, .int a1), (2, .int a2), (3, .ref (ad 60 0))] := hl
  have L_16 : ∀ (M : Mem) (s0 : Int64) (s1 : Int32), b_L_setCareful_16 Q M s0 s1 → WL p l e rm_L_setCareful s m args below meth c QQ E base 5 M ad 16 [] [.long s0, .int s1, .ref (ad 60 0)] 1 6 := by
    intro M s0 s1 hw H locs ls hW hS hl
    unfold b_L_setCareful_16 at hw
    obtain ⟨g_7, hw⟩ := hw
    obtain ⟨g_8, hw⟩ := hw
    refine r_last hx hb hT.1 hW hS (by decide) rfl (fun _ => rfl) 1 rfl g_8 g_7 dL_setCareful_16 (fun M_9 H locs hM_9 hW hS => ?_)
    have hw := hw M_9 hM_9
    refine lv_goto (tgt := 24) hx hb dL_setCareful_17 (by decide) ?_
    refine lv_iconst (v := 0) hx hb dL_setCareful_24 (by decide) ?_
    rw [← hQQ]
    exact e_I hx hb hr hlocks hW hS (Nat.le_of_ble_eq_true rfl) (Nat.le_of_ble_eq_true rfl) dL_setCareful_25 ⟨hw, rfl⟩
  unfold w_L_setCareful at hw
  obtain ⟨H, hH⟩ : ∃ z, z = s.heap := ⟨_, rfl⟩
  obtain ⟨locs, hlo⟩ : ∃ z : List Loc, z = [] := ⟨_, rfl⟩
  have hS : va_S (fun q : Nat => base ≤ q) s.heap H locs := by rw [hlo, hH]; exact hS
  have hW : Wd E base M ad H := by rw [hH]; exact hW
  rw [show W p l e rm_L_setCareful s m args below meth c s.heap [] 0 0 QQ (F0 m 0 ls []) = W p l e rm_L_setCareful s m args below meth c H locs 0 0 QQ (F0 m 0 ls []) by rw [hlo, hH]]
  refine lv_aload_n hx hb dL_setCareful_0 rfl (lv_at hl 3 rfl) ?_
  refine lv_iconst (v := 0) hx hb dL_setCareful_1 (by decide) ?_
  refine lv_aload_n hx hb dL_setCareful_2 rfl (lv_at hl 0 rfl) ?_
  refine lv_iload_n hx hb dL_setCareful_3 rfl (lv_at hl 1 rfl) ?_
  refine lv_iload_n hx hb dL_setCareful_4 rfl (lv_at hl 2 rfl) ?_
  obtain ⟨g_1, hw⟩ := hw
  refine k_I (rn_V (As := [.int a1, .int a2]) (rest := [.int 0, .ref (ad 60 0)]) (κ := 4) (i := 0) ⟨hx, hb, hml, hown, hts⟩ hT hW hS hl (c_X4_setCareful l hlt E base M ad a1 a2 _ _ hw) cy_X4_setCareful k_132 k_133 k_134 g_1 (by decide) rfl rfl rfl rfl ⟨(Nat.le_of_ble_eq_true rfl), (Nat.le_of_ble_eq_true rfl)⟩ rfl rfl (Nat.le_of_ble_eq_true rfl) dL_setCareful_5 ⟨(Nat.le_of_ble_eq_true rfl), (Nat.le_of_ble_eq_true rfl)⟩) hS (fun k9 M_2 adx q9 ce9 H locs hP hW hS hce hcv hcl => ?_) (fun r_5 M_3 ad_4 H locs hP hW hS => ?_)
  · obtain ⟨hw, rfl⟩ := hP
    obtain ⟨rfl, hw⟩ := hw
    refine vx_catch (name := exN 1) (E := exN 1) hown [] ⟨0, 17, 20, 19⟩ [] (by rw [htab]; rfl) (fun z hz => nomatch hz) rfl (by decide) (hts _ k_111) (va_Nw.use rfl (hT.2.1 _ kn_3)) hce hcv hcl ?_
    refine lv_astore (lv' := [(4, .ref q9), (0, .ref (ad 4 0)), (1, .int a1), (2, .int a2), (3, .ref (ad 60 0))]) hx hb dL_setCareful_20 hl (by decide) rfl (fun ls hl => ?_)
    refine lv_iconst (v := 1) hx hb dL_setCareful_22 (by decide) ?_
    rw [← hQQ]
    exact e_I hx hb hr hlocks hW hS (Nat.le_of_ble_eq_true rfl) (Nat.le_of_ble_eq_true rfl) dL_setCareful_23 ⟨hw, rfl⟩
  · obtain ⟨hw, rfl⟩ := hP
    refine lv_if_eq (tgt := 15) hx hb dL_setCareful_8 (by decide) (fun c_6 => ?_) (fun c_6 => ?_)
    · have hw := hw.1 c_6
      refine lv_lconst (v := 0) hx hb dL_setCareful_15 (by decide) ?_
      exact L_16 M_3 0 0 hw H locs ls hW hS (lv_sub hl [] rfl)
    · have hw := hw.2 c_6
      refine lv_lconst (v := 1) hx hb dL_setCareful_11 (by decide) ?_
      refine lv_goto (tgt := 16) hx hb dL_setCareful_12 (by decide) ?_
      exact L_16 M_3 1 0 hw H locs ls hW hS (lv_sub hl [] rfl)
def rm_X5_setCareful : Room := { frames := 1, cells := 0, slots := 0, locals := 21 }
set_option maxHeartbeats 4000000 in
set_option maxRecDepth 100000 in
theorem c_X5_setCareful (l : Launch) (E : GE) (base : Nat) (M : Mem) (ad : AD) (a1 : Int32) (a2 : Int32) (Q : Int32 → Mem → Prop) (hw : w_X5_setCareful M a1 a2 Q) : Con l yX5_setCareful cX5_setCareful 4 (some .boolean) rm_X5_setCareful 0 0 E base [.ref (ad 5 0), .int a1, .int a2] M ad (QcI E base (fun r M1 ad1 => Q r M1 ∧ ad = ad1)) noX := by
  refine con_start (by decide) (Nat.le_of_ble_eq_true rfl) ?_
  intro p e s m args below meth c ls QQ hQQ CT hnx hW hl
  obtain ⟨⟨hx, hb, hml, hown, hts⟩, hr, hlocks, hnm, hT⟩ := CT
  have hS : va_S (fun q : Nat => base ≤ q) s.heap s.heap [] := va_S.rf
  have hl : lv_has ls 4 [(0, .ref (ad 5 0)), (1, .int a1), (2, .int a2)] := hl
  have L_14 : ∀ (M : Mem) (x1 : Int32) (x2 : Int32) (s0 : Int32), b_X5_setCareful_14 Q M x1 x2 s0 → WL p l e rm_X5_setCareful s m args below meth c QQ E base 4 M ad 14 [(0, .ref (ad 5 0)), (1, .int x1), (2, .int x2)] [.int s0, .ref (ad 5 0)] 0 0 := by
    intro M x1 x2 s0 hw H locs ls hW hS hl
    unfold b_X5_setCareful_14 at hw
    obtain ⟨g_7, hw⟩ := hw
    refine k_I (rn_V (As := [.int s0]) (rest := []) (κ := 5) (i := 0) ⟨hx, hb, hml, hown, hts⟩ hT hW hS hl (c_X5_fits l E base M ad s0 _ hw) cy_X5_fits k_89 k_90 k_91 g_7 (by decide) rfl rfl rfl rfl ⟨(Nat.le_of_ble_eq_true rfl), (Nat.le_of_ble_eq_true rfl)⟩ rfl rfl (Nat.le_of_ble_eq_true rfl) dX5_setCareful_14 ⟨(Nat.le_of_ble_eq_true rfl), (Nat.le_of_ble_eq_true rfl)⟩) hS kx_no (fun r_11 M_9 ad_10 H locs hP hW hS => ?_)
    obtain ⟨hw, rfl⟩ := hP
    refine lv_if_ne (tgt := 22) hx hb dX5_setCareful_17 (by decide) (fun c_12 => ?_) (fun c_12 => ?_)
    · have hw := hw.2 c_12
      refine lv_aload_n hx hb dX5_setCareful_22 rfl (lv_at hl 0 rfl) ?_
      obtain ⟨g_13, hw⟩ := hw
      obtain ⟨g_14, hw⟩ := hw
      refine r_getR (κ2 := 36) (i2 := 0) hx hb hts hown hT.1 hW clX5 6 (by decide) (hts _ k_18) (fun _ h9 => h9) 36 rfl rfl g_13 g_14 dX5_setCareful_23 ?_
      refine lv_iload_n hx hb dX5_setCareful_26 rfl (lv_at hl 1 rfl) ?_
      obtain ⟨g_15, hw⟩ := hw
      obtain ⟨g_16, hw⟩ := hw
      refine r_zald hx hb hT.1 hW (by decide) rfl (fun _ => rfl) 6 rfl g_16 g_15 dX5_setCareful_27 ?_
      refine lv_topi (fun v_17 ev_17 => ?_)
      have hw := hw v_17 ev_17
      refine lv_istore_n (lv' := [(3, .int v_17), (0, .ref (ad 5 0)), (1, .int x1), (2, .int x2)]) hx hb dX5_setCareful_28 rfl hl (by decide) rfl (fun ls hl => ?_)
      refine lv_aload_n hx hb dX5_setCareful_29 rfl (lv_at hl 1 rfl) ?_
      refine r_getR (κ2 := 36) (i2 := 0) hx hb hts hown hT.1 hW clX5 6 (by decide) (hts _ k_18) (fun _ h9 => h9) 36 rfl rfl g_13 g_14 dX5_setCareful_30 ?_
      refine lv_iload_n hx hb dX5_setCareful_33 rfl (lv_at hl 2 rfl) ?_
      refine lv_iload_n hx hb dX5_setCareful_34 rfl (lv_at hl 3 rfl) ?_
      obtain ⟨g_18, hw⟩ := hw
      obtain ⟨g_20, hw⟩ := hw
      refine r_zast hx hb hT.1 hW hS (by decide) rfl (fun _ => rfl) 6 rfl g_20 g_18 g_15 dX5_setCareful_35 (fun M_19 H locs hM_19 hW hS => ?_)
      have hw := hw M_19 hM_19
      refine lv_iload_n hx hb dX5_setCareful_36 rfl (lv_at hl 0 rfl) ?_
      refine lv_iload_n hx hb dX5_setCareful_37 rfl (lv_at hl 3 rfl) ?_
      refine lv_icmp_eq (tgt := 45) hx hb dX5_setCareful_38 (by decide) (fun c_21 => ?_) (fun c_21 => ?_)
      · have hw := hw.1 c_21
        refine lv_iconst (v := 0) hx hb dX5_setCareful_45 (by decide) ?_
        rw [← hQQ]
        exact e_Z hx hb hr hlocks hW hS (Nat.le_of_ble_eq_true rfl) (Nat.le_of_ble_eq_true rfl) dX5_setCareful_46 (by decide) ⟨hw, rfl⟩
      · have hw := hw.2 c_21
        refine lv_iconst (v := 1) hx hb dX5_setCareful_41 (by decide) ?_
        refine lv_goto (tgt := 46) hx hb dX5_setCareful_42 (by decide) ?_
        rw [← hQQ]
        exact e_Z hx hb hr hlocks hW hS (Nat.le_of_ble_eq_true rfl) (Nat.le_of_ble_eq_true rfl) dX5_setCareful_46 (by decide) ⟨hw, rfl⟩
    · have hw := hw.1 c_12
      refine lv_iconst (v := 0) hx hb dX5_setCareful_20 (by decide) ?_
      rw [← hQQ]
      exact e_Z hx hb hr hlocks hW hS (Nat.le_of_ble_eq_true rfl) (Nat.le_of_ble_eq_true rfl) dX5_setCareful_21 (by decide) ⟨hw, rfl⟩
  unfold w_X5_setCareful at hw
  obtain ⟨H, hH⟩ : ∃ z, z = s.heap := ⟨_, rfl⟩
  obtain ⟨locs, hlo⟩ : ∃ z : List Loc, z = [] := ⟨_, rfl⟩
  have hS : va_S (fun q : Nat => base ≤ q) s.heap H locs := by rw [hlo, hH]; exact hS
  have hW : Wd E base M ad H := by rw [hH]; exact hW
  rw [show W p l e rm_X5_setCareful s m args below meth c s.heap [] 0 0 QQ (F0 m 0 ls []) = W p l e rm_X5_setCareful s m args below meth c H locs 0 0 QQ (F0 m 0 ls []) by rw [hlo, hH]]
  refine lv_aload_n hx hb dX5_setCareful_0 rfl (lv_at hl 0 rfl) ?_
  refine lv_aload_n hx hb dX5_setCareful_1 rfl (lv_at hl 0 rfl) ?_
  refine lv_iload_n hx hb dX5_setCareful_2 rfl (lv_at hl 1 rfl) ?_
  obtain ⟨g_1, hw⟩ := hw
  refine k_I (rn_V (As := [.int a1]) (rest := [.ref (ad 5 0)]) (κ := 5) (i := 0) ⟨hx, hb, hml, hown, hts⟩ hT hW hS hl (c_X5_isPeer l E base M ad a1 _ hw) cy_X5_isPeer k_112 k_113 k_114 g_1 (by decide) rfl rfl rfl rfl ⟨(Nat.le_of_ble_eq_true rfl), (Nat.le_of_ble_eq_true rfl)⟩ rfl rfl (Nat.le_of_ble_eq_true rfl) dX5_setCareful_3 ⟨(Nat.le_of_ble_eq_true rfl), (Nat.le_of_ble_eq_true rfl)⟩) hS kx_no (fun r_5 M_3 ad_4 H locs hP hW hS => ?_)
  obtain ⟨hw, rfl⟩ := hP
  refine lv_if_eq (tgt := 13) hx hb dX5_setCareful_6 (by decide) (fun c_6 => ?_) (fun c_6 => ?_)
  · have hw := hw.1 c_6
    refine lv_iconst (v := 1) hx hb dX5_setCareful_13 (by decide) ?_
    exact L_14 M_3 a1 a2 1 hw H locs ls hW hS (lv_sub hl [0, 1, 2] rfl)
  · have hw := hw.2 c_6
    refine lv_iconst (v := 0) hx hb dX5_setCareful_9 (by decide) ?_
    refine lv_goto (tgt := 14) hx hb dX5_setCareful_10 (by decide) ?_
    exact L_14 M_3 a1 a2 0 hw H locs ls hW hS (lv_sub hl [0, 1, 2] rfl)
def rm_X4_isIn : Room := { frames := 0, cells := 0, slots := 0, locals := 0 }
set_option maxHeartbeats 4000000 in
set_option maxRecDepth 100000 in
theorem c_X4_isIn (l : Launch) (E : GE) (base : Nat) (M : Mem) (ad : AD) (a0 : Int64) (a2 : Int32) (Q : Int32 → Mem → Prop) (hw : w_X4_isIn M a0 a2 Q) : Con l yX4_isIn cX4_isIn 3 (some .boolean) rm_X4_isIn 0 0 E base [.long a0, .int a2] M ad (QcI E base (fun r M1 ad1 => Q r M1 ∧ ad = ad1)) noX := by
  refine con_start (by decide) (Nat.le_of_ble_eq_true rfl) ?_
  intro p e s m args below meth c ls QQ hQQ CT hnx hW hl
  obtain ⟨⟨hx, hb, hml, hown, hts⟩, hr, hlocks, hnm, hT⟩ := CT
  have hS : va_S (fun q : Nat => base ≤ q) s.heap s.heap [] := va_S.rf
  have hl : lv_has ls 3 [(0, .long a0), (2, .int a2)] := hl
  unfold w_X4_isIn at hw
  obtain ⟨H, hH⟩ : ∃ z, z = s.heap := ⟨_, rfl⟩
  obtain ⟨locs, hlo⟩ : ∃ z : List Loc, z = [] := ⟨_, rfl⟩
  have hS : va_S (fun q : Nat => base ≤ q) s.heap H locs := by rw [hlo, hH]; exact hS
  have hW : Wd E base M ad H := by rw [hH]; exact hW
  rw [show W p l e rm_X4_isIn s m args below meth c s.heap [] 0 0 QQ (F0 m 0 ls []) = W p l e rm_X4_isIn s m args below meth c H locs 0 0 QQ (F0 m 0 ls []) by rw [hlo, hH]]
  refine lv_lload_n hx hb dX4_isIn_0 rfl (lv_at hl 0 rfl) ?_
  refine lv_iload_n hx hb dX4_isIn_1 rfl (lv_at hl 1 rfl) ?_
  refine lv_lshr hx hb dX4_isIn_2 rfl ?_
  refine lv_lconst (v := 1) hx hb dX4_isIn_3 (by decide) ?_
  refine lv_land hx hb dX4_isIn_4 ?_
  refine lv_lconst (v := 0) hx hb dX4_isIn_5 (by decide) ?_
  refine W.lcmp hx hb dX4_isIn_6 ?_
  refine lv_if_eq (tgt := 14) hx hb dX4_isIn_7 (by decide) (fun c_1 => ?_) (fun c_1 => ?_)
  · have hw := hw.1 c_1
    refine lv_iconst (v := 0) hx hb dX4_isIn_14 (by decide) ?_
    rw [← hQQ]
    exact e_Z hx hb hr hlocks hW hS (Nat.le_of_ble_eq_true rfl) (Nat.le_of_ble_eq_true rfl) dX4_isIn_15 (by decide) ⟨hw, rfl⟩
  · have hw := hw.2 c_1
    refine lv_iconst (v := 1) hx hb dX4_isIn_10 (by decide) ?_
    refine lv_goto (tgt := 15) hx hb dX4_isIn_11 (by decide) ?_
    rw [← hQQ]
    exact e_Z hx hb hr hlocks hW hS (Nat.le_of_ble_eq_true rfl) (Nat.le_of_ble_eq_true rfl) dX4_isIn_15 (by decide) ⟨hw, rfl⟩
def rm_X4_spoil : Room := { frames := 7, cells := 2, slots := 12, locals := 112 }
set_option maxHeartbeats 4000000 in
set_option maxRecDepth 100000 in
theorem c_X4_spoil (l : Launch) (hlt : l.stackTraces = false) (E : GE) (base : Nat) (M : Mem) (ad : AD) (a1 : Int32) (a2 : Int32) (a3 : Int32) (Q : Int32 → Mem → Prop) (X : Nat → Mem → Prop) (hw : w_X4_spoil M a1 a2 a3 Q X) : Con l yX4_spoil cX4_spoil 6 (some .boolean) rm_X4_spoil 2 12 E base [.ref (ad 4 0), .int a1, .int a2, .int a3] M ad (QcI E base (fun r M1 ad1 => Q r M1 ∧ ad = ad1)) (fun k M1 ad1 => X k M1 ∧ ad = ad1) := by
  refine con_start (by decide) (Nat.le_of_ble_eq_true rfl) ?_
  intro p e s m args below meth c ls QQ hQQ CT hnx hW hl
  obtain ⟨⟨hx, hb, hml, hown, hts⟩, hr, hlocks, hnm, hT⟩ := CT
  have hS : va_S (fun q : Nat => base ≤ q) s.heap s.heap [] := va_S.rf
  have hl : lv_has ls 6 [(0, .ref (ad 4 0)), (1, .int a1), (2, .int a2), (3, .int a3)] := hl
  have L_30 : ∀ (M : Mem) (x2 : Int32) (x4 : Nat) (s0 : Int32), b_X4_spoil_30 Q X M x2 x4 s0 → WL p l e rm_X4_spoil s m args below meth c QQ E base 6 M ad 30 [(2, .int x2), (4, .ref (ad 2 x4))] [.int s0] 2 12 := by
    intro M x2 x4 s0 hw H locs ls hW hS hl
    unfold b_X4_spoil_30 at hw
    refine lv_istore (lv' := [(5, .int s0), (2, .int x2), (4, .ref (ad 2 x4))]) hx hb dX4_spoil_30 hl (by decide) rfl (fun ls hl => ?_)
    refine lv_iload hx hb dX4_spoil_32 (lv_at hl 0 rfl) ?_
    refine lv_if_eq (tgt := 50) hx hb dX4_spoil_34 (by decide) (fun c_16 => ?_) (fun c_16 => ?_)
    · have hw := hw.1 c_16
      refine lv_iload hx hb dX4_spoil_50 (lv_at hl 0 rfl) ?_
      obtain ⟨g_17, hw⟩ := hw
      rw [← hQQ]
      exact e_Z hx hb hr hlocks hW hS (Nat.le_of_ble_eq_true rfl) (Nat.le_of_ble_eq_true rfl) dX4_spoil_52 g_17 ⟨hw, rfl⟩
    · have hw := hw.2 c_16
      refine lv_aload hx hb dX4_spoil_37 (lv_at hl 2 rfl) ?_
      refine lv_dup hx hb dX4_spoil_39 rfl ?_
      obtain ⟨g_18, hw⟩ := hw
      refine r_getI hx hb hts hown hT.1 hW clX2 4 (by decide) (hts _ k_135) (fun _ h9 => h9) rfl g_18 dX4_spoil_40 ?_
      refine lv_iconst (v := 1) hx hb dX4_spoil_43 (by decide) ?_
      refine lv_iload_n hx hb dX4_spoil_44 rfl (lv_at hl 1 rfl) ?_
      refine lv_ishl hx hb dX4_spoil_45 ?_
      refine lv_ixor hx hb dX4_spoil_46 ?_
      refine r_putI hx hb hts hown hT.1 hW hS clX2 4 (by decide) (hts _ k_135) (fun _ h9 => h9) rfl (by decide +kernel) rfl g_18 dX4_spoil_47 (fun M_19 H locs hM_19 hW hS => ?_)
      have hw := hw M_19 hM_19
      refine lv_iload hx hb dX4_spoil_50 (lv_at hl 0 rfl) ?_
      obtain ⟨g_20, hw⟩ := hw
      rw [← hQQ]
      exact e_Z hx hb hr hlocks hW hS (Nat.le_of_ble_eq_true rfl) (Nat.le_of_ble_eq_true rfl) dX4_spoil_52 g_20 ⟨hw, rfl⟩
  unfold w_X4_spoil at hw
  obtain ⟨H, hH⟩ : ∃ z, z = s.heap := ⟨_, rfl⟩
  obtain ⟨locs, hlo⟩ : ∃ z : List Loc, z = [] := ⟨_, rfl⟩
  have hS : va_S (fun q : Nat => base ≤ q) s.heap H locs := by rw [hlo, hH]; exact hS
  have hW : Wd E base M ad H := by rw [hH]; exact hW
  rw [show W p l e rm_X4_spoil s m args below meth c s.heap [] 0 0 QQ (F0 m 0 ls []) = W p l e rm_X4_spoil s m args below meth c H locs 0 0 QQ (F0 m 0 ls []) by rw [hlo, hH]]
  refine lv_aload_n hx hb dX4_spoil_0 rfl (lv_at hl 0 rfl) ?_
  refine lv_iload_n hx hb dX4_spoil_1 rfl (lv_at hl 1 rfl) ?_
  obtain ⟨g_1, hw⟩ := hw
  refine k_Q (rn_V (As := [.int a1]) (rest := []) (κ := 4) (i := 0) ⟨hx, hb, hml, hown, hts⟩ hT hW hS hl (c_X4_known l hlt E base M ad a1 _ _ hw) cy_X4_known k_97 k_98 k_99 g_1 (by decide) rfl rfl rfl rfl ⟨(Nat.le_of_ble_eq_true rfl), (Nat.le_of_ble_eq_true rfl)⟩ rfl rfl (Nat.le_of_ble_eq_true rfl) dX4_spoil_2 ⟨(Nat.le_of_ble_eq_true rfl), (Nat.le_of_ble_eq_true rfl)⟩) hS (by rw [← hQQ]; exact kx_out hnx hlocks (Nat.le_of_ble_eq_true rfl) (Nat.le_of_ble_eq_true rfl) (fun _ _ _ h9 => h9)) (fun M_3 ad_4 H locs hP hW hS => absurd hP (fun ⟨_, h9, _⟩ => by cases h9)) (fun r_5 M_3 ad_4 H locs hP hW hS => ?_)
  obtain ⟨_, h9, hw, rfl⟩ := hP
  cases h9
  refine lv_astore (lv' := [(4, .ref (ad 2 r_5)), (0, .ref (ad 4 0)), (1, .int a1), (2, .int a2), (3, .int a3)]) hx hb dX4_spoil_5 hl (by decide) rfl (fun ls hl => ?_)
  refine lv_iload_n hx hb dX4_spoil_7 rfl (lv_at hl 3 rfl) ?_
  refine k_V (rn_S (As := [.int a2]) (rest := []) ⟨hx, hb, hml, hown, hts⟩ hT hW hS hl (c_X4_checkPiece l hlt E base M_3 ad a2 _ _ hw) cy_X4_checkPiece k_117 k_118 rfl rfl ⟨(Nat.le_of_ble_eq_true rfl), (Nat.le_of_ble_eq_true rfl)⟩ rfl rfl (Nat.le_of_ble_eq_true rfl) dX4_spoil_8 ⟨(Nat.le_of_ble_eq_true rfl), (Nat.le_of_ble_eq_true rfl)⟩) hS (by rw [← hQQ]; exact kx_out hnx hlocks (Nat.le_of_ble_eq_true rfl) (Nat.le_of_ble_eq_true rfl) (fun _ _ _ h9 => h9)) (fun M_7 ad_8 H locs hP hW hS => ?_)
  obtain ⟨hw, rfl⟩ := hP
  refine lv_aload hx hb dX4_spoil_11 (lv_at hl 0 rfl) ?_
  obtain ⟨g_10, hw⟩ := hw
  refine r_getI hx hb hts hown hT.1 hW clX2 4 (by decide) (hts _ k_135) (fun _ h9 => h9) rfl g_10 dX4_spoil_13 ?_
  refine lv_i2l hx hb dX4_spoil_16 rfl ?_
  refine lv_iload_n hx hb dX4_spoil_17 rfl (lv_at hl 3 rfl) ?_
  refine k_I (rn_S (As := [.long ((mI M_7 2 r_5 4).toInt64), .int a2]) (rest := []) ⟨hx, hb, hml, hown, hts⟩ hT hW hS hl (c_X4_isIn l E base M_7 ad ((mI M_7 2 r_5 4).toInt64) a2 _ hw) cy_X4_isIn k_136 k_137 rfl rfl ⟨(Nat.le_of_ble_eq_true rfl), (Nat.le_of_ble_eq_true rfl)⟩ rfl rfl (Nat.le_of_ble_eq_true rfl) dX4_spoil_18 ⟨(Nat.le_of_ble_eq_true rfl), (Nat.le_of_ble_eq_true rfl)⟩) hS kx_no (fun r_14 M_12 ad_13 H locs hP hW hS => ?_)
  obtain ⟨hw, rfl⟩ := hP
  refine lv_iload_n hx hb dX4_spoil_21 rfl (lv_at hl 4 rfl) ?_
  refine lv_icmp_eq (tgt := 29) hx hb dX4_spoil_22 (by decide) (fun c_15 => ?_) (fun c_15 => ?_)
  · have hw := hw.1 c_15
    refine lv_iconst (v := 0) hx hb dX4_spoil_29 (by decide) ?_
    exact L_30 M_12 a2 r_5 0 hw H locs ls hW hS (lv_sub hl [3, 0] rfl)
  · have hw := hw.2 c_15
    refine lv_iconst (v := 1) hx hb dX4_spoil_25 (by decide) ?_
    refine lv_goto (tgt := 30) hx hb dX4_spoil_26 (by decide) ?_
    exact L_30 M_12 a2 r_5 1 hw H locs ls hW hS (lv_sub hl [3, 0] rfl)
def rm_L_spoil : Room := { frames := 8, cells := 2, slots := 12, locals := 137 }
set_option maxHeartbeats 4000000 in
set_option maxRecDepth 100000 in
theorem c_L_spoil (l : Launch) (hlt : l.stackTraces = false) (E : GE) (base : Nat) (M : Mem) (ad : AD) (a1 : Int32) (a2 : Int32) (a3 : Int32) (Q : Int32 → Mem → Prop) (hw : w_L_spoil M a1 a2 a3 Q) : ConW l yL_spoil cL_spoil 6 (some .int) [(0, 19, 22, 19)] rm_L_spoil 2 12 E base [.ref (ad 4 0), .int a1, .int a2, .int a3, .ref (ad 60 0)] M ad (QcI E base (fun r M1 ad1 => Q r M1 ∧ ad = ad1)) noX := by
  refine conW_start (by decide) (Nat.le_of_ble_eq_true rfl) ?_
  intro p e s m args below meth c ls QQ hQQ CT htab hW hl
  obtain ⟨⟨hx, hb, hml, hown, hts⟩, hr, hlocks, hnm, hT⟩ := CT
  have hS : va_S (fun q : Nat => base ≤ q) s.heap s.heap [] := va_S.rf
  have hl : lv_has ls 6 [(0, .ref (ad 4 0)), (1, .int a1), (2, .int a2), (3, .int a3), (4, .ref (ad 60 0))] := hl
  have L_18 : ∀ (M : Mem) (s0 : Int64) (s1 : Int32), b_L_spoil_18 Q M s0 s1 → WL p l e rm_L_spoil s m args below meth c QQ E base 6 M ad 18 [] [.long s0, .int s1, .ref (ad 60 0)] 2 12 := by
    intro M s0 s1 hw H locs ls hW hS hl
    unfold b_L_spoil_18 at hw
    obtain ⟨g_7, hw⟩ := hw
    obtain ⟨g_8, hw⟩ := hw
    refine r_last hx hb hT.1 hW hS (by decide) rfl (fun _ => rfl) 1 rfl g_8 g_7 dL_spoil_18 (fun M_9 H locs hM_9 hW hS => ?_)
    have hw := hw M_9 hM_9
    refine lv_goto (tgt := 26) hx hb dL_spoil_19 (by decide) ?_
    refine lv_iconst (v := 0) hx hb dL_spoil_26 (by decide) ?_
    rw [← hQQ]
    exact e_I hx hb hr hlocks hW hS (Nat.le_of_ble_eq_true rfl) (Nat.le_of_ble_eq_true rfl) dL_spoil_27 ⟨hw, rfl⟩
  unfold w_L_spoil at hw
  obtain ⟨H, hH⟩ : ∃ z, z = s.heap := ⟨_, rfl⟩
  obtain ⟨locs, hlo⟩ : ∃ z : List Loc, z = [] := ⟨_, rfl⟩
  have hS : va_S (fun q : Nat => base ≤ q) s.heap H locs := by rw [hlo, hH]; exact hS
  have hW : Wd E base M ad H := by rw [hH]; exact hW
  rw [show W p l e rm_L_spoil s m args below meth c s.heap [] 0 0 QQ (F0 m 0 ls []) = W p l e rm_L_spoil s m args below meth c H locs 0 0 QQ (F0 m 0 ls []) by rw [hlo, hH]]
  refine lv_aload hx hb dL_spoil_0 (lv_at hl 4 rfl) ?_
  refine lv_iconst (v := 0) hx hb dL_spoil_2 (by decide) ?_
  refine lv_aload_n hx hb dL_spoil_3 rfl (lv_at hl 0 rfl) ?_
  refine lv_iload_n hx hb dL_spoil_4 rfl (lv_at hl 1 rfl) ?_
  refine lv_iload_n hx hb dL_spoil_5 rfl (lv_at hl 2 rfl) ?_
  refine lv_iload_n hx hb dL_spoil_6 rfl (lv_at hl 3 rfl) ?_
  obtain ⟨g_1, hw⟩ := hw
  refine k_I (rn_V (As := [.int a1, .int a2, .int a3]) (rest := [.int 0, .ref (ad 60 0)]) (κ := 4) (i := 0) ⟨hx, hb, hml, hown, hts⟩ hT hW hS hl (c_X4_spoil l hlt E base M ad a1 a2 a3 _ _ hw) cy_X4_spoil k_138 k_139 k_140 g_1 (by decide) rfl rfl rfl rfl ⟨(Nat.le_of_ble_eq_true rfl), (Nat.le_of_ble_eq_true rfl)⟩ rfl rfl (Nat.le_of_ble_eq_true rfl) dL_spoil_7 ⟨(Nat.le_of_ble_eq_true rfl), (Nat.le_of_ble_eq_true rfl)⟩) hS (fun k9 M_2 adx q9 ce9 H locs hP hW hS hce hcv hcl => ?_) (fun r_5 M_3 ad_4 H locs hP hW hS => ?_)
  · obtain ⟨hw, rfl⟩ := hP
    obtain ⟨rfl, hw⟩ := hw
    refine vx_catch (name := exN 1) (E := exN 1) hown [] ⟨0, 19, 22, 19⟩ [] (by rw [htab]; rfl) (fun z hz => nomatch hz) rfl (by decide) (hts _ k_111) (va_Nw.use rfl (hT.2.1 _ kn_3)) hce hcv hcl ?_
    refine lv_astore (lv' := [(5, .ref q9), (0, .ref (ad 4 0)), (1, .int a1), (2, .int a2), (3, .int a3), (4, .ref (ad 60 0))]) hx hb dL_spoil_22 hl (by decide) rfl (fun ls hl => ?_)
    refine lv_iconst (v := 1) hx hb dL_spoil_24 (by decide) ?_
    rw [← hQQ]
    exact e_I hx hb hr hlocks hW hS (Nat.le_of_ble_eq_true rfl) (Nat.le_of_ble_eq_true rfl) dL_spoil_25 ⟨hw, rfl⟩
  · obtain ⟨hw, rfl⟩ := hP
    refine lv_if_eq (tgt := 17) hx hb dL_spoil_10 (by decide) (fun c_6 => ?_) (fun c_6 => ?_)
    · have hw := hw.1 c_6
      refine lv_lconst (v := 0) hx hb dL_spoil_17 (by decide) ?_
      exact L_18 M_3 0 0 hw H locs ls hW hS (lv_sub hl [] rfl)
    · have hw := hw.2 c_6
      refine lv_lconst (v := 1) hx hb dL_spoil_13 (by decide) ?_
      refine lv_goto (tgt := 18) hx hb dL_spoil_14 (by decide) ?_
      exact L_18 M_3 1 0 hw H locs ls hW hS (lv_sub hl [] rfl)
def rm_X5_has : Room := { frames := 0, cells := 0, slots := 0, locals := 0 }
set_option maxHeartbeats 4000000 in
set_option maxRecDepth 100000 in
theorem c_X5_has (l : Launch) (E : GE) (base : Nat) (M : Mem) (ad : AD) (a0 : Int32) (a1 : Int32) (Q : Int32 → Mem → Prop) (hw : w_X5_has M a0 a1 Q) : Con l yX5_has cX5_has 2 (some .boolean) rm_X5_has 0 0 E base [.int a0, .int a1] M ad (QcI E base (fun r M1 ad1 => Q r M1 ∧ ad = ad1)) noX := by
  refine con_start (by decide) (Nat.le_of_ble_eq_true rfl) ?_
  intro p e s m args below meth c ls QQ hQQ CT hnx hW hl
  obtain ⟨⟨hx, hb, hml, hown, hts⟩, hr, hlocks, hnm, hT⟩ := CT
  have hS : va_S (fun q : Nat => base ≤ q) s.heap s.heap [] := va_S.rf
  have hl : lv_has ls 2 [(0, .int a0), (1, .int a1)] := hl
  unfold w_X5_has at hw
  obtain ⟨H, hH⟩ : ∃ z, z = s.heap := ⟨_, rfl⟩
  obtain ⟨locs, hlo⟩ : ∃ z : List Loc, z = [] := ⟨_, rfl⟩
  have hS : va_S (fun q : Nat => base ≤ q) s.heap H locs := by rw [hlo, hH]; exact hS
  have hW : Wd E base M ad H := by rw [hH]; exact hW
  rw [show W p l e rm_X5_has s m args below meth c s.heap [] 0 0 QQ (F0 m 0 ls []) = W p l e rm_X5_has s m args below meth c H locs 0 0 QQ (F0 m 0 ls []) by rw [hlo, hH]]
  refine lv_iload_n hx hb dX5_has_0 rfl (lv_at hl 0 rfl) ?_
  refine lv_iload_n hx hb dX5_has_1 rfl (lv_at hl 1 rfl) ?_
  refine lv_ishr hx hb dX5_has_2 ?_
  refine lv_iconst (v := 1) hx hb dX5_has_3 (by decide) ?_
  refine lv_iand hx hb dX5_has_4 ?_
  refine lv_iconst (v := 1) hx hb dX5_has_5 (by decide) ?_
  refine lv_icmp_ne (tgt := 13) hx hb dX5_has_6 (by decide) (fun c_1 => ?_) (fun c_1 => ?_)
  · have hw := hw.2 c_1
    refine lv_iconst (v := 0) hx hb dX5_has_13 (by decide) ?_
    rw [← hQQ]
    exact e_Z hx hb hr hlocks hW hS (Nat.le_of_ble_eq_true rfl) (Nat.le_of_ble_eq_true rfl) dX5_has_14 (by decide) ⟨hw, rfl⟩
  · have hw := hw.1 c_1
    refine lv_iconst (v := 1) hx hb dX5_has_9 (by decide) ?_
    refine lv_goto (tgt := 14) hx hb dX5_has_10 (by decide) ?_
    rw [← hQQ]
    exact e_Z hx hb hr hlocks hW hS (Nat.le_of_ble_eq_true rfl) (Nat.le_of_ble_eq_true rfl) dX5_has_14 (by decide) ⟨hw, rfl⟩
def rm_X5_spoil : Room := { frames := 1, cells := 0, slots := 0, locals := 21 }
set_option maxHeartbeats 4000000 in
set_option maxRecDepth 100000 in
theorem c_X5_spoil (l : Launch) (E : GE) (base : Nat) (M : Mem) (ad : AD) (a1 : Int32) (a2 : Int32) (a3 : Int32) (Q : Int32 → Mem → Prop) (hw : w_X5_spoil M a1 a2 a3 Q) : Con l yX5_spoil cX5_spoil 5 (some .boolean) rm_X5_spoil 0 0 E base [.ref (ad 5 0), .int a1, .int a2, .int a3] M ad (QcI E base (fun r M1 ad1 => Q r M1 ∧ ad = ad1)) noX := by
  refine con_start (by decide) (Nat.le_of_ble_eq_true rfl) ?_
  intro p e s m args below meth c ls QQ hQQ CT hnx hW hl
  obtain ⟨⟨hx, hb, hml, hown, hts⟩, hr, hlocks, hnm, hT⟩ := CT
  have hS : va_S (fun q : Nat => base ≤ q) s.heap s.heap [] := va_S.rf
  have hl : lv_has ls 5 [(0, .ref (ad 5 0)), (1, .int a1), (2, .int a2), (3, .int a3)] := hl
  have L_69 : ∀ (M : Mem) (x3 : Int32) (x4 : Int32) (s0 : Int32) (s1 : Int32) (s2 : Int32), b_X5_spoil_69 Q M x3 x4 s0 s1 s2 → WL p l e rm_X5_spoil s m args below meth c QQ E base 5 M ad 69 [(3, .int x3), (4, .int x4)] [.int s0, .int s1, .int s2, .ref (ad 38 0)] 0 0 := by
    intro M x3 x4 s0 s1 s2 hw H locs ls hW hS hl
    unfold b_X5_spoil_69 at hw
    refine lv_ior hx hb dX5_spoil_69 ?_
    obtain ⟨g_26, hw⟩ := hw
    obtain ⟨g_27, hw⟩ := hw
    refine r_iast hx hb hT.1 hW hS (by decide) rfl (fun _ => rfl) 6 rfl g_27 g_26 dX5_spoil_70 (fun M_28 H locs hM_28 hW hS => ?_)
    have hw := hw M_28 hM_28
    refine lv_iload hx hb dX5_spoil_71 (lv_at hl 1 rfl) ?_
    refine lv_iload_n hx hb dX5_spoil_73 rfl (lv_at hl 0 rfl) ?_
    refine lv_icmp_eq (tgt := 81) hx hb dX5_spoil_74 (by decide) (fun c_29 => ?_) (fun c_29 => ?_)
    · have hw := hw.1 c_29
      refine lv_iconst (v := 0) hx hb dX5_spoil_81 (by decide) ?_
      rw [← hQQ]
      exact e_Z hx hb hr hlocks hW hS (Nat.le_of_ble_eq_true rfl) (Nat.le_of_ble_eq_true rfl) dX5_spoil_82 (by decide) ⟨hw, rfl⟩
    · have hw := hw.2 c_29
      refine lv_iconst (v := 1) hx hb dX5_spoil_77 (by decide) ?_
      refine lv_goto (tgt := 82) hx hb dX5_spoil_78 (by decide) ?_
      rw [← hQQ]
      exact e_Z hx hb hr hlocks hW hS (Nat.le_of_ble_eq_true rfl) (Nat.le_of_ble_eq_true rfl) dX5_spoil_82 (by decide) ⟨hw, rfl⟩
  have L_21 : ∀ (M : Mem) (x1 : Int32) (x2 : Int32) (x3 : Int32) (s0 : Int32), b_X5_spoil_21 Q M x1 x2 x3 s0 → WL p l e rm_X5_spoil s m args below meth c QQ E base 5 M ad 21 [(0, .ref (ad 5 0)), (1, .int x1), (2, .int x2), (3, .int x3)] [.int s0, .ref (ad 5 0)] 0 0 := by
    intro M x1 x2 x3 s0 hw H locs ls hW hS hl
    unfold b_X5_spoil_21 at hw
    obtain ⟨g_7, hw⟩ := hw
    refine k_I (rn_V (As := [.int s0]) (rest := []) (κ := 5) (i := 0) ⟨hx, hb, hml, hown, hts⟩ hT hW hS hl (c_X5_fits l E base M ad s0 _ hw) cy_X5_fits k_89 k_90 k_91 g_7 (by decide) rfl rfl rfl rfl ⟨(Nat.le_of_ble_eq_true rfl), (Nat.le_of_ble_eq_true rfl)⟩ rfl rfl (Nat.le_of_ble_eq_true rfl) dX5_spoil_21 ⟨(Nat.le_of_ble_eq_true rfl), (Nat.le_of_ble_eq_true rfl)⟩) hS kx_no (fun r_11 M_9 ad_10 H locs hP hW hS => ?_)
    obtain ⟨hw, rfl⟩ := hP
    refine lv_if_ne (tgt := 29) hx hb dX5_spoil_24 (by decide) (fun c_12 => ?_) (fun c_12 => ?_)
    · have hw := hw.2 c_12
      refine lv_aload_n hx hb dX5_spoil_29 rfl (lv_at hl 0 rfl) ?_
      obtain ⟨g_13, hw⟩ := hw
      obtain ⟨g_14, hw⟩ := hw
      refine r_getR (κ2 := 38) (i2 := 0) hx hb hts hown hT.1 hW clX5 8 (by decide) (hts _ k_20) (fun _ h9 => h9) 38 rfl rfl g_13 g_14 dX5_spoil_30 ?_
      refine lv_iload_n hx hb dX5_spoil_33 rfl (lv_at hl 1 rfl) ?_
      obtain ⟨g_15, hw⟩ := hw
      obtain ⟨g_16, hw⟩ := hw
      refine r_iald hx hb hT.1 hW (by decide) rfl (fun _ => rfl) 6 rfl g_16 g_15 dX5_spoil_34 ?_
      refine lv_iload_n hx hb dX5_spoil_35 rfl (lv_at hl 2 rfl) ?_
      refine k_I (rn_S (As := [.int (mI M_9 38 0 x1.toNatClampNeg), .int x2]) (rest := []) ⟨hx, hb, hml, hown, hts⟩ hT hW hS hl (c_X5_has l E base M_9 ad (mI M_9 38 0 x1.toNatClampNeg) x2 _ hw) cy_X5_has k_141 k_142 rfl rfl ⟨(Nat.le_of_ble_eq_true rfl), (Nat.le_of_ble_eq_true rfl)⟩ rfl rfl (Nat.le_of_ble_eq_true rfl) dX5_spoil_36 ⟨(Nat.le_of_ble_eq_true rfl), (Nat.le_of_ble_eq_true rfl)⟩) hS kx_no (fun r_20 M_18 ad_19 H locs hP hW hS => ?_)
      obtain ⟨hw, rfl⟩ := hP
      refine lv_istore (lv' := [(4, .int r_20), (0, .ref (ad 5 0)), (1, .int x1), (2, .int x2), (3, .int x3)]) hx hb dX5_spoil_39 hl (by decide) rfl (fun ls hl => ?_)
      refine lv_aload_n hx hb dX5_spoil_41 rfl (lv_at hl 1 rfl) ?_
      obtain ⟨g_21, hw⟩ := hw
      obtain ⟨g_22, hw⟩ := hw
      refine r_getR (κ2 := 38) (i2 := 0) hx hb hts hown hT.1 hW clX5 8 (by decide) (hts _ k_20) (fun _ h9 => h9) 38 rfl rfl g_21 g_22 dX5_spoil_42 ?_
      refine lv_iload_n hx hb dX5_spoil_45 rfl (lv_at hl 2 rfl) ?_
      refine lv_aload_n hx hb dX5_spoil_46 rfl (lv_at hl 1 rfl) ?_
      refine r_getR (κ2 := 38) (i2 := 0) hx hb hts hown hT.1 hW clX5 8 (by decide) (hts _ k_20) (fun _ h9 => h9) 38 rfl rfl g_21 g_22 dX5_spoil_47 ?_
      refine lv_iload_n hx hb dX5_spoil_50 rfl (lv_at hl 2 rfl) ?_
      obtain ⟨g_23, hw⟩ := hw
      obtain ⟨g_24, hw⟩ := hw
      refine r_iald hx hb hT.1 hW (by decide) rfl (fun _ => rfl) 6 rfl g_24 g_23 dX5_spoil_51 ?_
      refine lv_iconst (v := 1) hx hb dX5_spoil_52 (by decide) ?_
      refine lv_iload_n hx hb dX5_spoil_53 rfl (lv_at hl 3 rfl) ?_
      refine lv_ishl hx hb dX5_spoil_54 ?_
      refine lv_iconst (v := (-1)) hx hb dX5_spoil_55 (by decide) ?_
      refine lv_ixor hx hb dX5_spoil_56 ?_
      refine lv_iand hx hb dX5_spoil_57 ?_
      refine lv_iload_n hx hb dX5_spoil_58 rfl (lv_at hl 4 rfl) ?_
      refine lv_if_eq (tgt := 68) hx hb dX5_spoil_59 (by decide) (fun c_25 => ?_) (fun c_25 => ?_)
      · have hw := hw.1 c_25
        refine lv_iconst (v := 0) hx hb dX5_spoil_68 (by decide) ?_
        exact L_69 M_18 x3 r_20 0 ((mI M_18 38 0 x1.toNatClampNeg) &&& ((1 <<< (x2 &&& 31)) ^^^ (-1))) x1 hw H locs ls hW hS (lv_sub hl [4, 0] rfl)
      · have hw := hw.2 c_25
        refine lv_iconst (v := 1) hx hb dX5_spoil_62 (by decide) ?_
        refine lv_iload_n hx hb dX5_spoil_63 rfl (lv_at hl 3 rfl) ?_
        refine lv_ishl hx hb dX5_spoil_64 ?_
        refine lv_goto (tgt := 69) hx hb dX5_spoil_65 (by decide) ?_
        exact L_69 M_18 x3 r_20 (1 <<< (x2 &&& 31)) ((mI M_18 38 0 x1.toNatClampNeg) &&& ((1 <<< (x2 &&& 31)) ^^^ (-1))) x1 hw H locs ls hW hS (lv_sub hl [4, 0] rfl)
    · have hw := hw.1 c_12
      refine lv_iconst (v := 0) hx hb dX5_spoil_27 (by decide) ?_
      rw [← hQQ]
      exact e_Z hx hb hr hlocks hW hS (Nat.le_of_ble_eq_true rfl) (Nat.le_of_ble_eq_true rfl) dX5_spoil_28 (by decide) ⟨hw, rfl⟩
  have L_20 : ∀ (M : Mem) (x1 : Int32) (x2 : Int32) (x3 : Int32), b_X5_spoil_20 Q M x1 x2 x3 → WL p l e rm_X5_spoil s m args below meth c QQ E base 5 M ad 20 [(0, .ref (ad 5 0)), (1, .int x1), (2, .int x2), (3, .int x3)] [.ref (ad 5 0)] 0 0 := by
    intro M x1 x2 x3 hw H locs ls hW hS hl
    unfold b_X5_spoil_20 at hw
    refine lv_iconst (v := 1) hx hb dX5_spoil_20 (by decide) ?_
    exact L_21 M x1 x2 x3 1 hw H locs ls hW hS (lv_sub hl [0, 1, 2, 3] rfl)
  unfold w_X5_spoil at hw
  obtain ⟨H, hH⟩ : ∃ z, z = s.heap := ⟨_, rfl⟩
  obtain ⟨locs, hlo⟩ : ∃ z : List Loc, z = [] := ⟨_, rfl⟩
  have hS : va_S (fun q : Nat => base ≤ q) s.heap H locs := by rw [hlo, hH]; exact hS
  have hW : Wd E base M ad H := by rw [hH]; exact hW
  rw [show W p l e rm_X5_spoil s m args below meth c s.heap [] 0 0 QQ (F0 m 0 ls []) = W p l e rm_X5_spoil s m args below meth c H locs 0 0 QQ (F0 m 0 ls []) by rw [hlo, hH]]
  refine lv_aload_n hx hb dX5_spoil_0 rfl (lv_at hl 0 rfl) ?_
  refine lv_aload_n hx hb dX5_spoil_1 rfl (lv_at hl 0 rfl) ?_
  refine lv_iload_n hx hb dX5_spoil_2 rfl (lv_at hl 1 rfl) ?_
  obtain ⟨g_1, hw⟩ := hw
  refine k_I (rn_V (As := [.int a1]) (rest := [.ref (ad 5 0)]) (κ := 5) (i := 0) ⟨hx, hb, hml, hown, hts⟩ hT hW hS hl (c_X5_isPeer l E base M ad a1 _ hw) cy_X5_isPeer k_112 k_113 k_114 g_1 (by decide) rfl rfl rfl rfl ⟨(Nat.le_of_ble_eq_true rfl), (Nat.le_of_ble_eq_true rfl)⟩ rfl rfl (Nat.le_of_ble_eq_true rfl) dX5_spoil_3 ⟨(Nat.le_of_ble_eq_true rfl), (Nat.le_of_ble_eq_true rfl)⟩) hS kx_no (fun r_5 M_3 ad_4 H locs hP hW hS => ?_)
  obtain ⟨hw, rfl⟩ := hP
  refine lv_if_eq (tgt := 20) hx hb dX5_spoil_6 (by decide) (fun c_6 => ?_) (fun c_6 => ?_)
  · have hw := hw.1 c_6
    exact L_20 M_3 a1 a2 a3 hw H locs ls hW hS (lv_sub hl [0, 1, 2, 3] rfl)
  · have hw := hw.2 c_6
    refine lv_iload_n hx hb dX5_spoil_9 rfl (lv_at hl 2 rfl) ?_
    refine k_I (rn_S (As := [.int a2]) (rest := [.ref (ad 5 0)]) ⟨hx, hb, hml, hown, hts⟩ hT hW hS hl (c_X5_isPiece l E base M_3 ad a2 _ hw) cy_X5_isPiece k_125 k_126 rfl rfl ⟨(Nat.le_of_ble_eq_true rfl), (Nat.le_of_ble_eq_true rfl)⟩ rfl rfl (Nat.le_of_ble_eq_true rfl) dX5_spoil_10 ⟨(Nat.le_of_ble_eq_true rfl), (Nat.le_of_ble_eq_true rfl)⟩) hS kx_no (fun r_33 M_31 ad_32 H locs hP hW hS => ?_)
    obtain ⟨hw, rfl⟩ := hP
    refine lv_if_eq (tgt := 20) hx hb dX5_spoil_13 (by decide) (fun c_34 => ?_) (fun c_34 => ?_)
    · have hw := hw.1 c_34
      exact L_20 M_31 a1 a2 a3 hw H locs ls hW hS (lv_sub hl [0, 1, 2, 3] rfl)
    · have hw := hw.2 c_34
      refine lv_iconst (v := 0) hx hb dX5_spoil_16 (by decide) ?_
      refine lv_goto (tgt := 21) hx hb dX5_spoil_17 (by decide) ?_
      exact L_21 M_31 a1 a2 a3 0 hw H locs ls hW hS (lv_sub hl [0, 1, 2, 3] rfl)
