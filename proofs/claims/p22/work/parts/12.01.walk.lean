def rm_X4_find : Room := { frames := 0, cells := 0, slots := 0, locals := 0 }
set_option maxHeartbeats 4000000 in
set_option maxRecDepth 100000 in
theorem c_X4_find (l : Launch) (E : GE) (base : Nat) (M : Mem) (ad : AD) (a1 : Int32) (Q : Option Nat → Mem → Prop) (hw : w_X4_find M a1 Q) : Con l yX4_find cX4_find 2 (some (.object "Swarmhall$Peer")) rm_X4_find 0 0 E base [.ref (ad 4 0), .int a1] M ad (QcQ E base (fun r M1 ad1 => Q r M1 ∧ ad = ad1)) noX := by
  refine con_start (by decide) (Nat.le_of_ble_eq_true rfl) ?_
  intro p e s m args below meth c ls QQ hQQ CT hnx hW hl
  obtain ⟨⟨hx, hb, hml, hown, hts⟩, hr, hlocks, hnm, hT⟩ := CT
  have hS : va_S (fun q : Nat => base ≤ q) s.heap s.heap [] := va_S.rf
  have hl : lv_has ls 2 [(0, .ref (ad 4 0)), (1, .int a1)] := hl
  have L_13 : ∀ (M : Mem) , b_X4_find_13 Q M → WL p l e rm_X4_find s m args below meth c QQ E base 2 M ad 13 [] [] 0 0 := by
    intro M hw H locs ls hW hS hl
    unfold b_X4_find_13 at hw
    refine lv_null hx hb dX4_find_13 ?_
    refine lv_goto (tgt := 23) hx hb dX4_find_14 (by decide) ?_
    rw [← hQQ]
    exact e_Qn hx hb hr hlocks hW hS (Nat.le_of_ble_eq_true rfl) (Nat.le_of_ble_eq_true rfl) dX4_find_23 ⟨hw, rfl⟩
  unfold w_X4_find at hw
  obtain ⟨H, hH⟩ : ∃ z, z = s.heap := ⟨_, rfl⟩
  obtain ⟨locs, hlo⟩ : ∃ z : List Loc, z = [] := ⟨_, rfl⟩
  have hS : va_S (fun q : Nat => base ≤ q) s.heap H locs := by rw [hlo, hH]; exact hS
  have hW : Wd E base M ad H := by rw [hH]; exact hW
  rw [show W p l e rm_X4_find s m args below meth c s.heap [] 0 0 QQ (F0 m 0 ls []) = W p l e rm_X4_find s m args below meth c H locs 0 0 QQ (F0 m 0 ls []) by rw [hlo, hH]]
  refine lv_iload_n hx hb dX4_find_0 rfl (lv_at hl 1 rfl) ?_
  refine lv_if_lt (tgt := 13) hx hb dX4_find_1 (by decide) (fun c_1 => ?_) (fun c_1 => ?_)
  · have hw := hw.1 c_1
    exact L_13 M hw H locs ls hW hS (lv_sub hl [] rfl)
  · have hw := hw.2 c_1
    refine lv_iload_n hx hb dX4_find_4 rfl (lv_at hl 1 rfl) ?_
    refine lv_aload_n hx hb dX4_find_5 rfl (lv_at hl 0 rfl) ?_
    obtain ⟨g_2, hw⟩ := hw
    obtain ⟨g_3, hw⟩ := hw
    refine r_getR (κ2 := 10) (i2 := 0) hx hb hts hown hT.1 hW clX4 0 (by decide) (hts _ k_5) (fun _ h9 => h9) 10 rfl rfl g_2 g_3 dX4_find_6 ?_
    obtain ⟨g_4, hw⟩ := hw
    refine r_alen (v := 6) hx hb hT.1 hW (by decide) 3 rfl (kTy 3) rfl (by decide) g_4 dX4_find_9 ?_
    refine lv_icmp_lt (tgt := 17) hx hb dX4_find_10 (by decide) (fun c_5 => ?_) (fun c_5 => ?_)
    · have hw := hw.1 c_5
      refine lv_aload_n hx hb dX4_find_17 rfl (lv_at hl 0 rfl) ?_
      refine r_getR (κ2 := 10) (i2 := 0) hx hb hts hown hT.1 hW clX4 0 (by decide) (hts _ k_5) (fun _ h9 => h9) 10 rfl rfl g_2 g_3 dX4_find_18 ?_
      refine lv_iload_n hx hb dX4_find_21 rfl (lv_at hl 1 rfl) ?_
      obtain ⟨g_6, hw⟩ := hw
      refine r_aald hx hb hT.1 hW g_6 g_4 dX4_find_22 (fun g_7 => ?_) (fun g_7 => ?_)
      · have hw := hw.1 g_7
        rw [← hQQ]
        exact e_Qs hx hb hr hlocks hW hS (Nat.le_of_ble_eq_true rfl) (Nat.le_of_ble_eq_true rfl) dX4_find_23 ⟨hw, rfl⟩
      · have hw := hw.2 g_7
        rw [← hQQ]
        exact e_Qn hx hb hr hlocks hW hS (Nat.le_of_ble_eq_true rfl) (Nat.le_of_ble_eq_true rfl) dX4_find_23 ⟨hw, rfl⟩
    · have hw := hw.2 c_5
      exact L_13 M hw H locs ls hW hS (lv_sub hl [] rfl)
def rm_X4_known : Room := { frames := 6, cells := 1, slots := 6, locals := 90 }
set_option maxHeartbeats 4000000 in
set_option maxRecDepth 100000 in
theorem c_X4_known (l : Launch) (hlt : l.stackTraces = false) (E : GE) (base : Nat) (M : Mem) (ad : AD) (a1 : Int32) (Q : Nat → Mem → Prop) (X : Nat → Mem → Prop) (hw : w_X4_known M a1 Q X) : Con l yX4_known cX4_known 3 (some (.object "Swarmhall$Peer")) rm_X4_known 1 6 E base [.ref (ad 4 0), .int a1] M ad (QcQ E base (fun r M1 ad1 => ∃ j : Nat, r = some j ∧ Q j M1 ∧ ad = ad1)) (fun k M1 ad1 => X k M1 ∧ ad = ad1) := by
  refine con_start (by decide) (Nat.le_of_ble_eq_true rfl) ?_
  intro p e s m args below meth c ls QQ hQQ CT hnx hW hl
  obtain ⟨⟨hx, hb, hml, hown, hts⟩, hr, hlocks, hnm, hT⟩ := CT
  have hS : va_S (fun q : Nat => base ≤ q) s.heap s.heap [] := va_S.rf
  have hl : lv_has ls 3 [(0, .ref (ad 4 0)), (1, .int a1)] := hl
  unfold w_X4_known at hw
  obtain ⟨H, hH⟩ : ∃ z, z = s.heap := ⟨_, rfl⟩
  obtain ⟨locs, hlo⟩ : ∃ z : List Loc, z = [] := ⟨_, rfl⟩
  have hS : va_S (fun q : Nat => base ≤ q) s.heap H locs := by rw [hlo, hH]; exact hS
  have hW : Wd E base M ad H := by rw [hH]; exact hW
  rw [show W p l e rm_X4_known s m args below meth c s.heap [] 0 0 QQ (F0 m 0 ls []) = W p l e rm_X4_known s m args below meth c H locs 0 0 QQ (F0 m 0 ls []) by rw [hlo, hH]]
  refine lv_aload_n hx hb dX4_known_0 rfl (lv_at hl 0 rfl) ?_
  refine lv_iload_n hx hb dX4_known_1 rfl (lv_at hl 1 rfl) ?_
  obtain ⟨g_1, hw⟩ := hw
  refine k_Q (rn_V (As := [.int a1]) (rest := []) (κ := 4) (i := 0) ⟨hx, hb, hml, hown, hts⟩ hT hW hS hl (c_X4_find l E base M ad a1 _ hw) cy_X4_find k_76 k_77 k_78 g_1 (by decide) rfl rfl rfl rfl ⟨(Nat.le_of_ble_eq_true rfl), (Nat.le_of_ble_eq_true rfl)⟩ rfl rfl (Nat.le_of_ble_eq_true rfl) dX4_known_2 ⟨(Nat.le_of_ble_eq_true rfl), (Nat.le_of_ble_eq_true rfl)⟩) hS kx_no (fun M_3 ad_4 H locs hP hW hS => ?_) (fun r_5 M_3 ad_4 H locs hP hW hS => ?_)
  · obtain ⟨hw, rfl⟩ := hP
    have hw := hw.1 rfl
    refine lv_astore_nN (lv' := [(2, .null), (0, .ref (ad 4 0)), (1, .int a1)]) hx hb dX4_known_5 rfl hl (by decide) rfl (fun ls hl => ?_)
    refine lv_aload_nN hx hb dX4_known_6 rfl (lv_at hl 0 rfl) ?_
    refine lv_ifnonnullN hx hb dX4_known_7 ?_
    rw [← hQQ]
    exact e_throw 1 (own := RX4) (text := "no such peer") hx hb hlt hown hts hT (by decide) k_13 k_14 at_X4_150_1 ag_X4_150_1 (by decide +kernel) dX4_known_10 dX4_known_13 dX4_known_14 dX4_known_16 dX4_known_19 hnx (Nat.le_of_ble_eq_true rfl) (Nat.le_of_ble_eq_true rfl) (Nat.le_of_ble_eq_true rfl) (Nat.le_of_ble_eq_true rfl) hlocks (by rw [hml]; exact hl.1) hW hS (Nat.le_of_ble_eq_true rfl) (Nat.le_of_ble_eq_true rfl) ⟨hw, rfl⟩
  · obtain ⟨hw, rfl⟩ := hP
    have hw := hw.2 r_5 rfl
    refine lv_astore_n (lv' := [(2, .ref (ad 2 r_5)), (0, .ref (ad 4 0)), (1, .int a1)]) hx hb dX4_known_5 rfl hl (by decide) rfl (fun ls hl => ?_)
    refine lv_aload_n hx hb dX4_known_6 rfl (lv_at hl 0 rfl) ?_
    refine lv_ifnonnull (tgt := 20) hx hb dX4_known_7 (by decide) ?_
    refine lv_aload_n hx hb dX4_known_20 rfl (lv_at hl 0 rfl) ?_
    rw [← hQQ]
    exact e_Qs hx hb hr hlocks hW hS (Nat.le_of_ble_eq_true rfl) (Nat.le_of_ble_eq_true rfl) dX4_known_21 ⟨_, rfl, hw, rfl⟩
def rm_X4_holds : Room := { frames := 7, cells := 1, slots := 6, locals := 112 }
set_option maxHeartbeats 4000000 in
set_option maxRecDepth 100000 in
theorem c_X4_holds (l : Launch) (hlt : l.stackTraces = false) (E : GE) (base : Nat) (M : Mem) (ad : AD) (a1 : Int32) (Q : Int32 → Mem → Prop) (X : Nat → Mem → Prop) (hw : w_X4_holds M a1 Q X) : Con l yX4_holds cX4_holds 2 (some .int) rm_X4_holds 1 6 E base [.ref (ad 4 0), .int a1] M ad (QcI E base (fun r M1 ad1 => Q r M1 ∧ ad = ad1)) (fun k M1 ad1 => X k M1 ∧ ad = ad1) := by
  refine con_start (by decide) (Nat.le_of_ble_eq_true rfl) ?_
  intro p e s m args below meth c ls QQ hQQ CT hnx hW hl
  obtain ⟨⟨hx, hb, hml, hown, hts⟩, hr, hlocks, hnm, hT⟩ := CT
  have hS : va_S (fun q : Nat => base ≤ q) s.heap s.heap [] := va_S.rf
  have hl : lv_has ls 2 [(0, .ref (ad 4 0)), (1, .int a1)] := hl
  unfold w_X4_holds at hw
  obtain ⟨H, hH⟩ : ∃ z, z = s.heap := ⟨_, rfl⟩
  obtain ⟨locs, hlo⟩ : ∃ z : List Loc, z = [] := ⟨_, rfl⟩
  have hS : va_S (fun q : Nat => base ≤ q) s.heap H locs := by rw [hlo, hH]; exact hS
  have hW : Wd E base M ad H := by rw [hH]; exact hW
  rw [show W p l e rm_X4_holds s m args below meth c s.heap [] 0 0 QQ (F0 m 0 ls []) = W p l e rm_X4_holds s m args below meth c H locs 0 0 QQ (F0 m 0 ls []) by rw [hlo, hH]]
  refine lv_aload_n hx hb dX4_holds_0 rfl (lv_at hl 0 rfl) ?_
  refine lv_iload_n hx hb dX4_holds_1 rfl (lv_at hl 1 rfl) ?_
  obtain ⟨g_1, hw⟩ := hw
  refine k_Q (rn_V (As := [.int a1]) (rest := []) (κ := 4) (i := 0) ⟨hx, hb, hml, hown, hts⟩ hT hW hS hl (c_X4_known l hlt E base M ad a1 _ _ hw) cy_X4_known k_79 k_80 k_81 g_1 (by decide) rfl rfl rfl rfl ⟨(Nat.le_of_ble_eq_true rfl), (Nat.le_of_ble_eq_true rfl)⟩ rfl rfl (Nat.le_of_ble_eq_true rfl) dX4_holds_2 ⟨(Nat.le_of_ble_eq_true rfl), (Nat.le_of_ble_eq_true rfl)⟩) hS (by rw [← hQQ]; exact kx_out hnx hlocks (Nat.le_of_ble_eq_true rfl) (Nat.le_of_ble_eq_true rfl) (fun _ _ _ h9 => h9)) (fun M_3 ad_4 H locs hP hW hS => absurd hP (fun ⟨_, h9, _⟩ => by cases h9)) (fun r_5 M_3 ad_4 H locs hP hW hS => ?_)
  obtain ⟨_, h9, hw, rfl⟩ := hP
  cases h9
  obtain ⟨g_6, hw⟩ := hw
  obtain ⟨g_7, hw⟩ := hw
  refine r_getR (κ2 := 3) (i2 := r_5) hx hb hts hown hT.1 hW clX2 1 (by decide) (hts _ k_15) (fun _ h9 => h9) 3 rfl rfl g_6 g_7 dX4_holds_5 ?_
  obtain ⟨g_8, hw⟩ := hw
  refine r_getI hx hb hts hown hT.1 hW clX3 0 (by decide) (hts _ k_16) (fun _ h9 => h9) rfl g_8 dX4_holds_8 ?_
  rw [← hQQ]
  exact e_I hx hb hr hlocks hW hS (Nat.le_of_ble_eq_true rfl) (Nat.le_of_ble_eq_true rfl) dX4_holds_11 ⟨hw, rfl⟩
def rm_X4_got : Room := { frames := 7, cells := 2, slots := 12, locals := 112 }
set_option maxHeartbeats 4000000 in
set_option maxRecDepth 100000 in
theorem c_X4_got (l : Launch) (hlt : l.stackTraces = false) (E : GE) (base : Nat) (M : Mem) (ad : AD) (a1 : Int32) (a2 : Int32) (Q : Int32 → Mem → Prop) (X : Nat → Mem → Prop) (hw : w_X4_got M a1 a2 Q X) : Con l yX4_got cX4_got 3 (some .int) rm_X4_got 2 12 E base [.ref (ad 4 0), .int a1, .int a2] M ad (QcI E base (fun r M1 ad1 => Q r M1 ∧ ad = ad1)) (fun k M1 ad1 => X k M1 ∧ ad = ad1) := by
  refine con_start (by decide) (Nat.le_of_ble_eq_true rfl) ?_
  intro p e s m args below meth c ls QQ hQQ CT hnx hW hl
  obtain ⟨⟨hx, hb, hml, hown, hts⟩, hr, hlocks, hnm, hT⟩ := CT
  have hS : va_S (fun q : Nat => base ≤ q) s.heap s.heap [] := va_S.rf
  have hl : lv_has ls 3 [(0, .ref (ad 4 0)), (1, .int a1), (2, .int a2)] := hl
  unfold w_X4_got at hw
  obtain ⟨H, hH⟩ : ∃ z, z = s.heap := ⟨_, rfl⟩
  obtain ⟨locs, hlo⟩ : ∃ z : List Loc, z = [] := ⟨_, rfl⟩
  have hS : va_S (fun q : Nat => base ≤ q) s.heap H locs := by rw [hlo, hH]; exact hS
  have hW : Wd E base M ad H := by rw [hH]; exact hW
  rw [show W p l e rm_X4_got s m args below meth c s.heap [] 0 0 QQ (F0 m 0 ls []) = W p l e rm_X4_got s m args below meth c H locs 0 0 QQ (F0 m 0 ls []) by rw [hlo, hH]]
  refine lv_aload_n hx hb dX4_got_0 rfl (lv_at hl 0 rfl) ?_
  refine lv_iload_n hx hb dX4_got_1 rfl (lv_at hl 1 rfl) ?_
  obtain ⟨g_1, hw⟩ := hw
  refine k_Q (rn_V (As := [.int a1]) (rest := []) (κ := 4) (i := 0) ⟨hx, hb, hml, hown, hts⟩ hT hW hS hl (c_X4_known l hlt E base M ad a1 _ _ hw) cy_X4_known k_79 k_80 k_81 g_1 (by decide) rfl rfl rfl rfl ⟨(Nat.le_of_ble_eq_true rfl), (Nat.le_of_ble_eq_true rfl)⟩ rfl rfl (Nat.le_of_ble_eq_true rfl) dX4_got_2 ⟨(Nat.le_of_ble_eq_true rfl), (Nat.le_of_ble_eq_true rfl)⟩) hS (by rw [← hQQ]; exact kx_out hnx hlocks (Nat.le_of_ble_eq_true rfl) (Nat.le_of_ble_eq_true rfl) (fun _ _ _ h9 => h9)) (fun M_3 ad_4 H locs hP hW hS => absurd hP (fun ⟨_, h9, _⟩ => by cases h9)) (fun r_5 M_3 ad_4 H locs hP hW hS => ?_)
  obtain ⟨_, h9, hw, rfl⟩ := hP
  cases h9
  obtain ⟨g_6, hw⟩ := hw
  obtain ⟨g_7, hw⟩ := hw
  refine r_getR (κ2 := 24) (i2 := r_5) hx hb hts hown hT.1 hW clX2 8 (by decide) (hts _ k_82) (fun _ h9 => h9) 24 rfl rfl g_6 g_7 dX4_got_5 ?_
  refine lv_aload_n hx hb dX4_got_8 rfl (lv_at hl 0 rfl) ?_
  refine lv_iload_n hx hb dX4_got_9 rfl (lv_at hl 2 rfl) ?_
  obtain ⟨g_8, hw⟩ := hw
  refine k_Q (rn_V (As := [.int a2]) (rest := [.ref (ad 24 r_5)]) (κ := 4) (i := 0) ⟨hx, hb, hml, hown, hts⟩ hT hW hS hl (c_X4_known l hlt E base M_3 ad a2 _ _ hw) cy_X4_known k_79 k_80 k_81 g_8 (by decide) rfl rfl rfl rfl ⟨(Nat.le_of_ble_eq_true rfl), (Nat.le_of_ble_eq_true rfl)⟩ rfl rfl (Nat.le_of_ble_eq_true rfl) dX4_got_10 ⟨(Nat.le_of_ble_eq_true rfl), (Nat.le_of_ble_eq_true rfl)⟩) hS (by rw [← hQQ]; exact kx_out hnx hlocks (Nat.le_of_ble_eq_true rfl) (Nat.le_of_ble_eq_true rfl) (fun _ _ _ h9 => h9)) (fun M_10 ad_11 H locs hP hW hS => absurd hP (fun ⟨_, h9, _⟩ => by cases h9)) (fun r_12 M_10 ad_11 H locs hP hW hS => ?_)
  obtain ⟨_, h9, hw, rfl⟩ := hP
  cases h9
  obtain ⟨g_13, hw⟩ := hw
  refine r_getI hx hb hts hown hT.1 hW clX2 0 (by decide) (hts _ k_83) (fun _ h9 => h9) rfl g_13 dX4_got_13 ?_
  obtain ⟨g_14, hw⟩ := hw
  obtain ⟨g_15, hw⟩ := hw
  refine r_iald hx hb hT.1 hW (by decide) rfl (fun _ => rfl) 6 rfl g_15 g_14 dX4_got_16 ?_
  rw [← hQQ]
  exact e_I hx hb hr hlocks hW hS (Nat.le_of_ble_eq_true rfl) (Nat.le_of_ble_eq_true rfl) dX4_got_17 ⟨hw, rfl⟩
def rm_X4_doubles : Room := { frames := 7, cells := 1, slots := 6, locals := 112 }
set_option maxHeartbeats 4000000 in
set_option maxRecDepth 100000 in
theorem c_X4_doubles (l : Launch) (hlt : l.stackTraces = false) (E : GE) (base : Nat) (M : Mem) (ad : AD) (a1 : Int32) (Q : Int32 → Mem → Prop) (X : Nat → Mem → Prop) (hw : w_X4_doubles M a1 Q X) : Con l yX4_doubles cX4_doubles 2 (some .int) rm_X4_doubles 1 6 E base [.ref (ad 4 0), .int a1] M ad (QcI E base (fun r M1 ad1 => Q r M1 ∧ ad = ad1)) (fun k M1 ad1 => X k M1 ∧ ad = ad1) := by
  refine con_start (by decide) (Nat.le_of_ble_eq_true rfl) ?_
  intro p e s m args below meth c ls QQ hQQ CT hnx hW hl
  obtain ⟨⟨hx, hb, hml, hown, hts⟩, hr, hlocks, hnm, hT⟩ := CT
  have hS : va_S (fun q : Nat => base ≤ q) s.heap s.heap [] := va_S.rf
  have hl : lv_has ls 2 [(0, .ref (ad 4 0)), (1, .int a1)] := hl
  unfold w_X4_doubles at hw
  obtain ⟨H, hH⟩ : ∃ z, z = s.heap := ⟨_, rfl⟩
  obtain ⟨locs, hlo⟩ : ∃ z : List Loc, z = [] := ⟨_, rfl⟩
  have hS : va_S (fun q : Nat => base ≤ q) s.heap H locs := by rw [hlo, hH]; exact hS
  have hW : Wd E base M ad H := by rw [hH]; exact hW
  rw [show W p l e rm_X4_doubles s m args below meth c s.heap [] 0 0 QQ (F0 m 0 ls []) = W p l e rm_X4_doubles s m args below meth c H locs 0 0 QQ (F0 m 0 ls []) by rw [hlo, hH]]
  refine lv_aload_n hx hb dX4_doubles_0 rfl (lv_at hl 0 rfl) ?_
  refine lv_iload_n hx hb dX4_doubles_1 rfl (lv_at hl 1 rfl) ?_
  obtain ⟨g_1, hw⟩ := hw
  refine k_Q (rn_V (As := [.int a1]) (rest := []) (κ := 4) (i := 0) ⟨hx, hb, hml, hown, hts⟩ hT hW hS hl (c_X4_known l hlt E base M ad a1 _ _ hw) cy_X4_known k_79 k_80 k_81 g_1 (by decide) rfl rfl rfl rfl ⟨(Nat.le_of_ble_eq_true rfl), (Nat.le_of_ble_eq_true rfl)⟩ rfl rfl (Nat.le_of_ble_eq_true rfl) dX4_doubles_2 ⟨(Nat.le_of_ble_eq_true rfl), (Nat.le_of_ble_eq_true rfl)⟩) hS (by rw [← hQQ]; exact kx_out hnx hlocks (Nat.le_of_ble_eq_true rfl) (Nat.le_of_ble_eq_true rfl) (fun _ _ _ h9 => h9)) (fun M_3 ad_4 H locs hP hW hS => absurd hP (fun ⟨_, h9, _⟩ => by cases h9)) (fun r_5 M_3 ad_4 H locs hP hW hS => ?_)
  obtain ⟨_, h9, hw, rfl⟩ := hP
  cases h9
  obtain ⟨g_6, hw⟩ := hw
  refine r_getI hx hb hts hown hT.1 hW clX2 11 (by decide) (hts _ k_84) (fun _ h9 => h9) rfl g_6 dX4_doubles_5 ?_
  rw [← hQQ]
  exact e_I hx hb hr hlocks hW hS (Nat.le_of_ble_eq_true rfl) (Nat.le_of_ble_eq_true rfl) dX4_doubles_8 ⟨hw, rfl⟩
def rm_J6_bitCount_0f7a4 : Room := { frames := 0, cells := 0, slots := 0, locals := 0 }
set_option maxHeartbeats 4000000 in
set_option maxRecDepth 100000 in
theorem c_J6_bitCount_0f7a4 (l : Launch) (E : GE) (base : Nat) (M : Mem) (ad : AD) (a0 : Int32) (Q : Int32 → Mem → Prop) (hw : w_J6_bitCount_0f7a4 M a0 Q) : Con l yJ6_bitCount_0f7a4 cJ6_bitCount_0f7a4 1 (some .int) rm_J6_bitCount_0f7a4 0 0 E base [.int a0] M ad (QcI E base (fun r M1 ad1 => Q r M1 ∧ ad = ad1)) noX := by
  refine con_start (by decide) (Nat.le_of_ble_eq_true rfl) ?_
  intro p e s m args below meth c ls QQ hQQ CT hnx hW hl
  obtain ⟨⟨hx, hb, hml, hown, hts⟩, hr, hlocks, hnm, hT⟩ := CT
  have hS : va_S (fun q : Nat => base ≤ q) s.heap s.heap [] := va_S.rf
  have hl : lv_has ls 1 [(0, .int a0)] := hl
  unfold w_J6_bitCount_0f7a4 at hw
  obtain ⟨H, hH⟩ : ∃ z, z = s.heap := ⟨_, rfl⟩
  obtain ⟨locs, hlo⟩ : ∃ z : List Loc, z = [] := ⟨_, rfl⟩
  have hS : va_S (fun q : Nat => base ≤ q) s.heap H locs := by rw [hlo, hH]; exact hS
  have hW : Wd E base M ad H := by rw [hH]; exact hW
  rw [show W p l e rm_J6_bitCount_0f7a4 s m args below meth c s.heap [] 0 0 QQ (F0 m 0 ls []) = W p l e rm_J6_bitCount_0f7a4 s m args below meth c H locs 0 0 QQ (F0 m 0 ls []) by rw [hlo, hH]]
  refine lv_iload_n hx hb dJ6_bitCount_0f7a4_0 rfl (lv_at hl 0 rfl) ?_
  refine lv_iload_n hx hb dJ6_bitCount_0f7a4_1 rfl (lv_at hl 0 rfl) ?_
  refine lv_iconst (v := 1) hx hb dJ6_bitCount_0f7a4_2 (by decide) ?_
  refine lv_iushr hx hb dJ6_bitCount_0f7a4_3 rfl ?_
  refine lv_ldcw hx hb hown (hts _ k_85) dJ6_bitCount_0f7a4_4 ?_
  refine lv_iand hx hb dJ6_bitCount_0f7a4_7 ?_
  refine lv_isub hx hb dJ6_bitCount_0f7a4_8 ?_
  refine lv_topi (fun v_1 ev_1 => ?_)
  have hw := hw v_1 ev_1
  refine lv_istore_n (lv' := [(0, .int v_1)]) hx hb dJ6_bitCount_0f7a4_9 rfl hl (by decide) rfl (fun ls hl => ?_)
  refine lv_iload_n hx hb dJ6_bitCount_0f7a4_10 rfl (lv_at hl 0 rfl) ?_
  refine lv_ldcw hx hb hown (hts _ k_86) dJ6_bitCount_0f7a4_11 ?_
  refine lv_iand hx hb dJ6_bitCount_0f7a4_14 ?_
  refine lv_iload_n hx hb dJ6_bitCount_0f7a4_15 rfl (lv_at hl 0 rfl) ?_
  refine lv_iconst (v := 2) hx hb dJ6_bitCount_0f7a4_16 (by decide) ?_
  refine lv_iushr hx hb dJ6_bitCount_0f7a4_17 rfl ?_
  refine lv_ldcw hx hb hown (hts _ k_86) dJ6_bitCount_0f7a4_18 ?_
  refine lv_iand hx hb dJ6_bitCount_0f7a4_21 ?_
  refine lv_iadd hx hb dJ6_bitCount_0f7a4_22 ?_
  refine lv_topi (fun v_2 ev_2 => ?_)
  have hw := hw v_2 ev_2
  refine lv_istore_n (lv' := [(0, .int v_2)]) hx hb dJ6_bitCount_0f7a4_23 rfl hl (by decide) rfl (fun ls hl => ?_)
  refine lv_iload_n hx hb dJ6_bitCount_0f7a4_24 rfl (lv_at hl 0 rfl) ?_
  refine lv_iload_n hx hb dJ6_bitCount_0f7a4_25 rfl (lv_at hl 0 rfl) ?_
  refine lv_iconst (v := 4) hx hb dJ6_bitCount_0f7a4_26 (by decide) ?_
  refine lv_iushr hx hb dJ6_bitCount_0f7a4_27 rfl ?_
  refine lv_iadd hx hb dJ6_bitCount_0f7a4_28 ?_
  refine lv_ldcw hx hb hown (hts _ k_87) dJ6_bitCount_0f7a4_29 ?_
  refine lv_iand hx hb dJ6_bitCount_0f7a4_32 ?_
  refine lv_topi (fun v_3 ev_3 => ?_)
  have hw := hw v_3 ev_3
  refine lv_istore_n (lv' := [(0, .int v_3)]) hx hb dJ6_bitCount_0f7a4_33 rfl hl (by decide) rfl (fun ls hl => ?_)
  refine lv_iload_n hx hb dJ6_bitCount_0f7a4_34 rfl (lv_at hl 0 rfl) ?_
  refine lv_iload_n hx hb dJ6_bitCount_0f7a4_35 rfl (lv_at hl 0 rfl) ?_
  refine lv_bipush (v := 8) hx hb dJ6_bitCount_0f7a4_36 (by decide) ?_
  refine lv_iushr hx hb dJ6_bitCount_0f7a4_38 rfl ?_
  refine lv_iadd hx hb dJ6_bitCount_0f7a4_39 ?_
  refine lv_topi (fun v_4 ev_4 => ?_)
  have hw := hw v_4 ev_4
  refine lv_istore_n (lv' := [(0, .int v_4)]) hx hb dJ6_bitCount_0f7a4_40 rfl hl (by decide) rfl (fun ls hl => ?_)
  refine lv_iload_n hx hb dJ6_bitCount_0f7a4_41 rfl (lv_at hl 0 rfl) ?_
  refine lv_iload_n hx hb dJ6_bitCount_0f7a4_42 rfl (lv_at hl 0 rfl) ?_
  refine lv_bipush (v := 16) hx hb dJ6_bitCount_0f7a4_43 (by decide) ?_
  refine lv_iushr hx hb dJ6_bitCount_0f7a4_45 rfl ?_
  refine lv_iadd hx hb dJ6_bitCount_0f7a4_46 ?_
  refine lv_topi (fun v_5 ev_5 => ?_)
  have hw := hw v_5 ev_5
  refine lv_istore_n (lv' := [(0, .int v_5)]) hx hb dJ6_bitCount_0f7a4_47 rfl hl (by decide) rfl (fun ls hl => ?_)
  refine lv_iload_n hx hb dJ6_bitCount_0f7a4_48 rfl (lv_at hl 0 rfl) ?_
  refine lv_bipush (v := 63) hx hb dJ6_bitCount_0f7a4_49 (by decide) ?_
  refine lv_iand hx hb dJ6_bitCount_0f7a4_51 ?_
  rw [← hQQ]
  exact e_I hx hb hr hlocks hW hS (Nat.le_of_ble_eq_true rfl) (Nat.le_of_ble_eq_true rfl) dJ6_bitCount_0f7a4_52 ⟨hw, rfl⟩
def rm_X4_leave : Room := { frames := 7, cells := 1, slots := 6, locals := 112 }
set_option maxHeartbeats 4000000 in
set_option maxRecDepth 100000 in
theorem c_X4_leave (l : Launch) (hlt : l.stackTraces = false) (E : GE) (base : Nat) (M : Mem) (ad : AD) (a1 : Int32) (Q : Int32 → Mem → Prop) (X : Nat → Mem → Prop) (hw : w_X4_leave M a1 Q X) : Con l yX4_leave cX4_leave 3 (some .int) rm_X4_leave 1 6 E base [.ref (ad 4 0), .int a1] M ad (QcI E base (fun r M1 ad1 => Q r M1 ∧ ad = ad1)) (fun k M1 ad1 => X k M1 ∧ ad = ad1) := by
  refine con_start (by decide) (Nat.le_of_ble_eq_true rfl) ?_
  intro p e s m args below meth c ls QQ hQQ CT hnx hW hl
  obtain ⟨⟨hx, hb, hml, hown, hts⟩, hr, hlocks, hnm, hT⟩ := CT
  have hS : va_S (fun q : Nat => base ≤ q) s.heap s.heap [] := va_S.rf
  have hl : lv_has ls 3 [(0, .ref (ad 4 0)), (1, .int a1)] := hl
  unfold w_X4_leave at hw
  obtain ⟨H, hH⟩ : ∃ z, z = s.heap := ⟨_, rfl⟩
  obtain ⟨locs, hlo⟩ : ∃ z : List Loc, z = [] := ⟨_, rfl⟩
  have hS : va_S (fun q : Nat => base ≤ q) s.heap H locs := by rw [hlo, hH]; exact hS
  have hW : Wd E base M ad H := by rw [hH]; exact hW
  rw [show W p l e rm_X4_leave s m args below meth c s.heap [] 0 0 QQ (F0 m 0 ls []) = W p l e rm_X4_leave s m args below meth c H locs 0 0 QQ (F0 m 0 ls []) by rw [hlo, hH]]
  refine lv_aload_n hx hb dX4_leave_0 rfl (lv_at hl 0 rfl) ?_
  refine lv_iload_n hx hb dX4_leave_1 rfl (lv_at hl 1 rfl) ?_
  obtain ⟨g_1, hw⟩ := hw
  refine k_Q (rn_V (As := [.int a1]) (rest := []) (κ := 4) (i := 0) ⟨hx, hb, hml, hown, hts⟩ hT hW hS hl (c_X4_known l hlt E base M ad a1 _ _ hw) cy_X4_known k_79 k_80 k_81 g_1 (by decide) rfl rfl rfl rfl ⟨(Nat.le_of_ble_eq_true rfl), (Nat.le_of_ble_eq_true rfl)⟩ rfl rfl (Nat.le_of_ble_eq_true rfl) dX4_leave_2 ⟨(Nat.le_of_ble_eq_true rfl), (Nat.le_of_ble_eq_true rfl)⟩) hS (by rw [← hQQ]; exact kx_out hnx hlocks (Nat.le_of_ble_eq_true rfl) (Nat.le_of_ble_eq_true rfl) (fun _ _ _ h9 => h9)) (fun M_3 ad_4 H locs hP hW hS => absurd hP (fun ⟨_, h9, _⟩ => by cases h9)) (fun r_5 M_3 ad_4 H locs hP hW hS => ?_)
  obtain ⟨_, h9, hw, rfl⟩ := hP
  cases h9
  refine lv_astore_n (lv' := [(2, .ref (ad 2 r_5)), (0, .ref (ad 4 0)), (1, .int a1)]) hx hb dX4_leave_5 rfl hl (by decide) rfl (fun ls hl => ?_)
  refine lv_aload_n hx hb dX4_leave_6 rfl (lv_at hl 1 rfl) ?_
  obtain ⟨g_6, hw⟩ := hw
  obtain ⟨g_7, hw⟩ := hw
  refine r_getR (κ2 := 10) (i2 := 0) hx hb hts hown hT.1 hW clX4 0 (by decide) (hts _ k_5) (fun _ h9 => h9) 10 rfl rfl g_6 g_7 dX4_leave_7 ?_
  refine lv_aload_n hx hb dX4_leave_10 rfl (lv_at hl 0 rfl) ?_
  obtain ⟨g_8, hw⟩ := hw
  refine r_getI hx hb hts hown hT.1 hW clX2 0 (by decide) (hts _ k_83) (fun _ h9 => h9) rfl g_8 dX4_leave_11 ?_
  refine lv_null hx hb dX4_leave_14 ?_
  obtain ⟨g_9, hw⟩ := hw
  obtain ⟨g_10, hw⟩ := hw
  refine r_aastN hx hb hT.1 hW hS g_10 g_9 dX4_leave_15 (fun M_11 H locs hM_11 hW hS => ?_)
  have hw := hw M_11 hM_11
  refine lv_aload_n hx hb dX4_leave_16 rfl (lv_at hl 0 rfl) ?_
  obtain ⟨g_12, hw⟩ := hw
  refine r_getR (κ2 := 3) (i2 := r_5) hx hb hts hown hT.1 hW clX2 1 (by decide) (hts _ k_15) (fun _ h9 => h9) 3 rfl rfl (by rw [hM_11]; exact g_8) g_12 dX4_leave_17 ?_
  obtain ⟨g_13, hw⟩ := hw
  refine r_getI hx hb hts hown hT.1 hW clX3 0 (by decide) (hts _ k_16) (fun _ h9 => h9) rfl g_13 dX4_leave_20 ?_
  refine k_I (rn_S (As := [.int (mI M_11 3 r_5 0)]) (rest := []) ⟨hx, hb, hml, hown, hts⟩ hT hW hS hl (c_J6_bitCount_0f7a4 l E base M_11 ad (mI M_11 3 r_5 0) _ hw) cy_J6_bitCount_0f7a4 k_88 k_89 rfl rfl ⟨(Nat.le_of_ble_eq_true rfl), (Nat.le_of_ble_eq_true rfl)⟩ rfl rfl (Nat.le_of_ble_eq_true rfl) dX4_leave_23 ⟨(Nat.le_of_ble_eq_true rfl), (Nat.le_of_ble_eq_true rfl)⟩) hS kx_no (fun r_17 M_15 ad_16 H locs hP hW hS => ?_)
  obtain ⟨hw, rfl⟩ := hP
  rw [← hQQ]
  exact e_I hx hb hr hlocks hW hS (Nat.le_of_ble_eq_true rfl) (Nat.le_of_ble_eq_true rfl) dX4_leave_26 ⟨hw, rfl⟩
def rm_L_count : Room := { frames := 0, cells := 0, slots := 0, locals := 0 }
set_option maxHeartbeats 4000000 in
set_option maxRecDepth 100000 in
theorem c_L_count (l : Launch) (E : GE) (base : Nat) (M : Mem) (ad : AD) (a0 : Int32) (Q : Int32 → Mem → Prop) (hw : w_L_count M a0 Q) : Con l yL_count cL_count 3 (some .int) rm_L_count 0 0 E base [.int a0] M ad (QcI E base (fun r M1 ad1 => Q r M1 ∧ ad = ad1)) noX := by
  refine con_start (by decide) (Nat.le_of_ble_eq_true rfl) ?_
  intro p e s m args below meth c ls QQ hQQ CT hnx hW hl
  obtain ⟨⟨hx, hb, hml, hown, hts⟩, hr, hlocks, hnm, hT⟩ := CT
  have hS : va_S (fun q : Nat => base ≤ q) s.heap s.heap [] := va_S.rf
  have hl : lv_has ls 3 [(0, .int a0)] := hl
  have L_4 : ∀ (n : Nat) (M : Mem) (x0 : Int32) (x1 : Int32) (x2 : Int32), l_L_count_4 Q n M x0 x1 x2 → WL p l e rm_L_count s m args below meth c QQ E base 3 M ad 4 [(0, .int x0), (1, .int x1), (2, .int x2)] [] 0 0 := by
    intro n
    induction n with
    | zero => intro M x0 x1 x2 hw; exact False.elim hw
    | succ n K4 =>
      intro M x0 x1 x2 hw H locs ls hW hS hl
      obtain ⟨k4, hk4⟩ : ∃ z, z = l_L_count_4 Q n := ⟨_, rfl⟩
      have hw : b_L_count_4 Q k4 M x0 x1 x2 := by rw [hk4]; exact hw
      rw [← hk4] at K4
      unfold b_L_count_4 at hw
      refine lv_iload_n hx hb dL_count_4 rfl (lv_at hl 2 rfl) ?_
      refine lv_bipush (v := 12) hx hb dL_count_5 (by decide) ?_
      refine lv_icmp_ge (tgt := 24) hx hb dL_count_7 (by decide) (fun c_1 => ?_) (fun c_1 => ?_)
      · have hw := hw.1 c_1
        refine lv_iload_n hx hb dL_count_24 rfl (lv_at hl 1 rfl) ?_
        rw [← hQQ]
        exact e_I hx hb hr hlocks hW hS (Nat.le_of_ble_eq_true rfl) (Nat.le_of_ble_eq_true rfl) dL_count_25 ⟨hw, rfl⟩
      · have hw := hw.2 c_1
        refine lv_iload_n hx hb dL_count_10 rfl (lv_at hl 1 rfl) ?_
        refine lv_iload_n hx hb dL_count_11 rfl (lv_at hl 0 rfl) ?_
        refine lv_iload_n hx hb dL_count_12 rfl (lv_at hl 2 rfl) ?_
        refine lv_ishr hx hb dL_count_13 ?_
        refine lv_iconst (v := 1) hx hb dL_count_14 (by decide) ?_
        refine lv_iand hx hb dL_count_15 ?_
        refine lv_iadd hx hb dL_count_16 ?_
        refine lv_topi (fun v_2 ev_2 => ?_)
        have hw := hw v_2 ev_2
        refine lv_istore_n (lv' := [(1, .int v_2), (0, .int x0), (2, .int x2)]) hx hb dL_count_17 rfl hl (by decide) rfl (fun ls hl => ?_)
        obtain ⟨v_3, ev_3⟩ : ∃ y : Int32, y = x2 + 1 := ⟨_, rfl⟩
        have hw := hw v_3 ev_3
        refine lv_iinc (v := v_3) (lv' := [(2, .int v_3), (1, .int v_2), (0, .int x0)]) hx hb dL_count_18 hl (k := 2) rfl (by rw [ev_3]; rfl) (by decide) rfl (fun ls hl => ?_)
        refine lv_goto (tgt := 4) hx hb dL_count_21 (by decide) ?_
        exact K4 M x0 v_2 v_3 hw H locs ls hW hS (lv_sub hl [2, 1, 0] rfl)
  unfold w_L_count at hw
  obtain ⟨H, hH⟩ : ∃ z, z = s.heap := ⟨_, rfl⟩
  obtain ⟨locs, hlo⟩ : ∃ z : List Loc, z = [] := ⟨_, rfl⟩
  have hS : va_S (fun q : Nat => base ≤ q) s.heap H locs := by rw [hlo, hH]; exact hS
  have hW : Wd E base M ad H := by rw [hH]; exact hW
  rw [show W p l e rm_L_count s m args below meth c s.heap [] 0 0 QQ (F0 m 0 ls []) = W p l e rm_L_count s m args below meth c H locs 0 0 QQ (F0 m 0 ls []) by rw [hlo, hH]]
  refine lv_iconst (v := 0) hx hb dL_count_0 (by decide) ?_
  refine lv_istore_n (lv' := [(1, .int 0), (0, .int a0)]) hx hb dL_count_1 rfl hl (by decide) rfl (fun ls hl => ?_)
  refine lv_iconst (v := 0) hx hb dL_count_2 (by decide) ?_
  refine lv_istore_n (lv' := [(2, .int 0), (1, .int 0), (0, .int a0)]) hx hb dL_count_3 rfl hl (by decide) rfl (fun ls hl => ?_)
  obtain ⟨n9, hw⟩ := hw
  exact L_4 n9 M a0 0 0 hw H locs ls hW hS (lv_sub hl [2, 1, 0] rfl)
def rm_X4_setPriority : Room := { frames := 7, cells := 2, slots := 12, locals := 110 }
set_option maxHeartbeats 4000000 in
set_option maxRecDepth 100000 in
theorem c_X4_setPriority (l : Launch) (hlt : l.stackTraces = false) (E : GE) (base : Nat) (M : Mem) (ad : AD) (a1 : Int32) (a2 : Int32) (Q : Int32 → Mem → Prop) (X : Nat → Mem → Prop) (hw : w_X4_setPriority M a1 a2 Q X) : Con l yX4_setPriority cX4_setPriority 4 (some .int) rm_X4_setPriority 2 12 E base [.ref (ad 4 0), .int a1, .int a2] M ad (QcI E base (fun r M1 ad1 => Q r M1 ∧ ad = ad1)) (fun k M1 ad1 => X k M1 ∧ ad = ad1) := by
  refine con_start (by decide) (Nat.le_of_ble_eq_true rfl) ?_
  intro p e s m args below meth c ls QQ hQQ CT hnx hW hl
  obtain ⟨⟨hx, hb, hml, hown, hts⟩, hr, hlocks, hnm, hT⟩ := CT
  have hS : va_S (fun q : Nat => base ≤ q) s.heap s.heap [] := va_S.rf
  have hl : lv_has ls 4 [(0, .ref (ad 4 0)), (1, .int a1), (2, .int a2)] := hl
  have L_13 : ∀ (M : Mem) , b_X4_setPriority_13 Q X M → WL p l e rm_X4_setPriority s m args below meth c QQ E base 4 M ad 13 [] [] 1 6 := by
    intro M hw H locs ls hW hS hl
    unfold b_X4_setPriority_13 at hw
    rw [← hQQ]
    exact e_throw 2 (own := RX4) (text := "no such priority") hx hb hlt hown hts hT (by decide) k_90 k_91 at_X4_75_2 ag_X4_75_2 (by decide +kernel) dX4_setPriority_13 dX4_setPriority_16 dX4_setPriority_17 dX4_setPriority_19 dX4_setPriority_22 hnx (Nat.le_of_ble_eq_true rfl) (Nat.le_of_ble_eq_true rfl) (Nat.le_of_ble_eq_true rfl) (Nat.le_of_ble_eq_true rfl) hlocks (by rw [hml]; exact hl.1) hW hS (Nat.le_of_ble_eq_true rfl) (Nat.le_of_ble_eq_true rfl) ⟨hw, rfl⟩
  unfold w_X4_setPriority at hw
  obtain ⟨H, hH⟩ : ∃ z, z = s.heap := ⟨_, rfl⟩
  obtain ⟨locs, hlo⟩ : ∃ z : List Loc, z = [] := ⟨_, rfl⟩
  have hS : va_S (fun q : Nat => base ≤ q) s.heap H locs := by rw [hlo, hH]; exact hS
  have hW : Wd E base M ad H := by rw [hH]; exact hW
  rw [show W p l e rm_X4_setPriority s m args below meth c s.heap [] 0 0 QQ (F0 m 0 ls []) = W p l e rm_X4_setPriority s m args below meth c H locs 0 0 QQ (F0 m 0 ls []) by rw [hlo, hH]]
  refine lv_iload_n hx hb dX4_setPriority_0 rfl (lv_at hl 1 rfl) ?_
  refine k_V (rn_S (As := [.int a1]) (rest := []) ⟨hx, hb, hml, hown, hts⟩ hT hW hS hl (c_X4_checkPiece l hlt E base M ad a1 _ _ hw) cy_X4_checkPiece k_19 k_20 rfl rfl ⟨(Nat.le_of_ble_eq_true rfl), (Nat.le_of_ble_eq_true rfl)⟩ rfl rfl (Nat.le_of_ble_eq_true rfl) dX4_setPriority_1 ⟨(Nat.le_of_ble_eq_true rfl), (Nat.le_of_ble_eq_true rfl)⟩) hS (by rw [← hQQ]; exact kx_out hnx hlocks (Nat.le_of_ble_eq_true rfl) (Nat.le_of_ble_eq_true rfl) (fun _ _ _ h9 => h9)) (fun M_2 ad_3 H locs hP hW hS => ?_)
  obtain ⟨hw, rfl⟩ := hP
  refine lv_iload_n hx hb dX4_setPriority_4 rfl (lv_at hl 2 rfl) ?_
  refine lv_if_lt (tgt := 13) hx hb dX4_setPriority_5 (by decide) (fun c_5 => ?_) (fun c_5 => ?_)
  · have hw := hw.1 c_5
    exact L_13 M_2 hw H locs ls hW hS (lv_sub hl [] rfl)
  · have hw := hw.2 c_5
    refine lv_iload_n hx hb dX4_setPriority_8 rfl (lv_at hl 2 rfl) ?_
    refine lv_iconst (v := 3) hx hb dX4_setPriority_9 (by decide) ?_
    refine lv_icmp_le (tgt := 23) hx hb dX4_setPriority_10 (by decide) (fun c_6 => ?_) (fun c_6 => ?_)
    · have hw := hw.1 c_6
      refine lv_aload_n hx hb dX4_setPriority_23 rfl (lv_at hl 0 rfl) ?_
      obtain ⟨g_7, hw⟩ := hw
      obtain ⟨g_8, hw⟩ := hw
      refine r_getR (κ2 := 11) (i2 := 0) hx hb hts hown hT.1 hW clX4 1 (by decide) (hts _ k_7) (fun _ h9 => h9) 11 rfl rfl g_7 g_8 dX4_setPriority_24 ?_
      refine lv_iload_n hx hb dX4_setPriority_27 rfl (lv_at hl 1 rfl) ?_
      obtain ⟨g_9, hw⟩ := hw
      obtain ⟨g_10, hw⟩ := hw
      refine r_iald hx hb hT.1 hW (by decide) rfl (fun _ => rfl) 12 rfl g_10 g_9 dX4_setPriority_28 ?_
      refine lv_topi (fun v_11 ev_11 => ?_)
      have hw := hw v_11 ev_11
      refine lv_istore_n (lv' := [(3, .int v_11), (0, .ref (ad 4 0)), (1, .int a1), (2, .int a2)]) hx hb dX4_setPriority_29 rfl hl (by decide) rfl (fun ls hl => ?_)
      refine lv_aload_n hx hb dX4_setPriority_30 rfl (lv_at hl 1 rfl) ?_
      refine r_getR (κ2 := 11) (i2 := 0) hx hb hts hown hT.1 hW clX4 1 (by decide) (hts _ k_7) (fun _ h9 => h9) 11 rfl rfl g_7 g_8 dX4_setPriority_31 ?_
      refine lv_iload_n hx hb dX4_setPriority_34 rfl (lv_at hl 2 rfl) ?_
      refine lv_iload_n hx hb dX4_setPriority_35 rfl (lv_at hl 3 rfl) ?_
      obtain ⟨g_12, hw⟩ := hw
      refine r_iast hx hb hT.1 hW hS (by decide) rfl (fun _ => rfl) 12 rfl g_12 g_9 dX4_setPriority_36 (fun M_13 H locs hM_13 hW hS => ?_)
      have hw := hw M_13 hM_13
      refine lv_iload_n hx hb dX4_setPriority_37 rfl (lv_at hl 0 rfl) ?_
      rw [← hQQ]
      exact e_I hx hb hr hlocks hW hS (Nat.le_of_ble_eq_true rfl) (Nat.le_of_ble_eq_true rfl) dX4_setPriority_38 ⟨hw, rfl⟩
    · have hw := hw.2 c_6
      exact L_13 M_2 hw H locs ls hW hS (lv_sub hl [] rfl)
def rm_X4_setSequence : Room := { frames := 7, cells := 1, slots := 6, locals := 112 }
set_option maxHeartbeats 4000000 in
set_option maxRecDepth 100000 in
theorem c_X4_setSequence (l : Launch) (hlt : l.stackTraces = false) (E : GE) (base : Nat) (M : Mem) (ad : AD) (a1 : Int32) (a2 : Int32) (Q : Int32 → Mem → Prop) (X : Nat → Mem → Prop) (hw : w_X4_setSequence M a1 a2 Q X) : Con l yX4_setSequence cX4_setSequence 5 (some .boolean) rm_X4_setSequence 1 6 E base [.ref (ad 4 0), .int a1, .int a2] M ad (QcI E base (fun r M1 ad1 => Q r M1 ∧ ad = ad1)) (fun k M1 ad1 => X k M1 ∧ ad = ad1) := by
  refine con_start (by decide) (Nat.le_of_ble_eq_true rfl) ?_
  intro p e s m args below meth c ls QQ hQQ CT hnx hW hl
  obtain ⟨⟨hx, hb, hml, hown, hts⟩, hr, hlocks, hnm, hT⟩ := CT
  have hS : va_S (fun q : Nat => base ≤ q) s.heap s.heap [] := va_S.rf
  have hl : lv_has ls 5 [(0, .ref (ad 4 0)), (1, .int a1), (2, .int a2)] := hl
  have L_19 : ∀ (M : Mem) (x2 : Int32) (x3 : Nat) (s0 : Int32), b_X4_setSequence_19 Q X M x2 x3 s0 → WL p l e rm_X4_setSequence s m args below meth c QQ E base 5 M ad 19 [(2, .int x2), (3, .ref (ad 2 x3))] [.int s0] 1 6 := by
    intro M x2 x3 s0 hw H locs ls hW hS hl
    unfold b_X4_setSequence_19 at hw
    refine lv_istore (lv' := [(4, .int s0), (2, .int x2), (3, .ref (ad 2 x3))]) hx hb dX4_setSequence_19 hl (by decide) rfl (fun ls hl => ?_)
    refine lv_aload_n hx hb dX4_setSequence_21 rfl (lv_at hl 2 rfl) ?_
    refine lv_iload_n hx hb dX4_setSequence_22 rfl (lv_at hl 1 rfl) ?_
    obtain ⟨g_8, hw⟩ := hw
    obtain ⟨g_10, hw⟩ := hw
    refine r_putZ hx hb hts hown hT.1 hW hS clX2 5 (by decide) (hts _ k_92) (fun _ h9 => h9) rfl (by decide +kernel) rfl g_10 g_8 dX4_setSequence_23 (fun M_9 H locs hM_9 hW hS => ?_)
    have hw := hw M_9 hM_9
    refine lv_iload hx hb dX4_setSequence_26 (lv_at hl 0 rfl) ?_
    obtain ⟨g_11, hw⟩ := hw
    rw [← hQQ]
    exact e_Z hx hb hr hlocks hW hS (Nat.le_of_ble_eq_true rfl) (Nat.le_of_ble_eq_true rfl) dX4_setSequence_28 g_11 ⟨hw, rfl⟩
  unfold w_X4_setSequence at hw
  obtain ⟨H, hH⟩ : ∃ z, z = s.heap := ⟨_, rfl⟩
  obtain ⟨locs, hlo⟩ : ∃ z : List Loc, z = [] := ⟨_, rfl⟩
  have hS : va_S (fun q : Nat => base ≤ q) s.heap H locs := by rw [hlo, hH]; exact hS
  have hW : Wd E base M ad H := by rw [hH]; exact hW
  rw [show W p l e rm_X4_setSequence s m args below meth c s.heap [] 0 0 QQ (F0 m 0 ls []) = W p l e rm_X4_setSequence s m args below meth c H locs 0 0 QQ (F0 m 0 ls []) by rw [hlo, hH]]
  refine lv_aload_n hx hb dX4_setSequence_0 rfl (lv_at hl 0 rfl) ?_
  refine lv_iload_n hx hb dX4_setSequence_1 rfl (lv_at hl 1 rfl) ?_
  obtain ⟨g_1, hw⟩ := hw
  refine k_Q (rn_V (As := [.int a1]) (rest := []) (κ := 4) (i := 0) ⟨hx, hb, hml, hown, hts⟩ hT hW hS hl (c_X4_known l hlt E base M ad a1 _ _ hw) cy_X4_known k_79 k_80 k_81 g_1 (by decide) rfl rfl rfl rfl ⟨(Nat.le_of_ble_eq_true rfl), (Nat.le_of_ble_eq_true rfl)⟩ rfl rfl (Nat.le_of_ble_eq_true rfl) dX4_setSequence_2 ⟨(Nat.le_of_ble_eq_true rfl), (Nat.le_of_ble_eq_true rfl)⟩) hS (by rw [← hQQ]; exact kx_out hnx hlocks (Nat.le_of_ble_eq_true rfl) (Nat.le_of_ble_eq_true rfl) (fun _ _ _ h9 => h9)) (fun M_3 ad_4 H locs hP hW hS => absurd hP (fun ⟨_, h9, _⟩ => by cases h9)) (fun r_5 M_3 ad_4 H locs hP hW hS => ?_)
  obtain ⟨_, h9, hw, rfl⟩ := hP
  cases h9
  refine lv_astore_n (lv' := [(3, .ref (ad 2 r_5)), (0, .ref (ad 4 0)), (1, .int a1), (2, .int a2)]) hx hb dX4_setSequence_5 rfl hl (by decide) rfl (fun ls hl => ?_)
  refine lv_aload_n hx hb dX4_setSequence_6 rfl (lv_at hl 0 rfl) ?_
  obtain ⟨g_6, hw⟩ := hw
  refine r_getI hx hb hts hown hT.1 hW clX2 5 (by decide) (hts _ k_92) (fun _ h9 => h9) rfl g_6 dX4_setSequence_7 ?_
  refine lv_iload_n hx hb dX4_setSequence_10 rfl (lv_at hl 3 rfl) ?_
  refine lv_icmp_eq (tgt := 18) hx hb dX4_setSequence_11 (by decide) (fun c_7 => ?_) (fun c_7 => ?_)
  · have hw := hw.1 c_7
    refine lv_iconst (v := 0) hx hb dX4_setSequence_18 (by decide) ?_
    exact L_19 M_3 a2 r_5 0 hw H locs ls hW hS (lv_sub hl [3, 0] rfl)
  · have hw := hw.2 c_7
    refine lv_iconst (v := 1) hx hb dX4_setSequence_14 (by decide) ?_
    refine lv_goto (tgt := 19) hx hb dX4_setSequence_15 (by decide) ?_
    exact L_19 M_3 a2 r_5 1 hw H locs ls hW hS (lv_sub hl [3, 0] rfl)
def rm_X4_setCareful : Room := { frames := 7, cells := 1, slots := 6, locals := 112 }
set_option maxHeartbeats 4000000 in
set_option maxRecDepth 100000 in
theorem c_X4_setCareful (l : Launch) (hlt : l.stackTraces = false) (E : GE) (base : Nat) (M : Mem) (ad : AD) (a1 : Int32) (a2 : Int32) (Q : Int32 → Mem → Prop) (X : Nat → Mem → Prop) (hw : w_X4_setCareful M a1 a2 Q X) : Con l yX4_setCareful cX4_setCareful 5 (some .boolean) rm_X4_setCareful 1 6 E base [.ref (ad 4 0), .int a1, .int a2] M ad (QcI E base (fun r M1 ad1 => Q r M1 ∧ ad = ad1)) (fun k M1 ad1 => X k M1 ∧ ad = ad1) := by
  refine con_start (by decide) (Nat.le_of_ble_eq_true rfl) ?_
  intro p e s m args below meth c ls QQ hQQ CT hnx hW hl
  obtain ⟨⟨hx, hb, hml, hown, hts⟩, hr, hlocks, hnm, hT⟩ := CT
  have hS : va_S (fun q : Nat => base ≤ q) s.heap s.heap [] := va_S.rf
  have hl : lv_has ls 5 [(0, .ref (ad 4 0)), (1, .int a1), (2, .int a2)] := hl
  have L_19 : ∀ (M : Mem) (x2 : Int32) (x3 : Nat) (s0 : Int32), b_X4_setCareful_19 Q X M x2 x3 s0 → WL p l e rm_X4_setCareful s m args below meth c QQ E base 5 M ad 19 [(2, .int x2), (3, .ref (ad 2 x3))] [.int s0] 1 6 := by
    intro M x2 x3 s0 hw H locs ls hW hS hl
    unfold b_X4_setCareful_19 at hw
    refine lv_istore (lv' := [(4, .int s0), (2, .int x2), (3, .ref (ad 2 x3))]) hx hb dX4_setCareful_19 hl (by decide) rfl (fun ls hl => ?_)
    refine lv_aload_n hx hb dX4_setCareful_21 rfl (lv_at hl 2 rfl) ?_
    refine lv_iload_n hx hb dX4_setCareful_22 rfl (lv_at hl 1 rfl) ?_
    obtain ⟨g_8, hw⟩ := hw
    obtain ⟨g_10, hw⟩ := hw
    refine r_putZ hx hb hts hown hT.1 hW hS clX2 6 (by decide) (hts _ k_93) (fun _ h9 => h9) rfl (by decide +kernel) rfl g_10 g_8 dX4_setCareful_23 (fun M_9 H locs hM_9 hW hS => ?_)
    have hw := hw M_9 hM_9
    refine lv_iload hx hb dX4_setCareful_26 (lv_at hl 0 rfl) ?_
    obtain ⟨g_11, hw⟩ := hw
    rw [← hQQ]
    exact e_Z hx hb hr hlocks hW hS (Nat.le_of_ble_eq_true rfl) (Nat.le_of_ble_eq_true rfl) dX4_setCareful_28 g_11 ⟨hw, rfl⟩
  unfold w_X4_setCareful at hw
  obtain ⟨H, hH⟩ : ∃ z, z = s.heap := ⟨_, rfl⟩
  obtain ⟨locs, hlo⟩ : ∃ z : List Loc, z = [] := ⟨_, rfl⟩
  have hS : va_S (fun q : Nat => base ≤ q) s.heap H locs := by rw [hlo, hH]; exact hS
  have hW : Wd E base M ad H := by rw [hH]; exact hW
  rw [show W p l e rm_X4_setCareful s m args below meth c s.heap [] 0 0 QQ (F0 m 0 ls []) = W p l e rm_X4_setCareful s m args below meth c H locs 0 0 QQ (F0 m 0 ls []) by rw [hlo, hH]]
  refine lv_aload_n hx hb dX4_setCareful_0 rfl (lv_at hl 0 rfl) ?_
  refine lv_iload_n hx hb dX4_setCareful_1 rfl (lv_at hl 1 rfl) ?_
  obtain ⟨g_1, hw⟩ := hw
  refine k_Q (rn_V (As := [.int a1]) (rest := []) (κ := 4) (i := 0) ⟨hx, hb, hml, hown, hts⟩ hT hW hS hl (c_X4_known l hlt E base M ad a1 _ _ hw) cy_X4_known k_79 k_80 k_81 g_1 (by decide) rfl rfl rfl rfl ⟨(Nat.le_of_ble_eq_true rfl), (Nat.le_of_ble_eq_true rfl)⟩ rfl rfl (Nat.le_of_ble_eq_true rfl) dX4_setCareful_2 ⟨(Nat.le_of_ble_eq_true rfl), (Nat.le_of_ble_eq_true rfl)⟩) hS (by rw [← hQQ]; exact kx_out hnx hlocks (Nat.le_of_ble_eq_true rfl) (Nat.le_of_ble_eq_true rfl) (fun _ _ _ h9 => h9)) (fun M_3 ad_4 H locs hP hW hS => absurd hP (fun ⟨_, h9, _⟩ => by cases h9)) (fun r_5 M_3 ad_4 H locs hP hW hS => ?_)
  obtain ⟨_, h9, hw, rfl⟩ := hP
  cases h9
  refine lv_astore_n (lv' := [(3, .ref (ad 2 r_5)), (0, .ref (ad 4 0)), (1, .int a1), (2, .int a2)]) hx hb dX4_setCareful_5 rfl hl (by decide) rfl (fun ls hl => ?_)
  refine lv_aload_n hx hb dX4_setCareful_6 rfl (lv_at hl 0 rfl) ?_
  obtain ⟨g_6, hw⟩ := hw
  refine r_getI hx hb hts hown hT.1 hW clX2 6 (by decide) (hts _ k_93) (fun _ h9 => h9) rfl g_6 dX4_setCareful_7 ?_
  refine lv_iload_n hx hb dX4_setCareful_10 rfl (lv_at hl 3 rfl) ?_
  refine lv_icmp_eq (tgt := 18) hx hb dX4_setCareful_11 (by decide) (fun c_7 => ?_) (fun c_7 => ?_)
  · have hw := hw.1 c_7
    refine lv_iconst (v := 0) hx hb dX4_setCareful_18 (by decide) ?_
    exact L_19 M_3 a2 r_5 0 hw H locs ls hW hS (lv_sub hl [3, 0] rfl)
  · have hw := hw.2 c_7
    refine lv_iconst (v := 1) hx hb dX4_setCareful_14 (by decide) ?_
    refine lv_goto (tgt := 19) hx hb dX4_setCareful_15 (by decide) ?_
    exact L_19 M_3 a2 r_5 1 hw H locs ls hW hS (lv_sub hl [3, 0] rfl)
def rm_X4_findRarest : Room := { frames := 2, cells := 0, slots := 0, locals := 48 }
set_option maxHeartbeats 4000000 in
set_option maxRecDepth 100000 in
theorem c_X4_findRarest (l : Launch) (E : GE) (base : Nat) (M : Mem) (ad : AD) (a1 : Int32) (a2 : Int32) (Q : Int32 → Mem → Prop) (hw : w_X4_findRarest M a1 a2 Q) : Con l yX4_findRarest cX4_findRarest 8 (some .int) rm_X4_findRarest 0 0 E base [.ref (ad 4 0), .int a1, .int a2] M ad (QcI E base (fun r M1 ad1 => Q r M1 ∧ ad = ad1)) noX := by
  refine con_start (by decide) (Nat.le_of_ble_eq_true rfl) ?_
  intro p e s m args below meth c ls QQ hQQ CT hnx hW hl
  obtain ⟨⟨hx, hb, hml, hown, hts⟩, hr, hlocks, hnm, hT⟩ := CT
  have hS : va_S (fun q : Nat => base ≤ q) s.heap s.heap [] := va_S.rf
  have hl : lv_has ls 8 [(0, .ref (ad 4 0)), (1, .int a1), (2, .int a2)] := hl
  have L_61 : ∀ (k8 : Mem → Int32 → Int32 → Int32 → Int32 → Int32 → Prop) (K8 : ∀ (M : Mem) (x1 : Int32) (x2 : Int32) (x3 : Int32) (x4 : Int32) (x5 : Int32), k8 M x1 x2 x3 x4 x5 → WL p l e rm_X4_findRarest s m args below meth c QQ E base 8 M ad 8 [(0, .ref (ad 4 0)), (1, .int x1), (2, .int x2), (3, .int x3), (4, .int x4), (5, .int x5)] [] 0 0) (M : Mem) (x1 : Int32) (x2 : Int32) (x3 : Int32) (x4 : Int32) (x5 : Int32), b_X4_findRarest_61 k8 Q M x1 x2 x3 x4 x5 → WL p l e rm_X4_findRarest s m args below meth c QQ E base 8 M ad 61 [(0, .ref (ad 4 0)), (1, .int x1), (2, .int x2), (3, .int x3), (4, .int x4), (5, .int x5)] [] 0 0 := by
    intro k8 K8 M x1 x2 x3 x4 x5 hw H locs ls hW hS hl
    unfold b_X4_findRarest_61 at hw
    obtain ⟨v_8, ev_8⟩ : ∃ y : Int32, y = x5 + 1 := ⟨_, rfl⟩
    have hw := hw v_8 ev_8
    refine lv_iinc (v := v_8) (lv' := [(5, .int v_8), (0, .ref (ad 4 0)), (1, .int x1), (2, .int x2), (3, .int x3), (4, .int x4)]) hx hb dX4_findRarest_61 hl (k := 5) rfl (by rw [ev_8]; rfl) (by decide) rfl (fun ls hl => ?_)
    refine lv_goto (tgt := 8) hx hb dX4_findRarest_64 (by decide) ?_
    exact K8 M x1 x2 x3 x4 v_8 hw H locs ls hW hS (lv_sub hl [1, 2, 3, 4, 5, 0] rfl)
  have L_54 : ∀ (k8 : Mem → Int32 → Int32 → Int32 → Int32 → Int32 → Prop) (K8 : ∀ (M : Mem) (x1 : Int32) (x2 : Int32) (x3 : Int32) (x4 : Int32) (x5 : Int32), k8 M x1 x2 x3 x4 x5 → WL p l e rm_X4_findRarest s m args below meth c QQ E base 8 M ad 8 [(0, .ref (ad 4 0)), (1, .int x1), (2, .int x2), (3, .int x3), (4, .int x4), (5, .int x5)] [] 0 0) (M : Mem) (x1 : Int32) (x2 : Int32) (x5 : Int32) (x6 : Int32) (x7 : Int32), b_X4_findRarest_54 k8 Q M x1 x2 x5 x6 x7 → WL p l e rm_X4_findRarest s m args below meth c QQ E base 8 M ad 54 [(0, .ref (ad 4 0)), (1, .int x1), (2, .int x2), (5, .int x5), (6, .int x6), (7, .int x7)] [] 0 0 := by
    intro k8 K8 M x1 x2 x5 x6 x7 hw H locs ls hW hS hl
    unfold b_X4_findRarest_54 at hw
    refine lv_iload hx hb dX4_findRarest_54 (lv_at hl 4 rfl) ?_
    refine lv_istore_n (lv' := [(3, .int x6), (0, .ref (ad 4 0)), (1, .int x1), (2, .int x2), (5, .int x5), (6, .int x6), (7, .int x7)]) hx hb dX4_findRarest_56 rfl hl (by decide) rfl (fun ls hl => ?_)
    refine lv_iload hx hb dX4_findRarest_57 (lv_at hl 6 rfl) ?_
    refine lv_istore (lv' := [(4, .int x7), (3, .int x6), (0, .ref (ad 4 0)), (1, .int x1), (2, .int x2), (5, .int x5), (6, .int x6), (7, .int x7)]) hx hb dX4_findRarest_59 hl (by decide) rfl (fun ls hl => ?_)
    exact L_61 k8 K8 M x1 x2 x6 x7 x5 hw H locs ls hW hS (lv_sub hl [2, 3, 4, 1, 0, 5] rfl)
  have L_8 : ∀ (n : Nat) (M : Mem) (x1 : Int32) (x2 : Int32) (x3 : Int32) (x4 : Int32) (x5 : Int32), l_X4_findRarest_8 Q n M x1 x2 x3 x4 x5 → WL p l e rm_X4_findRarest s m args below meth c QQ E base 8 M ad 8 [(0, .ref (ad 4 0)), (1, .int x1), (2, .int x2), (3, .int x3), (4, .int x4), (5, .int x5)] [] 0 0 := by
    intro n
    induction n with
    | zero => intro M x1 x2 x3 x4 x5 hw; exact False.elim hw
    | succ n K8 =>
      intro M x1 x2 x3 x4 x5 hw H locs ls hW hS hl
      obtain ⟨k8, hk8⟩ : ∃ z, z = l_X4_findRarest_8 Q n := ⟨_, rfl⟩
      have hw : b_X4_findRarest_8 Q k8 M x1 x2 x3 x4 x5 := by rw [hk8]; exact hw
      rw [← hk8] at K8
      unfold b_X4_findRarest_8 at hw
      refine lv_iload hx hb dX4_findRarest_8 (lv_at hl 5 rfl) ?_
      refine lv_bipush (v := 12) hx hb dX4_findRarest_10 (by decide) ?_
      refine lv_icmp_ge (tgt := 67) hx hb dX4_findRarest_12 (by decide) (fun c_1 => ?_) (fun c_1 => ?_)
      · have hw := hw.1 c_1
        refine lv_iload_n hx hb dX4_findRarest_67 rfl (lv_at hl 3 rfl) ?_
        rw [← hQQ]
        exact e_I hx hb hr hlocks hW hS (Nat.le_of_ble_eq_true rfl) (Nat.le_of_ble_eq_true rfl) dX4_findRarest_68 ⟨hw, rfl⟩
      · have hw := hw.2 c_1
        refine lv_iload_n hx hb dX4_findRarest_15 rfl (lv_at hl 2 rfl) ?_
        refine lv_iload hx hb dX4_findRarest_16 (lv_at hl 5 rfl) ?_
        refine lv_iadd hx hb dX4_findRarest_18 ?_
        refine lv_bipush (v := 12) hx hb dX4_findRarest_19 (by decide) ?_
        refine lv_irem hx hb dX4_findRarest_21 (by decide) ?_
        refine lv_topi (fun v_2 ev_2 => ?_)
        have hw := hw v_2 ev_2
        refine lv_istore (lv' := [(6, .int v_2), (0, .ref (ad 4 0)), (1, .int x1), (2, .int x2), (3, .int x3), (4, .int x4), (5, .int x5)]) hx hb dX4_findRarest_22 hl (by decide) rfl (fun ls hl => ?_)
        refine lv_iload_n hx hb dX4_findRarest_24 rfl (lv_at hl 2 rfl) ?_
        refine lv_i2l hx hb dX4_findRarest_25 rfl ?_
        refine lv_iload hx hb dX4_findRarest_26 (lv_at hl 0 rfl) ?_
        refine k_I (rn_S (As := [.long x1.toInt64, .int v_2]) (rest := []) ⟨hx, hb, hml, hown, hts⟩ hT hW hS hl (c_X4_isIn l E base M ad x1.toInt64 v_2 _ hw) cy_X4_isIn k_17 k_18 rfl rfl ⟨(Nat.le_of_ble_eq_true rfl), (Nat.le_of_ble_eq_true rfl)⟩ rfl rfl (Nat.le_of_ble_eq_true rfl) dX4_findRarest_28 ⟨(Nat.le_of_ble_eq_true rfl), (Nat.le_of_ble_eq_true rfl)⟩) hS kx_no (fun r_6 M_4 ad_5 H locs hP hW hS => ?_)
        obtain ⟨hw, rfl⟩ := hP
        refine lv_if_eq (tgt := 61) hx hb dX4_findRarest_31 (by decide) (fun c_7 => ?_) (fun c_7 => ?_)
        · have hw := hw.1 c_7
          exact L_61 k8 K8 M_4 x1 x2 x3 x4 x5 hw H locs ls hW hS (lv_sub hl [1, 2, 3, 4, 5, 6] rfl)
        · have hw := hw.2 c_7
          refine lv_aload_n hx hb dX4_findRarest_34 rfl (lv_at hl 1 rfl) ?_
          refine lv_iload hx hb dX4_findRarest_35 (lv_at hl 0 rfl) ?_
          obtain ⟨g_9, hw⟩ := hw
          refine k_I (rn_V (As := [.int v_2]) (rest := []) (κ := 4) (i := 0) ⟨hx, hb, hml, hown, hts⟩ hT hW hS hl (c_X4_countHolders l E base M_4 ad v_2 _ hw) cy_X4_countHolders k_21 k_22 k_23 g_9 (by decide) rfl rfl rfl rfl ⟨(Nat.le_of_ble_eq_true rfl), (Nat.le_of_ble_eq_true rfl)⟩ rfl rfl (Nat.le_of_ble_eq_true rfl) dX4_findRarest_37 ⟨(Nat.le_of_ble_eq_true rfl), (Nat.le_of_ble_eq_true rfl)⟩) hS kx_no (fun r_13 M_11 ad_12 H locs hP hW hS => ?_)
          obtain ⟨hw, rfl⟩ := hP
          refine lv_istore (lv' := [(7, .int r_13), (6, .int v_2), (0, .ref (ad 4 0)), (1, .int x1), (2, .int x2), (3, .int x3), (4, .int x4), (5, .int x5)]) hx hb dX4_findRarest_40 hl (by decide) rfl (fun ls hl => ?_)
          refine lv_iload_n hx hb dX4_findRarest_42 rfl (lv_at hl 5 rfl) ?_
          refine lv_iconst (v := (-1)) hx hb dX4_findRarest_43 (by decide) ?_
          refine lv_icmp_eq (tgt := 54) hx hb dX4_findRarest_44 (by decide) (fun c_14 => ?_) (fun c_14 => ?_)
          · have hw := hw.1 c_14
            exact L_54 k8 K8 M_11 x1 x2 x5 v_2 r_13 hw H locs ls hW hS (lv_sub hl [2, 3, 4, 7, 1, 0] rfl)
          · have hw := hw.2 c_14
            refine lv_iload hx hb dX4_findRarest_47 (lv_at hl 0 rfl) ?_
            refine lv_iload hx hb dX4_findRarest_49 (lv_at hl 6 rfl) ?_
            refine lv_icmp_ge (tgt := 61) hx hb dX4_findRarest_51 (by decide) (fun c_15 => ?_) (fun c_15 => ?_)
            · have hw := hw.1 c_15
              exact L_61 k8 K8 M_11 x1 x2 x3 x4 x5 hw H locs ls hW hS (lv_sub hl [2, 3, 4, 5, 6, 7] rfl)
            · have hw := hw.2 c_15
              exact L_54 k8 K8 M_11 x1 x2 x5 v_2 r_13 hw H locs ls hW hS (lv_sub hl [2, 3, 4, 7, 1, 0] rfl)
  unfold w_X4_findRarest at hw
  obtain ⟨H, hH⟩ : ∃ z, z = s.heap := ⟨_, rfl⟩
  obtain ⟨locs, hlo⟩ : ∃ z : List Loc, z = [] := ⟨_, rfl⟩
  have hS : va_S (fun q : Nat => base ≤ q) s.heap H locs := by rw [hlo, hH]; exact hS
  have hW : Wd E base M ad H := by rw [hH]; exact hW
  rw [show W p l e rm_X4_findRarest s m args below meth c s.heap [] 0 0 QQ (F0 m 0 ls []) = W p l e rm_X4_findRarest s m args below meth c H locs 0 0 QQ (F0 m 0 ls []) by rw [hlo, hH]]
  refine lv_iconst (v := (-1)) hx hb dX4_findRarest_0 (by decide) ?_
  refine lv_istore_n (lv' := [(3, .int (-1)), (0, .ref (ad 4 0)), (1, .int a1), (2, .int a2)]) hx hb dX4_findRarest_1 rfl hl (by decide) rfl (fun ls hl => ?_)
  refine lv_iconst (v := 0) hx hb dX4_findRarest_2 (by decide) ?_
  refine lv_istore (lv' := [(4, .int 0), (3, .int (-1)), (0, .ref (ad 4 0)), (1, .int a1), (2, .int a2)]) hx hb dX4_findRarest_3 hl (by decide) rfl (fun ls hl => ?_)
  refine lv_iconst (v := 0) hx hb dX4_findRarest_5 (by decide) ?_
  refine lv_istore (lv' := [(5, .int 0), (4, .int 0), (3, .int (-1)), (0, .ref (ad 4 0)), (1, .int a1), (2, .int a2)]) hx hb dX4_findRarest_6 hl (by decide) rfl (fun ls hl => ?_)
  obtain ⟨n9, hw⟩ := hw
  exact L_8 n9 M a1 a2 (-1) 0 0 hw H locs ls hW hS (lv_sub hl [3, 4, 5, 2, 1, 0] rfl)
def rm_X4_findShown : Room := { frames := 3, cells := 0, slots := 0, locals := 75 }
set_option maxHeartbeats 4000000 in
set_option maxRecDepth 100000 in
theorem c_X4_findShown (l : Launch) (E : GE) (base : Nat) (M : Mem) (ad : AD) (a1 : Nat) (a2 : Nat) (Q : Int32 → Mem → Prop) (hw : w_X4_findShown M a1 a2 Q) : Con l yX4_findShown cX4_findShown 4 (some .int) rm_X4_findShown 0 0 E base [.ref (ad 4 0), .ref (ad 2 a1), .ref (ad 2 a2)] M ad (QcI E base (fun r M1 ad1 => Q r M1 ∧ ad = ad1)) noX := by
  refine con_start (by decide) (Nat.le_of_ble_eq_true rfl) ?_
  intro p e s m args below meth c ls QQ hQQ CT hnx hW hl
  obtain ⟨⟨hx, hb, hml, hown, hts⟩, hr, hlocks, hnm, hT⟩ := CT
  have hS : va_S (fun q : Nat => base ≤ q) s.heap s.heap [] := va_S.rf
  have hl : lv_has ls 4 [(0, .ref (ad 4 0)), (1, .ref (ad 2 a1)), (2, .ref (ad 2 a2))] := hl
  unfold w_X4_findShown at hw
  obtain ⟨H, hH⟩ : ∃ z, z = s.heap := ⟨_, rfl⟩
  obtain ⟨locs, hlo⟩ : ∃ z : List Loc, z = [] := ⟨_, rfl⟩
  have hS : va_S (fun q : Nat => base ≤ q) s.heap H locs := by rw [hlo, hH]; exact hS
  have hW : Wd E base M ad H := by rw [hH]; exact hW
  rw [show W p l e rm_X4_findShown s m args below meth c s.heap [] 0 0 QQ (F0 m 0 ls []) = W p l e rm_X4_findShown s m args below meth c H locs 0 0 QQ (F0 m 0 ls []) by rw [hlo, hH]]
  refine lv_aload_n hx hb dX4_findShown_0 rfl (lv_at hl 1 rfl) ?_
  refine lv_aload_n hx hb dX4_findShown_1 rfl (lv_at hl 2 rfl) ?_
  obtain ⟨g_1, hw⟩ := hw
  obtain ⟨g_2, hw⟩ := hw
  refine r_acmp_ne (tgt := 7) hx hb hW g_1 g_2 dX4_findShown_2 (by decide) (fun c_3 => ?_) (fun c_3 => ?_)
  · have hw := hw.2 c_3
    refine lv_aload_n hx hb dX4_findShown_7 rfl (lv_at hl 1 rfl) ?_
    refine r_getI hx hb hts hown hT.1 hW clX2 6 (by decide) (hts _ k_93) (fun _ h9 => h9) rfl g_1 dX4_findShown_8 ?_
    refine lv_if_ne (tgt := 22) hx hb dX4_findShown_11 (by decide) (fun c_4 => ?_) (fun c_4 => ?_)
    · have hw := hw.2 c_4
      refine lv_aload_n hx hb dX4_findShown_22 rfl (lv_at hl 0 rfl) ?_
      refine lv_aload_n hx hb dX4_findShown_23 rfl (lv_at hl 1 rfl) ?_
      obtain ⟨g_5, hw⟩ := hw
      refine r_getR (κ2 := 3) (i2 := a1) hx hb hts hown hT.1 hW clX2 1 (by decide) (hts _ k_15) (fun _ h9 => h9) 3 rfl rfl g_1 g_5 dX4_findShown_24 ?_
      obtain ⟨g_6, hw⟩ := hw
      refine r_getI hx hb hts hown hT.1 hW clX3 0 (by decide) (hts _ k_16) (fun _ h9 => h9) rfl g_6 dX4_findShown_27 ?_
      refine lv_aload_n hx hb dX4_findShown_30 rfl (lv_at hl 2 rfl) ?_
      obtain ⟨g_7, hw⟩ := hw
      refine r_getR (κ2 := 3) (i2 := a2) hx hb hts hown hT.1 hW clX2 1 (by decide) (hts _ k_15) (fun _ h9 => h9) 3 rfl rfl g_2 g_7 dX4_findShown_31 ?_
      obtain ⟨g_8, hw⟩ := hw
      refine r_getI hx hb hts hown hT.1 hW clX3 0 (by decide) (hts _ k_16) (fun _ h9 => h9) rfl g_8 dX4_findShown_34 ?_
      refine lv_iconst (v := (-1)) hx hb dX4_findShown_37 (by decide) ?_
      refine lv_ixor hx hb dX4_findShown_38 ?_
      refine lv_iand hx hb dX4_findShown_39 ?_
      refine lv_aload_n hx hb dX4_findShown_40 rfl (lv_at hl 2 rfl) ?_
      refine r_getI hx hb hts hown hT.1 hW clX2 0 (by decide) (hts _ k_83) (fun _ h9 => h9) rfl g_2 dX4_findShown_41 ?_
      obtain ⟨g_9, hw⟩ := hw
      refine k_I (rn_V (As := [.int ((mI M 3 a1 0) &&& ((mI M 3 a2 0) ^^^ (-1))), .int (mI M 2 a2 0)]) (rest := []) (κ := 4) (i := 0) ⟨hx, hb, hml, hown, hts⟩ hT hW hS hl (c_X4_findRarest l E base M ad ((mI M 3 a1 0) &&& ((mI M 3 a2 0) ^^^ (-1))) (mI M 2 a2 0) _ hw) cy_X4_findRarest k_94 k_95 k_96 g_9 (by decide) rfl rfl rfl rfl ⟨(Nat.le_of_ble_eq_true rfl), (Nat.le_of_ble_eq_true rfl)⟩ rfl rfl (Nat.le_of_ble_eq_true rfl) dX4_findShown_44 ⟨(Nat.le_of_ble_eq_true rfl), (Nat.le_of_ble_eq_true rfl)⟩) hS kx_no (fun r_13 M_11 ad_12 H locs hP hW hS => ?_)
      obtain ⟨hw, rfl⟩ := hP
      refine lv_istore_n (lv' := [(3, .int r_13), (0, .ref (ad 4 0)), (1, .ref (ad 2 a1)), (2, .ref (ad 2 a2))]) hx hb dX4_findShown_47 rfl hl (by decide) rfl (fun ls hl => ?_)
      refine lv_iload_n hx hb dX4_findShown_48 rfl (lv_at hl 0 rfl) ?_
      refine lv_iconst (v := (-1)) hx hb dX4_findShown_49 (by decide) ?_
      refine lv_icmp_ne (tgt := 57) hx hb dX4_findShown_50 (by decide) (fun c_14 => ?_) (fun c_14 => ?_)
      · have hw := hw.2 c_14
        refine lv_iconst (v := 1) hx hb dX4_findShown_57 (by decide) ?_
        refine lv_iload_n hx hb dX4_findShown_58 rfl (lv_at hl 0 rfl) ?_
        refine lv_ishl hx hb dX4_findShown_59 ?_
        rw [← hQQ]
        exact e_I hx hb hr hlocks hW hS (Nat.le_of_ble_eq_true rfl) (Nat.le_of_ble_eq_true rfl) dX4_findShown_60 ⟨hw, rfl⟩
      · have hw := hw.1 c_14
        refine lv_iconst (v := 0) hx hb dX4_findShown_53 (by decide) ?_
        refine lv_goto (tgt := 60) hx hb dX4_findShown_54 (by decide) ?_
        rw [← hQQ]
        exact e_I hx hb hr hlocks hW hS (Nat.le_of_ble_eq_true rfl) (Nat.le_of_ble_eq_true rfl) dX4_findShown_60 ⟨hw, rfl⟩
    · have hw := hw.1 c_4
      refine lv_aload_n hx hb dX4_findShown_14 rfl (lv_at hl 1 rfl) ?_
      obtain ⟨g_15, hw⟩ := hw
      refine r_getR (κ2 := 3) (i2 := a1) hx hb hts hown hT.1 hW clX2 1 (by decide) (hts _ k_15) (fun _ h9 => h9) 3 rfl rfl g_1 g_15 dX4_findShown_15 ?_
      obtain ⟨g_16, hw⟩ := hw
      refine r_getI hx hb hts hown hT.1 hW clX3 0 (by decide) (hts _ k_16) (fun _ h9 => h9) rfl g_16 dX4_findShown_18 ?_
      rw [← hQQ]
      exact e_I hx hb hr hlocks hW hS (Nat.le_of_ble_eq_true rfl) (Nat.le_of_ble_eq_true rfl) dX4_findShown_21 ⟨hw, rfl⟩
  · have hw := hw.1 c_3
    refine lv_iconst (v := 0) hx hb dX4_findShown_5 (by decide) ?_
    rw [← hQQ]
    exact e_I hx hb hr hlocks hW hS (Nat.le_of_ble_eq_true rfl) (Nat.le_of_ble_eq_true rfl) dX4_findShown_6 ⟨hw, rfl⟩
def rm_X4_shown : Room := { frames := 7, cells := 2, slots := 12, locals := 112 }
set_option maxHeartbeats 4000000 in
set_option maxRecDepth 100000 in
theorem c_X4_shown (l : Launch) (hlt : l.stackTraces = false) (E : GE) (base : Nat) (M : Mem) (ad : AD) (a1 : Int32) (a2 : Int32) (Q : Int32 → Mem → Prop) (X : Nat → Mem → Prop) (hw : w_X4_shown M a1 a2 Q X) : Con l yX4_shown cX4_shown 3 (some .int) rm_X4_shown 2 12 E base [.ref (ad 4 0), .int a1, .int a2] M ad (QcI E base (fun r M1 ad1 => Q r M1 ∧ ad = ad1)) (fun k M1 ad1 => X k M1 ∧ ad = ad1) := by
  refine con_start (by decide) (Nat.le_of_ble_eq_true rfl) ?_
  intro p e s m args below meth c ls QQ hQQ CT hnx hW hl
  obtain ⟨⟨hx, hb, hml, hown, hts⟩, hr, hlocks, hnm, hT⟩ := CT
  have hS : va_S (fun q : Nat => base ≤ q) s.heap s.heap [] := va_S.rf
  have hl : lv_has ls 3 [(0, .ref (ad 4 0)), (1, .int a1), (2, .int a2)] := hl
  unfold w_X4_shown at hw
  obtain ⟨H, hH⟩ : ∃ z, z = s.heap := ⟨_, rfl⟩
  obtain ⟨locs, hlo⟩ : ∃ z : List Loc, z = [] := ⟨_, rfl⟩
  have hS : va_S (fun q : Nat => base ≤ q) s.heap H locs := by rw [hlo, hH]; exact hS
  have hW : Wd E base M ad H := by rw [hH]; exact hW
  rw [show W p l e rm_X4_shown s m args below meth c s.heap [] 0 0 QQ (F0 m 0 ls []) = W p l e rm_X4_shown s m args below meth c H locs 0 0 QQ (F0 m 0 ls []) by rw [hlo, hH]]
  refine lv_aload_n hx hb dX4_shown_0 rfl (lv_at hl 0 rfl) ?_
  refine lv_aload_n hx hb dX4_shown_1 rfl (lv_at hl 0 rfl) ?_
  refine lv_iload_n hx hb dX4_shown_2 rfl (lv_at hl 1 rfl) ?_
  obtain ⟨g_1, hw⟩ := hw
  refine k_Q (rn_V (As := [.int a1]) (rest := [.ref (ad 4 0)]) (κ := 4) (i := 0) ⟨hx, hb, hml, hown, hts⟩ hT hW hS hl (c_X4_known l hlt E base M ad a1 _ _ hw) cy_X4_known k_79 k_80 k_81 g_1 (by decide) rfl rfl rfl rfl ⟨(Nat.le_of_ble_eq_true rfl), (Nat.le_of_ble_eq_true rfl)⟩ rfl rfl (Nat.le_of_ble_eq_true rfl) dX4_shown_3 ⟨(Nat.le_of_ble_eq_true rfl), (Nat.le_of_ble_eq_true rfl)⟩) hS (by rw [← hQQ]; exact kx_out hnx hlocks (Nat.le_of_ble_eq_true rfl) (Nat.le_of_ble_eq_true rfl) (fun _ _ _ h9 => h9)) (fun M_3 ad_4 H locs hP hW hS => absurd hP (fun ⟨_, h9, _⟩ => by cases h9)) (fun r_5 M_3 ad_4 H locs hP hW hS => ?_)
  obtain ⟨_, h9, hw, rfl⟩ := hP
  cases h9
  refine lv_aload_n hx hb dX4_shown_6 rfl (lv_at hl 0 rfl) ?_
  refine lv_iload_n hx hb dX4_shown_7 rfl (lv_at hl 2 rfl) ?_
  obtain ⟨g_6, hw⟩ := hw
  refine k_Q (rn_V (As := [.int a2]) (rest := [.ref (ad 2 r_5), .ref (ad 4 0)]) (κ := 4) (i := 0) ⟨hx, hb, hml, hown, hts⟩ hT hW hS hl (c_X4_known l hlt E base M_3 ad a2 _ _ hw) cy_X4_known k_79 k_80 k_81 g_6 (by decide) rfl rfl rfl rfl ⟨(Nat.le_of_ble_eq_true rfl), (Nat.le_of_ble_eq_true rfl)⟩ rfl rfl (Nat.le_of_ble_eq_true rfl) dX4_shown_8 ⟨(Nat.le_of_ble_eq_true rfl), (Nat.le_of_ble_eq_true rfl)⟩) hS (by rw [← hQQ]; exact kx_out hnx hlocks (Nat.le_of_ble_eq_true rfl) (Nat.le_of_ble_eq_true rfl) (fun _ _ _ h9 => h9)) (fun M_8 ad_9 H locs hP hW hS => absurd hP (fun ⟨_, h9, _⟩ => by cases h9)) (fun r_10 M_8 ad_9 H locs hP hW hS => ?_)
  obtain ⟨_, h9, hw, rfl⟩ := hP
  cases h9
  obtain ⟨g_11, hw⟩ := hw
  refine k_I (rn_V (As := [.ref (ad 2 r_5), .ref (ad 2 r_10)]) (rest := []) (κ := 4) (i := 0) ⟨hx, hb, hml, hown, hts⟩ hT hW hS hl (c_X4_findShown l E base M_8 ad r_5 r_10 _ hw) cy_X4_findShown k_97 k_98 k_99 g_11 (by decide) rfl rfl rfl rfl ⟨(Nat.le_of_ble_eq_true rfl), (Nat.le_of_ble_eq_true rfl)⟩ rfl rfl (Nat.le_of_ble_eq_true rfl) dX4_shown_11 ⟨(Nat.le_of_ble_eq_true rfl), (Nat.le_of_ble_eq_true rfl)⟩) hS kx_no (fun r_15 M_13 ad_14 H locs hP hW hS => ?_)
  obtain ⟨hw, rfl⟩ := hP
  rw [← hQQ]
  exact e_I hx hb hr hlocks hW hS (Nat.le_of_ble_eq_true rfl) (Nat.le_of_ble_eq_true rfl) dX4_shown_14 ⟨hw, rfl⟩
def rm_L_areShown : Room := { frames := 8, cells := 20, slots := 120, locals := 134 }
set_option maxHeartbeats 4000000 in
set_option maxRecDepth 100000 in
theorem c_L_areShown (l : Launch) (hlt : l.stackTraces = false) (E : GE) (base : Nat) (M : Mem) (ad : AD) (a2 : Int32) (Q : Int32 → Mem → Prop) (X : Nat → Mem → Prop) (hw : w_L_areShown M a2 Q X) : Con l yL_areShown cL_areShown 9 (some .boolean) rm_L_areShown 20 120 E base [.ref (ad 4 0), .ref (ad 61 0), .int a2] M ad (QcI E base (fun r M1 ad1 => Q r M1 ∧ ad = ad1)) (fun k M1 ad1 => X k M1 ∧ ad = ad1) := by
  refine con_start (by decide) (Nat.le_of_ble_eq_true rfl) ?_
  intro p e s m args below meth c ls QQ hQQ CT hnx hW hl
  obtain ⟨⟨hx, hb, hml, hown, hts⟩, hr, hlocks, hnm, hT⟩ := CT
  have hS : va_S (fun q : Nat => base ≤ q) s.heap s.heap [] := va_S.rf
  have hl : lv_has ls 9 [(0, .ref (ad 4 0)), (1, .ref (ad 61 0)), (2, .int a2)] := hl
  have L_169 : ∀ (k18 : Mem → Nat → Int32 → Int32 → Int32 → Prop) (K18 : ∀ (M : Mem) (it : Nat) (x2 : Int32) (x3 : Int32) (x4 : Int32), k18 M it x2 x3 x4 → WL p l e rm_L_areShown s m args below meth c QQ E base 9 M ad 18 [(0, .ref (ad 4 0)), (1, .ref (ad 61 0)), (2, .int x2), (3, .int x3), (4, .int x4)] [] (2 + 2 * it + 0) (12 + 12 * it + 0)) (M : Mem) (it : Nat) (x2 : Int32) (x4 : Int32) (s0 : Int32), b_L_areShown_169 k18 Q X M it x2 x4 s0 → WL p l e rm_L_areShown s m args below meth c QQ E base 9 M ad 169 [(0, .ref (ad 4 0)), (1, .ref (ad 61 0)), (2, .int x2), (4, .int x4)] [.int s0] (2 + 2 * it + 2) (12 + 12 * it + 12) := by
    intro k18 K18 M it x2 x4 s0 hw H locs ls hW hS hl
    unfold b_L_areShown_169 at hw
    obtain ⟨hit, hw⟩ := hw
    refine lv_istore_n (lv' := [(3, .int s0), (0, .ref (ad 4 0)), (1, .ref (ad 61 0)), (2, .int x2), (4, .int x4)]) hx hb dL_areShown_169 rfl hl (by decide) rfl (fun ls hl => ?_)
    obtain ⟨v_22, ev_22⟩ : ∃ y : Int32, y = x4 + 1 := ⟨_, rfl⟩
    have hw := hw v_22 ev_22
    refine lv_iinc (v := v_22) (lv' := [(4, .int v_22), (3, .int s0), (0, .ref (ad 4 0)), (1, .ref (ad 61 0)), (2, .int x2)]) hx hb dL_areShown_170 hl (k := 4) rfl (by rw [ev_22]; rfl) (by decide) rfl (fun ls hl => ?_)
    refine lv_goto (tgt := 18) hx hb dL_areShown_173 (by decide) ?_
    refine W.widen (k := 2 + 2 * (it + 1) + 0) (n := 12 + 12 * (it + 1) + 0) (by omega) (by omega) ?_
    exact K18 M (it + 1) x2 s0 v_22 hw H locs ls hW hS (lv_sub hl [2, 3, 4, 1, 0] rfl)
  have L_164 : ∀ (k18 : Mem → Nat → Int32 → Int32 → Int32 → Prop) (K18 : ∀ (M : Mem) (it : Nat) (x2 : Int32) (x3 : Int32) (x4 : Int32), k18 M it x2 x3 x4 → WL p l e rm_L_areShown s m args below meth c QQ E base 9 M ad 18 [(0, .ref (ad 4 0)), (1, .ref (ad 61 0)), (2, .int x2), (3, .int x3), (4, .int x4)] [] (2 + 2 * it + 0) (12 + 12 * it + 0)) (M : Mem) (it : Nat) (x2 : Int32) (x4 : Int32), b_L_areShown_164 k18 Q X M it x2 x4 → WL p l e rm_L_areShown s m args below meth c QQ E base 9 M ad 164 [(0, .ref (ad 4 0)), (1, .ref (ad 61 0)), (2, .int x2), (4, .int x4)] [] (2 + 2 * it + 2) (12 + 12 * it + 12) := by
    intro k18 K18 M it x2 x4 hw H locs ls hW hS hl
    unfold b_L_areShown_164 at hw
    obtain ⟨hit, hw⟩ := hw
    refine lv_iconst (v := 1) hx hb dL_areShown_164 (by decide) ?_
    refine lv_goto (tgt := 169) hx hb dL_areShown_165 (by decide) ?_
    refine W.widen (k := 2 + 2 * it + 2) (n := 12 + 12 * it + 12) (by omega) (by omega) ?_
    exact L_169 k18 K18 M it x2 x4 1 hw H locs ls hW hS (lv_sub hl [0, 1, 2, 3] rfl)
  have L_168 : ∀ (k18 : Mem → Nat → Int32 → Int32 → Int32 → Prop) (K18 : ∀ (M : Mem) (it : Nat) (x2 : Int32) (x3 : Int32) (x4 : Int32), k18 M it x2 x3 x4 → WL p l e rm_L_areShown s m args below meth c QQ E base 9 M ad 18 [(0, .ref (ad 4 0)), (1, .ref (ad 61 0)), (2, .int x2), (3, .int x3), (4, .int x4)] [] (2 + 2 * it + 0) (12 + 12 * it + 0)) (M : Mem) (it : Nat) (x2 : Int32) (x4 : Int32), b_L_areShown_168 k18 Q X M it x2 x4 → WL p l e rm_L_areShown s m args below meth c QQ E base 9 M ad 168 [(0, .ref (ad 4 0)), (1, .ref (ad 61 0)), (2, .int x2), (4, .int x4)] [] (2 + 2 * it + 2) (12 + 12 * it + 12) := by
    intro k18 K18 M it x2 x4 hw H locs ls hW hS hl
    unfold b_L_areShown_168 at hw
    obtain ⟨hit, hw⟩ := hw
    refine lv_iconst (v := 0) hx hb dL_areShown_168 (by decide) ?_
    refine W.widen (k := 2 + 2 * it + 2) (n := 12 + 12 * it + 12) (by omega) (by omega) ?_
    exact L_169 k18 K18 M it x2 x4 0 hw H locs ls hW hS (lv_sub hl [0, 1, 2, 3] rfl)
  have L_108 : ∀ (k18 : Mem → Nat → Int32 → Int32 → Int32 → Prop) (K18 : ∀ (M : Mem) (it : Nat) (x2 : Int32) (x3 : Int32) (x4 : Int32), k18 M it x2 x3 x4 → WL p l e rm_L_areShown s m args below meth c QQ E base 9 M ad 18 [(0, .ref (ad 4 0)), (1, .ref (ad 61 0)), (2, .int x2), (3, .int x3), (4, .int x4)] [] (2 + 2 * it + 0) (12 + 12 * it + 0)) (M : Mem) (it : Nat) (x2 : Int32) (x4 : Int32) (x5 : Int32) (x6 : Int32) (x7 : Int32) (s0 : Int32), b_L_areShown_108 k18 Q X M it x2 x4 x5 x6 x7 s0 → WL p l e rm_L_areShown s m args below meth c QQ E base 9 M ad 108 [(0, .ref (ad 4 0)), (1, .ref (ad 61 0)), (2, .int x2), (4, .int x4), (5, .int x5), (6, .int x6), (7, .int x7)] [.int s0] (2 + 2 * it + 2) (12 + 12 * it + 12) := by
    intro k18 K18 M it x2 x4 x5 x6 x7 s0 hw H locs ls hW hS hl
    unfold b_L_areShown_108 at hw
    obtain ⟨hit, hw⟩ := hw
    refine lv_istore (lv' := [(8, .int s0), (0, .ref (ad 4 0)), (1, .ref (ad 61 0)), (2, .int x2), (4, .int x4), (5, .int x5), (6, .int x6), (7, .int x7)]) hx hb dL_areShown_108 hl (by decide) rfl (fun ls hl => ?_)
    refine lv_iload hx hb dL_areShown_110 (lv_at hl 5 rfl) ?_
    refine lv_if_eq (tgt := 164) hx hb dL_areShown_112 (by decide) (fun c_21 => ?_) (fun c_21 => ?_)
    · have hw := hw.1 c_21
      refine W.widen (k := 2 + 2 * it + 2) (n := 12 + 12 * it + 12) (by omega) (by omega) ?_
      exact L_164 k18 K18 M it x2 x4 hw H locs ls hW hS (lv_sub hl [1, 2, 3, 4] rfl)
    · have hw := hw.2 c_21
      refine lv_iload hx hb dL_areShown_115 (lv_at hl 0 rfl) ?_
      refine lv_if_eq (tgt := 153) hx hb dL_areShown_117 (by decide) (fun c_23 => ?_) (fun c_23 => ?_)
      · have hw := hw.1 c_23
        refine lv_iload hx hb dL_areShown_153 (lv_at hl 6 rfl) ?_
        refine lv_aload_n hx hb dL_areShown_155 rfl (lv_at hl 2 rfl) ?_
        refine lv_bipush (v := 23) hx hb dL_areShown_156 (by decide) ?_
        refine lv_iload_n hx hb dL_areShown_158 rfl (lv_at hl 3 rfl) ?_
        refine lv_iadd hx hb dL_areShown_159 ?_
        obtain ⟨g_24, hw⟩ := hw
        obtain ⟨g_25, hw⟩ := hw
        refine r_iald hx hb hT.1 hW (by decide) rfl (fun _ => rfl) 29 rfl g_25 g_24 dL_areShown_160 ?_
        refine lv_icmp_ne (tgt := 168) hx hb dL_areShown_161 (by decide) (fun c_26 => ?_) (fun c_26 => ?_)
        · have hw := hw.2 c_26
          refine W.widen (k := 2 + 2 * it + 2) (n := 12 + 12 * it + 12) (by omega) (by omega) ?_
          exact L_168 k18 K18 M it x2 x4 hw H locs ls hW hS (lv_sub hl [1, 2, 3, 4] rfl)
        · have hw := hw.1 c_26
          refine W.widen (k := 2 + 2 * it + 2) (n := 12 + 12 * it + 12) (by omega) (by omega) ?_
          exact L_164 k18 K18 M it x2 x4 hw H locs ls hW hS (lv_sub hl [1, 2, 3, 4] rfl)
      · have hw := hw.2 c_23
        refine lv_iload hx hb dL_areShown_120 (lv_at hl 6 rfl) ?_
        refine lv_iload hx hb dL_areShown_122 (lv_at hl 7 rfl) ?_
        refine lv_iconst (v := (-1)) hx hb dL_areShown_124 (by decide) ?_
        refine lv_ixor hx hb dL_areShown_125 ?_
        refine lv_iand hx hb dL_areShown_126 ?_
        refine lv_if_ne (tgt := 168) hx hb dL_areShown_127 (by decide) (fun c_27 => ?_) (fun c_27 => ?_)
        · have hw := hw.2 c_27
          refine W.widen (k := 2 + 2 * it + 2) (n := 12 + 12 * it + 12) (by omega) (by omega) ?_
          exact L_168 k18 K18 M it x2 x4 hw H locs ls hW hS (lv_sub hl [1, 2, 3, 4] rfl)
        · have hw := hw.1 c_27
          refine lv_iload hx hb dL_areShown_130 (lv_at hl 6 rfl) ?_
          refine lv_iload hx hb dL_areShown_132 (lv_at hl 6 rfl) ?_
          refine lv_iconst (v := 1) hx hb dL_areShown_134 (by decide) ?_
          refine lv_isub hx hb dL_areShown_135 ?_
          refine lv_iand hx hb dL_areShown_136 ?_
          refine lv_if_ne (tgt := 168) hx hb dL_areShown_137 (by decide) (fun c_28 => ?_) (fun c_28 => ?_)
          · have hw := hw.2 c_28
            refine W.widen (k := 2 + 2 * it + 2) (n := 12 + 12 * it + 12) (by omega) (by omega) ?_
            exact L_168 k18 K18 M it x2 x4 hw H locs ls hW hS (lv_sub hl [1, 2, 3, 4] rfl)
          · have hw := hw.1 c_28
            refine lv_iload hx hb dL_areShown_140 (lv_at hl 6 rfl) ?_
            refine lv_if_ne (tgt := 164) hx hb dL_areShown_142 (by decide) (fun c_29 => ?_) (fun c_29 => ?_)
            · have hw := hw.2 c_29
              refine W.widen (k := 2 + 2 * it + 2) (n := 12 + 12 * it + 12) (by omega) (by omega) ?_
              exact L_164 k18 K18 M it x2 x4 hw H locs ls hW hS (lv_sub hl [1, 2, 3, 4] rfl)
            · have hw := hw.1 c_29
              refine lv_iload hx hb dL_areShown_145 (lv_at hl 7 rfl) ?_
              refine lv_if_ne (tgt := 168) hx hb dL_areShown_147 (by decide) (fun c_30 => ?_) (fun c_30 => ?_)
              · have hw := hw.2 c_30
                refine W.widen (k := 2 + 2 * it + 2) (n := 12 + 12 * it + 12) (by omega) (by omega) ?_
                exact L_168 k18 K18 M it x2 x4 hw H locs ls hW hS (lv_sub hl [1, 2, 3, 4] rfl)
              · have hw := hw.1 c_30
                refine lv_goto (tgt := 164) hx hb dL_areShown_150 (by decide) ?_
                refine W.widen (k := 2 + 2 * it + 2) (n := 12 + 12 * it + 12) (by omega) (by omega) ?_
                exact L_164 k18 K18 M it x2 x4 hw H locs ls hW hS (lv_sub hl [1, 2, 3, 4] rfl)
  have L_71 : ∀ (k18 : Mem → Nat → Int32 → Int32 → Int32 → Prop) (K18 : ∀ (M : Mem) (it : Nat) (x2 : Int32) (x3 : Int32) (x4 : Int32), k18 M it x2 x3 x4 → WL p l e rm_L_areShown s m args below meth c QQ E base 9 M ad 18 [(0, .ref (ad 4 0)), (1, .ref (ad 61 0)), (2, .int x2), (3, .int x3), (4, .int x4)] [] (2 + 2 * it + 0) (12 + 12 * it + 0)) (M : Mem) (it : Nat) (x2 : Int32) (x4 : Int32) (x5 : Int32) (s0 : Int32), b_L_areShown_71 k18 Q X M it x2 x4 x5 s0 → WL p l e rm_L_areShown s m args below meth c QQ E base 9 M ad 71 [(0, .ref (ad 4 0)), (1, .ref (ad 61 0)), (2, .int x2), (4, .int x4), (5, .int x5)] [.int s0] (2 + 2 * it + 2) (12 + 12 * it + 12) := by
    intro k18 K18 M it x2 x4 x5 s0 hw H locs ls hW hS hl
    unfold b_L_areShown_71 at hw
    obtain ⟨hit, hw⟩ := hw
    refine lv_istore (lv' := [(6, .int s0), (0, .ref (ad 4 0)), (1, .ref (ad 61 0)), (2, .int x2), (4, .int x4), (5, .int x5)]) hx hb dL_areShown_71 hl (by decide) rfl (fun ls hl => ?_)
    refine lv_aload_n hx hb dL_areShown_73 rfl (lv_at hl 2 rfl) ?_
    refine lv_bipush (v := 23) hx hb dL_areShown_74 (by decide) ?_
    refine lv_iload_n hx hb dL_areShown_76 rfl (lv_at hl 3 rfl) ?_
    refine lv_iadd hx hb dL_areShown_77 ?_
    obtain ⟨g_15, hw⟩ := hw
    obtain ⟨g_16, hw⟩ := hw
    refine r_iald hx hb hT.1 hW (by decide) rfl (fun _ => rfl) 29 rfl g_16 g_15 dL_areShown_78 ?_
    refine lv_aload_n hx hb dL_areShown_79 rfl (lv_at hl 2 rfl) ?_
    refine lv_bipush (v := 23) hx hb dL_areShown_80 (by decide) ?_
    refine lv_iload hx hb dL_areShown_82 (lv_at hl 4 rfl) ?_
    refine lv_iadd hx hb dL_areShown_84 ?_
    obtain ⟨g_17, hw⟩ := hw
    refine r_iald hx hb hT.1 hW (by decide) rfl (fun _ => rfl) 29 rfl g_17 g_15 dL_areShown_85 ?_
    refine lv_iconst (v := (-1)) hx hb dL_areShown_86 (by decide) ?_
    refine lv_ixor hx hb dL_areShown_87 ?_
    refine lv_iand hx hb dL_areShown_88 ?_
    refine lv_topi (fun v_18 ev_18 => ?_)
    have hw := hw v_18 ev_18
    refine lv_istore (lv' := [(7, .int v_18), (6, .int s0), (0, .ref (ad 4 0)), (1, .ref (ad 61 0)), (2, .int x2), (4, .int x4), (5, .int x5)]) hx hb dL_areShown_89 hl (by decide) rfl (fun ls hl => ?_)
    refine lv_aload_n hx hb dL_areShown_91 rfl (lv_at hl 3 rfl) ?_
    refine lv_bipush (v := 15) hx hb dL_areShown_92 (by decide) ?_
    obtain ⟨g_19, hw⟩ := hw
    refine r_iald hx hb hT.1 hW (by decide) rfl (fun _ => rfl) 29 rfl g_19 g_15 dL_areShown_94 ?_
    refine lv_iload_n hx hb dL_areShown_95 rfl (lv_at hl 4 rfl) ?_
    refine lv_ishr hx hb dL_areShown_96 ?_
    refine lv_iconst (v := 1) hx hb dL_areShown_97 (by decide) ?_
    refine lv_iand hx hb dL_areShown_98 ?_
    refine lv_iconst (v := 1) hx hb dL_areShown_99 (by decide) ?_
    refine lv_icmp_ne (tgt := 107) hx hb dL_areShown_100 (by decide) (fun c_20 => ?_) (fun c_20 => ?_)
    · have hw := hw.2 c_20
      refine lv_iconst (v := 0) hx hb dL_areShown_107 (by decide) ?_
      refine W.widen (k := 2 + 2 * it + 2) (n := 12 + 12 * it + 12) (by omega) (by omega) ?_
      exact L_108 k18 K18 M it x2 x4 x5 s0 v_18 0 hw H locs ls hW hS (lv_sub hl [2, 3, 4, 5, 6, 1, 0] rfl)
    · have hw := hw.1 c_20
      refine lv_iconst (v := 1) hx hb dL_areShown_103 (by decide) ?_
      refine lv_goto (tgt := 108) hx hb dL_areShown_104 (by decide) ?_
      refine W.widen (k := 2 + 2 * it + 2) (n := 12 + 12 * it + 12) (by omega) (by omega) ?_
      exact L_108 k18 K18 M it x2 x4 x5 s0 v_18 1 hw H locs ls hW hS (lv_sub hl [2, 3, 4, 5, 6, 1, 0] rfl)
  have L_53 : ∀ (k18 : Mem → Nat → Int32 → Int32 → Int32 → Prop) (K18 : ∀ (M : Mem) (it : Nat) (x2 : Int32) (x3 : Int32) (x4 : Int32), k18 M it x2 x3 x4 → WL p l e rm_L_areShown s m args below meth c QQ E base 9 M ad 18 [(0, .ref (ad 4 0)), (1, .ref (ad 61 0)), (2, .int x2), (3, .int x3), (4, .int x4)] [] (2 + 2 * it + 0) (12 + 12 * it + 0)) (M : Mem) (it : Nat) (x2 : Int32) (x4 : Int32) (s0 : Int32), b_L_areShown_53 k18 Q X M it x2 x4 s0 → WL p l e rm_L_areShown s m args below meth c QQ E base 9 M ad 53 [(0, .ref (ad 4 0)), (1, .ref (ad 61 0)), (2, .int x2), (4, .int x4)] [.int s0] (2 + 2 * it + 0) (12 + 12 * it + 0) := by
    intro k18 K18 M it x2 x4 s0 hw H locs ls hW hS hl
    unfold b_L_areShown_53 at hw
    obtain ⟨hit, hw⟩ := hw
    refine lv_istore (lv' := [(5, .int s0), (0, .ref (ad 4 0)), (1, .ref (ad 61 0)), (2, .int x2), (4, .int x4)]) hx hb dL_areShown_53 hl (by decide) rfl (fun ls hl => ?_)
    refine lv_iload hx hb dL_areShown_55 (lv_at hl 0 rfl) ?_
    refine lv_if_eq (tgt := 70) hx hb dL_areShown_57 (by decide) (fun c_14 => ?_) (fun c_14 => ?_)
    · have hw := hw.1 c_14
      refine lv_iconst (v := 0) hx hb dL_areShown_70 (by decide) ?_
      refine W.widen (k := 2 + 2 * it + 2) (n := 12 + 12 * it + 12) (by omega) (by omega) ?_
      exact L_71 k18 K18 M it x2 x4 s0 0 hw H locs ls hW hS (lv_sub hl [1, 2, 3, 4, 0] rfl)
    · have hw := hw.2 c_14
      refine lv_aload_n hx hb dL_areShown_60 rfl (lv_at hl 1 rfl) ?_
      refine lv_iload_n hx hb dL_areShown_61 rfl (lv_at hl 3 rfl) ?_
      refine lv_iload hx hb dL_areShown_62 (lv_at hl 4 rfl) ?_
      obtain ⟨g_31, hw⟩ := hw
      refine k_I (rn_V (As := [.int x2, .int x4]) (rest := []) (κ := 4) (i := 0) ⟨hx, hb, hml, hown, hts⟩ hT hW hS hl (c_X4_shown l hlt E base M ad x2 x4 _ _ hw) cy_X4_shown k_100 k_101 k_102 g_31 (by decide) rfl rfl rfl rfl ⟨(Nat.le_of_ble_eq_true rfl), (Nat.le_of_ble_eq_true rfl)⟩ rfl rfl (Nat.le_of_ble_eq_true rfl) dL_areShown_64 ⟨by show _ + 2 ≤ 20; omega, by show _ + 12 ≤ 120; omega⟩) hS (by rw [← hQQ]; exact kx_out hnx hlocks (by omega) (by omega) (fun _ _ _ h9 => h9)) (fun r_35 M_33 ad_34 H locs hP hW hS => ?_)
      obtain ⟨hw, rfl⟩ := hP
      refine lv_goto (tgt := 71) hx hb dL_areShown_67 (by decide) ?_
      refine W.widen (k := 2 + 2 * it + 2) (n := 12 + 12 * it + 12) (by omega) (by omega) ?_
      exact L_71 k18 K18 M_33 it x2 x4 s0 r_35 hw H locs ls hW hS (lv_sub hl [1, 2, 3, 4, 0] rfl)
  have L_52 : ∀ (k18 : Mem → Nat → Int32 → Int32 → Int32 → Prop) (K18 : ∀ (M : Mem) (it : Nat) (x2 : Int32) (x3 : Int32) (x4 : Int32), k18 M it x2 x3 x4 → WL p l e rm_L_areShown s m args below meth c QQ E base 9 M ad 18 [(0, .ref (ad 4 0)), (1, .ref (ad 61 0)), (2, .int x2), (3, .int x3), (4, .int x4)] [] (2 + 2 * it + 0) (12 + 12 * it + 0)) (M : Mem) (it : Nat) (x2 : Int32) (x4 : Int32), b_L_areShown_52 k18 Q X M it x2 x4 → WL p l e rm_L_areShown s m args below meth c QQ E base 9 M ad 52 [(0, .ref (ad 4 0)), (1, .ref (ad 61 0)), (2, .int x2), (4, .int x4)] [] (2 + 2 * it + 0) (12 + 12 * it + 0) := by
    intro k18 K18 M it x2 x4 hw H locs ls hW hS hl
    unfold b_L_areShown_52 at hw
    obtain ⟨hit, hw⟩ := hw
    refine lv_iconst (v := 0) hx hb dL_areShown_52 (by decide) ?_
    refine W.widen (k := 2 + 2 * it + 0) (n := 12 + 12 * it + 0) (by omega) (by omega) ?_
    exact L_53 k18 K18 M it x2 x4 0 hw H locs ls hW hS (lv_sub hl [0, 1, 2, 3] rfl)
  have L_18 : ∀ (n : Nat) (M : Mem) (it : Nat) (x2 : Int32) (x3 : Int32) (x4 : Int32), l_L_areShown_18 Q X n M it x2 x3 x4 → WL p l e rm_L_areShown s m args below meth c QQ E base 9 M ad 18 [(0, .ref (ad 4 0)), (1, .ref (ad 61 0)), (2, .int x2), (3, .int x3), (4, .int x4)] [] (2 + 2 * it + 0) (12 + 12 * it + 0) := by
    intro n
    induction n with
    | zero => intro M it x2 x3 x4 hw; exact False.elim hw
    | succ n K18 =>
      intro M it x2 x3 x4 hw H locs ls hW hS hl
      obtain ⟨k18, hk18⟩ : ∃ z, z = l_L_areShown_18 Q X n := ⟨_, rfl⟩
      have hw : b_L_areShown_18 Q X k18 M it x2 x3 x4 := by rw [hk18]; exact hw
      rw [← hk18] at K18
      unfold b_L_areShown_18 at hw
      obtain ⟨hit, hw⟩ := hw
      refine lv_iload hx hb dL_areShown_18 (lv_at hl 4 rfl) ?_
      refine lv_aload_n hx hb dL_areShown_20 rfl (lv_at hl 1 rfl) ?_
      refine lv_iconst (v := 0) hx hb dL_areShown_21 (by decide) ?_
      obtain ⟨g_7, hw⟩ := hw
      obtain ⟨g_8, hw⟩ := hw
      refine r_iald hx hb hT.1 hW (by decide) rfl (fun _ => rfl) 29 rfl g_8 g_7 dL_areShown_22 ?_
      refine lv_icmp_ge (tgt := 176) hx hb dL_areShown_23 (by decide) (fun c_9 => ?_) (fun c_9 => ?_)
      · have hw := hw.1 c_9
        refine lv_iload_n hx hb dL_areShown_176 rfl (lv_at hl 3 rfl) ?_
        obtain ⟨g_10, hw⟩ := hw
        rw [← hQQ]
        exact e_Z hx hb hr hlocks hW hS (by omega) (by omega) dL_areShown_177 g_10 ⟨hw, rfl⟩
      · have hw := hw.2 c_9
        refine lv_iload_n hx hb dL_areShown_26 rfl (lv_at hl 3 rfl) ?_
        refine lv_if_eq (tgt := 176) hx hb dL_areShown_27 (by decide) (fun c_11 => ?_) (fun c_11 => ?_)
        · have hw := hw.1 c_11
          refine lv_iload_n hx hb dL_areShown_176 rfl (lv_at hl 3 rfl) ?_
          obtain ⟨g_12, hw⟩ := hw
          rw [← hQQ]
          exact e_Z hx hb hr hlocks hW hS (by omega) (by omega) dL_areShown_177 g_12 ⟨hw, rfl⟩
        · have hw := hw.2 c_11
          refine lv_iload hx hb dL_areShown_30 (lv_at hl 4 rfl) ?_
          refine lv_iload_n hx hb dL_areShown_32 rfl (lv_at hl 2 rfl) ?_
          refine lv_icmp_eq (tgt := 52) hx hb dL_areShown_33 (by decide) (fun c_13 => ?_) (fun c_13 => ?_)
          · have hw := hw.1 c_13
            refine W.widen (k := 2 + 2 * it + 0) (n := 12 + 12 * it + 0) (by omega) (by omega) ?_
            exact L_52 k18 K18 M it x2 x4 hw H locs ls hW hS (lv_sub hl [0, 1, 2, 4] rfl)
          · have hw := hw.2 c_13
            refine lv_aload_n hx hb dL_areShown_36 rfl (lv_at hl 1 rfl) ?_
            refine lv_iconst (v := 1) hx hb dL_areShown_37 (by decide) ?_
            obtain ⟨g_36, hw⟩ := hw
            refine r_iald hx hb hT.1 hW (by decide) rfl (fun _ => rfl) 29 rfl g_36 g_7 dL_areShown_38 ?_
            refine lv_iload hx hb dL_areShown_39 (lv_at hl 4 rfl) ?_
            refine lv_ishr hx hb dL_areShown_41 ?_
            refine lv_iconst (v := 1) hx hb dL_areShown_42 (by decide) ?_
            refine lv_iand hx hb dL_areShown_43 ?_
            refine lv_iconst (v := 1) hx hb dL_areShown_44 (by decide) ?_
            refine lv_icmp_ne (tgt := 52) hx hb dL_areShown_45 (by decide) (fun c_37 => ?_) (fun c_37 => ?_)
            · have hw := hw.2 c_37
              refine W.widen (k := 2 + 2 * it + 0) (n := 12 + 12 * it + 0) (by omega) (by omega) ?_
              exact L_52 k18 K18 M it x2 x4 hw H locs ls hW hS (lv_sub hl [0, 1, 2, 4] rfl)
            · have hw := hw.1 c_37
              refine lv_iconst (v := 1) hx hb dL_areShown_48 (by decide) ?_
              refine lv_goto (tgt := 53) hx hb dL_areShown_49 (by decide) ?_
              refine W.widen (k := 2 + 2 * it + 0) (n := 12 + 12 * it + 0) (by omega) (by omega) ?_
              exact L_53 k18 K18 M it x2 x4 1 hw H locs ls hW hS (lv_sub hl [0, 1, 2, 4] rfl)
  have L_14 : ∀ (M : Mem) (it : Nat) (x2 : Int32) (s0 : Int32), b_L_areShown_14 Q X M it x2 s0 → WL p l e rm_L_areShown s m args below meth c QQ E base 9 M ad 14 [(0, .ref (ad 4 0)), (1, .ref (ad 61 0)), (2, .int x2)] [.int s0] (2 + 2 * it + 2) (12 + 12 * it + 12) := by
    intro M it x2 s0 hw H locs ls hW hS hl
    unfold b_L_areShown_14 at hw
    obtain ⟨hit, hw⟩ := hw
    refine lv_istore_n (lv' := [(3, .int s0), (0, .ref (ad 4 0)), (1, .ref (ad 61 0)), (2, .int x2)]) hx hb dL_areShown_14 rfl hl (by decide) rfl (fun ls hl => ?_)
    refine lv_iconst (v := 0) hx hb dL_areShown_15 (by decide) ?_
    refine lv_istore (lv' := [(4, .int 0), (3, .int s0), (0, .ref (ad 4 0)), (1, .ref (ad 61 0)), (2, .int x2)]) hx hb dL_areShown_16 hl (by decide) rfl (fun ls hl => ?_)
    refine W.widen (k := 2 + 2 * (it + 1) + 0) (n := 12 + 12 * (it + 1) + 0) (by omega) (by omega) ?_
    obtain ⟨n9, hw⟩ := hw
    exact L_18 n9 M (it + 1) x2 s0 0 hw H locs ls hW hS (lv_sub hl [2, 3, 4, 1, 0] rfl)
  unfold w_L_areShown at hw
  obtain ⟨H, hH⟩ : ∃ z, z = s.heap := ⟨_, rfl⟩
  obtain ⟨locs, hlo⟩ : ∃ z : List Loc, z = [] := ⟨_, rfl⟩
  have hS : va_S (fun q : Nat => base ≤ q) s.heap H locs := by rw [hlo, hH]; exact hS
  have hW : Wd E base M ad H := by rw [hH]; exact hW
  rw [show W p l e rm_L_areShown s m args below meth c s.heap [] 0 0 QQ (F0 m 0 ls []) = W p l e rm_L_areShown s m args below meth c H locs 0 0 QQ (F0 m 0 ls []) by rw [hlo, hH]]
  refine lv_aload_n hx hb dL_areShown_0 rfl (lv_at hl 0 rfl) ?_
  refine lv_iload_n hx hb dL_areShown_1 rfl (lv_at hl 2 rfl) ?_
  refine lv_iload_n hx hb dL_areShown_2 rfl (lv_at hl 2 rfl) ?_
  obtain ⟨g_1, hw⟩ := hw
  refine k_I (rn_V (As := [.int a2, .int a2]) (rest := []) (κ := 4) (i := 0) ⟨hx, hb, hml, hown, hts⟩ hT hW hS hl (c_X4_shown l hlt E base M ad a2 a2 _ _ hw) cy_X4_shown k_100 k_101 k_102 g_1 (by decide) rfl rfl rfl rfl ⟨(Nat.le_of_ble_eq_true rfl), (Nat.le_of_ble_eq_true rfl)⟩ rfl rfl (Nat.le_of_ble_eq_true rfl) dL_areShown_3 ⟨(Nat.le_of_ble_eq_true rfl), (Nat.le_of_ble_eq_true rfl)⟩) hS (by rw [← hQQ]; exact kx_out hnx hlocks (Nat.le_of_ble_eq_true rfl) (Nat.le_of_ble_eq_true rfl) (fun _ _ _ h9 => h9)) (fun r_5 M_3 ad_4 H locs hP hW hS => ?_)
  obtain ⟨hw, rfl⟩ := hP
  refine lv_if_ne (tgt := 13) hx hb dL_areShown_6 (by decide) (fun c_6 => ?_) (fun c_6 => ?_)
  · have hw := hw.2 c_6
    refine lv_iconst (v := 0) hx hb dL_areShown_13 (by decide) ?_
    refine W.widen (k := 2 + 2 * 0 + 2) (n := 12 + 12 * 0 + 12) (by omega) (by omega) ?_
    exact L_14 M_3 0 a2 0 hw H locs ls hW hS (lv_sub hl [0, 1, 2] rfl)
  · have hw := hw.1 c_6
    refine lv_iconst (v := 1) hx hb dL_areShown_9 (by decide) ?_
    refine lv_goto (tgt := 14) hx hb dL_areShown_10 (by decide) ?_
    refine W.widen (k := 2 + 2 * 0 + 2) (n := 12 + 12 * 0 + 12) (by omega) (by omega) ?_
    exact L_14 M_3 0 a2 1 hw H locs ls hW hS (lv_sub hl [0, 1, 2] rfl)
