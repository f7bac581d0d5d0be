set_option maxHeartbeats 40000000 in
set_option maxRecDepth 100000 in
theorem law_walk {p : Program} {e : Env} {s : State} {m : MethodId} {below : List Frame} {meth : Method} {c : Code} (l : Launch) (hlt : l.stackTraces = false) (E : GE) (base : Nat) (hbase : base = s.heap.size) {b L : Nat} {xs : Nat → Int32} (hx : p.tables.exec = Jvm.exec) (hb : c.code = cL_law) (hr : meth.sig.returnType = ret) (hml : c.maxLocals = 7) (hown : s.vm.findClass RL = some m.cls) (hts : ∀ w ∈ WSG, w.before #[Value.ref b] s = true) (hXs : va_X b L xs s s.heap) (hbl : b < s.heap.size) (hlocks : meth.locks = false) (hT : TB E base s s.heap) (M : Mem) (ad : AD) (hW : Wd E base M ad s.heap) (Q : Int32 → Mem → Prop) (hQ : ∀ r M1, Q r M1 → r = 1) (hw : w_L_law L xs M Q) (ls : Array Slot) (hl : lv_has ls 7 [(0, .ref b)]) : W p l e room_1 s m #[Value.ref b] below meth c s.heap [] 0 0 (lw_Z below #[Value.ref b] s) (F0 m 0 ls []) := by
  have hbA : ¬ (fun q : Nat => base ≤ q) b := by show ¬ base ≤ b; omega
  have hS : va_S (fun q : Nat => base ≤ q) s.heap s.heap [] := va_S.rf
  obtain ⟨QQ, hQQ⟩ : ∃ z, lw_Z below #[Value.ref b] s = z := ⟨_, rfl⟩
  rw [hQQ]
  have L_1318 : ∀ (k23 : Mem → Nat → Int32 → Prop) (K23 : ∀ (ad9 : AD) (M : Mem) (it : Nat) (x4 : Int32), k23 M it x4 → WL p l e room_1 s m #[Value.ref b] below meth c QQ E base 7 M ad9 23 [(0, .ref b), (1, .ref (ad9 4 0)), (2, .ref (ad9 5 0)), (3, .ref (ad9 60 0)), (4, .int x4)] [] (40 + 16 * it + 0) (2000 + 1200 * it + 0)) (ad9 : AD) (M : Mem) (it : Nat) (x4 : Int32), b_L_law_1318 k23 L xs Q M it x4 → WL p l e room_1 s m #[Value.ref b] below meth c QQ E base 7 M ad9 1318 [(0, .ref b), (1, .ref (ad9 4 0)), (2, .ref (ad9 5 0)), (3, .ref (ad9 60 0)), (4, .int x4)] [] (40 + 16 * it + 16) (2000 + 1200 * it + 1200) := by
    intro k23 K23 ad9 M it x4 hw H locs ls hW hS hl
    unfold b_L_law_1318 at hw
    obtain ⟨hit, hw⟩ := hw
    obtain ⟨v_50, ev_50⟩ : ∃ y : Int32, y = x4 + 4 := ⟨_, rfl⟩
    have hw := hw v_50 ev_50
    refine lv_iinc (v := v_50) (lv' := [(4, .int v_50), (0, .ref b), (1, .ref (ad9 4 0)), (2, .ref (ad9 5 0)), (3, .ref (ad9 60 0))]) hx hb dL_law_1318 hl (k := 4) rfl (by rw [ev_50]; rfl) (by decide) rfl (fun ls hl => ?_)
    refine lv_goto (tgt := 23) hx hb dL_law_1321 (by decide) ?_
    refine W.widen (k := 40 + 16 * (it + 1) + 0) (n := 2000 + 1200 * (it + 1) + 0) (by omega) (by omega) ?_
    exact K23 ad9 M (it + 1) v_50 hw H locs ls hW hS (lv_sub hl [1, 2, 3, 4, 0] rfl)
  have L_197 : ∀ (k23 : Mem → Nat → Int32 → Prop) (K23 : ∀ (ad9 : AD) (M : Mem) (it : Nat) (x4 : Int32), k23 M it x4 → WL p l e room_1 s m #[Value.ref b] below meth c QQ E base 7 M ad9 23 [(0, .ref b), (1, .ref (ad9 4 0)), (2, .ref (ad9 5 0)), (3, .ref (ad9 60 0)), (4, .int x4)] [] (40 + 16 * it + 0) (2000 + 1200 * it + 0)) (ad9 : AD) (M : Mem) (it : Nat) (x4 : Int32), b_L_law_197 k23 L xs Q M it x4 → WL p l e room_1 s m #[Value.ref b] below meth c QQ E base 7 M ad9 197 [(0, .ref b), (1, .ref (ad9 4 0)), (2, .ref (ad9 5 0)), (3, .ref (ad9 60 0)), (4, .int x4)] [] (40 + 16 * it + 11) (2000 + 1200 * it + 1060) := by
    intro k23 K23 ad9 M it x4 hw H locs ls hW hS hl
    unfold b_L_law_197 at hw
    obtain ⟨hit, hw⟩ := hw
    refine lv_goto (tgt := 1318) hx hb dL_law_197 (by decide) ?_
    refine W.widen (k := 40 + 16 * it + 16) (n := 2000 + 1200 * it + 1200) (by omega) (by omega) ?_
    exact L_1318 k23 K23 ad9 M it x4 hw H locs ls hW hS (lv_sub hl [0, 1, 2, 3, 4] rfl)
  have L_164 : ∀ (k23 : Mem → Nat → Int32 → Prop) (K23 : ∀ (ad9 : AD) (M : Mem) (it : Nat) (x4 : Int32), k23 M it x4 → WL p l e room_1 s m #[Value.ref b] below meth c QQ E base 7 M ad9 23 [(0, .ref b), (1, .ref (ad9 4 0)), (2, .ref (ad9 5 0)), (3, .ref (ad9 60 0)), (4, .int x4)] [] (40 + 16 * it + 0) (2000 + 1200 * it + 0)) (ad9 : AD) (M : Mem) (it : Nat) (x4 : Int32) (x5 : Int32) (s0 : Int32), b_L_law_164 k23 L xs Q M it x4 x5 s0 → WL p l e room_1 s m #[Value.ref b] below meth c QQ E base 7 M ad9 164 [(0, .ref b), (1, .ref (ad9 4 0)), (2, .ref (ad9 5 0)), (3, .ref (ad9 60 0)), (4, .int x4), (5, .int x5)] [.int s0, .ref (ad9 5 0)] (40 + 16 * it + 11) (2000 + 1200 * it + 1060) := by
    intro k23 K23 ad9 M it x4 x5 s0 hw H locs ls hW hS hl
    unfold b_L_law_164 at hw
    obtain ⟨hit, hw⟩ := hw
    obtain ⟨g_38, hw⟩ := hw
    refine k_I (rn_V (As := [.int s0]) (rest := []) (κ := 5) (i := 0) ⟨hx, hb, hml, hown, hts⟩ hT hW hS hl (c_X5_join l E base M ad9 s0 _ hw) cy_X5_join k_361 k_362 k_363 g_38 (by decide) rfl rfl rfl rfl ⟨(Nat.le_of_ble_eq_true rfl), (Nat.le_of_ble_eq_true rfl)⟩ rfl rfl (Nat.le_of_ble_eq_true rfl) dL_law_164 ⟨by show _ + 0 ≤ 601024; omega, by show _ + 0 ≤ 7293034; omega⟩) hS kx_no (fun r_42 M_40 ad_41 H locs hP hW hS => ?_)
    obtain ⟨hw, rfl⟩ := hP
    refine lv_istore (lv' := [(6, .int r_42), (0, .ref b), (1, .ref (ad9 4 0)), (2, .ref (ad9 5 0)), (3, .ref (ad9 60 0)), (4, .int x4), (5, .int x5)]) hx hb dL_law_167 hl (by decide) rfl (fun ls hl => ?_)
    refine lv_aload_n hx hb dL_law_169 rfl (lv_at hl 3 rfl) ?_
    obtain ⟨g_43, hw⟩ := hw
    refine k_I (rn_V (As := []) (rest := []) (κ := 5) (i := 0) ⟨hx, hb, hml, hown, hts⟩ hT hW hS hl (c_X5_thrown l E base M_40 ad9 _ hw) cy_X5_thrown k_364 k_365 k_366 g_43 (by decide) rfl rfl rfl rfl ⟨(Nat.le_of_ble_eq_true rfl), (Nat.le_of_ble_eq_true rfl)⟩ rfl rfl (Nat.le_of_ble_eq_true rfl) dL_law_170 ⟨by show _ + 0 ≤ 601024; omega, by show _ + 0 ≤ 7293034; omega⟩) hS kx_no (fun r_47 M_45 ad_46 H locs hP hW hS => ?_)
    obtain ⟨hw, rfl⟩ := hP
    refine lv_iload hx hb dL_law_173 (lv_at hl 6 rfl) ?_
    refine lv_icmp_eq (tgt := 180) hx hb dL_law_175 (by decide) (fun c_48 => ?_) (fun c_48 => ?_)
    · have hw := hw.1 c_48
      refine lv_iload hx hb dL_law_180 (lv_at hl 6 rfl) ?_
      refine lv_if_ne (tgt := 197) hx hb dL_law_182 (by decide) (fun c_49 => ?_) (fun c_49 => ?_)
      · have hw := hw.2 c_49
        refine W.widen (k := 40 + 16 * it + 11) (n := 2000 + 1200 * it + 1060) (by omega) (by omega) ?_
        exact L_197 k23 K23 ad9 M_45 it x4 hw H locs ls hW hS (lv_sub hl [1, 2, 3, 4, 5] rfl)
      · have hw := hw.1 c_49
        refine lv_aload_n hx hb dL_law_185 rfl (lv_at hl 4 rfl) ?_
        refine lv_iconst (v := 0) hx hb dL_law_186 (by decide) ?_
        obtain ⟨g_51, hw⟩ := hw
        obtain ⟨g_52, hw⟩ := hw
        refine r_lald hx hb hT.1 hW (by decide) rfl (fun _ => rfl) 1 rfl g_52 g_51 dL_law_187 ?_
        refine lv_iload hx hb dL_law_188 (lv_at hl 0 rfl) ?_
        refine lv_i2l hx hb dL_law_190 rfl ?_
        refine W.lcmp hx hb dL_law_191 ?_
        refine lv_if_eq (tgt := 197) hx hb dL_law_192 (by decide) (fun c_53 => ?_) (fun c_53 => ?_)
        · have hw := hw.1 c_53
          refine W.widen (k := 40 + 16 * it + 11) (n := 2000 + 1200 * it + 1060) (by omega) (by omega) ?_
          exact L_197 k23 K23 ad9 M_45 it x4 hw H locs ls hW hS (lv_sub hl [1, 2, 3, 4, 5] rfl)
        · have hw := hw.2 c_53
          refine lv_iconst (v := 0) hx hb dL_law_195 (by decide) ?_
          rw [← hQQ]
          exact law_end hx hb hr hlocks hbase (hQ _ _ hw) hS (by omega) (by omega) dL_law_196
    · have hw := hw.2 c_48
      refine lv_iconst (v := 0) hx hb dL_law_178 (by decide) ?_
      rw [← hQQ]
      exact law_end hx hb hr hlocks hbase (hQ _ _ hw) hS (by omega) (by omega) dL_law_179
  have L_143 : ∀ (k23 : Mem → Nat → Int32 → Prop) (K23 : ∀ (ad9 : AD) (M : Mem) (it : Nat) (x4 : Int32), k23 M it x4 → WL p l e room_1 s m #[Value.ref b] below meth c QQ E base 7 M ad9 23 [(0, .ref b), (1, .ref (ad9 4 0)), (2, .ref (ad9 5 0)), (3, .ref (ad9 60 0)), (4, .int x4)] [] (40 + 16 * it + 0) (2000 + 1200 * it + 0)) (ad9 : AD) (M : Mem) (it : Nat) (x4 : Int32) (s0 : Int32), b_L_law_143 k23 L xs Q M it x4 s0 → WL p l e room_1 s m #[Value.ref b] below meth c QQ E base 7 M ad9 143 [(0, .ref b), (1, .ref (ad9 4 0)), (2, .ref (ad9 5 0)), (3, .ref (ad9 60 0)), (4, .int x4)] [.int s0, .ref (ad9 4 0)] (40 + 16 * it + 0) (2000 + 1200 * it + 0) := by
    intro k23 K23 ad9 M it x4 s0 hw H locs ls hW hS hl
    unfold b_L_law_143 at hw
    obtain ⟨hit, hw⟩ := hw
    refine lv_aload_n hx hb dL_law_143 rfl (lv_at hl 3 rfl) ?_
    refine k_I (rn_SX (As := [.ref (ad9 4 0), .int s0, .ref (ad9 60 0)]) (rest := []) ⟨hx, hb, hml, hown, hts⟩ hT hW hS hl (c_L_join l hlt E base M ad9 s0 _ hw) cy_L_join k_359 k_360 rfl rfl ⟨(Nat.le_of_ble_eq_true rfl), (Nat.le_of_ble_eq_true rfl)⟩ rfl rfl (Nat.le_of_ble_eq_true rfl) dL_law_144 ⟨by show _ + 11 ≤ 601024; omega, by show _ + 1060 ≤ 7293034; omega⟩) hS kx_no (fun r_34 M_32 ad_33 H locs hP hW hS => ?_)
    obtain ⟨hw, hag⟩ := hP
    have hag_35 := hag
    rw [hag_35 4 0 (by rfl)] at hl
    rw [hag_35 5 0 (by rfl)] at hl
    rw [hag_35 60 0 (by rfl)] at hl
    refine lv_istore (lv' := [(5, .int r_34), (0, .ref b), (1, .ref (ad_33 4 0)), (2, .ref (ad_33 5 0)), (3, .ref (ad_33 60 0)), (4, .int x4)]) hx hb dL_law_147 hl (by decide) rfl (fun ls hl => ?_)
    refine lv_aload_n hx hb dL_law_149 rfl (lv_at hl 3 rfl) ?_
    refine lv_aload_n hx hb dL_law_150 rfl (lv_at hl 1 rfl) ?_
    refine lv_iload hx hb dL_law_151 (lv_at hl 5 rfl) ?_
    refine lv_iconst (v := 1) hx hb dL_law_153 (by decide) ?_
    refine lv_iadd hx hb dL_law_154 ?_
    obtain ⟨g_36, hw⟩ := hw
    refine va_sld hx hb hXs hbl hbA hS g_36 dL_law_155 ?_
    refine lv_if_eq (tgt := 163) hx hb dL_law_156 (by decide) (fun c_37 => ?_) (fun c_37 => ?_)
    · have hw := hw.1 c_37
      refine lv_iconst (v := 0) hx hb dL_law_163 (by decide) ?_
      refine W.widen (k := 40 + 16 * it + 11) (n := 2000 + 1200 * it + 1060) (by omega) (by omega) ?_
      exact L_164 k23 K23 ad_33 M_32 it x4 r_34 0 hw H locs ls hW hS (lv_sub hl [1, 2, 3, 4, 5, 0] rfl)
    · have hw := hw.2 c_37
      refine lv_iconst (v := 1) hx hb dL_law_159 (by decide) ?_
      refine lv_goto (tgt := 164) hx hb dL_law_160 (by decide) ?_
      refine W.widen (k := 40 + 16 * it + 11) (n := 2000 + 1200 * it + 1060) (by omega) (by omega) ?_
      exact L_164 k23 K23 ad_33 M_32 it x4 r_34 1 hw H locs ls hW hS (lv_sub hl [1, 2, 3, 4, 5, 0] rfl)
  have L_253 : ∀ (k23 : Mem → Nat → Int32 → Prop) (K23 : ∀ (ad9 : AD) (M : Mem) (it : Nat) (x4 : Int32), k23 M it x4 → WL p l e room_1 s m #[Value.ref b] below meth c QQ E base 7 M ad9 23 [(0, .ref b), (1, .ref (ad9 4 0)), (2, .ref (ad9 5 0)), (3, .ref (ad9 60 0)), (4, .int x4)] [] (40 + 16 * it + 0) (2000 + 1200 * it + 0)) (ad9 : AD) (M : Mem) (it : Nat) (x4 : Int32), b_L_law_253 k23 L xs Q M it x4 → WL p l e room_1 s m #[Value.ref b] below meth c QQ E base 7 M ad9 253 [(0, .ref b), (1, .ref (ad9 4 0)), (2, .ref (ad9 5 0)), (3, .ref (ad9 60 0)), (4, .int x4)] [] (40 + 16 * it + 1) (2000 + 1200 * it + 6) := by
    intro k23 K23 ad9 M it x4 hw H locs ls hW hS hl
    unfold b_L_law_253 at hw
    obtain ⟨hit, hw⟩ := hw
    refine lv_goto (tgt := 1318) hx hb dL_law_253 (by decide) ?_
    refine W.widen (k := 40 + 16 * it + 16) (n := 2000 + 1200 * it + 1200) (by omega) (by omega) ?_
    exact L_1318 k23 K23 ad9 M it x4 hw H locs ls hW hS (lv_sub hl [0, 1, 2, 3, 4] rfl)
  have L_321 : ∀ (k23 : Mem → Nat → Int32 → Prop) (K23 : ∀ (ad9 : AD) (M : Mem) (it : Nat) (x4 : Int32), k23 M it x4 → WL p l e room_1 s m #[Value.ref b] below meth c QQ E base 7 M ad9 23 [(0, .ref b), (1, .ref (ad9 4 0)), (2, .ref (ad9 5 0)), (3, .ref (ad9 60 0)), (4, .int x4)] [] (40 + 16 * it + 0) (2000 + 1200 * it + 0)) (ad9 : AD) (M : Mem) (it : Nat) (x4 : Int32), b_L_law_321 k23 L xs Q M it x4 → WL p l e room_1 s m #[Value.ref b] below meth c QQ E base 7 M ad9 321 [(0, .ref b), (1, .ref (ad9 4 0)), (2, .ref (ad9 5 0)), (3, .ref (ad9 60 0)), (4, .int x4)] [] (40 + 16 * it + 2) (2000 + 1200 * it + 12) := by
    intro k23 K23 ad9 M it x4 hw H locs ls hW hS hl
    unfold b_L_law_321 at hw
    obtain ⟨hit, hw⟩ := hw
    refine lv_goto (tgt := 1318) hx hb dL_law_321 (by decide) ?_
    refine W.widen (k := 40 + 16 * it + 16) (n := 2000 + 1200 * it + 1200) (by omega) (by omega) ?_
    exact L_1318 k23 K23 ad9 M it x4 hw H locs ls hW hS (lv_sub hl [0, 1, 2, 3, 4] rfl)
  have L_412 : ∀ (k23 : Mem → Nat → Int32 → Prop) (K23 : ∀ (ad9 : AD) (M : Mem) (it : Nat) (x4 : Int32), k23 M it x4 → WL p l e room_1 s m #[Value.ref b] below meth c QQ E base 7 M ad9 23 [(0, .ref b), (1, .ref (ad9 4 0)), (2, .ref (ad9 5 0)), (3, .ref (ad9 60 0)), (4, .int x4)] [] (40 + 16 * it + 0) (2000 + 1200 * it + 0)) (ad9 : AD) (M : Mem) (it : Nat) (x4 : Int32), b_L_law_412 k23 L xs Q M it x4 → WL p l e room_1 s m #[Value.ref b] below meth c QQ E base 7 M ad9 412 [(0, .ref b), (1, .ref (ad9 4 0)), (2, .ref (ad9 5 0)), (3, .ref (ad9 60 0)), (4, .int x4)] [] (40 + 16 * it + 1) (2000 + 1200 * it + 6) := by
    intro k23 K23 ad9 M it x4 hw H locs ls hW hS hl
    unfold b_L_law_412 at hw
    obtain ⟨hit, hw⟩ := hw
    refine lv_goto (tgt := 1318) hx hb dL_law_412 (by decide) ?_
    refine W.widen (k := 40 + 16 * it + 16) (n := 2000 + 1200 * it + 1200) (by omega) (by omega) ?_
    exact L_1318 k23 K23 ad9 M it x4 hw H locs ls hW hS (lv_sub hl [0, 1, 2, 3, 4] rfl)
  have L_406 : ∀ (k23 : Mem → Nat → Int32 → Prop) (K23 : ∀ (ad9 : AD) (M : Mem) (it : Nat) (x4 : Int32), k23 M it x4 → WL p l e room_1 s m #[Value.ref b] below meth c QQ E base 7 M ad9 23 [(0, .ref b), (1, .ref (ad9 4 0)), (2, .ref (ad9 5 0)), (3, .ref (ad9 60 0)), (4, .int x4)] [] (40 + 16 * it + 0) (2000 + 1200 * it + 0)) (ad9 : AD) (M : Mem) (it : Nat) (x4 : Int32) (s0 : Int64) (s1 : Int64), b_L_law_406 k23 L xs Q M it x4 s0 s1 → WL p l e room_1 s m #[Value.ref b] below meth c QQ E base 7 M ad9 406 [(0, .ref b), (1, .ref (ad9 4 0)), (2, .ref (ad9 5 0)), (3, .ref (ad9 60 0)), (4, .int x4)] [.long s0, .long s1] (40 + 16 * it + 1) (2000 + 1200 * it + 6) := by
    intro k23 K23 ad9 M it x4 s0 s1 hw H locs ls hW hS hl
    unfold b_L_law_406 at hw
    obtain ⟨hit, hw⟩ := hw
    refine W.lcmp hx hb dL_law_406 ?_
    refine lv_if_eq (tgt := 412) hx hb dL_law_407 (by decide) (fun c_123 => ?_) (fun c_123 => ?_)
    · have hw := hw.1 c_123
      refine W.widen (k := 40 + 16 * it + 1) (n := 2000 + 1200 * it + 6) (by omega) (by omega) ?_
      exact L_412 k23 K23 ad9 M it x4 hw H locs ls hW hS (lv_sub hl [0, 1, 2, 3, 4] rfl)
    · have hw := hw.2 c_123
      refine lv_iconst (v := 0) hx hb dL_law_410 (by decide) ?_
      rw [← hQQ]
      exact law_end hx hb hr hlocks hbase (hQ _ _ hw) hS (by omega) (by omega) dL_law_411
  have L_372 : ∀ (k23 : Mem → Nat → Int32 → Prop) (K23 : ∀ (ad9 : AD) (M : Mem) (it : Nat) (x4 : Int32), k23 M it x4 → WL p l e room_1 s m #[Value.ref b] below meth c QQ E base 7 M ad9 23 [(0, .ref b), (1, .ref (ad9 4 0)), (2, .ref (ad9 5 0)), (3, .ref (ad9 60 0)), (4, .int x4)] [] (40 + 16 * it + 0) (2000 + 1200 * it + 0)) (ad9 : AD) (M : Mem) (it : Nat) (x4 : Int32) (x5 : Int32) (s0 : Int32) (s1 : Int32), b_L_law_372 k23 L xs Q M it x4 x5 s0 s1 → WL p l e room_1 s m #[Value.ref b] below meth c QQ E base 7 M ad9 372 [(0, .ref b), (1, .ref (ad9 4 0)), (2, .ref (ad9 5 0)), (3, .ref (ad9 60 0)), (4, .int x4), (5, .int x5)] [.int s0, .int s1, .ref (ad9 5 0)] (40 + 16 * it + 1) (2000 + 1200 * it + 6) := by
    intro k23 K23 ad9 M it x4 x5 s0 s1 hw H locs ls hW hS hl
    unfold b_L_law_372 at hw
    obtain ⟨hit, hw⟩ := hw
    obtain ⟨g_108, hw⟩ := hw
    refine k_I (rn_V (As := [.int s1, .int s0]) (rest := []) (κ := 5) (i := 0) ⟨hx, hb, hml, hown, hts⟩ hT hW hS hl (c_X5_setSequence l E base M ad9 s1 s0 _ hw) cy_X5_setSequence k_379 k_380 k_381 g_108 (by decide) rfl rfl rfl rfl ⟨(Nat.le_of_ble_eq_true rfl), (Nat.le_of_ble_eq_true rfl)⟩ rfl rfl (Nat.le_of_ble_eq_true rfl) dL_law_372 ⟨by show _ + 0 ≤ 601024; omega, by show _ + 0 ≤ 7293034; omega⟩) hS kx_no (fun r_112 M_110 ad_111 H locs hP hW hS => ?_)
    obtain ⟨hw, rfl⟩ := hP
    refine lv_istore (lv' := [(6, .int r_112), (0, .ref b), (1, .ref (ad9 4 0)), (2, .ref (ad9 5 0)), (3, .ref (ad9 60 0)), (4, .int x4), (5, .int x5)]) hx hb dL_law_375 hl (by decide) rfl (fun ls hl => ?_)
    refine lv_aload_n hx hb dL_law_377 rfl (lv_at hl 3 rfl) ?_
    obtain ⟨g_113, hw⟩ := hw
    refine k_I (rn_V (As := []) (rest := []) (κ := 5) (i := 0) ⟨hx, hb, hml, hown, hts⟩ hT hW hS hl (c_X5_thrown l E base M_110 ad9 _ hw) cy_X5_thrown k_364 k_365 k_366 g_113 (by decide) rfl rfl rfl rfl ⟨(Nat.le_of_ble_eq_true rfl), (Nat.le_of_ble_eq_true rfl)⟩ rfl rfl (Nat.le_of_ble_eq_true rfl) dL_law_378 ⟨by show _ + 0 ≤ 601024; omega, by show _ + 0 ≤ 7293034; omega⟩) hS kx_no (fun r_117 M_115 ad_116 H locs hP hW hS => ?_)
    obtain ⟨hw, rfl⟩ := hP
    refine lv_iload hx hb dL_law_381 (lv_at hl 6 rfl) ?_
    refine lv_icmp_eq (tgt := 388) hx hb dL_law_383 (by decide) (fun c_118 => ?_) (fun c_118 => ?_)
    · have hw := hw.1 c_118
      refine lv_iload hx hb dL_law_388 (lv_at hl 6 rfl) ?_
      refine lv_if_ne (tgt := 412) hx hb dL_law_390 (by decide) (fun c_119 => ?_) (fun c_119 => ?_)
      · have hw := hw.2 c_119
        refine W.widen (k := 40 + 16 * it + 1) (n := 2000 + 1200 * it + 6) (by omega) (by omega) ?_
        exact L_412 k23 K23 ad9 M_115 it x4 hw H locs ls hW hS (lv_sub hl [1, 2, 3, 4, 5] rfl)
      · have hw := hw.1 c_119
        refine lv_aload_n hx hb dL_law_393 rfl (lv_at hl 4 rfl) ?_
        refine lv_iconst (v := 0) hx hb dL_law_394 (by decide) ?_
        obtain ⟨g_120, hw⟩ := hw
        obtain ⟨g_121, hw⟩ := hw
        refine r_lald hx hb hT.1 hW (by decide) rfl (fun _ => rfl) 1 rfl g_121 g_120 dL_law_395 ?_
        refine lv_iload hx hb dL_law_396 (lv_at hl 0 rfl) ?_
        refine lv_if_eq (tgt := 405) hx hb dL_law_398 (by decide) (fun c_122 => ?_) (fun c_122 => ?_)
        · have hw := hw.1 c_122
          refine lv_lconst (v := 0) hx hb dL_law_405 (by decide) ?_
          refine W.widen (k := 40 + 16 * it + 1) (n := 2000 + 1200 * it + 6) (by omega) (by omega) ?_
          exact L_406 k23 K23 ad9 M_115 it x4 0 (mL M_115 60 0 ((0 : Int32).toNatClampNeg)) hw H locs ls hW hS (lv_sub hl [1, 2, 3, 4, 5] rfl)
        · have hw := hw.2 c_122
          refine lv_lconst (v := 1) hx hb dL_law_401 (by decide) ?_
          refine lv_goto (tgt := 406) hx hb dL_law_402 (by decide) ?_
          refine W.widen (k := 40 + 16 * it + 1) (n := 2000 + 1200 * it + 6) (by omega) (by omega) ?_
          exact L_406 k23 K23 ad9 M_115 it x4 1 (mL M_115 60 0 ((0 : Int32).toNatClampNeg)) hw H locs ls hW hS (lv_sub hl [1, 2, 3, 4, 5] rfl)
    · have hw := hw.2 c_118
      refine lv_iconst (v := 0) hx hb dL_law_386 (by decide) ?_
      rw [← hQQ]
      exact law_end hx hb hr hlocks hbase (hQ _ _ hw) hS (by omega) (by omega) dL_law_387
  have L_345 : ∀ (k23 : Mem → Nat → Int32 → Prop) (K23 : ∀ (ad9 : AD) (M : Mem) (it : Nat) (x4 : Int32), k23 M it x4 → WL p l e room_1 s m #[Value.ref b] below meth c QQ E base 7 M ad9 23 [(0, .ref b), (1, .ref (ad9 4 0)), (2, .ref (ad9 5 0)), (3, .ref (ad9 60 0)), (4, .int x4)] [] (40 + 16 * it + 0) (2000 + 1200 * it + 0)) (ad9 : AD) (M : Mem) (it : Nat) (x4 : Int32) (s0 : Int32) (s1 : Int32), b_L_law_345 k23 L xs Q M it x4 s0 s1 → WL p l e room_1 s m #[Value.ref b] below meth c QQ E base 7 M ad9 345 [(0, .ref b), (1, .ref (ad9 4 0)), (2, .ref (ad9 5 0)), (3, .ref (ad9 60 0)), (4, .int x4)] [.int s0, .int s1, .ref (ad9 4 0)] (40 + 16 * it + 0) (2000 + 1200 * it + 0) := by
    intro k23 K23 ad9 M it x4 s0 s1 hw H locs ls hW hS hl
    unfold b_L_law_345 at hw
    obtain ⟨hit, hw⟩ := hw
    refine lv_aload_n hx hb dL_law_345 rfl (lv_at hl 3 rfl) ?_
    refine k_I (rn_SX (As := [.ref (ad9 4 0), .int s1, .int s0, .ref (ad9 60 0)]) (rest := []) ⟨hx, hb, hml, hown, hts⟩ hT hW hS hl (c_L_setSequence l hlt E base M ad9 s1 s0 _ hw) cy_L_setSequence k_377 k_378 rfl rfl ⟨(Nat.le_of_ble_eq_true rfl), (Nat.le_of_ble_eq_true rfl)⟩ rfl rfl (Nat.le_of_ble_eq_true rfl) dL_law_346 ⟨by show _ + 1 ≤ 601024; omega, by show _ + 6 ≤ 7293034; omega⟩) hS kx_no (fun r_104 M_102 ad_103 H locs hP hW hS => ?_)
    obtain ⟨hw, rfl⟩ := hP
    refine lv_istore (lv' := [(5, .int r_104), (0, .ref b), (1, .ref (ad9 4 0)), (2, .ref (ad9 5 0)), (3, .ref (ad9 60 0)), (4, .int x4)]) hx hb dL_law_349 hl (by decide) rfl (fun ls hl => ?_)
    refine lv_aload_n hx hb dL_law_351 rfl (lv_at hl 3 rfl) ?_
    refine lv_aload_n hx hb dL_law_352 rfl (lv_at hl 1 rfl) ?_
    refine lv_iload hx hb dL_law_353 (lv_at hl 5 rfl) ?_
    refine lv_iconst (v := 1) hx hb dL_law_355 (by decide) ?_
    refine lv_iadd hx hb dL_law_356 ?_
    obtain ⟨g_105, hw⟩ := hw
    refine va_sld hx hb hXs hbl hbA hS g_105 dL_law_357 ?_
    refine lv_aload_n hx hb dL_law_358 rfl (lv_at hl 1 rfl) ?_
    refine lv_iload hx hb dL_law_359 (lv_at hl 5 rfl) ?_
    refine lv_iconst (v := 2) hx hb dL_law_361 (by decide) ?_
    refine lv_iadd hx hb dL_law_362 ?_
    obtain ⟨g_106, hw⟩ := hw
    refine va_sld hx hb hXs hbl hbA hS g_106 dL_law_363 ?_
    refine lv_if_eq (tgt := 371) hx hb dL_law_364 (by decide) (fun c_107 => ?_) (fun c_107 => ?_)
    · have hw := hw.1 c_107
      refine lv_iconst (v := 0) hx hb dL_law_371 (by decide) ?_
      refine W.widen (k := 40 + 16 * it + 1) (n := 2000 + 1200 * it + 6) (by omega) (by omega) ?_
      exact L_372 k23 K23 ad9 M_102 it x4 r_104 0 (xs (x4 + 1).toNatClampNeg) hw H locs ls hW hS (lv_sub hl [1, 2, 3, 4, 5, 0] rfl)
    · have hw := hw.2 c_107
      refine lv_iconst (v := 1) hx hb dL_law_367 (by decide) ?_
      refine lv_goto (tgt := 372) hx hb dL_law_368 (by decide) ?_
      refine W.widen (k := 40 + 16 * it + 1) (n := 2000 + 1200 * it + 6) (by omega) (by omega) ?_
      exact L_372 k23 K23 ad9 M_102 it x4 r_104 1 (xs (x4 + 1).toNatClampNeg) hw H locs ls hW hS (lv_sub hl [1, 2, 3, 4, 5, 0] rfl)
  have L_503 : ∀ (k23 : Mem → Nat → Int32 → Prop) (K23 : ∀ (ad9 : AD) (M : Mem) (it : Nat) (x4 : Int32), k23 M it x4 → WL p l e room_1 s m #[Value.ref b] below meth c QQ E base 7 M ad9 23 [(0, .ref b), (1, .ref (ad9 4 0)), (2, .ref (ad9 5 0)), (3, .ref (ad9 60 0)), (4, .int x4)] [] (40 + 16 * it + 0) (2000 + 1200 * it + 0)) (ad9 : AD) (M : Mem) (it : Nat) (x4 : Int32), b_L_law_503 k23 L xs Q M it x4 → WL p l e room_1 s m #[Value.ref b] below meth c QQ E base 7 M ad9 503 [(0, .ref b), (1, .ref (ad9 4 0)), (2, .ref (ad9 5 0)), (3, .ref (ad9 60 0)), (4, .int x4)] [] (40 + 16 * it + 1) (2000 + 1200 * it + 6) := by
    intro k23 K23 ad9 M it x4 hw H locs ls hW hS hl
    unfold b_L_law_503 at hw
    obtain ⟨hit, hw⟩ := hw
    refine lv_goto (tgt := 1318) hx hb dL_law_503 (by decide) ?_
    refine W.widen (k := 40 + 16 * it + 16) (n := 2000 + 1200 * it + 1200) (by omega) (by omega) ?_
    exact L_1318 k23 K23 ad9 M it x4 hw H locs ls hW hS (lv_sub hl [0, 1, 2, 3, 4] rfl)
  have L_497 : ∀ (k23 : Mem → Nat → Int32 → Prop) (K23 : ∀ (ad9 : AD) (M : Mem) (it : Nat) (x4 : Int32), k23 M it x4 → WL p l e room_1 s m #[Value.ref b] below meth c QQ E base 7 M ad9 23 [(0, .ref b), (1, .ref (ad9 4 0)), (2, .ref (ad9 5 0)), (3, .ref (ad9 60 0)), (4, .int x4)] [] (40 + 16 * it + 0) (2000 + 1200 * it + 0)) (ad9 : AD) (M : Mem) (it : Nat) (x4 : Int32) (s0 : Int64) (s1 : Int64), b_L_law_497 k23 L xs Q M it x4 s0 s1 → WL p l e room_1 s m #[Value.ref b] below meth c QQ E base 7 M ad9 497 [(0, .ref b), (1, .ref (ad9 4 0)), (2, .ref (ad9 5 0)), (3, .ref (ad9 60 0)), (4, .int x4)] [.long s0, .long s1] (40 + 16 * it + 1) (2000 + 1200 * it + 6) := by
    intro k23 K23 ad9 M it x4 s0 s1 hw H locs ls hW hS hl
    unfold b_L_law_497 at hw
    obtain ⟨hit, hw⟩ := hw
    refine W.lcmp hx hb dL_law_497 ?_
    refine lv_if_eq (tgt := 503) hx hb dL_law_498 (by decide) (fun c_149 => ?_) (fun c_149 => ?_)
    · have hw := hw.1 c_149
      refine W.widen (k := 40 + 16 * it + 1) (n := 2000 + 1200 * it + 6) (by omega) (by omega) ?_
      exact L_503 k23 K23 ad9 M it x4 hw H locs ls hW hS (lv_sub hl [0, 1, 2, 3, 4] rfl)
    · have hw := hw.2 c_149
      refine lv_iconst (v := 0) hx hb dL_law_501 (by decide) ?_
      rw [← hQQ]
      exact law_end hx hb hr hlocks hbase (hQ _ _ hw) hS (by omega) (by omega) dL_law_502
  have L_463 : ∀ (k23 : Mem → Nat → Int32 → Prop) (K23 : ∀ (ad9 : AD) (M : Mem) (it : Nat) (x4 : Int32), k23 M it x4 → WL p l e room_1 s m #[Value.ref b] below meth c QQ E base 7 M ad9 23 [(0, .ref b), (1, .ref (ad9 4 0)), (2, .ref (ad9 5 0)), (3, .ref (ad9 60 0)), (4, .int x4)] [] (40 + 16 * it + 0) (2000 + 1200 * it + 0)) (ad9 : AD) (M : Mem) (it : Nat) (x4 : Int32) (x5 : Int32) (s0 : Int32) (s1 : Int32), b_L_law_463 k23 L xs Q M it x4 x5 s0 s1 → WL p l e room_1 s m #[Value.ref b] below meth c QQ E base 7 M ad9 463 [(0, .ref b), (1, .ref (ad9 4 0)), (2, .ref (ad9 5 0)), (3, .ref (ad9 60 0)), (4, .int x4), (5, .int x5)] [.int s0, .int s1, .ref (ad9 5 0)] (40 + 16 * it + 1) (2000 + 1200 * it + 6) := by
    intro k23 K23 ad9 M it x4 x5 s0 s1 hw H locs ls hW hS hl
    unfold b_L_law_463 at hw
    obtain ⟨hit, hw⟩ := hw
    obtain ⟨g_134, hw⟩ := hw
    refine k_I (rn_V (As := [.int s1, .int s0]) (rest := []) (κ := 5) (i := 0) ⟨hx, hb, hml, hown, hts⟩ hT hW hS hl (c_X5_setCareful l E base M ad9 s1 s0 _ hw) cy_X5_setCareful k_384 k_385 k_386 g_134 (by decide) rfl rfl rfl rfl ⟨(Nat.le_of_ble_eq_true rfl), (Nat.le_of_ble_eq_true rfl)⟩ rfl rfl (Nat.le_of_ble_eq_true rfl) dL_law_463 ⟨by show _ + 0 ≤ 601024; omega, by show _ + 0 ≤ 7293034; omega⟩) hS kx_no (fun r_138 M_136 ad_137 H locs hP hW hS => ?_)
    obtain ⟨hw, rfl⟩ := hP
    refine lv_istore (lv' := [(6, .int r_138), (0, .ref b), (1, .ref (ad9 4 0)), (2, .ref (ad9 5 0)), (3, .ref (ad9 60 0)), (4, .int x4), (5, .int x5)]) hx hb dL_law_466 hl (by decide) rfl (fun ls hl => ?_)
    refine lv_aload_n hx hb dL_law_468 rfl (lv_at hl 3 rfl) ?_
    obtain ⟨g_139, hw⟩ := hw
    refine k_I (rn_V (As := []) (rest := []) (κ := 5) (i := 0) ⟨hx, hb, hml, hown, hts⟩ hT hW hS hl (c_X5_thrown l E base M_136 ad9 _ hw) cy_X5_thrown k_364 k_365 k_366 g_139 (by decide) rfl rfl rfl rfl ⟨(Nat.le_of_ble_eq_true rfl), (Nat.le_of_ble_eq_true rfl)⟩ rfl rfl (Nat.le_of_ble_eq_true rfl) dL_law_469 ⟨by show _ + 0 ≤ 601024; omega, by show _ + 0 ≤ 7293034; omega⟩) hS kx_no (fun r_143 M_141 ad_142 H locs hP hW hS => ?_)
    obtain ⟨hw, rfl⟩ := hP
    refine lv_iload hx hb dL_law_472 (lv_at hl 6 rfl) ?_
    refine lv_icmp_eq (tgt := 479) hx hb dL_law_474 (by decide) (fun c_144 => ?_) (fun c_144 => ?_)
    · have hw := hw.1 c_144
      refine lv_iload hx hb dL_law_479 (lv_at hl 6 rfl) ?_
      refine lv_if_ne (tgt := 503) hx hb dL_law_481 (by decide) (fun c_145 => ?_) (fun c_145 => ?_)
      · have hw := hw.2 c_145
        refine W.widen (k := 40 + 16 * it + 1) (n := 2000 + 1200 * it + 6) (by omega) (by omega) ?_
        exact L_503 k23 K23 ad9 M_141 it x4 hw H locs ls hW hS (lv_sub hl [1, 2, 3, 4, 5] rfl)
      · have hw := hw.1 c_145
        refine lv_aload_n hx hb dL_law_484 rfl (lv_at hl 4 rfl) ?_
        refine lv_iconst (v := 0) hx hb dL_law_485 (by decide) ?_
        obtain ⟨g_146, hw⟩ := hw
        obtain ⟨g_147, hw⟩ := hw
        refine r_lald hx hb hT.1 hW (by decide) rfl (fun _ => rfl) 1 rfl g_147 g_146 dL_law_486 ?_
        refine lv_iload hx hb dL_law_487 (lv_at hl 0 rfl) ?_
        refine lv_if_eq (tgt := 496) hx hb dL_law_489 (by decide) (fun c_148 => ?_) (fun c_148 => ?_)
        · have hw := hw.1 c_148
          refine lv_lconst (v := 0) hx hb dL_law_496 (by decide) ?_
          refine W.widen (k := 40 + 16 * it + 1) (n := 2000 + 1200 * it + 6) (by omega) (by omega) ?_
          exact L_497 k23 K23 ad9 M_141 it x4 0 (mL M_141 60 0 ((0 : Int32).toNatClampNeg)) hw H locs ls hW hS (lv_sub hl [1, 2, 3, 4, 5] rfl)
        · have hw := hw.2 c_148
          refine lv_lconst (v := 1) hx hb dL_law_492 (by decide) ?_
          refine lv_goto (tgt := 497) hx hb dL_law_493 (by decide) ?_
          refine W.widen (k := 40 + 16 * it + 1) (n := 2000 + 1200 * it + 6) (by omega) (by omega) ?_
          exact L_497 k23 K23 ad9 M_141 it x4 1 (mL M_141 60 0 ((0 : Int32).toNatClampNeg)) hw H locs ls hW hS (lv_sub hl [1, 2, 3, 4, 5] rfl)
    · have hw := hw.2 c_144
      refine lv_iconst (v := 0) hx hb dL_law_477 (by decide) ?_
      rw [← hQQ]
      exact law_end hx hb hr hlocks hbase (hQ _ _ hw) hS (by omega) (by omega) dL_law_478
  have L_436 : ∀ (k23 : Mem → Nat → Int32 → Prop) (K23 : ∀ (ad9 : AD) (M : Mem) (it : Nat) (x4 : Int32), k23 M it x4 → WL p l e room_1 s m #[Value.ref b] below meth c QQ E base 7 M ad9 23 [(0, .ref b), (1, .ref (ad9 4 0)), (2, .ref (ad9 5 0)), (3, .ref (ad9 60 0)), (4, .int x4)] [] (40 + 16 * it + 0) (2000 + 1200 * it + 0)) (ad9 : AD) (M : Mem) (it : Nat) (x4 : Int32) (s0 : Int32) (s1 : Int32), b_L_law_436 k23 L xs Q M it x4 s0 s1 → WL p l e room_1 s m #[Value.ref b] below meth c QQ E base 7 M ad9 436 [(0, .ref b), (1, .ref (ad9 4 0)), (2, .ref (ad9 5 0)), (3, .ref (ad9 60 0)), (4, .int x4)] [.int s0, .int s1, .ref (ad9 4 0)] (40 + 16 * it + 0) (2000 + 1200 * it + 0) := by
    intro k23 K23 ad9 M it x4 s0 s1 hw H locs ls hW hS hl
    unfold b_L_law_436 at hw
    obtain ⟨hit, hw⟩ := hw
    refine lv_aload_n hx hb dL_law_436 rfl (lv_at hl 3 rfl) ?_
    refine k_I (rn_SX (As := [.ref (ad9 4 0), .int s1, .int s0, .ref (ad9 60 0)]) (rest := []) ⟨hx, hb, hml, hown, hts⟩ hT hW hS hl (c_L_setCareful l hlt E base M ad9 s1 s0 _ hw) cy_L_setCareful k_382 k_383 rfl rfl ⟨(Nat.le_of_ble_eq_true rfl), (Nat.le_of_ble_eq_true rfl)⟩ rfl rfl (Nat.le_of_ble_eq_true rfl) dL_law_437 ⟨by show _ + 1 ≤ 601024; omega, by show _ + 6 ≤ 7293034; omega⟩) hS kx_no (fun r_130 M_128 ad_129 H locs hP hW hS => ?_)
    obtain ⟨hw, rfl⟩ := hP
    refine lv_istore (lv' := [(5, .int r_130), (0, .ref b), (1, .ref (ad9 4 0)), (2, .ref (ad9 5 0)), (3, .ref (ad9 60 0)), (4, .int x4)]) hx hb dL_law_440 hl (by decide) rfl (fun ls hl => ?_)
    refine lv_aload_n hx hb dL_law_442 rfl (lv_at hl 3 rfl) ?_
    refine lv_aload_n hx hb dL_law_443 rfl (lv_at hl 1 rfl) ?_
    refine lv_iload hx hb dL_law_444 (lv_at hl 5 rfl) ?_
    refine lv_iconst (v := 1) hx hb dL_law_446 (by decide) ?_
    refine lv_iadd hx hb dL_law_447 ?_
    obtain ⟨g_131, hw⟩ := hw
    refine va_sld hx hb hXs hbl hbA hS g_131 dL_law_448 ?_
    refine lv_aload_n hx hb dL_law_449 rfl (lv_at hl 1 rfl) ?_
    refine lv_iload hx hb dL_law_450 (lv_at hl 5 rfl) ?_
    refine lv_iconst (v := 2) hx hb dL_law_452 (by decide) ?_
    refine lv_iadd hx hb dL_law_453 ?_
    obtain ⟨g_132, hw⟩ := hw
    refine va_sld hx hb hXs hbl hbA hS g_132 dL_law_454 ?_
    refine lv_if_eq (tgt := 462) hx hb dL_law_455 (by decide) (fun c_133 => ?_) (fun c_133 => ?_)
    · have hw := hw.1 c_133
      refine lv_iconst (v := 0) hx hb dL_law_462 (by decide) ?_
      refine W.widen (k := 40 + 16 * it + 1) (n := 2000 + 1200 * it + 6) (by omega) (by omega) ?_
      exact L_463 k23 K23 ad9 M_128 it x4 r_130 0 (xs (x4 + 1).toNatClampNeg) hw H locs ls hW hS (lv_sub hl [1, 2, 3, 4, 5, 0] rfl)
    · have hw := hw.2 c_133
      refine lv_iconst (v := 1) hx hb dL_law_458 (by decide) ?_
      refine lv_goto (tgt := 463) hx hb dL_law_459 (by decide) ?_
      refine W.widen (k := 40 + 16 * it + 1) (n := 2000 + 1200 * it + 6) (by omega) (by omega) ?_
      exact L_463 k23 K23 ad9 M_128 it x4 r_130 1 (xs (x4 + 1).toNatClampNeg) hw H locs ls hW hS (lv_sub hl [1, 2, 3, 4, 5, 0] rfl)
  have L_606 : ∀ (k23 : Mem → Nat → Int32 → Prop) (K23 : ∀ (ad9 : AD) (M : Mem) (it : Nat) (x4 : Int32), k23 M it x4 → WL p l e room_1 s m #[Value.ref b] below meth c QQ E base 7 M ad9 23 [(0, .ref b), (1, .ref (ad9 4 0)), (2, .ref (ad9 5 0)), (3, .ref (ad9 60 0)), (4, .int x4)] [] (40 + 16 * it + 0) (2000 + 1200 * it + 0)) (ad9 : AD) (M : Mem) (it : Nat) (x4 : Int32), b_L_law_606 k23 L xs Q M it x4 → WL p l e room_1 s m #[Value.ref b] below meth c QQ E base 7 M ad9 606 [(0, .ref b), (1, .ref (ad9 4 0)), (2, .ref (ad9 5 0)), (3, .ref (ad9 60 0)), (4, .int x4)] [] (40 + 16 * it + 2) (2000 + 1200 * it + 12) := by
    intro k23 K23 ad9 M it x4 hw H locs ls hW hS hl
    unfold b_L_law_606 at hw
    obtain ⟨hit, hw⟩ := hw
    refine lv_goto (tgt := 1318) hx hb dL_law_606 (by decide) ?_
    refine W.widen (k := 40 + 16 * it + 16) (n := 2000 + 1200 * it + 1200) (by omega) (by omega) ?_
    exact L_1318 k23 K23 ad9 M it x4 hw H locs ls hW hS (lv_sub hl [0, 1, 2, 3, 4] rfl)
  have L_600 : ∀ (k23 : Mem → Nat → Int32 → Prop) (K23 : ∀ (ad9 : AD) (M : Mem) (it : Nat) (x4 : Int32), k23 M it x4 → WL p l e room_1 s m #[Value.ref b] below meth c QQ E base 7 M ad9 23 [(0, .ref b), (1, .ref (ad9 4 0)), (2, .ref (ad9 5 0)), (3, .ref (ad9 60 0)), (4, .int x4)] [] (40 + 16 * it + 0) (2000 + 1200 * it + 0)) (ad9 : AD) (M : Mem) (it : Nat) (x4 : Int32) (s0 : Int64) (s1 : Int64), b_L_law_600 k23 L xs Q M it x4 s0 s1 → WL p l e room_1 s m #[Value.ref b] below meth c QQ E base 7 M ad9 600 [(0, .ref b), (1, .ref (ad9 4 0)), (2, .ref (ad9 5 0)), (3, .ref (ad9 60 0)), (4, .int x4)] [.long s0, .long s1] (40 + 16 * it + 2) (2000 + 1200 * it + 12) := by
    intro k23 K23 ad9 M it x4 s0 s1 hw H locs ls hW hS hl
    unfold b_L_law_600 at hw
    obtain ⟨hit, hw⟩ := hw
    refine W.lcmp hx hb dL_law_600 ?_
    refine lv_if_eq (tgt := 606) hx hb dL_law_601 (by decide) (fun c_177 => ?_) (fun c_177 => ?_)
    · have hw := hw.1 c_177
      refine W.widen (k := 40 + 16 * it + 2) (n := 2000 + 1200 * it + 12) (by omega) (by omega) ?_
      exact L_606 k23 K23 ad9 M it x4 hw H locs ls hW hS (lv_sub hl [0, 1, 2, 3, 4] rfl)
    · have hw := hw.2 c_177
      refine lv_iconst (v := 0) hx hb dL_law_604 (by decide) ?_
      rw [← hQQ]
      exact law_end hx hb hr hlocks hbase (hQ _ _ hw) hS (by omega) (by omega) dL_law_605
  have L_566 : ∀ (k23 : Mem → Nat → Int32 → Prop) (K23 : ∀ (ad9 : AD) (M : Mem) (it : Nat) (x4 : Int32), k23 M it x4 → WL p l e room_1 s m #[Value.ref b] below meth c QQ E base 7 M ad9 23 [(0, .ref b), (1, .ref (ad9 4 0)), (2, .ref (ad9 5 0)), (3, .ref (ad9 60 0)), (4, .int x4)] [] (40 + 16 * it + 0) (2000 + 1200 * it + 0)) (ad9 : AD) (M : Mem) (it : Nat) (x4 : Int32) (x5 : Int32) (s0 : Int32) (s1 : Int32) (s2 : Int32), b_L_law_566 k23 L xs Q M it x4 x5 s0 s1 s2 → WL p l e room_1 s m #[Value.ref b] below meth c QQ E base 7 M ad9 566 [(0, .ref b), (1, .ref (ad9 4 0)), (2, .ref (ad9 5 0)), (3, .ref (ad9 60 0)), (4, .int x4), (5, .int x5)] [.int s0, .int s1, .int s2, .ref (ad9 5 0)] (40 + 16 * it + 2) (2000 + 1200 * it + 12) := by
    intro k23 K23 ad9 M it x4 x5 s0 s1 s2 hw H locs ls hW hS hl
    unfold b_L_law_566 at hw
    obtain ⟨hit, hw⟩ := hw
    obtain ⟨g_162, hw⟩ := hw
    refine k_I (rn_V (As := [.int s2, .int s1, .int s0]) (rest := []) (κ := 5) (i := 0) ⟨hx, hb, hml, hown, hts⟩ hT hW hS hl (c_X5_spoil l E base M ad9 s2 s1 s0 _ hw) cy_X5_spoil k_389 k_390 k_391 g_162 (by decide) rfl rfl rfl rfl ⟨(Nat.le_of_ble_eq_true rfl), (Nat.le_of_ble_eq_true rfl)⟩ rfl rfl (Nat.le_of_ble_eq_true rfl) dL_law_566 ⟨by show _ + 0 ≤ 601024; omega, by show _ + 0 ≤ 7293034; omega⟩) hS kx_no (fun r_166 M_164 ad_165 H locs hP hW hS => ?_)
    obtain ⟨hw, rfl⟩ := hP
    refine lv_istore (lv' := [(6, .int r_166), (0, .ref b), (1, .ref (ad9 4 0)), (2, .ref (ad9 5 0)), (3, .ref (ad9 60 0)), (4, .int x4), (5, .int x5)]) hx hb dL_law_569 hl (by decide) rfl (fun ls hl => ?_)
    refine lv_aload_n hx hb dL_law_571 rfl (lv_at hl 3 rfl) ?_
    obtain ⟨g_167, hw⟩ := hw
    refine k_I (rn_V (As := []) (rest := []) (κ := 5) (i := 0) ⟨hx, hb, hml, hown, hts⟩ hT hW hS hl (c_X5_thrown l E base M_164 ad9 _ hw) cy_X5_thrown k_364 k_365 k_366 g_167 (by decide) rfl rfl rfl rfl ⟨(Nat.le_of_ble_eq_true rfl), (Nat.le_of_ble_eq_true rfl)⟩ rfl rfl (Nat.le_of_ble_eq_true rfl) dL_law_572 ⟨by show _ + 0 ≤ 601024; omega, by show _ + 0 ≤ 7293034; omega⟩) hS kx_no (fun r_171 M_169 ad_170 H locs hP hW hS => ?_)
    obtain ⟨hw, rfl⟩ := hP
    refine lv_iload hx hb dL_law_575 (lv_at hl 6 rfl) ?_
    refine lv_icmp_eq (tgt := 582) hx hb dL_law_577 (by decide) (fun c_172 => ?_) (fun c_172 => ?_)
    · have hw := hw.1 c_172
      refine lv_iload hx hb dL_law_582 (lv_at hl 6 rfl) ?_
      refine lv_if_ne (tgt := 606) hx hb dL_law_584 (by decide) (fun c_173 => ?_) (fun c_173 => ?_)
      · have hw := hw.2 c_173
        refine W.widen (k := 40 + 16 * it + 2) (n := 2000 + 1200 * it + 12) (by omega) (by omega) ?_
        exact L_606 k23 K23 ad9 M_169 it x4 hw H locs ls hW hS (lv_sub hl [1, 2, 3, 4, 5] rfl)
      · have hw := hw.1 c_173
        refine lv_aload_n hx hb dL_law_587 rfl (lv_at hl 4 rfl) ?_
        refine lv_iconst (v := 0) hx hb dL_law_588 (by decide) ?_
        obtain ⟨g_174, hw⟩ := hw
        obtain ⟨g_175, hw⟩ := hw
        refine r_lald hx hb hT.1 hW (by decide) rfl (fun _ => rfl) 1 rfl g_175 g_174 dL_law_589 ?_
        refine lv_iload hx hb dL_law_590 (lv_at hl 0 rfl) ?_
        refine lv_if_eq (tgt := 599) hx hb dL_law_592 (by decide) (fun c_176 => ?_) (fun c_176 => ?_)
        · have hw := hw.1 c_176
          refine lv_lconst (v := 0) hx hb dL_law_599 (by decide) ?_
          refine W.widen (k := 40 + 16 * it + 2) (n := 2000 + 1200 * it + 12) (by omega) (by omega) ?_
          exact L_600 k23 K23 ad9 M_169 it x4 0 (mL M_169 60 0 ((0 : Int32).toNatClampNeg)) hw H locs ls hW hS (lv_sub hl [1, 2, 3, 4, 5] rfl)
        · have hw := hw.2 c_176
          refine lv_lconst (v := 1) hx hb dL_law_595 (by decide) ?_
          refine lv_goto (tgt := 600) hx hb dL_law_596 (by decide) ?_
          refine W.widen (k := 40 + 16 * it + 2) (n := 2000 + 1200 * it + 12) (by omega) (by omega) ?_
          exact L_600 k23 K23 ad9 M_169 it x4 1 (mL M_169 60 0 ((0 : Int32).toNatClampNeg)) hw H locs ls hW hS (lv_sub hl [1, 2, 3, 4, 5] rfl)
    · have hw := hw.2 c_172
      refine lv_iconst (v := 0) hx hb dL_law_580 (by decide) ?_
      rw [← hQQ]
      exact law_end hx hb hr hlocks hbase (hQ _ _ hw) hS (by omega) (by omega) dL_law_581
  have L_533 : ∀ (k23 : Mem → Nat → Int32 → Prop) (K23 : ∀ (ad9 : AD) (M : Mem) (it : Nat) (x4 : Int32), k23 M it x4 → WL p l e room_1 s m #[Value.ref b] below meth c QQ E base 7 M ad9 23 [(0, .ref b), (1, .ref (ad9 4 0)), (2, .ref (ad9 5 0)), (3, .ref (ad9 60 0)), (4, .int x4)] [] (40 + 16 * it + 0) (2000 + 1200 * it + 0)) (ad9 : AD) (M : Mem) (it : Nat) (x4 : Int32) (s0 : Int32) (s1 : Int32) (s2 : Int32), b_L_law_533 k23 L xs Q M it x4 s0 s1 s2 → WL p l e room_1 s m #[Value.ref b] below meth c QQ E base 7 M ad9 533 [(0, .ref b), (1, .ref (ad9 4 0)), (2, .ref (ad9 5 0)), (3, .ref (ad9 60 0)), (4, .int x4)] [.int s0, .int s1, .int s2, .ref (ad9 4 0)] (40 + 16 * it + 0) (2000 + 1200 * it + 0) := by
    intro k23 K23 ad9 M it x4 s0 s1 s2 hw H locs ls hW hS hl
    unfold b_L_law_533 at hw
    obtain ⟨hit, hw⟩ := hw
    refine lv_aload_n hx hb dL_law_533 rfl (lv_at hl 3 rfl) ?_
    refine k_I (rn_SX (As := [.ref (ad9 4 0), .int s2, .int s1, .int s0, .ref (ad9 60 0)]) (rest := []) ⟨hx, hb, hml, hown, hts⟩ hT hW hS hl (c_L_spoil l hlt E base M ad9 s2 s1 s0 _ hw) cy_L_spoil k_387 k_388 rfl rfl ⟨(Nat.le_of_ble_eq_true rfl), (Nat.le_of_ble_eq_true rfl)⟩ rfl rfl (Nat.le_of_ble_eq_true rfl) dL_law_534 ⟨by show _ + 2 ≤ 601024; omega, by show _ + 12 ≤ 7293034; omega⟩) hS kx_no (fun r_157 M_155 ad_156 H locs hP hW hS => ?_)
    obtain ⟨hw, rfl⟩ := hP
    refine lv_istore (lv' := [(5, .int r_157), (0, .ref b), (1, .ref (ad9 4 0)), (2, .ref (ad9 5 0)), (3, .ref (ad9 60 0)), (4, .int x4)]) hx hb dL_law_537 hl (by decide) rfl (fun ls hl => ?_)
    refine lv_aload_n hx hb dL_law_539 rfl (lv_at hl 3 rfl) ?_
    refine lv_aload_n hx hb dL_law_540 rfl (lv_at hl 1 rfl) ?_
    refine lv_iload hx hb dL_law_541 (lv_at hl 5 rfl) ?_
    refine lv_iconst (v := 1) hx hb dL_law_543 (by decide) ?_
    refine lv_iadd hx hb dL_law_544 ?_
    obtain ⟨g_158, hw⟩ := hw
    refine va_sld hx hb hXs hbl hbA hS g_158 dL_law_545 ?_
    refine lv_aload_n hx hb dL_law_546 rfl (lv_at hl 1 rfl) ?_
    refine lv_iload hx hb dL_law_547 (lv_at hl 5 rfl) ?_
    refine lv_iconst (v := 2) hx hb dL_law_549 (by decide) ?_
    refine lv_iadd hx hb dL_law_550 ?_
    obtain ⟨g_159, hw⟩ := hw
    refine va_sld hx hb hXs hbl hbA hS g_159 dL_law_551 ?_
    refine lv_aload_n hx hb dL_law_552 rfl (lv_at hl 1 rfl) ?_
    refine lv_iload hx hb dL_law_553 (lv_at hl 5 rfl) ?_
    refine lv_iconst (v := 3) hx hb dL_law_555 (by decide) ?_
    refine lv_iadd hx hb dL_law_556 ?_
    obtain ⟨g_160, hw⟩ := hw
    refine va_sld hx hb hXs hbl hbA hS g_160 dL_law_557 ?_
    refine lv_if_eq (tgt := 565) hx hb dL_law_558 (by decide) (fun c_161 => ?_) (fun c_161 => ?_)
    · have hw := hw.1 c_161
      refine lv_iconst (v := 0) hx hb dL_law_565 (by decide) ?_
      refine W.widen (k := 40 + 16 * it + 2) (n := 2000 + 1200 * it + 12) (by omega) (by omega) ?_
      exact L_566 k23 K23 ad9 M_155 it x4 r_157 0 (xs (x4 + 2).toNatClampNeg) (xs (x4 + 1).toNatClampNeg) hw H locs ls hW hS (lv_sub hl [1, 2, 3, 4, 5, 0] rfl)
    · have hw := hw.2 c_161
      refine lv_iconst (v := 1) hx hb dL_law_561 (by decide) ?_
      refine lv_goto (tgt := 566) hx hb dL_law_562 (by decide) ?_
      refine W.widen (k := 40 + 16 * it + 2) (n := 2000 + 1200 * it + 12) (by omega) (by omega) ?_
      exact L_566 k23 K23 ad9 M_155 it x4 r_157 1 (xs (x4 + 2).toNatClampNeg) (xs (x4 + 1).toNatClampNeg) hw H locs ls hW hS (lv_sub hl [1, 2, 3, 4, 5, 0] rfl)
  have L_662 : ∀ (k23 : Mem → Nat → Int32 → Prop) (K23 : ∀ (ad9 : AD) (M : Mem) (it : Nat) (x4 : Int32), k23 M it x4 → WL p l e room_1 s m #[Value.ref b] below meth c QQ E base 7 M ad9 23 [(0, .ref b), (1, .ref (ad9 4 0)), (2, .ref (ad9 5 0)), (3, .ref (ad9 60 0)), (4, .int x4)] [] (40 + 16 * it + 0) (2000 + 1200 * it + 0)) (ad9 : AD) (M : Mem) (it : Nat) (x4 : Int32), b_L_law_662 k23 L xs Q M it x4 → WL p l e room_1 s m #[Value.ref b] below meth c QQ E base 7 M ad9 662 [(0, .ref b), (1, .ref (ad9 4 0)), (2, .ref (ad9 5 0)), (3, .ref (ad9 60 0)), (4, .int x4)] [] (40 + 16 * it + 1) (2000 + 1200 * it + 6) := by
    intro k23 K23 ad9 M it x4 hw H locs ls hW hS hl
    unfold b_L_law_662 at hw
    obtain ⟨hit, hw⟩ := hw
    refine lv_goto (tgt := 1318) hx hb dL_law_662 (by decide) ?_
    refine W.widen (k := 40 + 16 * it + 16) (n := 2000 + 1200 * it + 1200) (by omega) (by omega) ?_
    exact L_1318 k23 K23 ad9 M it x4 hw H locs ls hW hS (lv_sub hl [0, 1, 2, 3, 4] rfl)
  have L_744 : ∀ (k23 : Mem → Nat → Int32 → Prop) (K23 : ∀ (ad9 : AD) (M : Mem) (it : Nat) (x4 : Int32), k23 M it x4 → WL p l e room_1 s m #[Value.ref b] below meth c QQ E base 7 M ad9 23 [(0, .ref b), (1, .ref (ad9 4 0)), (2, .ref (ad9 5 0)), (3, .ref (ad9 60 0)), (4, .int x4)] [] (40 + 16 * it + 0) (2000 + 1200 * it + 0)) (ad9 : AD) (M : Mem) (it : Nat) (x4 : Int32), b_L_law_744 k23 L xs Q M it x4 → WL p l e room_1 s m #[Value.ref b] below meth c QQ E base 7 M ad9 744 [(0, .ref b), (1, .ref (ad9 4 0)), (2, .ref (ad9 5 0)), (3, .ref (ad9 60 0)), (4, .int x4)] [] (40 + 16 * it + 1) (2000 + 1200 * it + 6) := by
    intro k23 K23 ad9 M it x4 hw H locs ls hW hS hl
    unfold b_L_law_744 at hw
    obtain ⟨hit, hw⟩ := hw
    refine lv_goto (tgt := 1318) hx hb dL_law_744 (by decide) ?_
    refine W.widen (k := 40 + 16 * it + 16) (n := 2000 + 1200 * it + 1200) (by omega) (by omega) ?_
    exact L_1318 k23 K23 ad9 M it x4 hw H locs ls hW hS (lv_sub hl [0, 1, 2, 3, 4] rfl)
  have L_800 : ∀ (k23 : Mem → Nat → Int32 → Prop) (K23 : ∀ (ad9 : AD) (M : Mem) (it : Nat) (x4 : Int32), k23 M it x4 → WL p l e room_1 s m #[Value.ref b] below meth c QQ E base 7 M ad9 23 [(0, .ref b), (1, .ref (ad9 4 0)), (2, .ref (ad9 5 0)), (3, .ref (ad9 60 0)), (4, .int x4)] [] (40 + 16 * it + 0) (2000 + 1200 * it + 0)) (ad9 : AD) (M : Mem) (it : Nat) (x4 : Int32), b_L_law_800 k23 L xs Q M it x4 → WL p l e room_1 s m #[Value.ref b] below meth c QQ E base 7 M ad9 800 [(0, .ref b), (1, .ref (ad9 4 0)), (2, .ref (ad9 5 0)), (3, .ref (ad9 60 0)), (4, .int x4)] [] (40 + 16 * it + 2) (2000 + 1200 * it + 9) := by
    intro k23 K23 ad9 M it x4 hw H locs ls hW hS hl
    unfold b_L_law_800 at hw
    obtain ⟨hit, hw⟩ := hw
    refine lv_goto (tgt := 1318) hx hb dL_law_800 (by decide) ?_
    refine W.widen (k := 40 + 16 * it + 16) (n := 2000 + 1200 * it + 1200) (by omega) (by omega) ?_
    exact L_1318 k23 K23 ad9 M it x4 hw H locs ls hW hS (lv_sub hl [0, 1, 2, 3, 4] rfl)
  have L_868 : ∀ (k23 : Mem → Nat → Int32 → Prop) (K23 : ∀ (ad9 : AD) (M : Mem) (it : Nat) (x4 : Int32), k23 M it x4 → WL p l e room_1 s m #[Value.ref b] below meth c QQ E base 7 M ad9 23 [(0, .ref b), (1, .ref (ad9 4 0)), (2, .ref (ad9 5 0)), (3, .ref (ad9 60 0)), (4, .int x4)] [] (40 + 16 * it + 0) (2000 + 1200 * it + 0)) (ad9 : AD) (M : Mem) (it : Nat) (x4 : Int32), b_L_law_868 k23 L xs Q M it x4 → WL p l e room_1 s m #[Value.ref b] below meth c QQ E base 7 M ad9 868 [(0, .ref b), (1, .ref (ad9 4 0)), (2, .ref (ad9 5 0)), (3, .ref (ad9 60 0)), (4, .int x4)] [] (40 + 16 * it + 2) (2000 + 1200 * it + 12) := by
    intro k23 K23 ad9 M it x4 hw H locs ls hW hS hl
    unfold b_L_law_868 at hw
    obtain ⟨hit, hw⟩ := hw
    refine lv_goto (tgt := 1318) hx hb dL_law_868 (by decide) ?_
    refine W.widen (k := 40 + 16 * it + 16) (n := 2000 + 1200 * it + 1200) (by omega) (by omega) ?_
    exact L_1318 k23 K23 ad9 M it x4 hw H locs ls hW hS (lv_sub hl [0, 1, 2, 3, 4] rfl)
  have L_924 : ∀ (k23 : Mem → Nat → Int32 → Prop) (K23 : ∀ (ad9 : AD) (M : Mem) (it : Nat) (x4 : Int32), k23 M it x4 → WL p l e room_1 s m #[Value.ref b] below meth c QQ E base 7 M ad9 23 [(0, .ref b), (1, .ref (ad9 4 0)), (2, .ref (ad9 5 0)), (3, .ref (ad9 60 0)), (4, .int x4)] [] (40 + 16 * it + 0) (2000 + 1200 * it + 0)) (ad9 : AD) (M : Mem) (it : Nat) (x4 : Int32), b_L_law_924 k23 L xs Q M it x4 → WL p l e room_1 s m #[Value.ref b] below meth c QQ E base 7 M ad9 924 [(0, .ref b), (1, .ref (ad9 4 0)), (2, .ref (ad9 5 0)), (3, .ref (ad9 60 0)), (4, .int x4)] [] (40 + 16 * it + 1) (2000 + 1200 * it + 6) := by
    intro k23 K23 ad9 M it x4 hw H locs ls hW hS hl
    unfold b_L_law_924 at hw
    obtain ⟨hit, hw⟩ := hw
    refine lv_goto (tgt := 1318) hx hb dL_law_924 (by decide) ?_
    refine W.widen (k := 40 + 16 * it + 16) (n := 2000 + 1200 * it + 1200) (by omega) (by omega) ?_
    exact L_1318 k23 K23 ad9 M it x4 hw H locs ls hW hS (lv_sub hl [0, 1, 2, 3, 4] rfl)
  have L_992 : ∀ (k23 : Mem → Nat → Int32 → Prop) (K23 : ∀ (ad9 : AD) (M : Mem) (it : Nat) (x4 : Int32), k23 M it x4 → WL p l e room_1 s m #[Value.ref b] below meth c QQ E base 7 M ad9 23 [(0, .ref b), (1, .ref (ad9 4 0)), (2, .ref (ad9 5 0)), (3, .ref (ad9 60 0)), (4, .int x4)] [] (40 + 16 * it + 0) (2000 + 1200 * it + 0)) (ad9 : AD) (M : Mem) (it : Nat) (x4 : Int32), b_L_law_992 k23 L xs Q M it x4 → WL p l e room_1 s m #[Value.ref b] below meth c QQ E base 7 M ad9 992 [(0, .ref b), (1, .ref (ad9 4 0)), (2, .ref (ad9 5 0)), (3, .ref (ad9 60 0)), (4, .int x4)] [] (40 + 16 * it + 2) (2000 + 1200 * it + 12) := by
    intro k23 K23 ad9 M it x4 hw H locs ls hW hS hl
    unfold b_L_law_992 at hw
    obtain ⟨hit, hw⟩ := hw
    refine lv_goto (tgt := 1318) hx hb dL_law_992 (by decide) ?_
    refine W.widen (k := 40 + 16 * it + 16) (n := 2000 + 1200 * it + 1200) (by omega) (by omega) ?_
    exact L_1318 k23 K23 ad9 M it x4 hw H locs ls hW hS (lv_sub hl [0, 1, 2, 3, 4] rfl)
  have L_1048 : ∀ (k23 : Mem → Nat → Int32 → Prop) (K23 : ∀ (ad9 : AD) (M : Mem) (it : Nat) (x4 : Int32), k23 M it x4 → WL p l e room_1 s m #[Value.ref b] below meth c QQ E base 7 M ad9 23 [(0, .ref b), (1, .ref (ad9 4 0)), (2, .ref (ad9 5 0)), (3, .ref (ad9 60 0)), (4, .int x4)] [] (40 + 16 * it + 0) (2000 + 1200 * it + 0)) (ad9 : AD) (M : Mem) (it : Nat) (x4 : Int32), b_L_law_1048 k23 L xs Q M it x4 → WL p l e room_1 s m #[Value.ref b] below meth c QQ E base 7 M ad9 1048 [(0, .ref b), (1, .ref (ad9 4 0)), (2, .ref (ad9 5 0)), (3, .ref (ad9 60 0)), (4, .int x4)] [] (40 + 16 * it + 1) (2000 + 1200 * it + 6) := by
    intro k23 K23 ad9 M it x4 hw H locs ls hW hS hl
    unfold b_L_law_1048 at hw
    obtain ⟨hit, hw⟩ := hw
    refine lv_goto (tgt := 1318) hx hb dL_law_1048 (by decide) ?_
    refine W.widen (k := 40 + 16 * it + 16) (n := 2000 + 1200 * it + 1200) (by omega) (by omega) ?_
    exact L_1318 k23 K23 ad9 M it x4 hw H locs ls hW hS (lv_sub hl [0, 1, 2, 3, 4] rfl)
  have L_1116 : ∀ (k23 : Mem → Nat → Int32 → Prop) (K23 : ∀ (ad9 : AD) (M : Mem) (it : Nat) (x4 : Int32), k23 M it x4 → WL p l e room_1 s m #[Value.ref b] below meth c QQ E base 7 M ad9 23 [(0, .ref b), (1, .ref (ad9 4 0)), (2, .ref (ad9 5 0)), (3, .ref (ad9 60 0)), (4, .int x4)] [] (40 + 16 * it + 0) (2000 + 1200 * it + 0)) (ad9 : AD) (M : Mem) (it : Nat) (x4 : Int32), b_L_law_1116 k23 L xs Q M it x4 → WL p l e room_1 s m #[Value.ref b] below meth c QQ E base 7 M ad9 1116 [(0, .ref b), (1, .ref (ad9 4 0)), (2, .ref (ad9 5 0)), (3, .ref (ad9 60 0)), (4, .int x4)] [] (40 + 16 * it + 2) (2000 + 1200 * it + 12) := by
    intro k23 K23 ad9 M it x4 hw H locs ls hW hS hl
    unfold b_L_law_1116 at hw
    obtain ⟨hit, hw⟩ := hw
    refine lv_goto (tgt := 1318) hx hb dL_law_1116 (by decide) ?_
    refine W.widen (k := 40 + 16 * it + 16) (n := 2000 + 1200 * it + 1200) (by omega) (by omega) ?_
    exact L_1318 k23 K23 ad9 M it x4 hw H locs ls hW hS (lv_sub hl [0, 1, 2, 3, 4] rfl)
  have L_1172 : ∀ (k23 : Mem → Nat → Int32 → Prop) (K23 : ∀ (ad9 : AD) (M : Mem) (it : Nat) (x4 : Int32), k23 M it x4 → WL p l e room_1 s m #[Value.ref b] below meth c QQ E base 7 M ad9 23 [(0, .ref b), (1, .ref (ad9 4 0)), (2, .ref (ad9 5 0)), (3, .ref (ad9 60 0)), (4, .int x4)] [] (40 + 16 * it + 0) (2000 + 1200 * it + 0)) (ad9 : AD) (M : Mem) (it : Nat) (x4 : Int32), b_L_law_1172 k23 L xs Q M it x4 → WL p l e room_1 s m #[Value.ref b] below meth c QQ E base 7 M ad9 1172 [(0, .ref b), (1, .ref (ad9 4 0)), (2, .ref (ad9 5 0)), (3, .ref (ad9 60 0)), (4, .int x4)] [] (40 + 16 * it + 1) (2000 + 1200 * it + 6) := by
    intro k23 K23 ad9 M it x4 hw H locs ls hW hS hl
    unfold b_L_law_1172 at hw
    obtain ⟨hit, hw⟩ := hw
    refine lv_goto (tgt := 1318) hx hb dL_law_1172 (by decide) ?_
    refine W.widen (k := 40 + 16 * it + 16) (n := 2000 + 1200 * it + 1200) (by omega) (by omega) ?_
    exact L_1318 k23 K23 ad9 M it x4 hw H locs ls hW hS (lv_sub hl [0, 1, 2, 3, 4] rfl)
  have L_1240 : ∀ (k23 : Mem → Nat → Int32 → Prop) (K23 : ∀ (ad9 : AD) (M : Mem) (it : Nat) (x4 : Int32), k23 M it x4 → WL p l e room_1 s m #[Value.ref b] below meth c QQ E base 7 M ad9 23 [(0, .ref b), (1, .ref (ad9 4 0)), (2, .ref (ad9 5 0)), (3, .ref (ad9 60 0)), (4, .int x4)] [] (40 + 16 * it + 0) (2000 + 1200 * it + 0)) (ad9 : AD) (M : Mem) (it : Nat) (x4 : Int32), b_L_law_1240 k23 L xs Q M it x4 → WL p l e room_1 s m #[Value.ref b] below meth c QQ E base 7 M ad9 1240 [(0, .ref b), (1, .ref (ad9 4 0)), (2, .ref (ad9 5 0)), (3, .ref (ad9 60 0)), (4, .int x4)] [] (40 + 16 * it + 2) (2000 + 1200 * it + 12) := by
    intro k23 K23 ad9 M it x4 hw H locs ls hW hS hl
    unfold b_L_law_1240 at hw
    obtain ⟨hit, hw⟩ := hw
    refine lv_goto (tgt := 1318) hx hb dL_law_1240 (by decide) ?_
    refine W.widen (k := 40 + 16 * it + 16) (n := 2000 + 1200 * it + 1200) (by omega) (by omega) ?_
    exact L_1318 k23 K23 ad9 M it x4 hw H locs ls hW hS (lv_sub hl [0, 1, 2, 3, 4] rfl)
  have L_1315 : ∀ (k23 : Mem → Nat → Int32 → Prop) (K23 : ∀ (ad9 : AD) (M : Mem) (it : Nat) (x4 : Int32), k23 M it x4 → WL p l e room_1 s m #[Value.ref b] below meth c QQ E base 7 M ad9 23 [(0, .ref b), (1, .ref (ad9 4 0)), (2, .ref (ad9 5 0)), (3, .ref (ad9 60 0)), (4, .int x4)] [] (40 + 16 * it + 0) (2000 + 1200 * it + 0)) (ad9 : AD) (M : Mem) (it : Nat) (x4 : Int32), b_L_law_1315 k23 L xs Q M it x4 → WL p l e room_1 s m #[Value.ref b] below meth c QQ E base 7 M ad9 1315 [(0, .ref b), (1, .ref (ad9 4 0)), (2, .ref (ad9 5 0)), (3, .ref (ad9 60 0)), (4, .int x4)] [] (40 + 16 * it + 2) (2000 + 1200 * it + 12) := by
    intro k23 K23 ad9 M it x4 hw H locs ls hW hS hl
    unfold b_L_law_1315 at hw
    obtain ⟨hit, hw⟩ := hw
    refine lv_goto (tgt := 1318) hx hb dL_law_1315 (by decide) ?_
    refine W.widen (k := 40 + 16 * it + 16) (n := 2000 + 1200 * it + 1200) (by omega) (by omega) ?_
    exact L_1318 k23 K23 ad9 M it x4 hw H locs ls hW hS (lv_sub hl [0, 1, 2, 3, 4] rfl)
  have L_1309 : ∀ (k23 : Mem → Nat → Int32 → Prop) (K23 : ∀ (ad9 : AD) (M : Mem) (it : Nat) (x4 : Int32), k23 M it x4 → WL p l e room_1 s m #[Value.ref b] below meth c QQ E base 7 M ad9 23 [(0, .ref b), (1, .ref (ad9 4 0)), (2, .ref (ad9 5 0)), (3, .ref (ad9 60 0)), (4, .int x4)] [] (40 + 16 * it + 0) (2000 + 1200 * it + 0)) (ad9 : AD) (M : Mem) (it : Nat) (x4 : Int32) (s0 : Int64) (s1 : Int64), b_L_law_1309 k23 L xs Q M it x4 s0 s1 → WL p l e room_1 s m #[Value.ref b] below meth c QQ E base 7 M ad9 1309 [(0, .ref b), (1, .ref (ad9 4 0)), (2, .ref (ad9 5 0)), (3, .ref (ad9 60 0)), (4, .int x4)] [.long s0, .long s1] (40 + 16 * it + 2) (2000 + 1200 * it + 12) := by
    intro k23 K23 ad9 M it x4 s0 s1 hw H locs ls hW hS hl
    unfold b_L_law_1309 at hw
    obtain ⟨hit, hw⟩ := hw
    refine W.lcmp hx hb dL_law_1309 ?_
    refine lv_if_eq (tgt := 1315) hx hb dL_law_1310 (by decide) (fun c_442 => ?_) (fun c_442 => ?_)
    · have hw := hw.1 c_442
      refine W.widen (k := 40 + 16 * it + 2) (n := 2000 + 1200 * it + 12) (by omega) (by omega) ?_
      exact L_1315 k23 K23 ad9 M it x4 hw H locs ls hW hS (lv_sub hl [0, 1, 2, 3, 4] rfl)
    · have hw := hw.2 c_442
      refine lv_iconst (v := 0) hx hb dL_law_1313 (by decide) ?_
      rw [← hQQ]
      exact law_end hx hb hr hlocks hbase (hQ _ _ hw) hS (by omega) (by omega) dL_law_1314
  have L_23 : ∀ (n : Nat) (ad9 : AD) (M : Mem) (it : Nat) (x4 : Int32), l_L_law_23 L xs Q n M it x4 → WL p l e room_1 s m #[Value.ref b] below meth c QQ E base 7 M ad9 23 [(0, .ref b), (1, .ref (ad9 4 0)), (2, .ref (ad9 5 0)), (3, .ref (ad9 60 0)), (4, .int x4)] [] (40 + 16 * it + 0) (2000 + 1200 * it + 0) := by
    intro n
    induction n with
    | zero => intro ad9 M it x4 hw; exact False.elim hw
    | succ n K23 =>
      intro ad9 M it x4 hw H locs ls hW hS hl
      obtain ⟨k23, hk23⟩ : ∃ z, z = l_L_law_23 L xs Q n := ⟨_, rfl⟩
      have hw : b_L_law_23 L xs Q k23 M it x4 := by rw [hk23]; exact hw
      rw [← hk23] at K23
      unfold b_L_law_23 at hw
      obtain ⟨hit, hw⟩ := hw
      refine lv_iload hx hb dL_law_23 (lv_at hl 4 rfl) ?_
      refine lv_aload_n hx hb dL_law_25 rfl (lv_at hl 0 rfl) ?_
      refine va_slen hx hb hXs hbl hbA hS dL_law_26 ?_
      refine lv_iconst (v := 4) hx hb dL_law_27 (by decide) ?_
      refine lv_isub hx hb dL_law_28 ?_
      refine lv_icmp_gt (tgt := 1324) hx hb dL_law_29 (by decide) (fun c_26 => ?_) (fun c_26 => ?_)
      · have hw := hw.1 c_26
        refine lv_iconst (v := 1) hx hb dL_law_1324 (by decide) ?_
        rw [← hQQ]
        exact law_end hx hb hr hlocks hbase (hQ _ _ hw) hS (by omega) (by omega) dL_law_1325
      · have hw := hw.2 c_26
        refine lv_aload_n hx hb dL_law_32 rfl (lv_at hl 0 rfl) ?_
        refine lv_iload hx hb dL_law_33 (lv_at hl 4 rfl) ?_
        obtain ⟨g_27, hw⟩ := hw
        refine va_sld hx hb hXs hbl hbA hS g_27 dL_law_35 ?_
        refine lv_bipush (v := 31) hx hb dL_law_36 (by decide) ?_
        refine lv_iand hx hb dL_law_38 ?_
        obtain ⟨hit, hw⟩ := hw
        refine lv_topi (fun v_28 ev_28 => ?_)
        have hw := hw v_28 ev_28
        by_cases h0 : v_28 = 0
        · have hw := hw.1 h0
          refine lv_tableIn (tgt := 128) hx hb dL_law_39 (by rw [h0]; decide) (by rw [h0]; decide) (by rw [h0]; rfl) (by decide) ?_
          refine lv_aload_n hx hb dL_law_128 rfl (lv_at hl 1 rfl) ?_
          refine lv_aload_n hx hb dL_law_129 rfl (lv_at hl 0 rfl) ?_
          refine lv_iload hx hb dL_law_130 (lv_at hl 4 rfl) ?_
          refine lv_iconst (v := 1) hx hb dL_law_132 (by decide) ?_
          refine lv_iadd hx hb dL_law_133 ?_
          obtain ⟨g_29, hw⟩ := hw
          refine va_sld hx hb hXs hbl hbA hS g_29 dL_law_134 ?_
          refine lv_if_eq (tgt := 142) hx hb dL_law_135 (by decide) (fun c_30 => ?_) (fun c_30 => ?_)
          · have hw := hw.1 c_30
            refine lv_iconst (v := 0) hx hb dL_law_142 (by decide) ?_
            refine W.widen (k := 40 + 16 * it + 0) (n := 2000 + 1200 * it + 0) (by omega) (by omega) ?_
            exact L_143 k23 K23 ad9 M it x4 0 hw H locs ls hW hS (lv_sub hl [0, 1, 2, 3, 4] rfl)
          · have hw := hw.2 c_30
            refine lv_iconst (v := 1) hx hb dL_law_138 (by decide) ?_
            refine lv_goto (tgt := 143) hx hb dL_law_139 (by decide) ?_
            refine W.widen (k := 40 + 16 * it + 0) (n := 2000 + 1200 * it + 0) (by omega) (by omega) ?_
            exact L_143 k23 K23 ad9 M it x4 1 hw H locs ls hW hS (lv_sub hl [0, 1, 2, 3, 4] rfl)
        have hw := hw.2 h0
        by_cases h1 : v_28 = 1
        · have hw := hw.1 h1
          refine lv_tableIn (tgt := 200) hx hb dL_law_39 (by rw [h1]; decide) (by rw [h1]; decide) (by rw [h1]; rfl) (by decide) ?_
          refine lv_aload_n hx hb dL_law_200 rfl (lv_at hl 1 rfl) ?_
          refine lv_aload_n hx hb dL_law_201 rfl (lv_at hl 0 rfl) ?_
          refine lv_iload hx hb dL_law_202 (lv_at hl 4 rfl) ?_
          refine lv_iconst (v := 1) hx hb dL_law_204 (by decide) ?_
          refine lv_iadd hx hb dL_law_205 ?_
          obtain ⟨g_54, hw⟩ := hw
          refine va_sld hx hb hXs hbl hbA hS g_54 dL_law_206 ?_
          refine lv_aload_n hx hb dL_law_207 rfl (lv_at hl 3 rfl) ?_
          refine k_I (rn_SX (As := [.ref (ad9 4 0), .int (xs (x4 + 1).toNatClampNeg), .ref (ad9 60 0)]) (rest := []) ⟨hx, hb, hml, hown, hts⟩ hT hW hS hl (c_L_leave l hlt E base M ad9 (xs (x4 + 1).toNatClampNeg) _ hw) cy_L_leave k_367 k_368 rfl rfl ⟨(Nat.le_of_ble_eq_true rfl), (Nat.le_of_ble_eq_true rfl)⟩ rfl rfl (Nat.le_of_ble_eq_true rfl) dL_law_208 ⟨by show _ + 1 ≤ 601024; omega, by show _ + 6 ≤ 7293034; omega⟩) hS kx_no (fun r_58 M_56 ad_57 H locs hP hW hS => ?_)
          obtain ⟨hw, rfl⟩ := hP
          refine lv_istore (lv' := [(5, .int r_58), (0, .ref b), (1, .ref (ad9 4 0)), (2, .ref (ad9 5 0)), (3, .ref (ad9 60 0)), (4, .int x4)]) hx hb dL_law_211 hl (by decide) rfl (fun ls hl => ?_)
          refine lv_aload_n hx hb dL_law_213 rfl (lv_at hl 3 rfl) ?_
          refine lv_aload_n hx hb dL_law_214 rfl (lv_at hl 1 rfl) ?_
          refine lv_iload hx hb dL_law_215 (lv_at hl 5 rfl) ?_
          refine lv_iconst (v := 1) hx hb dL_law_217 (by decide) ?_
          refine lv_iadd hx hb dL_law_218 ?_
          obtain ⟨g_59, hw⟩ := hw
          refine va_sld hx hb hXs hbl hbA hS g_59 dL_law_219 ?_
          obtain ⟨g_60, hw⟩ := hw
          refine k_I (rn_V (As := [.int (xs (x4 + 1).toNatClampNeg)]) (rest := []) (κ := 5) (i := 0) ⟨hx, hb, hml, hown, hts⟩ hT hW hS hl (c_X5_leave l E base M_56 ad9 (xs (x4 + 1).toNatClampNeg) _ hw) cy_X5_leave k_369 k_370 k_371 g_60 (by decide) rfl rfl rfl rfl ⟨(Nat.le_of_ble_eq_true rfl), (Nat.le_of_ble_eq_true rfl)⟩ rfl rfl (Nat.le_of_ble_eq_true rfl) dL_law_220 ⟨by show _ + 0 ≤ 601024; omega, by show _ + 0 ≤ 7293034; omega⟩) hS kx_no (fun r_64 M_62 ad_63 H locs hP hW hS => ?_)
          obtain ⟨hw, rfl⟩ := hP
          refine lv_istore (lv' := [(6, .int r_64), (5, .int r_58), (0, .ref b), (1, .ref (ad9 4 0)), (2, .ref (ad9 5 0)), (3, .ref (ad9 60 0)), (4, .int x4)]) hx hb dL_law_223 hl (by decide) rfl (fun ls hl => ?_)
          refine lv_aload_n hx hb dL_law_225 rfl (lv_at hl 4 rfl) ?_
          obtain ⟨g_65, hw⟩ := hw
          refine k_I (rn_V (As := []) (rest := []) (κ := 5) (i := 0) ⟨hx, hb, hml, hown, hts⟩ hT hW hS hl (c_X5_thrown l E base M_62 ad9 _ hw) cy_X5_thrown k_364 k_365 k_366 g_65 (by decide) rfl rfl rfl rfl ⟨(Nat.le_of_ble_eq_true rfl), (Nat.le_of_ble_eq_true rfl)⟩ rfl rfl (Nat.le_of_ble_eq_true rfl) dL_law_226 ⟨by show _ + 0 ≤ 601024; omega, by show _ + 0 ≤ 7293034; omega⟩) hS kx_no (fun r_69 M_67 ad_68 H locs hP hW hS => ?_)
          obtain ⟨hw, rfl⟩ := hP
          refine lv_iload hx hb dL_law_229 (lv_at hl 1 rfl) ?_
          refine lv_icmp_eq (tgt := 236) hx hb dL_law_231 (by decide) (fun c_70 => ?_) (fun c_70 => ?_)
          · have hw := hw.1 c_70
            refine lv_iload hx hb dL_law_236 (lv_at hl 1 rfl) ?_
            refine lv_if_ne (tgt := 253) hx hb dL_law_238 (by decide) (fun c_71 => ?_) (fun c_71 => ?_)
            · have hw := hw.2 c_71
              refine W.widen (k := 40 + 16 * it + 1) (n := 2000 + 1200 * it + 6) (by omega) (by omega) ?_
              exact L_253 k23 K23 ad9 M_67 it x4 hw H locs ls hW hS (lv_sub hl [2, 3, 4, 5, 6] rfl)
            · have hw := hw.1 c_71
              refine lv_aload_n hx hb dL_law_241 rfl (lv_at hl 5 rfl) ?_
              refine lv_iconst (v := 0) hx hb dL_law_242 (by decide) ?_
              obtain ⟨g_72, hw⟩ := hw
              obtain ⟨g_73, hw⟩ := hw
              refine r_lald hx hb hT.1 hW (by decide) rfl (fun _ => rfl) 1 rfl g_73 g_72 dL_law_243 ?_
              refine lv_iload hx hb dL_law_244 (lv_at hl 0 rfl) ?_
              refine lv_i2l hx hb dL_law_246 rfl ?_
              refine W.lcmp hx hb dL_law_247 ?_
              refine lv_if_eq (tgt := 253) hx hb dL_law_248 (by decide) (fun c_74 => ?_) (fun c_74 => ?_)
              · have hw := hw.1 c_74
                refine W.widen (k := 40 + 16 * it + 1) (n := 2000 + 1200 * it + 6) (by omega) (by omega) ?_
                exact L_253 k23 K23 ad9 M_67 it x4 hw H locs ls hW hS (lv_sub hl [2, 3, 4, 5, 6] rfl)
              · have hw := hw.2 c_74
                refine lv_iconst (v := 0) hx hb dL_law_251 (by decide) ?_
                rw [← hQQ]
                exact law_end hx hb hr hlocks hbase (hQ _ _ hw) hS (by omega) (by omega) dL_law_252
          · have hw := hw.2 c_70
            refine lv_iconst (v := 0) hx hb dL_law_234 (by decide) ?_
            rw [← hQQ]
            exact law_end hx hb hr hlocks hbase (hQ _ _ hw) hS (by omega) (by omega) dL_law_235
        have hw := hw.2 h1
        by_cases h2 : v_28 = 2
        · have hw := hw.1 h2
          refine lv_tableIn (tgt := 256) hx hb dL_law_39 (by rw [h2]; decide) (by rw [h2]; decide) (by rw [h2]; rfl) (by decide) ?_
          refine lv_aload_n hx hb dL_law_256 rfl (lv_at hl 1 rfl) ?_
          refine lv_aload_n hx hb dL_law_257 rfl (lv_at hl 0 rfl) ?_
          refine lv_iload hx hb dL_law_258 (lv_at hl 4 rfl) ?_
          refine lv_iconst (v := 1) hx hb dL_law_260 (by decide) ?_
          refine lv_iadd hx hb dL_law_261 ?_
          obtain ⟨g_75, hw⟩ := hw
          refine va_sld hx hb hXs hbl hbA hS g_75 dL_law_262 ?_
          refine lv_aload_n hx hb dL_law_263 rfl (lv_at hl 0 rfl) ?_
          refine lv_iload hx hb dL_law_264 (lv_at hl 4 rfl) ?_
          refine lv_iconst (v := 2) hx hb dL_law_266 (by decide) ?_
          refine lv_iadd hx hb dL_law_267 ?_
          obtain ⟨g_76, hw⟩ := hw
          refine va_sld hx hb hXs hbl hbA hS g_76 dL_law_268 ?_
          refine lv_aload_n hx hb dL_law_269 rfl (lv_at hl 3 rfl) ?_
          refine k_I (rn_SX (As := [.ref (ad9 4 0), .int (xs (x4 + 1).toNatClampNeg), .int (xs (x4 + 2).toNatClampNeg), .ref (ad9 60 0)]) (rest := []) ⟨hx, hb, hml, hown, hts⟩ hT hW hS hl (c_L_setPriority l hlt E base M ad9 (xs (x4 + 1).toNatClampNeg) (xs (x4 + 2).toNatClampNeg) _ hw) cy_L_setPriority k_372 k_373 rfl rfl ⟨(Nat.le_of_ble_eq_true rfl), (Nat.le_of_ble_eq_true rfl)⟩ rfl rfl (Nat.le_of_ble_eq_true rfl) dL_law_270 ⟨by show _ + 2 ≤ 601024; omega, by show _ + 12 ≤ 7293034; omega⟩) hS kx_no (fun r_80 M_78 ad_79 H locs hP hW hS => ?_)
          obtain ⟨hw, rfl⟩ := hP
          refine lv_istore (lv' := [(5, .int r_80), (0, .ref b), (1, .ref (ad9 4 0)), (2, .ref (ad9 5 0)), (3, .ref (ad9 60 0)), (4, .int x4)]) hx hb dL_law_273 hl (by decide) rfl (fun ls hl => ?_)
          refine lv_aload_n hx hb dL_law_275 rfl (lv_at hl 3 rfl) ?_
          refine lv_aload_n hx hb dL_law_276 rfl (lv_at hl 1 rfl) ?_
          refine lv_iload hx hb dL_law_277 (lv_at hl 5 rfl) ?_
          refine lv_iconst (v := 1) hx hb dL_law_279 (by decide) ?_
          refine lv_iadd hx hb dL_law_280 ?_
          obtain ⟨g_81, hw⟩ := hw
          refine va_sld hx hb hXs hbl hbA hS g_81 dL_law_281 ?_
          refine lv_aload_n hx hb dL_law_282 rfl (lv_at hl 1 rfl) ?_
          refine lv_iload hx hb dL_law_283 (lv_at hl 5 rfl) ?_
          refine lv_iconst (v := 2) hx hb dL_law_285 (by decide) ?_
          refine lv_iadd hx hb dL_law_286 ?_
          obtain ⟨g_82, hw⟩ := hw
          refine va_sld hx hb hXs hbl hbA hS g_82 dL_law_287 ?_
          obtain ⟨g_83, hw⟩ := hw
          refine k_I (rn_V (As := [.int (xs (x4 + 1).toNatClampNeg), .int (xs (x4 + 2).toNatClampNeg)]) (rest := []) (κ := 5) (i := 0) ⟨hx, hb, hml, hown, hts⟩ hT hW hS hl (c_X5_setPriority l E base M_78 ad9 (xs (x4 + 1).toNatClampNeg) (xs (x4 + 2).toNatClampNeg) _ hw) cy_X5_setPriority k_374 k_375 k_376 g_83 (by decide) rfl rfl rfl rfl ⟨(Nat.le_of_ble_eq_true rfl), (Nat.le_of_ble_eq_true rfl)⟩ rfl rfl (Nat.le_of_ble_eq_true rfl) dL_law_288 ⟨by show _ + 0 ≤ 601024; omega, by show _ + 0 ≤ 7293034; omega⟩) hS kx_no (fun r_87 M_85 ad_86 H locs hP hW hS => ?_)
          obtain ⟨hw, rfl⟩ := hP
          refine lv_istore (lv' := [(6, .int r_87), (5, .int r_80), (0, .ref b), (1, .ref (ad9 4 0)), (2, .ref (ad9 5 0)), (3, .ref (ad9 60 0)), (4, .int x4)]) hx hb dL_law_291 hl (by decide) rfl (fun ls hl => ?_)
          refine lv_aload_n hx hb dL_law_293 rfl (lv_at hl 4 rfl) ?_
          obtain ⟨g_88, hw⟩ := hw
          refine k_I (rn_V (As := []) (rest := []) (κ := 5) (i := 0) ⟨hx, hb, hml, hown, hts⟩ hT hW hS hl (c_X5_thrown l E base M_85 ad9 _ hw) cy_X5_thrown k_364 k_365 k_366 g_88 (by decide) rfl rfl rfl rfl ⟨(Nat.le_of_ble_eq_true rfl), (Nat.le_of_ble_eq_true rfl)⟩ rfl rfl (Nat.le_of_ble_eq_true rfl) dL_law_294 ⟨by show _ + 0 ≤ 601024; omega, by show _ + 0 ≤ 7293034; omega⟩) hS kx_no (fun r_92 M_90 ad_91 H locs hP hW hS => ?_)
          obtain ⟨hw, rfl⟩ := hP
          refine lv_iload hx hb dL_law_297 (lv_at hl 1 rfl) ?_
          refine lv_icmp_eq (tgt := 304) hx hb dL_law_299 (by decide) (fun c_93 => ?_) (fun c_93 => ?_)
          · have hw := hw.1 c_93
            refine lv_iload hx hb dL_law_304 (lv_at hl 1 rfl) ?_
            refine lv_if_ne (tgt := 321) hx hb dL_law_306 (by decide) (fun c_94 => ?_) (fun c_94 => ?_)
            · have hw := hw.2 c_94
              refine W.widen (k := 40 + 16 * it + 2) (n := 2000 + 1200 * it + 12) (by omega) (by omega) ?_
              exact L_321 k23 K23 ad9 M_90 it x4 hw H locs ls hW hS (lv_sub hl [2, 3, 4, 5, 6] rfl)
            · have hw := hw.1 c_94
              refine lv_aload_n hx hb dL_law_309 rfl (lv_at hl 5 rfl) ?_
              refine lv_iconst (v := 0) hx hb dL_law_310 (by decide) ?_
              obtain ⟨g_95, hw⟩ := hw
              obtain ⟨g_96, hw⟩ := hw
              refine r_lald hx hb hT.1 hW (by decide) rfl (fun _ => rfl) 1 rfl g_96 g_95 dL_law_311 ?_
              refine lv_iload hx hb dL_law_312 (lv_at hl 0 rfl) ?_
              refine lv_i2l hx hb dL_law_314 rfl ?_
              refine W.lcmp hx hb dL_law_315 ?_
              refine lv_if_eq (tgt := 321) hx hb dL_law_316 (by decide) (fun c_97 => ?_) (fun c_97 => ?_)
              · have hw := hw.1 c_97
                refine W.widen (k := 40 + 16 * it + 2) (n := 2000 + 1200 * it + 12) (by omega) (by omega) ?_
                exact L_321 k23 K23 ad9 M_90 it x4 hw H locs ls hW hS (lv_sub hl [2, 3, 4, 5, 6] rfl)
              · have hw := hw.2 c_97
                refine lv_iconst (v := 0) hx hb dL_law_319 (by decide) ?_
                rw [← hQQ]
                exact law_end hx hb hr hlocks hbase (hQ _ _ hw) hS (by omega) (by omega) dL_law_320
          · have hw := hw.2 c_93
            refine lv_iconst (v := 0) hx hb dL_law_302 (by decide) ?_
            rw [← hQQ]
            exact law_end hx hb hr hlocks hbase (hQ _ _ hw) hS (by omega) (by omega) dL_law_303
        have hw := hw.2 h2
        by_cases h3 : v_28 = 3
        · have hw := hw.1 h3
          refine lv_tableIn (tgt := 324) hx hb dL_law_39 (by rw [h3]; decide) (by rw [h3]; decide) (by rw [h3]; rfl) (by decide) ?_
          refine lv_aload_n hx hb dL_law_324 rfl (lv_at hl 1 rfl) ?_
          refine lv_aload_n hx hb dL_law_325 rfl (lv_at hl 0 rfl) ?_
          refine lv_iload hx hb dL_law_326 (lv_at hl 4 rfl) ?_
          refine lv_iconst (v := 1) hx hb dL_law_328 (by decide) ?_
          refine lv_iadd hx hb dL_law_329 ?_
          obtain ⟨g_98, hw⟩ := hw
          refine va_sld hx hb hXs hbl hbA hS g_98 dL_law_330 ?_
          refine lv_aload_n hx hb dL_law_331 rfl (lv_at hl 0 rfl) ?_
          refine lv_iload hx hb dL_law_332 (lv_at hl 4 rfl) ?_
          refine lv_iconst (v := 2) hx hb dL_law_334 (by decide) ?_
          refine lv_iadd hx hb dL_law_335 ?_
          obtain ⟨g_99, hw⟩ := hw
          refine va_sld hx hb hXs hbl hbA hS g_99 dL_law_336 ?_
          refine lv_if_eq (tgt := 344) hx hb dL_law_337 (by decide) (fun c_100 => ?_) (fun c_100 => ?_)
          · have hw := hw.1 c_100
            refine lv_iconst (v := 0) hx hb dL_law_344 (by decide) ?_
            refine W.widen (k := 40 + 16 * it + 0) (n := 2000 + 1200 * it + 0) (by omega) (by omega) ?_
            exact L_345 k23 K23 ad9 M it x4 0 (xs (x4 + 1).toNatClampNeg) hw H locs ls hW hS (lv_sub hl [0, 1, 2, 3, 4] rfl)
          · have hw := hw.2 c_100
            refine lv_iconst (v := 1) hx hb dL_law_340 (by decide) ?_
            refine lv_goto (tgt := 345) hx hb dL_law_341 (by decide) ?_
            refine W.widen (k := 40 + 16 * it + 0) (n := 2000 + 1200 * it + 0) (by omega) (by omega) ?_
            exact L_345 k23 K23 ad9 M it x4 1 (xs (x4 + 1).toNatClampNeg) hw H locs ls hW hS (lv_sub hl [0, 1, 2, 3, 4] rfl)
        have hw := hw.2 h3
        by_cases h4 : v_28 = 4
        · have hw := hw.1 h4
          refine lv_tableIn (tgt := 415) hx hb dL_law_39 (by rw [h4]; decide) (by rw [h4]; decide) (by rw [h4]; rfl) (by decide) ?_
          refine lv_aload_n hx hb dL_law_415 rfl (lv_at hl 1 rfl) ?_
          refine lv_aload_n hx hb dL_law_416 rfl (lv_at hl 0 rfl) ?_
          refine lv_iload hx hb dL_law_417 (lv_at hl 4 rfl) ?_
          refine lv_iconst (v := 1) hx hb dL_law_419 (by decide) ?_
          refine lv_iadd hx hb dL_law_420 ?_
          obtain ⟨g_124, hw⟩ := hw
          refine va_sld hx hb hXs hbl hbA hS g_124 dL_law_421 ?_
          refine lv_aload_n hx hb dL_law_422 rfl (lv_at hl 0 rfl) ?_
          refine lv_iload hx hb dL_law_423 (lv_at hl 4 rfl) ?_
          refine lv_iconst (v := 2) hx hb dL_law_425 (by decide) ?_
          refine lv_iadd hx hb dL_law_426 ?_
          obtain ⟨g_125, hw⟩ := hw
          refine va_sld hx hb hXs hbl hbA hS g_125 dL_law_427 ?_
          refine lv_if_eq (tgt := 435) hx hb dL_law_428 (by decide) (fun c_126 => ?_) (fun c_126 => ?_)
          · have hw := hw.1 c_126
            refine lv_iconst (v := 0) hx hb dL_law_435 (by decide) ?_
            refine W.widen (k := 40 + 16 * it + 0) (n := 2000 + 1200 * it + 0) (by omega) (by omega) ?_
            exact L_436 k23 K23 ad9 M it x4 0 (xs (x4 + 1).toNatClampNeg) hw H locs ls hW hS (lv_sub hl [0, 1, 2, 3, 4] rfl)
          · have hw := hw.2 c_126
            refine lv_iconst (v := 1) hx hb dL_law_431 (by decide) ?_
            refine lv_goto (tgt := 436) hx hb dL_law_432 (by decide) ?_
            refine W.widen (k := 40 + 16 * it + 0) (n := 2000 + 1200 * it + 0) (by omega) (by omega) ?_
            exact L_436 k23 K23 ad9 M it x4 1 (xs (x4 + 1).toNatClampNeg) hw H locs ls hW hS (lv_sub hl [0, 1, 2, 3, 4] rfl)
        have hw := hw.2 h4
        by_cases h5 : v_28 = 5
        · have hw := hw.1 h5
          refine lv_tableIn (tgt := 506) hx hb dL_law_39 (by rw [h5]; decide) (by rw [h5]; decide) (by rw [h5]; rfl) (by decide) ?_
          refine lv_aload_n hx hb dL_law_506 rfl (lv_at hl 1 rfl) ?_
          refine lv_aload_n hx hb dL_law_507 rfl (lv_at hl 0 rfl) ?_
          refine lv_iload hx hb dL_law_508 (lv_at hl 4 rfl) ?_
          refine lv_iconst (v := 1) hx hb dL_law_510 (by decide) ?_
          refine lv_iadd hx hb dL_law_511 ?_
          obtain ⟨g_150, hw⟩ := hw
          refine va_sld hx hb hXs hbl hbA hS g_150 dL_law_512 ?_
          refine lv_aload_n hx hb dL_law_513 rfl (lv_at hl 0 rfl) ?_
          refine lv_iload hx hb dL_law_514 (lv_at hl 4 rfl) ?_
          refine lv_iconst (v := 2) hx hb dL_law_516 (by decide) ?_
          refine lv_iadd hx hb dL_law_517 ?_
          obtain ⟨g_151, hw⟩ := hw
          refine va_sld hx hb hXs hbl hbA hS g_151 dL_law_518 ?_
          refine lv_aload_n hx hb dL_law_519 rfl (lv_at hl 0 rfl) ?_
          refine lv_iload hx hb dL_law_520 (lv_at hl 4 rfl) ?_
          refine lv_iconst (v := 3) hx hb dL_law_522 (by decide) ?_
          refine lv_iadd hx hb dL_law_523 ?_
          obtain ⟨g_152, hw⟩ := hw
          refine va_sld hx hb hXs hbl hbA hS g_152 dL_law_524 ?_
          refine lv_if_eq (tgt := 532) hx hb dL_law_525 (by decide) (fun c_153 => ?_) (fun c_153 => ?_)
          · have hw := hw.1 c_153
            refine lv_iconst (v := 0) hx hb dL_law_532 (by decide) ?_
            refine W.widen (k := 40 + 16 * it + 0) (n := 2000 + 1200 * it + 0) (by omega) (by omega) ?_
            exact L_533 k23 K23 ad9 M it x4 0 (xs (x4 + 2).toNatClampNeg) (xs (x4 + 1).toNatClampNeg) hw H locs ls hW hS (lv_sub hl [0, 1, 2, 3, 4] rfl)
          · have hw := hw.2 c_153
            refine lv_iconst (v := 1) hx hb dL_law_528 (by decide) ?_
            refine lv_goto (tgt := 533) hx hb dL_law_529 (by decide) ?_
            refine W.widen (k := 40 + 16 * it + 0) (n := 2000 + 1200 * it + 0) (by omega) (by omega) ?_
            exact L_533 k23 K23 ad9 M it x4 1 (xs (x4 + 2).toNatClampNeg) (xs (x4 + 1).toNatClampNeg) hw H locs ls hW hS (lv_sub hl [0, 1, 2, 3, 4] rfl)
        have hw := hw.2 h5
        by_cases h6 : v_28 = 6
        · have hw := hw.1 h6
          refine lv_tableIn (tgt := 609) hx hb dL_law_39 (by rw [h6]; decide) (by rw [h6]; decide) (by rw [h6]; rfl) (by decide) ?_
          refine lv_aload_n hx hb dL_law_609 rfl (lv_at hl 1 rfl) ?_
          refine lv_aload_n hx hb dL_law_610 rfl (lv_at hl 0 rfl) ?_
          refine lv_iload hx hb dL_law_611 (lv_at hl 4 rfl) ?_
          refine lv_iconst (v := 1) hx hb dL_law_613 (by decide) ?_
          refine lv_iadd hx hb dL_law_614 ?_
          obtain ⟨g_178, hw⟩ := hw
          refine va_sld hx hb hXs hbl hbA hS g_178 dL_law_615 ?_
          refine lv_aload_n hx hb dL_law_616 rfl (lv_at hl 3 rfl) ?_
          refine k_I (rn_SX (As := [.ref (ad9 4 0), .int (xs (x4 + 1).toNatClampNeg), .ref (ad9 60 0)]) (rest := []) ⟨hx, hb, hml, hown, hts⟩ hT hW hS hl (c_L_run l hlt E base M ad9 (xs (x4 + 1).toNatClampNeg) _ hw) cy_L_run k_392 k_393 rfl rfl ⟨(Nat.le_of_ble_eq_true rfl), (Nat.le_of_ble_eq_true rfl)⟩ rfl rfl (Nat.le_of_ble_eq_true rfl) dL_law_617 ⟨by show _ + 1 ≤ 601024; omega, by show _ + 6 ≤ 7293034; omega⟩) hS kx_no (fun r_182 M_180 ad_181 H locs hP hW hS => ?_)
          obtain ⟨hw, rfl⟩ := hP
          refine lv_istore (lv' := [(5, .int r_182), (0, .ref b), (1, .ref (ad9 4 0)), (2, .ref (ad9 5 0)), (3, .ref (ad9 60 0)), (4, .int x4)]) hx hb dL_law_620 hl (by decide) rfl (fun ls hl => ?_)
          refine lv_aload_n hx hb dL_law_622 rfl (lv_at hl 3 rfl) ?_
          refine lv_aload_n hx hb dL_law_623 rfl (lv_at hl 1 rfl) ?_
          refine lv_iload hx hb dL_law_624 (lv_at hl 5 rfl) ?_
          refine lv_iconst (v := 1) hx hb dL_law_626 (by decide) ?_
          refine lv_iadd hx hb dL_law_627 ?_
          obtain ⟨g_183, hw⟩ := hw
          refine va_sld hx hb hXs hbl hbA hS g_183 dL_law_628 ?_
          obtain ⟨g_184, hw⟩ := hw
          refine k_I (rn_V (As := [.int (xs (x4 + 1).toNatClampNeg)]) (rest := []) (κ := 5) (i := 0) ⟨hx, hb, hml, hown, hts⟩ hT hW hS hl (c_X5_run l E base M_180 ad9 (xs (x4 + 1).toNatClampNeg) _ hw) cy_X5_run k_394 k_395 k_396 g_184 (by decide) rfl rfl rfl rfl ⟨(Nat.le_of_ble_eq_true rfl), (Nat.le_of_ble_eq_true rfl)⟩ rfl rfl (Nat.le_of_ble_eq_true rfl) dL_law_629 ⟨by show _ + 0 ≤ 601024; omega, by show _ + 0 ≤ 7293034; omega⟩) hS kx_no (fun r_188 M_186 ad_187 H locs hP hW hS => ?_)
          obtain ⟨hw, rfl⟩ := hP
          refine lv_istore (lv' := [(6, .int r_188), (5, .int r_182), (0, .ref b), (1, .ref (ad9 4 0)), (2, .ref (ad9 5 0)), (3, .ref (ad9 60 0)), (4, .int x4)]) hx hb dL_law_632 hl (by decide) rfl (fun ls hl => ?_)
          refine lv_aload_n hx hb dL_law_634 rfl (lv_at hl 4 rfl) ?_
          obtain ⟨g_189, hw⟩ := hw
          refine k_I (rn_V (As := []) (rest := []) (κ := 5) (i := 0) ⟨hx, hb, hml, hown, hts⟩ hT hW hS hl (c_X5_thrown l E base M_186 ad9 _ hw) cy_X5_thrown k_364 k_365 k_366 g_189 (by decide) rfl rfl rfl rfl ⟨(Nat.le_of_ble_eq_true rfl), (Nat.le_of_ble_eq_true rfl)⟩ rfl rfl (Nat.le_of_ble_eq_true rfl) dL_law_635 ⟨by show _ + 0 ≤ 601024; omega, by show _ + 0 ≤ 7293034; omega⟩) hS kx_no (fun r_193 M_191 ad_192 H locs hP hW hS => ?_)
          obtain ⟨hw, rfl⟩ := hP
          refine lv_iload hx hb dL_law_638 (lv_at hl 1 rfl) ?_
          refine lv_icmp_eq (tgt := 645) hx hb dL_law_640 (by decide) (fun c_194 => ?_) (fun c_194 => ?_)
          · have hw := hw.1 c_194
            refine lv_iload hx hb dL_law_645 (lv_at hl 1 rfl) ?_
            refine lv_if_ne (tgt := 662) hx hb dL_law_647 (by decide) (fun c_195 => ?_) (fun c_195 => ?_)
            · have hw := hw.2 c_195
              refine W.widen (k := 40 + 16 * it + 1) (n := 2000 + 1200 * it + 6) (by omega) (by omega) ?_
              exact L_662 k23 K23 ad9 M_191 it x4 hw H locs ls hW hS (lv_sub hl [2, 3, 4, 5, 6] rfl)
            · have hw := hw.1 c_195
              refine lv_aload_n hx hb dL_law_650 rfl (lv_at hl 5 rfl) ?_
              refine lv_iconst (v := 0) hx hb dL_law_651 (by decide) ?_
              obtain ⟨g_196, hw⟩ := hw
              obtain ⟨g_197, hw⟩ := hw
              refine r_lald hx hb hT.1 hW (by decide) rfl (fun _ => rfl) 1 rfl g_197 g_196 dL_law_652 ?_
              refine lv_iload hx hb dL_law_653 (lv_at hl 0 rfl) ?_
              refine lv_i2l hx hb dL_law_655 rfl ?_
              refine W.lcmp hx hb dL_law_656 ?_
              refine lv_if_eq (tgt := 662) hx hb dL_law_657 (by decide) (fun c_198 => ?_) (fun c_198 => ?_)
              · have hw := hw.1 c_198
                refine W.widen (k := 40 + 16 * it + 1) (n := 2000 + 1200 * it + 6) (by omega) (by omega) ?_
                exact L_662 k23 K23 ad9 M_191 it x4 hw H locs ls hW hS (lv_sub hl [2, 3, 4, 5, 6] rfl)
              · have hw := hw.2 c_198
                refine lv_iconst (v := 0) hx hb dL_law_660 (by decide) ?_
                rw [← hQQ]
                exact law_end hx hb hr hlocks hbase (hQ _ _ hw) hS (by omega) (by omega) dL_law_661
          · have hw := hw.2 c_194
            refine lv_iconst (v := 0) hx hb dL_law_643 (by decide) ?_
            rw [← hQQ]
            exact law_end hx hb hr hlocks hbase (hQ _ _ hw) hS (by omega) (by omega) dL_law_644
        have hw := hw.2 h6
        by_cases h7 : v_28 = 7
        · have hw := hw.1 h7
          refine lv_tableIn (tgt := 665) hx hb dL_law_39 (by rw [h7]; decide) (by rw [h7]; decide) (by rw [h7]; rfl) (by decide) ?_
          refine lv_aload_n hx hb dL_law_665 rfl (lv_at hl 1 rfl) ?_
          obtain ⟨g_199, hw⟩ := hw
          refine k_I (rn_V (As := []) (rest := []) (κ := 4) (i := 0) ⟨hx, hb, hml, hown, hts⟩ hT hW hS hl (c_X4_rounds l E base M ad9 _ hw) cy_X4_rounds k_397 k_398 k_399 g_199 (by decide) rfl rfl rfl rfl ⟨(Nat.le_of_ble_eq_true rfl), (Nat.le_of_ble_eq_true rfl)⟩ rfl rfl (Nat.le_of_ble_eq_true rfl) dL_law_666 ⟨by show _ + 0 ≤ 601024; omega, by show _ + 0 ≤ 7293034; omega⟩) hS kx_no (fun r_203 M_201 ad_202 H locs hP hW hS => ?_)
          obtain ⟨hw, rfl⟩ := hP
          refine lv_aload_n hx hb dL_law_669 rfl (lv_at hl 2 rfl) ?_
          obtain ⟨g_204, hw⟩ := hw
          refine k_I (rn_V (As := []) (rest := [.int r_203]) (κ := 5) (i := 0) ⟨hx, hb, hml, hown, hts⟩ hT hW hS hl (c_X5_rounds l E base M_201 ad9 _ hw) cy_X5_rounds k_400 k_401 k_402 g_204 (by decide) rfl rfl rfl rfl ⟨(Nat.le_of_ble_eq_true rfl), (Nat.le_of_ble_eq_true rfl)⟩ rfl rfl (Nat.le_of_ble_eq_true rfl) dL_law_670 ⟨by show _ + 0 ≤ 601024; omega, by show _ + 0 ≤ 7293034; omega⟩) hS kx_no (fun r_208 M_206 ad_207 H locs hP hW hS => ?_)
          obtain ⟨hw, rfl⟩ := hP
          refine lv_icmp_eq (tgt := 1318) hx hb dL_law_673 (by decide) (fun c_209 => ?_) (fun c_209 => ?_)
          · have hw := hw.1 c_209
            refine W.widen (k := 40 + 16 * it + 16) (n := 2000 + 1200 * it + 1200) (by omega) (by omega) ?_
            exact L_1318 k23 K23 ad9 M_206 it x4 hw H locs ls hW hS (lv_sub hl [0, 1, 2, 3, 4] rfl)
          · have hw := hw.2 c_209
            refine lv_iconst (v := 0) hx hb dL_law_676 (by decide) ?_
            rw [← hQQ]
            exact law_end hx hb hr hlocks hbase (hQ _ _ hw) hS (by omega) (by omega) dL_law_677
        have hw := hw.2 h7
        by_cases h8 : v_28 = 8
        · have hw := hw.1 h8
          refine lv_tableIn (tgt := 678) hx hb dL_law_39 (by rw [h8]; decide) (by rw [h8]; decide) (by rw [h8]; rfl) (by decide) ?_
          refine lv_aload_n hx hb dL_law_678 rfl (lv_at hl 1 rfl) ?_
          obtain ⟨g_210, hw⟩ := hw
          refine k_I (rn_V (As := []) (rest := []) (κ := 4) (i := 0) ⟨hx, hb, hml, hown, hts⟩ hT hW hS hl (c_X4_peers l E base M ad9 _ hw) cy_X4_peers k_403 k_404 k_405 g_210 (by decide) rfl rfl rfl rfl ⟨(Nat.le_of_ble_eq_true rfl), (Nat.le_of_ble_eq_true rfl)⟩ rfl rfl (Nat.le_of_ble_eq_true rfl) dL_law_679 ⟨by show _ + 0 ≤ 601024; omega, by show _ + 0 ≤ 7293034; omega⟩) hS kx_no (fun r_214 M_212 ad_213 H locs hP hW hS => ?_)
          obtain ⟨hw, rfl⟩ := hP
          refine lv_aload_n hx hb dL_law_682 rfl (lv_at hl 2 rfl) ?_
          obtain ⟨g_215, hw⟩ := hw
          refine k_I (rn_V (As := []) (rest := [.int r_214]) (κ := 5) (i := 0) ⟨hx, hb, hml, hown, hts⟩ hT hW hS hl (c_X5_peers l E base M_212 ad9 _ hw) cy_X5_peers k_406 k_407 k_408 g_215 (by decide) rfl rfl rfl rfl ⟨(Nat.le_of_ble_eq_true rfl), (Nat.le_of_ble_eq_true rfl)⟩ rfl rfl (Nat.le_of_ble_eq_true rfl) dL_law_683 ⟨by show _ + 0 ≤ 601024; omega, by show _ + 0 ≤ 7293034; omega⟩) hS kx_no (fun r_219 M_217 ad_218 H locs hP hW hS => ?_)
          obtain ⟨hw, rfl⟩ := hP
          refine lv_icmp_eq (tgt := 1318) hx hb dL_law_686 (by decide) (fun c_220 => ?_) (fun c_220 => ?_)
          · have hw := hw.1 c_220
            refine W.widen (k := 40 + 16 * it + 16) (n := 2000 + 1200 * it + 1200) (by omega) (by omega) ?_
            exact L_1318 k23 K23 ad9 M_217 it x4 hw H locs ls hW hS (lv_sub hl [0, 1, 2, 3, 4] rfl)
          · have hw := hw.2 c_220
            refine lv_iconst (v := 0) hx hb dL_law_689 (by decide) ?_
            rw [← hQQ]
            exact law_end hx hb hr hlocks hbase (hQ _ _ hw) hS (by omega) (by omega) dL_law_690
        have hw := hw.2 h8
        by_cases h9 : v_28 = 9
        · have hw := hw.1 h9
          refine lv_tableIn (tgt := 691) hx hb dL_law_39 (by rw [h9]; decide) (by rw [h9]; decide) (by rw [h9]; rfl) (by decide) ?_
          refine lv_aload_n hx hb dL_law_691 rfl (lv_at hl 1 rfl) ?_
          refine lv_aload_n hx hb dL_law_692 rfl (lv_at hl 0 rfl) ?_
          refine lv_iload hx hb dL_law_693 (lv_at hl 4 rfl) ?_
          refine lv_iconst (v := 1) hx hb dL_law_695 (by decide) ?_
          refine lv_iadd hx hb dL_law_696 ?_
          obtain ⟨g_221, hw⟩ := hw
          refine va_sld hx hb hXs hbl hbA hS g_221 dL_law_697 ?_
          refine lv_aload_n hx hb dL_law_698 rfl (lv_at hl 3 rfl) ?_
          refine k_I (rn_SX (As := [.ref (ad9 4 0), .int (xs (x4 + 1).toNatClampNeg), .ref (ad9 60 0)]) (rest := []) ⟨hx, hb, hml, hown, hts⟩ hT hW hS hl (c_L_holds l hlt E base M ad9 (xs (x4 + 1).toNatClampNeg) _ hw) cy_L_holds k_409 k_410 rfl rfl ⟨(Nat.le_of_ble_eq_true rfl), (Nat.le_of_ble_eq_true rfl)⟩ rfl rfl (Nat.le_of_ble_eq_true rfl) dL_law_699 ⟨by show _ + 1 ≤ 601024; omega, by show _ + 6 ≤ 7293034; omega⟩) hS kx_no (fun r_225 M_223 ad_224 H locs hP hW hS => ?_)
          obtain ⟨hw, rfl⟩ := hP
          refine lv_istore (lv' := [(5, .int r_225), (0, .ref b), (1, .ref (ad9 4 0)), (2, .ref (ad9 5 0)), (3, .ref (ad9 60 0)), (4, .int x4)]) hx hb dL_law_702 hl (by decide) rfl (fun ls hl => ?_)
          refine lv_aload_n hx hb dL_law_704 rfl (lv_at hl 3 rfl) ?_
          refine lv_aload_n hx hb dL_law_705 rfl (lv_at hl 1 rfl) ?_
          refine lv_iload hx hb dL_law_706 (lv_at hl 5 rfl) ?_
          refine lv_iconst (v := 1) hx hb dL_law_708 (by decide) ?_
          refine lv_iadd hx hb dL_law_709 ?_
          obtain ⟨g_226, hw⟩ := hw
          refine va_sld hx hb hXs hbl hbA hS g_226 dL_law_710 ?_
          obtain ⟨g_227, hw⟩ := hw
          refine k_I (rn_V (As := [.int (xs (x4 + 1).toNatClampNeg)]) (rest := []) (κ := 5) (i := 0) ⟨hx, hb, hml, hown, hts⟩ hT hW hS hl (c_X5_holds l E base M_223 ad9 (xs (x4 + 1).toNatClampNeg) _ hw) cy_X5_holds k_411 k_412 k_413 g_227 (by decide) rfl rfl rfl rfl ⟨(Nat.le_of_ble_eq_true rfl), (Nat.le_of_ble_eq_true rfl)⟩ rfl rfl (Nat.le_of_ble_eq_true rfl) dL_law_711 ⟨by show _ + 0 ≤ 601024; omega, by show _ + 0 ≤ 7293034; omega⟩) hS kx_no (fun r_231 M_229 ad_230 H locs hP hW hS => ?_)
          obtain ⟨hw, rfl⟩ := hP
          refine lv_istore (lv' := [(6, .int r_231), (5, .int r_225), (0, .ref b), (1, .ref (ad9 4 0)), (2, .ref (ad9 5 0)), (3, .ref (ad9 60 0)), (4, .int x4)]) hx hb dL_law_714 hl (by decide) rfl (fun ls hl => ?_)
          refine lv_aload_n hx hb dL_law_716 rfl (lv_at hl 4 rfl) ?_
          obtain ⟨g_232, hw⟩ := hw
          refine k_I (rn_V (As := []) (rest := []) (κ := 5) (i := 0) ⟨hx, hb, hml, hown, hts⟩ hT hW hS hl (c_X5_thrown l E base M_229 ad9 _ hw) cy_X5_thrown k_364 k_365 k_366 g_232 (by decide) rfl rfl rfl rfl ⟨(Nat.le_of_ble_eq_true rfl), (Nat.le_of_ble_eq_true rfl)⟩ rfl rfl (Nat.le_of_ble_eq_true rfl) dL_law_717 ⟨by show _ + 0 ≤ 601024; omega, by show _ + 0 ≤ 7293034; omega⟩) hS kx_no (fun r_236 M_234 ad_235 H locs hP hW hS => ?_)
          obtain ⟨hw, rfl⟩ := hP
          refine lv_iload hx hb dL_law_720 (lv_at hl 1 rfl) ?_
          refine lv_icmp_eq (tgt := 727) hx hb dL_law_722 (by decide) (fun c_237 => ?_) (fun c_237 => ?_)
          · have hw := hw.1 c_237
            refine lv_iload hx hb dL_law_727 (lv_at hl 1 rfl) ?_
            refine lv_if_ne (tgt := 744) hx hb dL_law_729 (by decide) (fun c_238 => ?_) (fun c_238 => ?_)
            · have hw := hw.2 c_238
              refine W.widen (k := 40 + 16 * it + 1) (n := 2000 + 1200 * it + 6) (by omega) (by omega) ?_
              exact L_744 k23 K23 ad9 M_234 it x4 hw H locs ls hW hS (lv_sub hl [2, 3, 4, 5, 6] rfl)
            · have hw := hw.1 c_238
              refine lv_aload_n hx hb dL_law_732 rfl (lv_at hl 5 rfl) ?_
              refine lv_iconst (v := 0) hx hb dL_law_733 (by decide) ?_
              obtain ⟨g_239, hw⟩ := hw
              obtain ⟨g_240, hw⟩ := hw
              refine r_lald hx hb hT.1 hW (by decide) rfl (fun _ => rfl) 1 rfl g_240 g_239 dL_law_734 ?_
              refine lv_iload hx hb dL_law_735 (lv_at hl 0 rfl) ?_
              refine lv_i2l hx hb dL_law_737 rfl ?_
              refine W.lcmp hx hb dL_law_738 ?_
              refine lv_if_eq (tgt := 744) hx hb dL_law_739 (by decide) (fun c_241 => ?_) (fun c_241 => ?_)
              · have hw := hw.1 c_241
                refine W.widen (k := 40 + 16 * it + 1) (n := 2000 + 1200 * it + 6) (by omega) (by omega) ?_
                exact L_744 k23 K23 ad9 M_234 it x4 hw H locs ls hW hS (lv_sub hl [2, 3, 4, 5, 6] rfl)
              · have hw := hw.2 c_241
                refine lv_iconst (v := 0) hx hb dL_law_742 (by decide) ?_
                rw [← hQQ]
                exact law_end hx hb hr hlocks hbase (hQ _ _ hw) hS (by omega) (by omega) dL_law_743
          · have hw := hw.2 c_237
            refine lv_iconst (v := 0) hx hb dL_law_725 (by decide) ?_
            rw [← hQQ]
            exact law_end hx hb hr hlocks hbase (hQ _ _ hw) hS (by omega) (by omega) dL_law_726
        have hw := hw.2 h9
        by_cases h10 : v_28 = 10
        · have hw := hw.1 h10
          refine lv_tableIn (tgt := 747) hx hb dL_law_39 (by rw [h10]; decide) (by rw [h10]; decide) (by rw [h10]; rfl) (by decide) ?_
          refine lv_aload_n hx hb dL_law_747 rfl (lv_at hl 1 rfl) ?_
          refine lv_aload_n hx hb dL_law_748 rfl (lv_at hl 0 rfl) ?_
          refine lv_iload hx hb dL_law_749 (lv_at hl 4 rfl) ?_
          refine lv_iconst (v := 1) hx hb dL_law_751 (by decide) ?_
          refine lv_iadd hx hb dL_law_752 ?_
          obtain ⟨g_242, hw⟩ := hw
          refine va_sld hx hb hXs hbl hbA hS g_242 dL_law_753 ?_
          refine lv_aload_n hx hb dL_law_754 rfl (lv_at hl 3 rfl) ?_
          refine k_I (rn_SX (As := [.ref (ad9 4 0), .int (xs (x4 + 1).toNatClampNeg), .ref (ad9 60 0)]) (rest := []) ⟨hx, hb, hml, hown, hts⟩ hT hW hS hl (c_L_holdsByLog l hlt E base M ad9 (xs (x4 + 1).toNatClampNeg) _ hw) cy_L_holdsByLog k_414 k_415 rfl rfl ⟨(Nat.le_of_ble_eq_true rfl), (Nat.le_of_ble_eq_true rfl)⟩ rfl rfl (Nat.le_of_ble_eq_true rfl) dL_law_755 ⟨by show _ + 2 ≤ 601024; omega, by show _ + 9 ≤ 7293034; omega⟩) hS kx_no (fun r_246 M_244 ad_245 H locs hP hW hS => ?_)
          obtain ⟨hw, hag⟩ := hP
          have hag_247 := hag
          rw [hag_247 4 0 (by rfl)] at hl
          rw [hag_247 5 0 (by rfl)] at hl
          rw [hag_247 60 0 (by rfl)] at hl
          refine lv_istore (lv' := [(5, .int r_246), (0, .ref b), (1, .ref (ad_245 4 0)), (2, .ref (ad_245 5 0)), (3, .ref (ad_245 60 0)), (4, .int x4)]) hx hb dL_law_758 hl (by decide) rfl (fun ls hl => ?_)
          refine lv_aload_n hx hb dL_law_760 rfl (lv_at hl 3 rfl) ?_
          refine lv_aload_n hx hb dL_law_761 rfl (lv_at hl 1 rfl) ?_
          refine lv_iload hx hb dL_law_762 (lv_at hl 5 rfl) ?_
          refine lv_iconst (v := 1) hx hb dL_law_764 (by decide) ?_
          refine lv_iadd hx hb dL_law_765 ?_
          obtain ⟨g_248, hw⟩ := hw
          refine va_sld hx hb hXs hbl hbA hS g_248 dL_law_766 ?_
          obtain ⟨g_249, hw⟩ := hw
          refine k_I (rn_V (As := [.int (xs (x4 + 1).toNatClampNeg)]) (rest := []) (κ := 5) (i := 0) ⟨hx, hb, hml, hown, hts⟩ hT hW hS hl (c_X5_holdsByLog l E base M_244 ad_245 (xs (x4 + 1).toNatClampNeg) _ hw) cy_X5_holdsByLog k_416 k_417 k_418 g_249 (by decide) rfl rfl rfl rfl ⟨(Nat.le_of_ble_eq_true rfl), (Nat.le_of_ble_eq_true rfl)⟩ rfl rfl (Nat.le_of_ble_eq_true rfl) dL_law_767 ⟨by show _ + 0 ≤ 601024; omega, by show _ + 0 ≤ 7293034; omega⟩) hS kx_no (fun r_253 M_251 ad_252 H locs hP hW hS => ?_)
          obtain ⟨hw, rfl⟩ := hP
          refine lv_istore (lv' := [(6, .int r_253), (5, .int r_246), (0, .ref b), (1, .ref (ad_245 4 0)), (2, .ref (ad_245 5 0)), (3, .ref (ad_245 60 0)), (4, .int x4)]) hx hb dL_law_770 hl (by decide) rfl (fun ls hl => ?_)
          refine lv_aload_n hx hb dL_law_772 rfl (lv_at hl 4 rfl) ?_
          obtain ⟨g_254, hw⟩ := hw
          refine k_I (rn_V (As := []) (rest := []) (κ := 5) (i := 0) ⟨hx, hb, hml, hown, hts⟩ hT hW hS hl (c_X5_thrown l E base M_251 ad_245 _ hw) cy_X5_thrown k_364 k_365 k_366 g_254 (by decide) rfl rfl rfl rfl ⟨(Nat.le_of_ble_eq_true rfl), (Nat.le_of_ble_eq_true rfl)⟩ rfl rfl (Nat.le_of_ble_eq_true rfl) dL_law_773 ⟨by show _ + 0 ≤ 601024; omega, by show _ + 0 ≤ 7293034; omega⟩) hS kx_no (fun r_258 M_256 ad_257 H locs hP hW hS => ?_)
          obtain ⟨hw, rfl⟩ := hP
          refine lv_iload hx hb dL_law_776 (lv_at hl 1 rfl) ?_
          refine lv_icmp_eq (tgt := 783) hx hb dL_law_778 (by decide) (fun c_259 => ?_) (fun c_259 => ?_)
          · have hw := hw.1 c_259
            refine lv_iload hx hb dL_law_783 (lv_at hl 1 rfl) ?_
            refine lv_if_ne (tgt := 800) hx hb dL_law_785 (by decide) (fun c_260 => ?_) (fun c_260 => ?_)
            · have hw := hw.2 c_260
              refine W.widen (k := 40 + 16 * it + 2) (n := 2000 + 1200 * it + 9) (by omega) (by omega) ?_
              exact L_800 k23 K23 ad_245 M_256 it x4 hw H locs ls hW hS (lv_sub hl [2, 3, 4, 5, 6] rfl)
            · have hw := hw.1 c_260
              refine lv_aload_n hx hb dL_law_788 rfl (lv_at hl 5 rfl) ?_
              refine lv_iconst (v := 0) hx hb dL_law_789 (by decide) ?_
              obtain ⟨g_261, hw⟩ := hw
              obtain ⟨g_262, hw⟩ := hw
              refine r_lald hx hb hT.1 hW (by decide) rfl (fun _ => rfl) 1 rfl g_262 g_261 dL_law_790 ?_
              refine lv_iload hx hb dL_law_791 (lv_at hl 0 rfl) ?_
              refine lv_i2l hx hb dL_law_793 rfl ?_
              refine W.lcmp hx hb dL_law_794 ?_
              refine lv_if_eq (tgt := 800) hx hb dL_law_795 (by decide) (fun c_263 => ?_) (fun c_263 => ?_)
              · have hw := hw.1 c_263
                refine W.widen (k := 40 + 16 * it + 2) (n := 2000 + 1200 * it + 9) (by omega) (by omega) ?_
                exact L_800 k23 K23 ad_245 M_256 it x4 hw H locs ls hW hS (lv_sub hl [2, 3, 4, 5, 6] rfl)
              · have hw := hw.2 c_263
                refine lv_iconst (v := 0) hx hb dL_law_798 (by decide) ?_
                rw [← hQQ]
                exact law_end hx hb hr hlocks hbase (hQ _ _ hw) hS (by omega) (by omega) dL_law_799
          · have hw := hw.2 c_259
            refine lv_iconst (v := 0) hx hb dL_law_781 (by decide) ?_
            rw [← hQQ]
            exact law_end hx hb hr hlocks hbase (hQ _ _ hw) hS (by omega) (by omega) dL_law_782
        have hw := hw.2 h10
        by_cases h11 : v_28 = 11
        · have hw := hw.1 h11
          refine lv_tableIn (tgt := 803) hx hb dL_law_39 (by rw [h11]; decide) (by rw [h11]; decide) (by rw [h11]; rfl) (by decide) ?_
          refine lv_aload_n hx hb dL_law_803 rfl (lv_at hl 1 rfl) ?_
          refine lv_aload_n hx hb dL_law_804 rfl (lv_at hl 0 rfl) ?_
          refine lv_iload hx hb dL_law_805 (lv_at hl 4 rfl) ?_
          refine lv_iconst (v := 1) hx hb dL_law_807 (by decide) ?_
          refine lv_iadd hx hb dL_law_808 ?_
          obtain ⟨g_264, hw⟩ := hw
          refine va_sld hx hb hXs hbl hbA hS g_264 dL_law_809 ?_
          refine lv_aload_n hx hb dL_law_810 rfl (lv_at hl 0 rfl) ?_
          refine lv_iload hx hb dL_law_811 (lv_at hl 4 rfl) ?_
          refine lv_iconst (v := 2) hx hb dL_law_813 (by decide) ?_
          refine lv_iadd hx hb dL_law_814 ?_
          obtain ⟨g_265, hw⟩ := hw
          refine va_sld hx hb hXs hbl hbA hS g_265 dL_law_815 ?_
          refine lv_aload_n hx hb dL_law_816 rfl (lv_at hl 3 rfl) ?_
          refine k_I (rn_SX (As := [.ref (ad9 4 0), .int (xs (x4 + 1).toNatClampNeg), .int (xs (x4 + 2).toNatClampNeg), .ref (ad9 60 0)]) (rest := []) ⟨hx, hb, hml, hown, hts⟩ hT hW hS hl (c_L_blocks l hlt E base M ad9 (xs (x4 + 1).toNatClampNeg) (xs (x4 + 2).toNatClampNeg) _ hw) cy_L_blocks k_419 k_420 rfl rfl ⟨(Nat.le_of_ble_eq_true rfl), (Nat.le_of_ble_eq_true rfl)⟩ rfl rfl (Nat.le_of_ble_eq_true rfl) dL_law_817 ⟨by show _ + 2 ≤ 601024; omega, by show _ + 12 ≤ 7293034; omega⟩) hS kx_no (fun r_269 M_267 ad_268 H locs hP hW hS => ?_)
          obtain ⟨hw, rfl⟩ := hP
          refine lv_istore (lv' := [(5, .int r_269), (0, .ref b), (1, .ref (ad9 4 0)), (2, .ref (ad9 5 0)), (3, .ref (ad9 60 0)), (4, .int x4)]) hx hb dL_law_820 hl (by decide) rfl (fun ls hl => ?_)
          refine lv_aload_n hx hb dL_law_822 rfl (lv_at hl 3 rfl) ?_
          refine lv_aload_n hx hb dL_law_823 rfl (lv_at hl 1 rfl) ?_
          refine lv_iload hx hb dL_law_824 (lv_at hl 5 rfl) ?_
          refine lv_iconst (v := 1) hx hb dL_law_826 (by decide) ?_
          refine lv_iadd hx hb dL_law_827 ?_
          obtain ⟨g_270, hw⟩ := hw
          refine va_sld hx hb hXs hbl hbA hS g_270 dL_law_828 ?_
          refine lv_aload_n hx hb dL_law_829 rfl (lv_at hl 1 rfl) ?_
          refine lv_iload hx hb dL_law_830 (lv_at hl 5 rfl) ?_
          refine lv_iconst (v := 2) hx hb dL_law_832 (by decide) ?_
          refine lv_iadd hx hb dL_law_833 ?_
          obtain ⟨g_271, hw⟩ := hw
          refine va_sld hx hb hXs hbl hbA hS g_271 dL_law_834 ?_
          obtain ⟨g_272, hw⟩ := hw
          refine k_I (rn_V (As := [.int (xs (x4 + 1).toNatClampNeg), .int (xs (x4 + 2).toNatClampNeg)]) (rest := []) (κ := 5) (i := 0) ⟨hx, hb, hml, hown, hts⟩ hT hW hS hl (c_X5_blocks l E base M_267 ad9 (xs (x4 + 1).toNatClampNeg) (xs (x4 + 2).toNatClampNeg) _ hw) cy_X5_blocks k_421 k_422 k_423 g_272 (by decide) rfl rfl rfl rfl ⟨(Nat.le_of_ble_eq_true rfl), (Nat.le_of_ble_eq_true rfl)⟩ rfl rfl (Nat.le_of_ble_eq_true rfl) dL_law_835 ⟨by show _ + 0 ≤ 601024; omega, by show _ + 0 ≤ 7293034; omega⟩) hS kx_no (fun r_276 M_274 ad_275 H locs hP hW hS => ?_)
          obtain ⟨hw, rfl⟩ := hP
          refine lv_istore (lv' := [(6, .int r_276), (5, .int r_269), (0, .ref b), (1, .ref (ad9 4 0)), (2, .ref (ad9 5 0)), (3, .ref (ad9 60 0)), (4, .int x4)]) hx hb dL_law_838 hl (by decide) rfl (fun ls hl => ?_)
          refine lv_aload_n hx hb dL_law_840 rfl (lv_at hl 4 rfl) ?_
          obtain ⟨g_277, hw⟩ := hw
          refine k_I (rn_V (As := []) (rest := []) (κ := 5) (i := 0) ⟨hx, hb, hml, hown, hts⟩ hT hW hS hl (c_X5_thrown l E base M_274 ad9 _ hw) cy_X5_thrown k_364 k_365 k_366 g_277 (by decide) rfl rfl rfl rfl ⟨(Nat.le_of_ble_eq_true rfl), (Nat.le_of_ble_eq_true rfl)⟩ rfl rfl (Nat.le_of_ble_eq_true rfl) dL_law_841 ⟨by show _ + 0 ≤ 601024; omega, by show _ + 0 ≤ 7293034; omega⟩) hS kx_no (fun r_281 M_279 ad_280 H locs hP hW hS => ?_)
          obtain ⟨hw, rfl⟩ := hP
          refine lv_iload hx hb dL_law_844 (lv_at hl 1 rfl) ?_
          refine lv_icmp_eq (tgt := 851) hx hb dL_law_846 (by decide) (fun c_282 => ?_) (fun c_282 => ?_)
          · have hw := hw.1 c_282
            refine lv_iload hx hb dL_law_851 (lv_at hl 1 rfl) ?_
            refine lv_if_ne (tgt := 868) hx hb dL_law_853 (by decide) (fun c_283 => ?_) (fun c_283 => ?_)
            · have hw := hw.2 c_283
              refine W.widen (k := 40 + 16 * it + 2) (n := 2000 + 1200 * it + 12) (by omega) (by omega) ?_
              exact L_868 k23 K23 ad9 M_279 it x4 hw H locs ls hW hS (lv_sub hl [2, 3, 4, 5, 6] rfl)
            · have hw := hw.1 c_283
              refine lv_aload_n hx hb dL_law_856 rfl (lv_at hl 5 rfl) ?_
              refine lv_iconst (v := 0) hx hb dL_law_857 (by decide) ?_
              obtain ⟨g_284, hw⟩ := hw
              obtain ⟨g_285, hw⟩ := hw
              refine r_lald hx hb hT.1 hW (by decide) rfl (fun _ => rfl) 1 rfl g_285 g_284 dL_law_858 ?_
              refine lv_iload hx hb dL_law_859 (lv_at hl 0 rfl) ?_
              refine lv_i2l hx hb dL_law_861 rfl ?_
              refine W.lcmp hx hb dL_law_862 ?_
              refine lv_if_eq (tgt := 868) hx hb dL_law_863 (by decide) (fun c_286 => ?_) (fun c_286 => ?_)
              · have hw := hw.1 c_286
                refine W.widen (k := 40 + 16 * it + 2) (n := 2000 + 1200 * it + 12) (by omega) (by omega) ?_
                exact L_868 k23 K23 ad9 M_279 it x4 hw H locs ls hW hS (lv_sub hl [2, 3, 4, 5, 6] rfl)
              · have hw := hw.2 c_286
                refine lv_iconst (v := 0) hx hb dL_law_866 (by decide) ?_
                rw [← hQQ]
                exact law_end hx hb hr hlocks hbase (hQ _ _ hw) hS (by omega) (by omega) dL_law_867
          · have hw := hw.2 c_282
            refine lv_iconst (v := 0) hx hb dL_law_849 (by decide) ?_
            rw [← hQQ]
            exact law_end hx hb hr hlocks hbase (hQ _ _ hw) hS (by omega) (by omega) dL_law_850
        have hw := hw.2 h11
        by_cases h12 : v_28 = 12
        · have hw := hw.1 h12
          refine lv_tableIn (tgt := 871) hx hb dL_law_39 (by rw [h12]; decide) (by rw [h12]; decide) (by rw [h12]; rfl) (by decide) ?_
          refine lv_aload_n hx hb dL_law_871 rfl (lv_at hl 1 rfl) ?_
          refine lv_aload_n hx hb dL_law_872 rfl (lv_at hl 0 rfl) ?_
          refine lv_iload hx hb dL_law_873 (lv_at hl 4 rfl) ?_
          refine lv_iconst (v := 1) hx hb dL_law_875 (by decide) ?_
          refine lv_iadd hx hb dL_law_876 ?_
          obtain ⟨g_287, hw⟩ := hw
          refine va_sld hx hb hXs hbl hbA hS g_287 dL_law_877 ?_
          refine lv_aload_n hx hb dL_law_878 rfl (lv_at hl 3 rfl) ?_
          refine k_I (rn_SX (As := [.ref (ad9 4 0), .int (xs (x4 + 1).toNatClampNeg), .ref (ad9 60 0)]) (rest := []) ⟨hx, hb, hml, hown, hts⟩ hT hW hS hl (c_L_holders l hlt E base M ad9 (xs (x4 + 1).toNatClampNeg) _ hw) cy_L_holders k_424 k_425 rfl rfl ⟨(Nat.le_of_ble_eq_true rfl), (Nat.le_of_ble_eq_true rfl)⟩ rfl rfl (Nat.le_of_ble_eq_true rfl) dL_law_879 ⟨by show _ + 1 ≤ 601024; omega, by show _ + 6 ≤ 7293034; omega⟩) hS kx_no (fun r_291 M_289 ad_290 H locs hP hW hS => ?_)
          obtain ⟨hw, rfl⟩ := hP
          refine lv_istore (lv' := [(5, .int r_291), (0, .ref b), (1, .ref (ad9 4 0)), (2, .ref (ad9 5 0)), (3, .ref (ad9 60 0)), (4, .int x4)]) hx hb dL_law_882 hl (by decide) rfl (fun ls hl => ?_)
          refine lv_aload_n hx hb dL_law_884 rfl (lv_at hl 3 rfl) ?_
          refine lv_aload_n hx hb dL_law_885 rfl (lv_at hl 1 rfl) ?_
          refine lv_iload hx hb dL_law_886 (lv_at hl 5 rfl) ?_
          refine lv_iconst (v := 1) hx hb dL_law_888 (by decide) ?_
          refine lv_iadd hx hb dL_law_889 ?_
          obtain ⟨g_292, hw⟩ := hw
          refine va_sld hx hb hXs hbl hbA hS g_292 dL_law_890 ?_
          obtain ⟨g_293, hw⟩ := hw
          refine k_I (rn_V (As := [.int (xs (x4 + 1).toNatClampNeg)]) (rest := []) (κ := 5) (i := 0) ⟨hx, hb, hml, hown, hts⟩ hT hW hS hl (c_X5_holders l E base M_289 ad9 (xs (x4 + 1).toNatClampNeg) _ hw) cy_X5_holders k_426 k_427 k_428 g_293 (by decide) rfl rfl rfl rfl ⟨(Nat.le_of_ble_eq_true rfl), (Nat.le_of_ble_eq_true rfl)⟩ rfl rfl (Nat.le_of_ble_eq_true rfl) dL_law_891 ⟨by show _ + 0 ≤ 601024; omega, by show _ + 0 ≤ 7293034; omega⟩) hS kx_no (fun r_297 M_295 ad_296 H locs hP hW hS => ?_)
          obtain ⟨hw, rfl⟩ := hP
          refine lv_istore (lv' := [(6, .int r_297), (5, .int r_291), (0, .ref b), (1, .ref (ad9 4 0)), (2, .ref (ad9 5 0)), (3, .ref (ad9 60 0)), (4, .int x4)]) hx hb dL_law_894 hl (by decide) rfl (fun ls hl => ?_)
          refine lv_aload_n hx hb dL_law_896 rfl (lv_at hl 4 rfl) ?_
          obtain ⟨g_298, hw⟩ := hw
          refine k_I (rn_V (As := []) (rest := []) (κ := 5) (i := 0) ⟨hx, hb, hml, hown, hts⟩ hT hW hS hl (c_X5_thrown l E base M_295 ad9 _ hw) cy_X5_thrown k_364 k_365 k_366 g_298 (by decide) rfl rfl rfl rfl ⟨(Nat.le_of_ble_eq_true rfl), (Nat.le_of_ble_eq_true rfl)⟩ rfl rfl (Nat.le_of_ble_eq_true rfl) dL_law_897 ⟨by show _ + 0 ≤ 601024; omega, by show _ + 0 ≤ 7293034; omega⟩) hS kx_no (fun r_302 M_300 ad_301 H locs hP hW hS => ?_)
          obtain ⟨hw, rfl⟩ := hP
          refine lv_iload hx hb dL_law_900 (lv_at hl 1 rfl) ?_
          refine lv_icmp_eq (tgt := 907) hx hb dL_law_902 (by decide) (fun c_303 => ?_) (fun c_303 => ?_)
          · have hw := hw.1 c_303
            refine lv_iload hx hb dL_law_907 (lv_at hl 1 rfl) ?_
            refine lv_if_ne (tgt := 924) hx hb dL_law_909 (by decide) (fun c_304 => ?_) (fun c_304 => ?_)
            · have hw := hw.2 c_304
              refine W.widen (k := 40 + 16 * it + 1) (n := 2000 + 1200 * it + 6) (by omega) (by omega) ?_
              exact L_924 k23 K23 ad9 M_300 it x4 hw H locs ls hW hS (lv_sub hl [2, 3, 4, 5, 6] rfl)
            · have hw := hw.1 c_304
              refine lv_aload_n hx hb dL_law_912 rfl (lv_at hl 5 rfl) ?_
              refine lv_iconst (v := 0) hx hb dL_law_913 (by decide) ?_
              obtain ⟨g_305, hw⟩ := hw
              obtain ⟨g_306, hw⟩ := hw
              refine r_lald hx hb hT.1 hW (by decide) rfl (fun _ => rfl) 1 rfl g_306 g_305 dL_law_914 ?_
              refine lv_iload hx hb dL_law_915 (lv_at hl 0 rfl) ?_
              refine lv_i2l hx hb dL_law_917 rfl ?_
              refine W.lcmp hx hb dL_law_918 ?_
              refine lv_if_eq (tgt := 924) hx hb dL_law_919 (by decide) (fun c_307 => ?_) (fun c_307 => ?_)
              · have hw := hw.1 c_307
                refine W.widen (k := 40 + 16 * it + 1) (n := 2000 + 1200 * it + 6) (by omega) (by omega) ?_
                exact L_924 k23 K23 ad9 M_300 it x4 hw H locs ls hW hS (lv_sub hl [2, 3, 4, 5, 6] rfl)
              · have hw := hw.2 c_307
                refine lv_iconst (v := 0) hx hb dL_law_922 (by decide) ?_
                rw [← hQQ]
                exact law_end hx hb hr hlocks hbase (hQ _ _ hw) hS (by omega) (by omega) dL_law_923
          · have hw := hw.2 c_303
            refine lv_iconst (v := 0) hx hb dL_law_905 (by decide) ?_
            rw [← hQQ]
            exact law_end hx hb hr hlocks hbase (hQ _ _ hw) hS (by omega) (by omega) dL_law_906
        have hw := hw.2 h12
        by_cases h13 : v_28 = 13
        · have hw := hw.1 h13
          refine lv_tableIn (tgt := 927) hx hb dL_law_39 (by rw [h13]; decide) (by rw [h13]; decide) (by rw [h13]; rfl) (by decide) ?_
          refine lv_aload_n hx hb dL_law_927 rfl (lv_at hl 1 rfl) ?_
          refine lv_aload_n hx hb dL_law_928 rfl (lv_at hl 0 rfl) ?_
          refine lv_iload hx hb dL_law_929 (lv_at hl 4 rfl) ?_
          refine lv_iconst (v := 1) hx hb dL_law_931 (by decide) ?_
          refine lv_iadd hx hb dL_law_932 ?_
          obtain ⟨g_308, hw⟩ := hw
          refine va_sld hx hb hXs hbl hbA hS g_308 dL_law_933 ?_
          refine lv_aload_n hx hb dL_law_934 rfl (lv_at hl 0 rfl) ?_
          refine lv_iload hx hb dL_law_935 (lv_at hl 4 rfl) ?_
          refine lv_iconst (v := 2) hx hb dL_law_937 (by decide) ?_
          refine lv_iadd hx hb dL_law_938 ?_
          obtain ⟨g_309, hw⟩ := hw
          refine va_sld hx hb hXs hbl hbA hS g_309 dL_law_939 ?_
          refine lv_aload_n hx hb dL_law_940 rfl (lv_at hl 3 rfl) ?_
          refine k_I (rn_SX (As := [.ref (ad9 4 0), .int (xs (x4 + 1).toNatClampNeg), .int (xs (x4 + 2).toNatClampNeg), .ref (ad9 60 0)]) (rest := []) ⟨hx, hb, hml, hown, hts⟩ hT hW hS hl (c_L_shown l hlt E base M ad9 (xs (x4 + 1).toNatClampNeg) (xs (x4 + 2).toNatClampNeg) _ hw) cy_L_shown k_429 k_430 rfl rfl ⟨(Nat.le_of_ble_eq_true rfl), (Nat.le_of_ble_eq_true rfl)⟩ rfl rfl (Nat.le_of_ble_eq_true rfl) dL_law_941 ⟨by show _ + 2 ≤ 601024; omega, by show _ + 12 ≤ 7293034; omega⟩) hS kx_no (fun r_313 M_311 ad_312 H locs hP hW hS => ?_)
          obtain ⟨hw, rfl⟩ := hP
          refine lv_istore (lv' := [(5, .int r_313), (0, .ref b), (1, .ref (ad9 4 0)), (2, .ref (ad9 5 0)), (3, .ref (ad9 60 0)), (4, .int x4)]) hx hb dL_law_944 hl (by decide) rfl (fun ls hl => ?_)
          refine lv_aload_n hx hb dL_law_946 rfl (lv_at hl 3 rfl) ?_
          refine lv_aload_n hx hb dL_law_947 rfl (lv_at hl 1 rfl) ?_
          refine lv_iload hx hb dL_law_948 (lv_at hl 5 rfl) ?_
          refine lv_iconst (v := 1) hx hb dL_law_950 (by decide) ?_
          refine lv_iadd hx hb dL_law_951 ?_
          obtain ⟨g_314, hw⟩ := hw
          refine va_sld hx hb hXs hbl hbA hS g_314 dL_law_952 ?_
          refine lv_aload_n hx hb dL_law_953 rfl (lv_at hl 1 rfl) ?_
          refine lv_iload hx hb dL_law_954 (lv_at hl 5 rfl) ?_
          refine lv_iconst (v := 2) hx hb dL_law_956 (by decide) ?_
          refine lv_iadd hx hb dL_law_957 ?_
          obtain ⟨g_315, hw⟩ := hw
          refine va_sld hx hb hXs hbl hbA hS g_315 dL_law_958 ?_
          obtain ⟨g_316, hw⟩ := hw
          refine k_I (rn_V (As := [.int (xs (x4 + 1).toNatClampNeg), .int (xs (x4 + 2).toNatClampNeg)]) (rest := []) (κ := 5) (i := 0) ⟨hx, hb, hml, hown, hts⟩ hT hW hS hl (c_X5_shown l E base M_311 ad9 (xs (x4 + 1).toNatClampNeg) (xs (x4 + 2).toNatClampNeg) _ hw) cy_X5_shown k_431 k_432 k_433 g_316 (by decide) rfl rfl rfl rfl ⟨(Nat.le_of_ble_eq_true rfl), (Nat.le_of_ble_eq_true rfl)⟩ rfl rfl (Nat.le_of_ble_eq_true rfl) dL_law_959 ⟨by show _ + 0 ≤ 601024; omega, by show _ + 0 ≤ 7293034; omega⟩) hS kx_no (fun r_320 M_318 ad_319 H locs hP hW hS => ?_)
          obtain ⟨hw, rfl⟩ := hP
          refine lv_istore (lv' := [(6, .int r_320), (5, .int r_313), (0, .ref b), (1, .ref (ad9 4 0)), (2, .ref (ad9 5 0)), (3, .ref (ad9 60 0)), (4, .int x4)]) hx hb dL_law_962 hl (by decide) rfl (fun ls hl => ?_)
          refine lv_aload_n hx hb dL_law_964 rfl (lv_at hl 4 rfl) ?_
          obtain ⟨g_321, hw⟩ := hw
          refine k_I (rn_V (As := []) (rest := []) (κ := 5) (i := 0) ⟨hx, hb, hml, hown, hts⟩ hT hW hS hl (c_X5_thrown l E base M_318 ad9 _ hw) cy_X5_thrown k_364 k_365 k_366 g_321 (by decide) rfl rfl rfl rfl ⟨(Nat.le_of_ble_eq_true rfl), (Nat.le_of_ble_eq_true rfl)⟩ rfl rfl (Nat.le_of_ble_eq_true rfl) dL_law_965 ⟨by show _ + 0 ≤ 601024; omega, by show _ + 0 ≤ 7293034; omega⟩) hS kx_no (fun r_325 M_323 ad_324 H locs hP hW hS => ?_)
          obtain ⟨hw, rfl⟩ := hP
          refine lv_iload hx hb dL_law_968 (lv_at hl 1 rfl) ?_
          refine lv_icmp_eq (tgt := 975) hx hb dL_law_970 (by decide) (fun c_326 => ?_) (fun c_326 => ?_)
          · have hw := hw.1 c_326
            refine lv_iload hx hb dL_law_975 (lv_at hl 1 rfl) ?_
            refine lv_if_ne (tgt := 992) hx hb dL_law_977 (by decide) (fun c_327 => ?_) (fun c_327 => ?_)
            · have hw := hw.2 c_327
              refine W.widen (k := 40 + 16 * it + 2) (n := 2000 + 1200 * it + 12) (by omega) (by omega) ?_
              exact L_992 k23 K23 ad9 M_323 it x4 hw H locs ls hW hS (lv_sub hl [2, 3, 4, 5, 6] rfl)
            · have hw := hw.1 c_327
              refine lv_aload_n hx hb dL_law_980 rfl (lv_at hl 5 rfl) ?_
              refine lv_iconst (v := 0) hx hb dL_law_981 (by decide) ?_
              obtain ⟨g_328, hw⟩ := hw
              obtain ⟨g_329, hw⟩ := hw
              refine r_lald hx hb hT.1 hW (by decide) rfl (fun _ => rfl) 1 rfl g_329 g_328 dL_law_982 ?_
              refine lv_iload hx hb dL_law_983 (lv_at hl 0 rfl) ?_
              refine lv_i2l hx hb dL_law_985 rfl ?_
              refine W.lcmp hx hb dL_law_986 ?_
              refine lv_if_eq (tgt := 992) hx hb dL_law_987 (by decide) (fun c_330 => ?_) (fun c_330 => ?_)
              · have hw := hw.1 c_330
                refine W.widen (k := 40 + 16 * it + 2) (n := 2000 + 1200 * it + 12) (by omega) (by omega) ?_
                exact L_992 k23 K23 ad9 M_323 it x4 hw H locs ls hW hS (lv_sub hl [2, 3, 4, 5, 6] rfl)
              · have hw := hw.2 c_330
                refine lv_iconst (v := 0) hx hb dL_law_990 (by decide) ?_
                rw [← hQQ]
                exact law_end hx hb hr hlocks hbase (hQ _ _ hw) hS (by omega) (by omega) dL_law_991
          · have hw := hw.2 c_326
            refine lv_iconst (v := 0) hx hb dL_law_973 (by decide) ?_
            rw [← hQQ]
            exact law_end hx hb hr hlocks hbase (hQ _ _ hw) hS (by omega) (by omega) dL_law_974
        have hw := hw.2 h13
        by_cases h14 : v_28 = 14
        · have hw := hw.1 h14
          refine lv_tableIn (tgt := 995) hx hb dL_law_39 (by rw [h14]; decide) (by rw [h14]; decide) (by rw [h14]; rfl) (by decide) ?_
          refine lv_aload_n hx hb dL_law_995 rfl (lv_at hl 1 rfl) ?_
          refine lv_aload_n hx hb dL_law_996 rfl (lv_at hl 0 rfl) ?_
          refine lv_iload hx hb dL_law_997 (lv_at hl 4 rfl) ?_
          refine lv_iconst (v := 1) hx hb dL_law_999 (by decide) ?_
          refine lv_iadd hx hb dL_law_1000 ?_
          obtain ⟨g_331, hw⟩ := hw
          refine va_sld hx hb hXs hbl hbA hS g_331 dL_law_1001 ?_
          refine lv_aload_n hx hb dL_law_1002 rfl (lv_at hl 3 rfl) ?_
          refine k_I (rn_SX (As := [.ref (ad9 4 0), .int (xs (x4 + 1).toNatClampNeg), .ref (ad9 60 0)]) (rest := []) ⟨hx, hb, hml, hown, hts⟩ hT hW hS hl (c_L_chosen l hlt E base M ad9 (xs (x4 + 1).toNatClampNeg) _ hw) cy_L_chosen k_434 k_435 rfl rfl ⟨(Nat.le_of_ble_eq_true rfl), (Nat.le_of_ble_eq_true rfl)⟩ rfl rfl (Nat.le_of_ble_eq_true rfl) dL_law_1003 ⟨by show _ + 1 ≤ 601024; omega, by show _ + 6 ≤ 7293034; omega⟩) hS kx_no (fun r_335 M_333 ad_334 H locs hP hW hS => ?_)
          obtain ⟨hw, rfl⟩ := hP
          refine lv_istore (lv' := [(5, .int r_335), (0, .ref b), (1, .ref (ad9 4 0)), (2, .ref (ad9 5 0)), (3, .ref (ad9 60 0)), (4, .int x4)]) hx hb dL_law_1006 hl (by decide) rfl (fun ls hl => ?_)
          refine lv_aload_n hx hb dL_law_1008 rfl (lv_at hl 3 rfl) ?_
          refine lv_aload_n hx hb dL_law_1009 rfl (lv_at hl 1 rfl) ?_
          refine lv_iload hx hb dL_law_1010 (lv_at hl 5 rfl) ?_
          refine lv_iconst (v := 1) hx hb dL_law_1012 (by decide) ?_
          refine lv_iadd hx hb dL_law_1013 ?_
          obtain ⟨g_336, hw⟩ := hw
          refine va_sld hx hb hXs hbl hbA hS g_336 dL_law_1014 ?_
          obtain ⟨g_337, hw⟩ := hw
          refine k_I (rn_V (As := [.int (xs (x4 + 1).toNatClampNeg)]) (rest := []) (κ := 5) (i := 0) ⟨hx, hb, hml, hown, hts⟩ hT hW hS hl (c_X5_chosen l E base M_333 ad9 (xs (x4 + 1).toNatClampNeg) _ hw) cy_X5_chosen k_436 k_437 k_438 g_337 (by decide) rfl rfl rfl rfl ⟨(Nat.le_of_ble_eq_true rfl), (Nat.le_of_ble_eq_true rfl)⟩ rfl rfl (Nat.le_of_ble_eq_true rfl) dL_law_1015 ⟨by show _ + 0 ≤ 601024; omega, by show _ + 0 ≤ 7293034; omega⟩) hS kx_no (fun r_341 M_339 ad_340 H locs hP hW hS => ?_)
          obtain ⟨hw, rfl⟩ := hP
          refine lv_istore (lv' := [(6, .int r_341), (5, .int r_335), (0, .ref b), (1, .ref (ad9 4 0)), (2, .ref (ad9 5 0)), (3, .ref (ad9 60 0)), (4, .int x4)]) hx hb dL_law_1018 hl (by decide) rfl (fun ls hl => ?_)
          refine lv_aload_n hx hb dL_law_1020 rfl (lv_at hl 4 rfl) ?_
          obtain ⟨g_342, hw⟩ := hw
          refine k_I (rn_V (As := []) (rest := []) (κ := 5) (i := 0) ⟨hx, hb, hml, hown, hts⟩ hT hW hS hl (c_X5_thrown l E base M_339 ad9 _ hw) cy_X5_thrown k_364 k_365 k_366 g_342 (by decide) rfl rfl rfl rfl ⟨(Nat.le_of_ble_eq_true rfl), (Nat.le_of_ble_eq_true rfl)⟩ rfl rfl (Nat.le_of_ble_eq_true rfl) dL_law_1021 ⟨by show _ + 0 ≤ 601024; omega, by show _ + 0 ≤ 7293034; omega⟩) hS kx_no (fun r_346 M_344 ad_345 H locs hP hW hS => ?_)
          obtain ⟨hw, rfl⟩ := hP
          refine lv_iload hx hb dL_law_1024 (lv_at hl 1 rfl) ?_
          refine lv_icmp_eq (tgt := 1031) hx hb dL_law_1026 (by decide) (fun c_347 => ?_) (fun c_347 => ?_)
          · have hw := hw.1 c_347
            refine lv_iload hx hb dL_law_1031 (lv_at hl 1 rfl) ?_
            refine lv_if_ne (tgt := 1048) hx hb dL_law_1033 (by decide) (fun c_348 => ?_) (fun c_348 => ?_)
            · have hw := hw.2 c_348
              refine W.widen (k := 40 + 16 * it + 1) (n := 2000 + 1200 * it + 6) (by omega) (by omega) ?_
              exact L_1048 k23 K23 ad9 M_344 it x4 hw H locs ls hW hS (lv_sub hl [2, 3, 4, 5, 6] rfl)
            · have hw := hw.1 c_348
              refine lv_aload_n hx hb dL_law_1036 rfl (lv_at hl 5 rfl) ?_
              refine lv_iconst (v := 0) hx hb dL_law_1037 (by decide) ?_
              obtain ⟨g_349, hw⟩ := hw
              obtain ⟨g_350, hw⟩ := hw
              refine r_lald hx hb hT.1 hW (by decide) rfl (fun _ => rfl) 1 rfl g_350 g_349 dL_law_1038 ?_
              refine lv_iload hx hb dL_law_1039 (lv_at hl 0 rfl) ?_
              refine lv_i2l hx hb dL_law_1041 rfl ?_
              refine W.lcmp hx hb dL_law_1042 ?_
              refine lv_if_eq (tgt := 1048) hx hb dL_law_1043 (by decide) (fun c_351 => ?_) (fun c_351 => ?_)
              · have hw := hw.1 c_351
                refine W.widen (k := 40 + 16 * it + 1) (n := 2000 + 1200 * it + 6) (by omega) (by omega) ?_
                exact L_1048 k23 K23 ad9 M_344 it x4 hw H locs ls hW hS (lv_sub hl [2, 3, 4, 5, 6] rfl)
              · have hw := hw.2 c_351
                refine lv_iconst (v := 0) hx hb dL_law_1046 (by decide) ?_
                rw [← hQQ]
                exact law_end hx hb hr hlocks hbase (hQ _ _ hw) hS (by omega) (by omega) dL_law_1047
          · have hw := hw.2 c_347
            refine lv_iconst (v := 0) hx hb dL_law_1029 (by decide) ?_
            rw [← hQQ]
            exact law_end hx hb hr hlocks hbase (hQ _ _ hw) hS (by omega) (by omega) dL_law_1030
        have hw := hw.2 h14
        by_cases h15 : v_28 = 15
        · have hw := hw.1 h15
          refine lv_tableIn (tgt := 1051) hx hb dL_law_39 (by rw [h15]; decide) (by rw [h15]; decide) (by rw [h15]; rfl) (by decide) ?_
          refine lv_aload_n hx hb dL_law_1051 rfl (lv_at hl 1 rfl) ?_
          refine lv_aload_n hx hb dL_law_1052 rfl (lv_at hl 0 rfl) ?_
          refine lv_iload hx hb dL_law_1053 (lv_at hl 4 rfl) ?_
          refine lv_iconst (v := 1) hx hb dL_law_1055 (by decide) ?_
          refine lv_iadd hx hb dL_law_1056 ?_
          obtain ⟨g_352, hw⟩ := hw
          refine va_sld hx hb hXs hbl hbA hS g_352 dL_law_1057 ?_
          refine lv_aload_n hx hb dL_law_1058 rfl (lv_at hl 0 rfl) ?_
          refine lv_iload hx hb dL_law_1059 (lv_at hl 4 rfl) ?_
          refine lv_iconst (v := 2) hx hb dL_law_1061 (by decide) ?_
          refine lv_iadd hx hb dL_law_1062 ?_
          obtain ⟨g_353, hw⟩ := hw
          refine va_sld hx hb hXs hbl hbA hS g_353 dL_law_1063 ?_
          refine lv_aload_n hx hb dL_law_1064 rfl (lv_at hl 3 rfl) ?_
          refine k_I (rn_SX (As := [.ref (ad9 4 0), .int (xs (x4 + 1).toNatClampNeg), .int (xs (x4 + 2).toNatClampNeg), .ref (ad9 60 0)]) (rest := []) ⟨hx, hb, hml, hown, hts⟩ hT hW hS hl (c_L_got l hlt E base M ad9 (xs (x4 + 1).toNatClampNeg) (xs (x4 + 2).toNatClampNeg) _ hw) cy_L_got k_439 k_440 rfl rfl ⟨(Nat.le_of_ble_eq_true rfl), (Nat.le_of_ble_eq_true rfl)⟩ rfl rfl (Nat.le_of_ble_eq_true rfl) dL_law_1065 ⟨by show _ + 2 ≤ 601024; omega, by show _ + 12 ≤ 7293034; omega⟩) hS kx_no (fun r_357 M_355 ad_356 H locs hP hW hS => ?_)
          obtain ⟨hw, rfl⟩ := hP
          refine lv_istore (lv' := [(5, .int r_357), (0, .ref b), (1, .ref (ad9 4 0)), (2, .ref (ad9 5 0)), (3, .ref (ad9 60 0)), (4, .int x4)]) hx hb dL_law_1068 hl (by decide) rfl (fun ls hl => ?_)
          refine lv_aload_n hx hb dL_law_1070 rfl (lv_at hl 3 rfl) ?_
          refine lv_aload_n hx hb dL_law_1071 rfl (lv_at hl 1 rfl) ?_
          refine lv_iload hx hb dL_law_1072 (lv_at hl 5 rfl) ?_
          refine lv_iconst (v := 1) hx hb dL_law_1074 (by decide) ?_
          refine lv_iadd hx hb dL_law_1075 ?_
          obtain ⟨g_358, hw⟩ := hw
          refine va_sld hx hb hXs hbl hbA hS g_358 dL_law_1076 ?_
          refine lv_aload_n hx hb dL_law_1077 rfl (lv_at hl 1 rfl) ?_
          refine lv_iload hx hb dL_law_1078 (lv_at hl 5 rfl) ?_
          refine lv_iconst (v := 2) hx hb dL_law_1080 (by decide) ?_
          refine lv_iadd hx hb dL_law_1081 ?_
          obtain ⟨g_359, hw⟩ := hw
          refine va_sld hx hb hXs hbl hbA hS g_359 dL_law_1082 ?_
          obtain ⟨g_360, hw⟩ := hw
          refine k_I (rn_V (As := [.int (xs (x4 + 1).toNatClampNeg), .int (xs (x4 + 2).toNatClampNeg)]) (rest := []) (κ := 5) (i := 0) ⟨hx, hb, hml, hown, hts⟩ hT hW hS hl (c_X5_got l E base M_355 ad9 (xs (x4 + 1).toNatClampNeg) (xs (x4 + 2).toNatClampNeg) _ hw) cy_X5_got k_441 k_442 k_443 g_360 (by decide) rfl rfl rfl rfl ⟨(Nat.le_of_ble_eq_true rfl), (Nat.le_of_ble_eq_true rfl)⟩ rfl rfl (Nat.le_of_ble_eq_true rfl) dL_law_1083 ⟨by show _ + 0 ≤ 601024; omega, by show _ + 0 ≤ 7293034; omega⟩) hS kx_no (fun r_364 M_362 ad_363 H locs hP hW hS => ?_)
          obtain ⟨hw, rfl⟩ := hP
          refine lv_istore (lv' := [(6, .int r_364), (5, .int r_357), (0, .ref b), (1, .ref (ad9 4 0)), (2, .ref (ad9 5 0)), (3, .ref (ad9 60 0)), (4, .int x4)]) hx hb dL_law_1086 hl (by decide) rfl (fun ls hl => ?_)
          refine lv_aload_n hx hb dL_law_1088 rfl (lv_at hl 4 rfl) ?_
          obtain ⟨g_365, hw⟩ := hw
          refine k_I (rn_V (As := []) (rest := []) (κ := 5) (i := 0) ⟨hx, hb, hml, hown, hts⟩ hT hW hS hl (c_X5_thrown l E base M_362 ad9 _ hw) cy_X5_thrown k_364 k_365 k_366 g_365 (by decide) rfl rfl rfl rfl ⟨(Nat.le_of_ble_eq_true rfl), (Nat.le_of_ble_eq_true rfl)⟩ rfl rfl (Nat.le_of_ble_eq_true rfl) dL_law_1089 ⟨by show _ + 0 ≤ 601024; omega, by show _ + 0 ≤ 7293034; omega⟩) hS kx_no (fun r_369 M_367 ad_368 H locs hP hW hS => ?_)
          obtain ⟨hw, rfl⟩ := hP
          refine lv_iload hx hb dL_law_1092 (lv_at hl 1 rfl) ?_
          refine lv_icmp_eq (tgt := 1099) hx hb dL_law_1094 (by decide) (fun c_370 => ?_) (fun c_370 => ?_)
          · have hw := hw.1 c_370
            refine lv_iload hx hb dL_law_1099 (lv_at hl 1 rfl) ?_
            refine lv_if_ne (tgt := 1116) hx hb dL_law_1101 (by decide) (fun c_371 => ?_) (fun c_371 => ?_)
            · have hw := hw.2 c_371
              refine W.widen (k := 40 + 16 * it + 2) (n := 2000 + 1200 * it + 12) (by omega) (by omega) ?_
              exact L_1116 k23 K23 ad9 M_367 it x4 hw H locs ls hW hS (lv_sub hl [2, 3, 4, 5, 6] rfl)
            · have hw := hw.1 c_371
              refine lv_aload_n hx hb dL_law_1104 rfl (lv_at hl 5 rfl) ?_
              refine lv_iconst (v := 0) hx hb dL_law_1105 (by decide) ?_
              obtain ⟨g_372, hw⟩ := hw
              obtain ⟨g_373, hw⟩ := hw
              refine r_lald hx hb hT.1 hW (by decide) rfl (fun _ => rfl) 1 rfl g_373 g_372 dL_law_1106 ?_
              refine lv_iload hx hb dL_law_1107 (lv_at hl 0 rfl) ?_
              refine lv_i2l hx hb dL_law_1109 rfl ?_
              refine W.lcmp hx hb dL_law_1110 ?_
              refine lv_if_eq (tgt := 1116) hx hb dL_law_1111 (by decide) (fun c_374 => ?_) (fun c_374 => ?_)
              · have hw := hw.1 c_374
                refine W.widen (k := 40 + 16 * it + 2) (n := 2000 + 1200 * it + 12) (by omega) (by omega) ?_
                exact L_1116 k23 K23 ad9 M_367 it x4 hw H locs ls hW hS (lv_sub hl [2, 3, 4, 5, 6] rfl)
              · have hw := hw.2 c_374
                refine lv_iconst (v := 0) hx hb dL_law_1114 (by decide) ?_
                rw [← hQQ]
                exact law_end hx hb hr hlocks hbase (hQ _ _ hw) hS (by omega) (by omega) dL_law_1115
          · have hw := hw.2 c_370
            refine lv_iconst (v := 0) hx hb dL_law_1097 (by decide) ?_
            rw [← hQQ]
            exact law_end hx hb hr hlocks hbase (hQ _ _ hw) hS (by omega) (by omega) dL_law_1098
        have hw := hw.2 h15
        by_cases h16 : v_28 = 16
        · have hw := hw.1 h16
          refine lv_tableIn (tgt := 1119) hx hb dL_law_39 (by rw [h16]; decide) (by rw [h16]; decide) (by rw [h16]; rfl) (by decide) ?_
          refine lv_aload_n hx hb dL_law_1119 rfl (lv_at hl 1 rfl) ?_
          refine lv_aload_n hx hb dL_law_1120 rfl (lv_at hl 0 rfl) ?_
          refine lv_iload hx hb dL_law_1121 (lv_at hl 4 rfl) ?_
          refine lv_iconst (v := 1) hx hb dL_law_1123 (by decide) ?_
          refine lv_iadd hx hb dL_law_1124 ?_
          obtain ⟨g_375, hw⟩ := hw
          refine va_sld hx hb hXs hbl hbA hS g_375 dL_law_1125 ?_
          refine lv_aload_n hx hb dL_law_1126 rfl (lv_at hl 3 rfl) ?_
          refine k_I (rn_SX (As := [.ref (ad9 4 0), .int (xs (x4 + 1).toNatClampNeg), .ref (ad9 60 0)]) (rest := []) ⟨hx, hb, hml, hown, hts⟩ hT hW hS hl (c_L_doubles l hlt E base M ad9 (xs (x4 + 1).toNatClampNeg) _ hw) cy_L_doubles k_444 k_445 rfl rfl ⟨(Nat.le_of_ble_eq_true rfl), (Nat.le_of_ble_eq_true rfl)⟩ rfl rfl (Nat.le_of_ble_eq_true rfl) dL_law_1127 ⟨by show _ + 1 ≤ 601024; omega, by show _ + 6 ≤ 7293034; omega⟩) hS kx_no (fun r_379 M_377 ad_378 H locs hP hW hS => ?_)
          obtain ⟨hw, rfl⟩ := hP
          refine lv_istore (lv' := [(5, .int r_379), (0, .ref b), (1, .ref (ad9 4 0)), (2, .ref (ad9 5 0)), (3, .ref (ad9 60 0)), (4, .int x4)]) hx hb dL_law_1130 hl (by decide) rfl (fun ls hl => ?_)
          refine lv_aload_n hx hb dL_law_1132 rfl (lv_at hl 3 rfl) ?_
          refine lv_aload_n hx hb dL_law_1133 rfl (lv_at hl 1 rfl) ?_
          refine lv_iload hx hb dL_law_1134 (lv_at hl 5 rfl) ?_
          refine lv_iconst (v := 1) hx hb dL_law_1136 (by decide) ?_
          refine lv_iadd hx hb dL_law_1137 ?_
          obtain ⟨g_380, hw⟩ := hw
          refine va_sld hx hb hXs hbl hbA hS g_380 dL_law_1138 ?_
          obtain ⟨g_381, hw⟩ := hw
          refine k_I (rn_V (As := [.int (xs (x4 + 1).toNatClampNeg)]) (rest := []) (κ := 5) (i := 0) ⟨hx, hb, hml, hown, hts⟩ hT hW hS hl (c_X5_doubles l E base M_377 ad9 (xs (x4 + 1).toNatClampNeg) _ hw) cy_X5_doubles k_446 k_447 k_448 g_381 (by decide) rfl rfl rfl rfl ⟨(Nat.le_of_ble_eq_true rfl), (Nat.le_of_ble_eq_true rfl)⟩ rfl rfl (Nat.le_of_ble_eq_true rfl) dL_law_1139 ⟨by show _ + 0 ≤ 601024; omega, by show _ + 0 ≤ 7293034; omega⟩) hS kx_no (fun r_385 M_383 ad_384 H locs hP hW hS => ?_)
          obtain ⟨hw, rfl⟩ := hP
          refine lv_istore (lv' := [(6, .int r_385), (5, .int r_379), (0, .ref b), (1, .ref (ad9 4 0)), (2, .ref (ad9 5 0)), (3, .ref (ad9 60 0)), (4, .int x4)]) hx hb dL_law_1142 hl (by decide) rfl (fun ls hl => ?_)
          refine lv_aload_n hx hb dL_law_1144 rfl (lv_at hl 4 rfl) ?_
          obtain ⟨g_386, hw⟩ := hw
          refine k_I (rn_V (As := []) (rest := []) (κ := 5) (i := 0) ⟨hx, hb, hml, hown, hts⟩ hT hW hS hl (c_X5_thrown l E base M_383 ad9 _ hw) cy_X5_thrown k_364 k_365 k_366 g_386 (by decide) rfl rfl rfl rfl ⟨(Nat.le_of_ble_eq_true rfl), (Nat.le_of_ble_eq_true rfl)⟩ rfl rfl (Nat.le_of_ble_eq_true rfl) dL_law_1145 ⟨by show _ + 0 ≤ 601024; omega, by show _ + 0 ≤ 7293034; omega⟩) hS kx_no (fun r_390 M_388 ad_389 H locs hP hW hS => ?_)
          obtain ⟨hw, rfl⟩ := hP
          refine lv_iload hx hb dL_law_1148 (lv_at hl 1 rfl) ?_
          refine lv_icmp_eq (tgt := 1155) hx hb dL_law_1150 (by decide) (fun c_391 => ?_) (fun c_391 => ?_)
          · have hw := hw.1 c_391
            refine lv_iload hx hb dL_law_1155 (lv_at hl 1 rfl) ?_
            refine lv_if_ne (tgt := 1172) hx hb dL_law_1157 (by decide) (fun c_392 => ?_) (fun c_392 => ?_)
            · have hw := hw.2 c_392
              refine W.widen (k := 40 + 16 * it + 1) (n := 2000 + 1200 * it + 6) (by omega) (by omega) ?_
              exact L_1172 k23 K23 ad9 M_388 it x4 hw H locs ls hW hS (lv_sub hl [2, 3, 4, 5, 6] rfl)
            · have hw := hw.1 c_392
              refine lv_aload_n hx hb dL_law_1160 rfl (lv_at hl 5 rfl) ?_
              refine lv_iconst (v := 0) hx hb dL_law_1161 (by decide) ?_
              obtain ⟨g_393, hw⟩ := hw
              obtain ⟨g_394, hw⟩ := hw
              refine r_lald hx hb hT.1 hW (by decide) rfl (fun _ => rfl) 1 rfl g_394 g_393 dL_law_1162 ?_
              refine lv_iload hx hb dL_law_1163 (lv_at hl 0 rfl) ?_
              refine lv_i2l hx hb dL_law_1165 rfl ?_
              refine W.lcmp hx hb dL_law_1166 ?_
              refine lv_if_eq (tgt := 1172) hx hb dL_law_1167 (by decide) (fun c_395 => ?_) (fun c_395 => ?_)
              · have hw := hw.1 c_395
                refine W.widen (k := 40 + 16 * it + 1) (n := 2000 + 1200 * it + 6) (by omega) (by omega) ?_
                exact L_1172 k23 K23 ad9 M_388 it x4 hw H locs ls hW hS (lv_sub hl [2, 3, 4, 5, 6] rfl)
              · have hw := hw.2 c_395
                refine lv_iconst (v := 0) hx hb dL_law_1170 (by decide) ?_
                rw [← hQQ]
                exact law_end hx hb hr hlocks hbase (hQ _ _ hw) hS (by omega) (by omega) dL_law_1171
          · have hw := hw.2 c_391
            refine lv_iconst (v := 0) hx hb dL_law_1153 (by decide) ?_
            rw [← hQQ]
            exact law_end hx hb hr hlocks hbase (hQ _ _ hw) hS (by omega) (by omega) dL_law_1154
        have hw := hw.2 h16
        by_cases h17 : v_28 = 17
        · have hw := hw.1 h17
          refine lv_tableIn (tgt := 1175) hx hb dL_law_39 (by rw [h17]; decide) (by rw [h17]; decide) (by rw [h17]; rfl) (by decide) ?_
          refine lv_aload_n hx hb dL_law_1175 rfl (lv_at hl 1 rfl) ?_
          refine lv_aload_n hx hb dL_law_1176 rfl (lv_at hl 0 rfl) ?_
          refine lv_iload hx hb dL_law_1177 (lv_at hl 4 rfl) ?_
          refine lv_iconst (v := 1) hx hb dL_law_1179 (by decide) ?_
          refine lv_iadd hx hb dL_law_1180 ?_
          obtain ⟨g_396, hw⟩ := hw
          refine va_sld hx hb hXs hbl hbA hS g_396 dL_law_1181 ?_
          refine lv_aload_n hx hb dL_law_1182 rfl (lv_at hl 0 rfl) ?_
          refine lv_iload hx hb dL_law_1183 (lv_at hl 4 rfl) ?_
          refine lv_iconst (v := 2) hx hb dL_law_1185 (by decide) ?_
          refine lv_iadd hx hb dL_law_1186 ?_
          obtain ⟨g_397, hw⟩ := hw
          refine va_sld hx hb hXs hbl hbA hS g_397 dL_law_1187 ?_
          refine lv_aload_n hx hb dL_law_1188 rfl (lv_at hl 3 rfl) ?_
          refine k_I (rn_SX (As := [.ref (ad9 4 0), .int (xs (x4 + 1).toNatClampNeg), .int (xs (x4 + 2).toNatClampNeg), .ref (ad9 60 0)]) (rest := []) ⟨hx, hb, hml, hown, hts⟩ hT hW hS hl (c_L_strikes l hlt E base M ad9 (xs (x4 + 1).toNatClampNeg) (xs (x4 + 2).toNatClampNeg) _ hw) cy_L_strikes k_449 k_450 rfl rfl ⟨(Nat.le_of_ble_eq_true rfl), (Nat.le_of_ble_eq_true rfl)⟩ rfl rfl (Nat.le_of_ble_eq_true rfl) dL_law_1189 ⟨by show _ + 2 ≤ 601024; omega, by show _ + 12 ≤ 7293034; omega⟩) hS kx_no (fun r_401 M_399 ad_400 H locs hP hW hS => ?_)
          obtain ⟨hw, rfl⟩ := hP
          refine lv_istore (lv' := [(5, .int r_401), (0, .ref b), (1, .ref (ad9 4 0)), (2, .ref (ad9 5 0)), (3, .ref (ad9 60 0)), (4, .int x4)]) hx hb dL_law_1192 hl (by decide) rfl (fun ls hl => ?_)
          refine lv_aload_n hx hb dL_law_1194 rfl (lv_at hl 3 rfl) ?_
          refine lv_aload_n hx hb dL_law_1195 rfl (lv_at hl 1 rfl) ?_
          refine lv_iload hx hb dL_law_1196 (lv_at hl 5 rfl) ?_
          refine lv_iconst (v := 1) hx hb dL_law_1198 (by decide) ?_
          refine lv_iadd hx hb dL_law_1199 ?_
          obtain ⟨g_402, hw⟩ := hw
          refine va_sld hx hb hXs hbl hbA hS g_402 dL_law_1200 ?_
          refine lv_aload_n hx hb dL_law_1201 rfl (lv_at hl 1 rfl) ?_
          refine lv_iload hx hb dL_law_1202 (lv_at hl 5 rfl) ?_
          refine lv_iconst (v := 2) hx hb dL_law_1204 (by decide) ?_
          refine lv_iadd hx hb dL_law_1205 ?_
          obtain ⟨g_403, hw⟩ := hw
          refine va_sld hx hb hXs hbl hbA hS g_403 dL_law_1206 ?_
          obtain ⟨g_404, hw⟩ := hw
          refine k_I (rn_V (As := [.int (xs (x4 + 1).toNatClampNeg), .int (xs (x4 + 2).toNatClampNeg)]) (rest := []) (κ := 5) (i := 0) ⟨hx, hb, hml, hown, hts⟩ hT hW hS hl (c_X5_strikes l E base M_399 ad9 (xs (x4 + 1).toNatClampNeg) (xs (x4 + 2).toNatClampNeg) _ hw) cy_X5_strikes k_451 k_452 k_453 g_404 (by decide) rfl rfl rfl rfl ⟨(Nat.le_of_ble_eq_true rfl), (Nat.le_of_ble_eq_true rfl)⟩ rfl rfl (Nat.le_of_ble_eq_true rfl) dL_law_1207 ⟨by show _ + 0 ≤ 601024; omega, by show _ + 0 ≤ 7293034; omega⟩) hS kx_no (fun r_408 M_406 ad_407 H locs hP hW hS => ?_)
          obtain ⟨hw, rfl⟩ := hP
          refine lv_istore (lv' := [(6, .int r_408), (5, .int r_401), (0, .ref b), (1, .ref (ad9 4 0)), (2, .ref (ad9 5 0)), (3, .ref (ad9 60 0)), (4, .int x4)]) hx hb dL_law_1210 hl (by decide) rfl (fun ls hl => ?_)
          refine lv_aload_n hx hb dL_law_1212 rfl (lv_at hl 4 rfl) ?_
          obtain ⟨g_409, hw⟩ := hw
          refine k_I (rn_V (As := []) (rest := []) (κ := 5) (i := 0) ⟨hx, hb, hml, hown, hts⟩ hT hW hS hl (c_X5_thrown l E base M_406 ad9 _ hw) cy_X5_thrown k_364 k_365 k_366 g_409 (by decide) rfl rfl rfl rfl ⟨(Nat.le_of_ble_eq_true rfl), (Nat.le_of_ble_eq_true rfl)⟩ rfl rfl (Nat.le_of_ble_eq_true rfl) dL_law_1213 ⟨by show _ + 0 ≤ 601024; omega, by show _ + 0 ≤ 7293034; omega⟩) hS kx_no (fun r_413 M_411 ad_412 H locs hP hW hS => ?_)
          obtain ⟨hw, rfl⟩ := hP
          refine lv_iload hx hb dL_law_1216 (lv_at hl 1 rfl) ?_
          refine lv_icmp_eq (tgt := 1223) hx hb dL_law_1218 (by decide) (fun c_414 => ?_) (fun c_414 => ?_)
          · have hw := hw.1 c_414
            refine lv_iload hx hb dL_law_1223 (lv_at hl 1 rfl) ?_
            refine lv_if_ne (tgt := 1240) hx hb dL_law_1225 (by decide) (fun c_415 => ?_) (fun c_415 => ?_)
            · have hw := hw.2 c_415
              refine W.widen (k := 40 + 16 * it + 2) (n := 2000 + 1200 * it + 12) (by omega) (by omega) ?_
              exact L_1240 k23 K23 ad9 M_411 it x4 hw H locs ls hW hS (lv_sub hl [2, 3, 4, 5, 6] rfl)
            · have hw := hw.1 c_415
              refine lv_aload_n hx hb dL_law_1228 rfl (lv_at hl 5 rfl) ?_
              refine lv_iconst (v := 0) hx hb dL_law_1229 (by decide) ?_
              obtain ⟨g_416, hw⟩ := hw
              obtain ⟨g_417, hw⟩ := hw
              refine r_lald hx hb hT.1 hW (by decide) rfl (fun _ => rfl) 1 rfl g_417 g_416 dL_law_1230 ?_
              refine lv_iload hx hb dL_law_1231 (lv_at hl 0 rfl) ?_
              refine lv_i2l hx hb dL_law_1233 rfl ?_
              refine W.lcmp hx hb dL_law_1234 ?_
              refine lv_if_eq (tgt := 1240) hx hb dL_law_1235 (by decide) (fun c_418 => ?_) (fun c_418 => ?_)
              · have hw := hw.1 c_418
                refine W.widen (k := 40 + 16 * it + 2) (n := 2000 + 1200 * it + 12) (by omega) (by omega) ?_
                exact L_1240 k23 K23 ad9 M_411 it x4 hw H locs ls hW hS (lv_sub hl [2, 3, 4, 5, 6] rfl)
              · have hw := hw.2 c_418
                refine lv_iconst (v := 0) hx hb dL_law_1238 (by decide) ?_
                rw [← hQQ]
                exact law_end hx hb hr hlocks hbase (hQ _ _ hw) hS (by omega) (by omega) dL_law_1239
          · have hw := hw.2 c_414
            refine lv_iconst (v := 0) hx hb dL_law_1221 (by decide) ?_
            rw [← hQQ]
            exact law_end hx hb hr hlocks hbase (hQ _ _ hw) hS (by omega) (by omega) dL_law_1222
        have hw := hw.2 h17
        by_cases h18 : v_28 = 18
        · have hw := hw.1 h18
          refine lv_tableIn (tgt := 1243) hx hb dL_law_39 (by rw [h18]; decide) (by rw [h18]; decide) (by rw [h18]; rfl) (by decide) ?_
          refine lv_aload_n hx hb dL_law_1243 rfl (lv_at hl 1 rfl) ?_
          refine lv_aload_n hx hb dL_law_1244 rfl (lv_at hl 0 rfl) ?_
          refine lv_iload hx hb dL_law_1245 (lv_at hl 4 rfl) ?_
          refine lv_iconst (v := 1) hx hb dL_law_1247 (by decide) ?_
          refine lv_iadd hx hb dL_law_1248 ?_
          obtain ⟨g_419, hw⟩ := hw
          refine va_sld hx hb hXs hbl hbA hS g_419 dL_law_1249 ?_
          refine lv_aload_n hx hb dL_law_1250 rfl (lv_at hl 0 rfl) ?_
          refine lv_iload hx hb dL_law_1251 (lv_at hl 4 rfl) ?_
          refine lv_iconst (v := 2) hx hb dL_law_1253 (by decide) ?_
          refine lv_iadd hx hb dL_law_1254 ?_
          obtain ⟨g_420, hw⟩ := hw
          refine va_sld hx hb hXs hbl hbA hS g_420 dL_law_1255 ?_
          refine lv_aload_n hx hb dL_law_1256 rfl (lv_at hl 3 rfl) ?_
          refine k_I (rn_SX (As := [.ref (ad9 4 0), .int (xs (x4 + 1).toNatClampNeg), .int (xs (x4 + 2).toNatClampNeg), .ref (ad9 60 0)]) (rest := []) ⟨hx, hb, hml, hown, hts⟩ hT hW hS hl (c_L_isBanned l hlt E base M ad9 (xs (x4 + 1).toNatClampNeg) (xs (x4 + 2).toNatClampNeg) _ hw) cy_L_isBanned k_454 k_455 rfl rfl ⟨(Nat.le_of_ble_eq_true rfl), (Nat.le_of_ble_eq_true rfl)⟩ rfl rfl (Nat.le_of_ble_eq_true rfl) dL_law_1257 ⟨by show _ + 2 ≤ 601024; omega, by show _ + 12 ≤ 7293034; omega⟩) hS kx_no (fun r_424 M_422 ad_423 H locs hP hW hS => ?_)
          obtain ⟨hw, rfl⟩ := hP
          refine lv_istore (lv' := [(5, .int r_424), (0, .ref b), (1, .ref (ad9 4 0)), (2, .ref (ad9 5 0)), (3, .ref (ad9 60 0)), (4, .int x4)]) hx hb dL_law_1260 hl (by decide) rfl (fun ls hl => ?_)
          refine lv_aload_n hx hb dL_law_1262 rfl (lv_at hl 3 rfl) ?_
          refine lv_aload_n hx hb dL_law_1263 rfl (lv_at hl 1 rfl) ?_
          refine lv_iload hx hb dL_law_1264 (lv_at hl 5 rfl) ?_
          refine lv_iconst (v := 1) hx hb dL_law_1266 (by decide) ?_
          refine lv_iadd hx hb dL_law_1267 ?_
          obtain ⟨g_425, hw⟩ := hw
          refine va_sld hx hb hXs hbl hbA hS g_425 dL_law_1268 ?_
          refine lv_aload_n hx hb dL_law_1269 rfl (lv_at hl 1 rfl) ?_
          refine lv_iload hx hb dL_law_1270 (lv_at hl 5 rfl) ?_
          refine lv_iconst (v := 2) hx hb dL_law_1272 (by decide) ?_
          refine lv_iadd hx hb dL_law_1273 ?_
          obtain ⟨g_426, hw⟩ := hw
          refine va_sld hx hb hXs hbl hbA hS g_426 dL_law_1274 ?_
          obtain ⟨g_427, hw⟩ := hw
          refine k_I (rn_V (As := [.int (xs (x4 + 1).toNatClampNeg), .int (xs (x4 + 2).toNatClampNeg)]) (rest := []) (κ := 5) (i := 0) ⟨hx, hb, hml, hown, hts⟩ hT hW hS hl (c_X5_isBanned l E base M_422 ad9 (xs (x4 + 1).toNatClampNeg) (xs (x4 + 2).toNatClampNeg) _ hw) cy_X5_isBanned k_456 k_457 k_458 g_427 (by decide) rfl rfl rfl rfl ⟨(Nat.le_of_ble_eq_true rfl), (Nat.le_of_ble_eq_true rfl)⟩ rfl rfl (Nat.le_of_ble_eq_true rfl) dL_law_1275 ⟨by show _ + 0 ≤ 601024; omega, by show _ + 0 ≤ 7293034; omega⟩) hS kx_no (fun r_431 M_429 ad_430 H locs hP hW hS => ?_)
          obtain ⟨hw, rfl⟩ := hP
          refine lv_istore (lv' := [(6, .int r_431), (5, .int r_424), (0, .ref b), (1, .ref (ad9 4 0)), (2, .ref (ad9 5 0)), (3, .ref (ad9 60 0)), (4, .int x4)]) hx hb dL_law_1278 hl (by decide) rfl (fun ls hl => ?_)
          refine lv_aload_n hx hb dL_law_1280 rfl (lv_at hl 4 rfl) ?_
          obtain ⟨g_432, hw⟩ := hw
          refine k_I (rn_V (As := []) (rest := []) (κ := 5) (i := 0) ⟨hx, hb, hml, hown, hts⟩ hT hW hS hl (c_X5_thrown l E base M_429 ad9 _ hw) cy_X5_thrown k_364 k_365 k_366 g_432 (by decide) rfl rfl rfl rfl ⟨(Nat.le_of_ble_eq_true rfl), (Nat.le_of_ble_eq_true rfl)⟩ rfl rfl (Nat.le_of_ble_eq_true rfl) dL_law_1281 ⟨by show _ + 0 ≤ 601024; omega, by show _ + 0 ≤ 7293034; omega⟩) hS kx_no (fun r_436 M_434 ad_435 H locs hP hW hS => ?_)
          obtain ⟨hw, rfl⟩ := hP
          refine lv_iload hx hb dL_law_1284 (lv_at hl 1 rfl) ?_
          refine lv_icmp_eq (tgt := 1291) hx hb dL_law_1286 (by decide) (fun c_437 => ?_) (fun c_437 => ?_)
          · have hw := hw.1 c_437
            refine lv_iload hx hb dL_law_1291 (lv_at hl 1 rfl) ?_
            refine lv_if_ne (tgt := 1315) hx hb dL_law_1293 (by decide) (fun c_438 => ?_) (fun c_438 => ?_)
            · have hw := hw.2 c_438
              refine W.widen (k := 40 + 16 * it + 2) (n := 2000 + 1200 * it + 12) (by omega) (by omega) ?_
              exact L_1315 k23 K23 ad9 M_434 it x4 hw H locs ls hW hS (lv_sub hl [2, 3, 4, 5, 6] rfl)
            · have hw := hw.1 c_438
              refine lv_aload_n hx hb dL_law_1296 rfl (lv_at hl 5 rfl) ?_
              refine lv_iconst (v := 0) hx hb dL_law_1297 (by decide) ?_
              obtain ⟨g_439, hw⟩ := hw
              obtain ⟨g_440, hw⟩ := hw
              refine r_lald hx hb hT.1 hW (by decide) rfl (fun _ => rfl) 1 rfl g_440 g_439 dL_law_1298 ?_
              refine lv_iload hx hb dL_law_1299 (lv_at hl 0 rfl) ?_
              refine lv_if_eq (tgt := 1308) hx hb dL_law_1301 (by decide) (fun c_441 => ?_) (fun c_441 => ?_)
              · have hw := hw.1 c_441
                refine lv_lconst (v := 0) hx hb dL_law_1308 (by decide) ?_
                refine W.widen (k := 40 + 16 * it + 2) (n := 2000 + 1200 * it + 12) (by omega) (by omega) ?_
                exact L_1309 k23 K23 ad9 M_434 it x4 0 (mL M_434 60 0 ((0 : Int32).toNatClampNeg)) hw H locs ls hW hS (lv_sub hl [2, 3, 4, 5, 6] rfl)
              · have hw := hw.2 c_441
                refine lv_lconst (v := 1) hx hb dL_law_1304 (by decide) ?_
                refine lv_goto (tgt := 1309) hx hb dL_law_1305 (by decide) ?_
                refine W.widen (k := 40 + 16 * it + 2) (n := 2000 + 1200 * it + 12) (by omega) (by omega) ?_
                exact L_1309 k23 K23 ad9 M_434 it x4 1 (mL M_434 60 0 ((0 : Int32).toNatClampNeg)) hw H locs ls hW hS (lv_sub hl [2, 3, 4, 5, 6] rfl)
          · have hw := hw.2 c_437
            refine lv_iconst (v := 0) hx hb dL_law_1289 (by decide) ?_
            rw [← hQQ]
            exact law_end hx hb hr hlocks hbase (hQ _ _ hw) hS (by omega) (by omega) dL_law_1290
        have hw := hw.2 h18
        refine lv_tableOut (tgt := 1318) hx hb dL_law_39 (sw_out h0 h1 h2 h3 h4 h5 h6 h7 h8 h9 h10 h11 h12 h13 h14 h15 h16 h17 h18) (by decide) ?_
        refine W.widen (k := 40 + 16 * it + 16) (n := 2000 + 1200 * it + 1200) (by omega) (by omega) ?_
        exact L_1318 k23 K23 ad9 M it x4 hw H locs ls hW hS (lv_sub hl [0, 1, 2, 3, 4] rfl)
  unfold w_L_law at hw
  obtain ⟨H, hH⟩ : ∃ z, z = s.heap := ⟨_, rfl⟩
  obtain ⟨locs, hlo⟩ : ∃ z : List Loc, z = [] := ⟨_, rfl⟩
  have hS : va_S (fun q : Nat => base ≤ q) s.heap H locs := by rw [hlo, hH]; exact hS
  have hW : Wd E base M ad H := by rw [hH]; exact hW
  rw [show W p l e room_1 s m #[Value.ref b] below meth c s.heap [] 0 0 QQ (F0 m 0 ls []) = W p l e room_1 s m #[Value.ref b] below meth c H locs 0 0 QQ (F0 m 0 ls []) by rw [hlo, hH]]
  obtain ⟨g_1, hw⟩ := hw
  refine r_new (dv := fun _ => .null) hx hb hts hown (hts _ k_349) (hts _ k_350) (hts _ k_351) hT.1 hW hS hT.2.2.2.2.2.2.2 clX4 tyX4 tyX4_ok (by decide) (Nat.le_of_ble_eq_true rfl) (Nat.le_of_ble_eq_true rfl) g_1 dL_law_0 (fun q_2 M_3 ad_4 H hM_3 had_4 hW hS => ?_)
  have hw := hw M_3 hM_3
  have g_5 : mE M_3 4 0 = true := mE_wN1 hM_3
  refine lv_dup hx hb dL_law_3 rfl ?_
  refine k_V (rn_I (As := []) (rest := [.ref (ad_4 4 0)]) (κ := 4) (i := 0) ⟨hx, hb, hml, hown, hts⟩ hT hW hS hl (c_X4_init l E base M_3 ad_4 _ hw) cy_X4_init rfl k_352 k_353 rfl rfl ⟨(Nat.le_of_ble_eq_true rfl), (Nat.le_of_ble_eq_true rfl)⟩ rfl rfl (Nat.le_of_ble_eq_true rfl) dL_law_4 ⟨(Nat.le_of_ble_eq_true rfl), (Nat.le_of_ble_eq_true rfl)⟩) hS kx_no (fun M_7 ad_8 H locs hP hW hS => ?_)
  obtain ⟨hw, hag⟩ := hP
  have hag_10 := hag
  rw [hag_10 4 0 (by rfl)] at ⊢
  refine lv_astore_n (lv' := [(1, .ref (ad_8 4 0)), (0, .ref b)]) hx hb dL_law_7 rfl hl (by decide) rfl (fun ls hl => ?_)
  obtain ⟨g_11, hw⟩ := hw
  refine r_new (dv := fun _ => .null) hx hb hts hown (hts _ k_354) (hts _ k_355) (hts _ k_356) hT.1 hW hS hT.2.2.2.2.2.2.2 clX5 tyX5 tyX5_ok (by decide) (Nat.le_of_ble_eq_true rfl) (Nat.le_of_ble_eq_true rfl) g_11 dL_law_8 (fun q_12 M_13 ad_14 H hM_13 had_14 hW hS => ?_)
  have hw := hw M_13 hM_13
  rw [upA_ne (a := 4) (b := 0) had_14 (by decide)] at hl
  have g_15 : mE M_13 5 0 = true := mE_wN1 hM_13
  refine lv_dup hx hb dL_law_11 rfl ?_
  refine k_V (rn_I (As := []) (rest := [.ref (ad_14 5 0)]) (κ := 5) (i := 0) ⟨hx, hb, hml, hown, hts⟩ hT hW hS hl (c_X5_init l E base M_13 ad_14 _ hw) cy_X5_init rfl k_357 k_358 rfl rfl ⟨(Nat.le_of_ble_eq_true rfl), (Nat.le_of_ble_eq_true rfl)⟩ rfl rfl (Nat.le_of_ble_eq_true rfl) dL_law_12 ⟨(Nat.le_of_ble_eq_true rfl), (Nat.le_of_ble_eq_true rfl)⟩) hS kx_no (fun M_17 ad_18 H locs hP hW hS => ?_)
  obtain ⟨hw, hag⟩ := hP
  have hag_20 := hag
  rw [hag_20 4 0 (by rfl)] at hl
  rw [hag_20 5 0 (by rfl)] at ⊢
  refine lv_astore_n (lv' := [(2, .ref (ad_18 5 0)), (1, .ref (ad_18 4 0)), (0, .ref b)]) hx hb dL_law_15 rfl hl (by decide) rfl (fun ls hl => ?_)
  refine lv_iconst (v := 1) hx hb dL_law_16 (by decide) ?_
  obtain ⟨g_21, hw⟩ := hw
  refine r_newa hx hb .long (hts _ k_56) hT.1 hW hS hT.2.2.2.2.2.2.2 (by decide) rfl rfl (fun h9 => h9) _ rfl (fun _ => Or.inr ⟨rfl, rfl⟩) 1 rfl (by decide) (by decide) (Nat.le_of_ble_eq_true rfl) (Nat.le_of_ble_eq_true rfl) (Nat.le_of_ble_eq_true rfl) g_21 dL_law_17 (fun q_22 M_23 ad_24 H hM_23 had_24 hW hS => ?_)
  have hw := hw M_23 hM_23
  rw [upA_ne (a := 4) (b := 0) had_24 (by decide)] at hl
  rw [upA_ne (a := 5) (b := 0) had_24 (by decide)] at hl
  have g_25 : mE M_23 60 0 = true := mE_wN1 hM_23
  refine lv_astore_n (lv' := [(3, .ref (ad_24 60 0)), (2, .ref (ad_24 5 0)), (1, .ref (ad_24 4 0)), (0, .ref b)]) hx hb dL_law_19 rfl hl (by decide) rfl (fun ls hl => ?_)
  refine lv_iconst (v := 0) hx hb dL_law_20 (by decide) ?_
  refine lv_istore (lv' := [(4, .int 0), (3, .ref (ad_24 60 0)), (2, .ref (ad_24 5 0)), (1, .ref (ad_24 4 0)), (0, .ref b)]) hx hb dL_law_21 hl (by decide) rfl (fun ls hl => ?_)
  refine W.widen (k := 40 + 16 * 0 + 0) (n := 2000 + 1200 * 0 + 0) (by omega) (by omega) ?_
  obtain ⟨n9, hw⟩ := hw
  exact L_23 n9 ad_24 M_23 0 0 hw H locs ls hW hS (lv_sub hl [4, 3, 2, 1, 0] rfl)
