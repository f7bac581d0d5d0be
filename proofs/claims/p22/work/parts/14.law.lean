set_option maxHeartbeats 40000000 in
set_option maxRecDepth 100000 in
theorem law_walk {p : Program} {e : Env} {s : State} {m : MethodId} {below : List Frame} {meth : Method} {c : Code} (l : Launch) (hlt : l.stackTraces = false) (E : GE) (base : Nat) (hbase : base = s.heap.size) (hx : p.tables.exec = Jvm.exec) (hb : c.code = cL_law) (hr : meth.sig.returnType = ret) (hml : c.maxLocals = 8) (hown : s.vm.findClass RL = some m.cls) (hts : ∀ w ∈ WSG, w.before #[Value.ref (sB E)] s = true) (hlocks : meth.locks = false) (hT : TB E base s s.heap) (M : Mem) (ad : AD) (hW : Wd E base M ad s.heap) (Q : Int32 → Mem → Prop) (X : Nat → Mem → Prop) (hX : ∀ k M1, ¬ X k M1) (hQ : ∀ r M1, Q r M1 → r = 1) (hw : w_L_law (sL E) (sX E) M Q X) (ls : Array Slot) (hl : lv_has ls 8 [(0, .ref (sB E))]) : W p l e room_1 s m #[Value.ref (sB E)] below meth c s.heap [] 0 0 (lw_Z below #[Value.ref (sB E)] s) (F0 m 0 ls []) := by
  have hXs := hT.2.2.2.2.2.2.1.1
  have hbl : sB E < s.heap.size := Nat.lt_of_lt_of_le hT.2.2.2.2.2.2.1.2 hT.2.2.2.2.2.2.2
  have hbA : ¬ (fun q : Nat => base ≤ q) (sB E) := Nat.not_le.mpr hT.2.2.2.2.2.2.1.2
  have hS : va_S (fun q : Nat => base ≤ q) s.heap s.heap [] := va_S.rf
  obtain ⟨QQ, hQQ⟩ : ∃ z, lw_Z below #[Value.ref (sB E)] s = z := ⟨_, rfl⟩
  rw [hQQ]
  have L_179 : ∀ (k85 : Mem → Nat → Int32 → Int32 → Int32 → Prop) (K85 : ∀ (ad9 : AD) (M : Mem) (it : Nat) (x3 : Int32) (x4 : Int32) (x5 : Int32), k85 M it x3 x4 x5 → WL p l e room_1 s m #[Value.ref (sB E)] below meth c QQ E base 8 M ad9 85 [(0, .ref (sB E)), (1, .ref (ad9 4 0)), (2, .ref (ad9 61 0)), (3, .int x3), (4, .int x4), (5, .int x5)] [] (3402 + 3402 * it + 0) (20412 + 20412 * it + 0)) (ad9 : AD) (M : Mem) (it : Nat) (x4 : Int32) (x5 : Int32) (s0 : Int32), b_L_law_179 k85 (sL E) (sX E) Q X M it x4 x5 s0 → WL p l e room_1 s m #[Value.ref (sB E)] below meth c QQ E base 8 M ad9 179 [(0, .ref (sB E)), (1, .ref (ad9 4 0)), (2, .ref (ad9 61 0)), (4, .int x4), (5, .int x5)] [.int s0] (3402 + 3402 * it + 3402) (20412 + 20412 * it + 20412) := by
    intro k85 K85 ad9 M it x4 x5 s0 hw H locs ls hW hS hl
    unfold b_L_law_179 at hw
    obtain ⟨hit, hw⟩ := hw
    refine lv_istore_n (lv' := [(3, .int s0), (0, .ref (sB E)), (1, .ref (ad9 4 0)), (2, .ref (ad9 61 0)), (4, .int x4), (5, .int x5)]) hx hb dL_law_179 rfl hl (by decide) rfl (fun ls hl => ?_)
    obtain ⟨v_44, ev_44⟩ : ∃ y : Int32, y = x5 + 1 := ⟨_, rfl⟩
    have hw := hw v_44 ev_44
    refine lv_iinc (v := v_44) (lv' := [(5, .int v_44), (3, .int s0), (0, .ref (sB E)), (1, .ref (ad9 4 0)), (2, .ref (ad9 61 0)), (4, .int x4)]) hx hb dL_law_180 hl (k := 5) rfl (by rw [ev_44]; rfl) (by decide) rfl (fun ls hl => ?_)
    refine lv_goto (tgt := 85) hx hb dL_law_183 (by decide) ?_
    refine W.widen (k := 3402 + 3402 * (it + 1) + 0) (n := 20412 + 20412 * (it + 1) + 0) (by omega) (by omega) ?_
    exact K85 ad9 M (it + 1) s0 x4 v_44 hw H locs ls hW hS (lv_sub hl [2, 3, 4, 1, 5, 0] rfl)
  have L_178 : ∀ (k85 : Mem → Nat → Int32 → Int32 → Int32 → Prop) (K85 : ∀ (ad9 : AD) (M : Mem) (it : Nat) (x3 : Int32) (x4 : Int32) (x5 : Int32), k85 M it x3 x4 x5 → WL p l e room_1 s m #[Value.ref (sB E)] below meth c QQ E base 8 M ad9 85 [(0, .ref (sB E)), (1, .ref (ad9 4 0)), (2, .ref (ad9 61 0)), (3, .int x3), (4, .int x4), (5, .int x5)] [] (3402 + 3402 * it + 0) (20412 + 20412 * it + 0)) (ad9 : AD) (M : Mem) (it : Nat) (x4 : Int32) (x5 : Int32), b_L_law_178 k85 (sL E) (sX E) Q X M it x4 x5 → WL p l e room_1 s m #[Value.ref (sB E)] below meth c QQ E base 8 M ad9 178 [(0, .ref (sB E)), (1, .ref (ad9 4 0)), (2, .ref (ad9 61 0)), (4, .int x4), (5, .int x5)] [] (3402 + 3402 * it + 3402) (20412 + 20412 * it + 20412) := by
    intro k85 K85 ad9 M it x4 x5 hw H locs ls hW hS hl
    unfold b_L_law_178 at hw
    obtain ⟨hit, hw⟩ := hw
    refine lv_iconst (v := 0) hx hb dL_law_178 (by decide) ?_
    refine W.widen (k := 3402 + 3402 * it + 3402) (n := 20412 + 20412 * it + 20412) (by omega) (by omega) ?_
    exact L_179 k85 K85 ad9 M it x4 x5 0 hw H locs ls hW hS (lv_sub hl [0, 1, 2, 3, 4] rfl)
  have L_174 : ∀ (k85 : Mem → Nat → Int32 → Int32 → Int32 → Prop) (K85 : ∀ (ad9 : AD) (M : Mem) (it : Nat) (x3 : Int32) (x4 : Int32) (x5 : Int32), k85 M it x3 x4 x5 → WL p l e room_1 s m #[Value.ref (sB E)] below meth c QQ E base 8 M ad9 85 [(0, .ref (sB E)), (1, .ref (ad9 4 0)), (2, .ref (ad9 61 0)), (3, .int x3), (4, .int x4), (5, .int x5)] [] (3402 + 3402 * it + 0) (20412 + 20412 * it + 0)) (ad9 : AD) (M : Mem) (it : Nat) (x4 : Int32) (x5 : Int32), b_L_law_174 k85 (sL E) (sX E) Q X M it x4 x5 → WL p l e room_1 s m #[Value.ref (sB E)] below meth c QQ E base 8 M ad9 174 [(0, .ref (sB E)), (1, .ref (ad9 4 0)), (2, .ref (ad9 61 0)), (4, .int x4), (5, .int x5)] [] (3402 + 3402 * it + 3402) (20412 + 20412 * it + 20412) := by
    intro k85 K85 ad9 M it x4 x5 hw H locs ls hW hS hl
    unfold b_L_law_174 at hw
    obtain ⟨hit, hw⟩ := hw
    refine lv_iconst (v := 1) hx hb dL_law_174 (by decide) ?_
    refine lv_goto (tgt := 179) hx hb dL_law_175 (by decide) ?_
    refine W.widen (k := 3402 + 3402 * it + 3402) (n := 20412 + 20412 * it + 20412) (by omega) (by omega) ?_
    exact L_179 k85 K85 ad9 M it x4 x5 1 hw H locs ls hW hS (lv_sub hl [0, 1, 2, 3, 4] rfl)
  have L_85 : ∀ (n : Nat) (ad9 : AD) (M : Mem) (it : Nat) (x3 : Int32) (x4 : Int32) (x5 : Int32), l_L_law_85 (sL E) (sX E) Q X n M it x3 x4 x5 → WL p l e room_1 s m #[Value.ref (sB E)] below meth c QQ E base 8 M ad9 85 [(0, .ref (sB E)), (1, .ref (ad9 4 0)), (2, .ref (ad9 61 0)), (3, .int x3), (4, .int x4), (5, .int x5)] [] (3402 + 3402 * it + 0) (20412 + 20412 * it + 0) := by
    intro n
    induction n with
    | zero => intro ad9 M it x3 x4 x5 hw; exact False.elim hw
    | succ n K85 =>
      intro ad9 M it x3 x4 x5 hw H locs ls hW hS hl
      obtain ⟨k85, hk85⟩ : ∃ z, z = l_L_law_85 (sL E) (sX E) Q X n := ⟨_, rfl⟩
      have hw : b_L_law_85 (sL E) (sX E) Q X k85 M it x3 x4 x5 := by rw [hk85]; exact hw
      rw [← hk85] at K85
      unfold b_L_law_85 at hw
      obtain ⟨hit, hw⟩ := hw
      refine lv_iload hx hb dL_law_85 (lv_at hl 5 rfl) ?_
      refine lv_iload hx hb dL_law_87 (lv_at hl 4 rfl) ?_
      refine lv_icmp_ge (tgt := 186) hx hb dL_law_89 (by decide) (fun c_24 => ?_) (fun c_24 => ?_)
      · have hw := hw.1 c_24
        refine lv_iload_n hx hb dL_law_186 rfl (lv_at hl 3 rfl) ?_
        rw [← hQQ]
        exact law_end hx hb hr hlocks hbase (hQ _ _ hw) hS (by omega) (by omega) dL_law_187
      · have hw := hw.2 c_24
        refine lv_iload_n hx hb dL_law_92 rfl (lv_at hl 3 rfl) ?_
        refine lv_if_eq (tgt := 186) hx hb dL_law_93 (by decide) (fun c_25 => ?_) (fun c_25 => ?_)
        · have hw := hw.1 c_25
          refine lv_iload_n hx hb dL_law_186 rfl (lv_at hl 3 rfl) ?_
          rw [← hQQ]
          exact law_end hx hb hr hlocks hbase (hQ _ _ hw) hS (by omega) (by omega) dL_law_187
        · have hw := hw.2 c_25
          refine lv_aload_n hx hb dL_law_96 rfl (lv_at hl 0 rfl) ?_
          refine lv_iconst (v := 3) hx hb dL_law_97 (by decide) ?_
          refine lv_iload hx hb dL_law_98 (lv_at hl 5 rfl) ?_
          refine lv_imul hx hb dL_law_100 ?_
          refine lv_iconst (v := 1) hx hb dL_law_101 (by decide) ?_
          refine lv_iadd hx hb dL_law_102 ?_
          refine k_I (rn_S (As := [.ref (sB E), .int ((3 * x5) + 1)]) (rest := []) ⟨hx, hb, hml, hown, hts⟩ hT hW hS hl (c_L_draw l E base M ad9 ((3 * x5) + 1) _ hw) cy_L_draw k_285 k_286 rfl rfl ⟨(Nat.le_of_ble_eq_true rfl), (Nat.le_of_ble_eq_true rfl)⟩ rfl rfl (Nat.le_of_ble_eq_true rfl) dL_law_103 ⟨by show _ + 0 ≤ 600130; omega, by show _ + 0 ≤ 7301080; omega⟩) hS kx_no (fun r_29 M_27 ad_28 H locs hP hW hS => ?_)
          obtain ⟨hw, rfl⟩ := hP
          refine lv_istore (lv' := [(6, .int r_29), (0, .ref (sB E)), (1, .ref (ad9 4 0)), (2, .ref (ad9 61 0)), (3, .int x3), (4, .int x4), (5, .int x5)]) hx hb dL_law_106 hl (by decide) rfl (fun ls hl => ?_)
          refine lv_aload_n hx hb dL_law_108 rfl (lv_at hl 1 rfl) ?_
          refine lv_iconst (v := 3) hx hb dL_law_109 (by decide) ?_
          refine lv_iload hx hb dL_law_110 (lv_at hl 6 rfl) ?_
          refine lv_imul hx hb dL_law_112 ?_
          refine lv_iconst (v := 2) hx hb dL_law_113 (by decide) ?_
          refine lv_iadd hx hb dL_law_114 ?_
          refine k_I (rn_S (As := [.ref (sB E), .int ((3 * x5) + 2)]) (rest := []) ⟨hx, hb, hml, hown, hts⟩ hT hW hS hl (c_L_draw l E base M_27 ad9 ((3 * x5) + 2) _ hw) cy_L_draw k_285 k_286 rfl rfl ⟨(Nat.le_of_ble_eq_true rfl), (Nat.le_of_ble_eq_true rfl)⟩ rfl rfl (Nat.le_of_ble_eq_true rfl) dL_law_115 ⟨by show _ + 0 ≤ 600130; omega, by show _ + 0 ≤ 7301080; omega⟩) hS kx_no (fun r_33 M_31 ad_32 H locs hP hW hS => ?_)
          obtain ⟨hw, rfl⟩ := hP
          refine lv_istore (lv' := [(7, .int r_33), (6, .int r_29), (0, .ref (sB E)), (1, .ref (ad9 4 0)), (2, .ref (ad9 61 0)), (3, .int x3), (4, .int x4), (5, .int x5)]) hx hb dL_law_118 hl (by decide) rfl (fun ls hl => ?_)
          refine lv_aload_n hx hb dL_law_120 rfl (lv_at hl 3 rfl) ?_
          refine lv_aload_n hx hb dL_law_121 rfl (lv_at hl 4 rfl) ?_
          refine lv_aload_n hx hb dL_law_122 rfl (lv_at hl 2 rfl) ?_
          refine lv_iconst (v := 3) hx hb dL_law_123 (by decide) ?_
          refine lv_iload hx hb dL_law_124 (lv_at hl 7 rfl) ?_
          refine lv_imul hx hb dL_law_126 ?_
          refine k_I (rn_S (As := [.ref (sB E), .int (3 * x5)]) (rest := [.ref (ad9 61 0), .ref (ad9 4 0)]) ⟨hx, hb, hml, hown, hts⟩ hT hW hS hl (c_L_draw l E base M_31 ad9 (3 * x5) _ hw) cy_L_draw k_285 k_286 rfl rfl ⟨(Nat.le_of_ble_eq_true rfl), (Nat.le_of_ble_eq_true rfl)⟩ rfl rfl (Nat.le_of_ble_eq_true rfl) dL_law_127 ⟨by show _ + 0 ≤ 600130; omega, by show _ + 0 ≤ 7301080; omega⟩) hS kx_no (fun r_37 M_35 ad_36 H locs hP hW hS => ?_)
          obtain ⟨hw, rfl⟩ := hP
          refine lv_iload hx hb dL_law_130 (lv_at hl 1 rfl) ?_
          refine lv_iload hx hb dL_law_132 (lv_at hl 0 rfl) ?_
          refine k_I (rn_S (As := [.ref (ad9 4 0), .ref (ad9 61 0), .int r_37, .int r_29, .int r_33]) (rest := []) ⟨hx, hb, hml, hown, hts⟩ hT hW hS hl (c_L_step l hlt E base M_35 ad9 r_37 r_29 r_33 _ _ hw) cy_L_step k_287 k_288 rfl rfl ⟨(Nat.le_of_ble_eq_true rfl), (Nat.le_of_ble_eq_true rfl)⟩ rfl rfl (Nat.le_of_ble_eq_true rfl) dL_law_134 ⟨by show _ + 528 ≤ 600130; omega, by show _ + 3168 ≤ 7301080; omega⟩) hS (fun _ _ _ _ _ _ _ h9 => absurd h9.1 (hX _ _)) (fun r_41 M_39 ad_40 H locs hP hW hS => ?_)
          obtain ⟨hw, hag⟩ := hP
          have hag_42 := hag
          rw [hag_42 4 0 (by rfl)] at hl
          rw [hag_42 61 0 (by rfl)] at hl
          refine lv_if_eq (tgt := 178) hx hb dL_law_137 (by decide) (fun c_43 => ?_) (fun c_43 => ?_)
          · have hw := hw.1 c_43
            refine W.widen (k := 3402 + 3402 * it + 3402) (n := 20412 + 20412 * it + 20412) (by omega) (by omega) ?_
            exact L_178 k85 K85 ad_40 M_39 it x4 x5 hw H locs ls hW hS (lv_sub hl [2, 3, 4, 6, 7] rfl)
          · have hw := hw.2 c_43
            refine lv_aload_n hx hb dL_law_140 rfl (lv_at hl 3 rfl) ?_
            refine lv_aload_n hx hb dL_law_141 rfl (lv_at hl 4 rfl) ?_
            refine k_I (rn_S (As := [.ref (ad_40 4 0), .ref (ad_40 61 0)]) (rest := []) ⟨hx, hb, hml, hown, hts⟩ hT hW hS hl (c_L_areHeld l hlt E base M_39 ad_40 _ _ hw) cy_L_areHeld k_289 k_290 rfl rfl ⟨(Nat.le_of_ble_eq_true rfl), (Nat.le_of_ble_eq_true rfl)⟩ rfl rfl (Nat.le_of_ble_eq_true rfl) dL_law_142 ⟨by show _ + 2600 ≤ 600130; omega, by show _ + 15600 ≤ 7301080; omega⟩) hS (fun _ _ _ _ _ _ _ h9 => absurd h9.1 (hX _ _)) (fun r_48 M_46 ad_47 H locs hP hW hS => ?_)
            obtain ⟨hw, hag⟩ := hP
            have hag_49 := hag
            rw [hag_49 4 0 (by rfl)] at hl
            rw [hag_49 61 0 (by rfl)] at hl
            refine lv_if_eq (tgt := 178) hx hb dL_law_145 (by decide) (fun c_50 => ?_) (fun c_50 => ?_)
            · have hw := hw.1 c_50
              refine W.widen (k := 3402 + 3402 * it + 3402) (n := 20412 + 20412 * it + 20412) (by omega) (by omega) ?_
              exact L_178 k85 K85 ad_47 M_46 it x4 x5 hw H locs ls hW hS (lv_sub hl [2, 3, 4, 6, 7] rfl)
            · have hw := hw.2 c_50
              refine lv_aload_n hx hb dL_law_148 rfl (lv_at hl 4 rfl) ?_
              refine lv_iconst (v := 0) hx hb dL_law_149 (by decide) ?_
              obtain ⟨g_51, hw⟩ := hw
              obtain ⟨g_52, hw⟩ := hw
              refine r_iald hx hb hT.1 hW (by decide) rfl (fun _ => rfl) 29 rfl g_52 g_51 dL_law_150 ?_
              refine lv_if_eq (tgt := 174) hx hb dL_law_151 (by decide) (fun c_53 => ?_) (fun c_53 => ?_)
              · have hw := hw.1 c_53
                refine W.widen (k := 3402 + 3402 * it + 3402) (n := 20412 + 20412 * it + 20412) (by omega) (by omega) ?_
                exact L_174 k85 K85 ad_47 M_46 it x4 x5 hw H locs ls hW hS (lv_sub hl [2, 3, 4, 6, 7] rfl)
              · have hw := hw.2 c_53
                refine lv_aload_n hx hb dL_law_154 rfl (lv_at hl 3 rfl) ?_
                refine lv_aload_n hx hb dL_law_155 rfl (lv_at hl 4 rfl) ?_
                refine lv_iload hx hb dL_law_156 (lv_at hl 1 rfl) ?_
                refine lv_aload_n hx hb dL_law_158 rfl (lv_at hl 4 rfl) ?_
                refine lv_iconst (v := 0) hx hb dL_law_159 (by decide) ?_
                obtain ⟨g_54, hw⟩ := hw
                refine r_iald hx hb hT.1 hW (by decide) rfl (fun _ => rfl) 29 rfl g_54 g_51 dL_law_160 ?_
                obtain ⟨g_55, hw⟩ := hw
                refine lv_irem hx hb dL_law_161 g_55 ?_
                refine lv_iload hx hb dL_law_162 (lv_at hl 0 rfl) ?_
                refine lv_aload_n hx hb dL_law_164 rfl (lv_at hl 4 rfl) ?_
                refine lv_iconst (v := 0) hx hb dL_law_165 (by decide) ?_
                obtain ⟨g_56, hw⟩ := hw
                refine r_iald hx hb hT.1 hW (by decide) rfl (fun _ => rfl) 29 rfl g_56 g_51 dL_law_166 ?_
                obtain ⟨g_57, hw⟩ := hw
                refine lv_irem hx hb dL_law_167 g_57 ?_
                refine k_I (rn_S (As := [.ref (ad_47 4 0), .ref (ad_47 61 0), .int (r_29 - r_29 / (mI M_46 61 0 ((0 : Int32).toNatClampNeg)) * (mI M_46 61 0 ((0 : Int32).toNatClampNeg))), .int (r_33 - r_33 / (mI M_46 61 0 ((0 : Int32).toNatClampNeg)) * (mI M_46 61 0 ((0 : Int32).toNatClampNeg)))]) (rest := []) ⟨hx, hb, hml, hown, hts⟩ hT hW hS hl (c_L_areBans l hlt E base M_46 ad_47 (r_29 - r_29 / (mI M_46 61 0 ((0 : Int32).toNatClampNeg)) * (mI M_46 61 0 ((0 : Int32).toNatClampNeg))) (r_33 - r_33 / (mI M_46 61 0 ((0 : Int32).toNatClampNeg)) * (mI M_46 61 0 ((0 : Int32).toNatClampNeg))) _ _ hw) cy_L_areBans k_291 k_292 rfl rfl ⟨(Nat.le_of_ble_eq_true rfl), (Nat.le_of_ble_eq_true rfl)⟩ rfl rfl (Nat.le_of_ble_eq_true rfl) dL_law_168 ⟨by show _ + 274 ≤ 600130; omega, by show _ + 1644 ≤ 7301080; omega⟩) hS (fun _ _ _ _ _ _ _ h9 => absurd h9.1 (hX _ _)) (fun r_61 M_59 ad_60 H locs hP hW hS => ?_)
                obtain ⟨hw, rfl⟩ := hP
                refine lv_if_eq (tgt := 178) hx hb dL_law_171 (by decide) (fun c_62 => ?_) (fun c_62 => ?_)
                · have hw := hw.1 c_62
                  refine W.widen (k := 3402 + 3402 * it + 3402) (n := 20412 + 20412 * it + 20412) (by omega) (by omega) ?_
                  exact L_178 k85 K85 ad_47 M_59 it x4 x5 hw H locs ls hW hS (lv_sub hl [2, 3, 4, 6, 7] rfl)
                · have hw := hw.2 c_62
                  refine W.widen (k := 3402 + 3402 * it + 3402) (n := 20412 + 20412 * it + 20412) (by omega) (by omega) ?_
                  exact L_174 k85 K85 ad_47 M_59 it x4 x5 hw H locs ls hW hS (lv_sub hl [2, 3, 4, 6, 7] rfl)
  have L_80 : ∀ (ad9 : AD) (M : Mem) (it : Nat) (x3 : Int32) (s0 : Int32), b_L_law_80 (sL E) (sX E) Q X M it x3 s0 → WL p l e room_1 s m #[Value.ref (sB E)] below meth c QQ E base 8 M ad9 80 [(0, .ref (sB E)), (1, .ref (ad9 4 0)), (2, .ref (ad9 61 0)), (3, .int x3)] [.int s0] (3402 + 3402 * it + 1) (20412 + 20412 * it + 6) := by
    intro ad9 M it x3 s0 hw H locs ls hW hS hl
    unfold b_L_law_80 at hw
    obtain ⟨hit, hw⟩ := hw
    refine lv_istore (lv' := [(4, .int s0), (0, .ref (sB E)), (1, .ref (ad9 4 0)), (2, .ref (ad9 61 0)), (3, .int x3)]) hx hb dL_law_80 hl (by decide) rfl (fun ls hl => ?_)
    refine lv_iconst (v := 0) hx hb dL_law_82 (by decide) ?_
    refine lv_istore (lv' := [(5, .int 0), (4, .int s0), (0, .ref (sB E)), (1, .ref (ad9 4 0)), (2, .ref (ad9 61 0)), (3, .int x3)]) hx hb dL_law_83 hl (by decide) rfl (fun ls hl => ?_)
    refine W.widen (k := 3402 + 3402 * (it + 1) + 0) (n := 20412 + 20412 * (it + 1) + 0) (by omega) (by omega) ?_
    obtain ⟨n9, hw⟩ := hw
    exact L_85 n9 ad9 M (it + 1) x3 s0 0 hw H locs ls hW hS (lv_sub hl [2, 3, 4, 5, 1, 0] rfl)
  have L_61 : ∀ (ad9 : AD) (M : Mem) (it : Nat) (s0 : Int32), b_L_law_61 (sL E) (sX E) Q X M it s0 → WL p l e room_1 s m #[Value.ref (sB E)] below meth c QQ E base 8 M ad9 61 [(0, .ref (sB E)), (1, .ref (ad9 4 0)), (2, .ref (ad9 61 0))] [.int s0] (3402 + 3402 * it + 1) (20412 + 20412 * it + 6) := by
    intro ad9 M it s0 hw H locs ls hW hS hl
    unfold b_L_law_61 at hw
    obtain ⟨hit, hw⟩ := hw
    refine lv_istore_n (lv' := [(3, .int s0), (0, .ref (sB E)), (1, .ref (ad9 4 0)), (2, .ref (ad9 61 0))]) hx hb dL_law_61 rfl hl (by decide) rfl (fun ls hl => ?_)
    refine lv_aload_n hx hb dL_law_62 rfl (lv_at hl 1 rfl) ?_
    refine va_slen hx hb hXs hbl hbA hS dL_law_63 ?_
    refine lv_iconst (v := 3) hx hb dL_law_64 (by decide) ?_
    refine lv_idiv hx hb dL_law_65 (by decide) ?_
    refine lv_bipush (v := 60) hx hb dL_law_66 (by decide) ?_
    refine lv_icmp_le (tgt := 76) hx hb dL_law_68 (by decide) (fun c_23 => ?_) (fun c_23 => ?_)
    · have hw := hw.1 c_23
      refine lv_aload_n hx hb dL_law_76 rfl (lv_at hl 1 rfl) ?_
      refine va_slen hx hb hXs hbl hbA hS dL_law_77 ?_
      refine lv_iconst (v := 3) hx hb dL_law_78 (by decide) ?_
      refine lv_idiv hx hb dL_law_79 (by decide) ?_
      refine W.widen (k := 3402 + 3402 * it + 1) (n := 20412 + 20412 * it + 6) (by omega) (by omega) ?_
      exact L_80 ad9 M it s0 ((Int32.ofNat (sL E)) / 3) hw H locs ls hW hS (lv_sub hl [1, 2, 3, 0] rfl)
    · have hw := hw.2 c_23
      refine lv_bipush (v := 60) hx hb dL_law_71 (by decide) ?_
      refine lv_goto (tgt := 80) hx hb dL_law_73 (by decide) ?_
      refine W.widen (k := 3402 + 3402 * it + 1) (n := 20412 + 20412 * it + 6) (by omega) (by omega) ?_
      exact L_80 ad9 M it s0 60 hw H locs ls hW hS (lv_sub hl [1, 2, 3, 0] rfl)
  have L_60 : ∀ (ad9 : AD) (M : Mem) (it : Nat), b_L_law_60 (sL E) (sX E) Q X M it → WL p l e room_1 s m #[Value.ref (sB E)] below meth c QQ E base 8 M ad9 60 [(0, .ref (sB E)), (1, .ref (ad9 4 0)), (2, .ref (ad9 61 0))] [] (3402 + 3402 * it + 1) (20412 + 20412 * it + 6) := by
    intro ad9 M it hw H locs ls hW hS hl
    unfold b_L_law_60 at hw
    obtain ⟨hit, hw⟩ := hw
    refine lv_iconst (v := 0) hx hb dL_law_60 (by decide) ?_
    refine W.widen (k := 3402 + 3402 * it + 1) (n := 20412 + 20412 * it + 6) (by omega) (by omega) ?_
    exact L_61 ad9 M it 0 hw H locs ls hW hS (lv_sub hl [0, 1, 2] rfl)
  have L_15 : ∀ (n : Nat) (ad9 : AD) (M : Mem) (it : Nat) (x3 : Int32), l_L_law_15 (sL E) (sX E) Q X n M it x3 → WL p l e room_1 s m #[Value.ref (sB E)] below meth c QQ E base 8 M ad9 15 [(0, .ref (sB E)), (1, .ref (ad9 4 0)), (2, .ref (ad9 61 0)), (3, .int x3)] [] (3402 + 3402 * it + 0) (20412 + 20412 * it + 0) := by
    intro n
    induction n with
    | zero => intro ad9 M it x3 hw; exact False.elim hw
    | succ n K15 =>
      intro ad9 M it x3 hw H locs ls hW hS hl
      obtain ⟨k15, hk15⟩ : ∃ z, z = l_L_law_15 (sL E) (sX E) Q X n := ⟨_, rfl⟩
      have hw : b_L_law_15 (sL E) (sX E) Q X k15 M it x3 := by rw [hk15]; exact hw
      rw [← hk15] at K15
      unfold b_L_law_15 at hw
      obtain ⟨hit, hw⟩ := hw
      refine lv_iload_n hx hb dL_law_15 rfl (lv_at hl 3 rfl) ?_
      refine lv_bipush (v := 12) hx hb dL_law_16 (by decide) ?_
      refine lv_icmp_ge (tgt := 33) hx hb dL_law_18 (by decide) (fun c_16 => ?_) (fun c_16 => ?_)
      · have hw := hw.1 c_16
        refine lv_aload_n hx hb dL_law_33 rfl (lv_at hl 1 rfl) ?_
        obtain ⟨g_17, hw⟩ := hw
        refine k_I (rn_V (As := []) (rest := []) (κ := 4) (i := 0) ⟨hx, hb, hml, hown, hts⟩ hT hW hS hl (c_X4_peers l E base M ad9 _ hw) cy_X4_peers k_234 k_235 k_236 g_17 (by decide) rfl rfl rfl rfl ⟨(Nat.le_of_ble_eq_true rfl), (Nat.le_of_ble_eq_true rfl)⟩ rfl rfl (Nat.le_of_ble_eq_true rfl) dL_law_34 ⟨by show _ + 0 ≤ 600130; omega, by show _ + 0 ≤ 7301080; omega⟩) hS kx_no (fun r_21 M_19 ad_20 H locs hP hW hS => ?_)
        obtain ⟨hw, rfl⟩ := hP
        refine lv_if_ne (tgt := 60) hx hb dL_law_37 (by decide) (fun c_22 => ?_) (fun c_22 => ?_)
        · have hw := hw.2 c_22
          refine W.widen (k := 3402 + 3402 * it + 1) (n := 20412 + 20412 * it + 6) (by omega) (by omega) ?_
          exact L_60 ad9 M_19 it hw H locs ls hW hS (lv_sub hl [0, 1, 2] rfl)
        · have hw := hw.1 c_22
          refine lv_aload_n hx hb dL_law_40 rfl (lv_at hl 1 rfl) ?_
          obtain ⟨g_63, hw⟩ := hw
          refine k_I (rn_V (As := []) (rest := []) (κ := 4) (i := 0) ⟨hx, hb, hml, hown, hts⟩ hT hW hS hl (c_X4_rounds l E base M_19 ad9 _ hw) cy_X4_rounds k_211 k_212 k_213 g_63 (by decide) rfl rfl rfl rfl ⟨(Nat.le_of_ble_eq_true rfl), (Nat.le_of_ble_eq_true rfl)⟩ rfl rfl (Nat.le_of_ble_eq_true rfl) dL_law_41 ⟨by show _ + 0 ≤ 600130; omega, by show _ + 0 ≤ 7301080; omega⟩) hS kx_no (fun r_67 M_65 ad_66 H locs hP hW hS => ?_)
          obtain ⟨hw, rfl⟩ := hP
          refine lv_if_ne (tgt := 60) hx hb dL_law_44 (by decide) (fun c_68 => ?_) (fun c_68 => ?_)
          · have hw := hw.2 c_68
            refine W.widen (k := 3402 + 3402 * it + 1) (n := 20412 + 20412 * it + 6) (by omega) (by omega) ?_
            exact L_60 ad9 M_65 it hw H locs ls hW hS (lv_sub hl [0, 1, 2] rfl)
          · have hw := hw.1 c_68
            refine lv_aload_n hx hb dL_law_47 rfl (lv_at hl 1 rfl) ?_
            refine lv_bipush (v := 11) hx hb dL_law_48 (by decide) ?_
            obtain ⟨g_69, hw⟩ := hw
            refine k_I (rn_V (As := [.int 11]) (rest := []) (κ := 4) (i := 0) ⟨hx, hb, hml, hown, hts⟩ hT hW hS hl (c_X4_holders l hlt E base M_65 ad9 11 _ _ hw) cy_X4_holders k_264 k_265 k_266 g_69 (by decide) rfl rfl rfl rfl ⟨(Nat.le_of_ble_eq_true rfl), (Nat.le_of_ble_eq_true rfl)⟩ rfl rfl (Nat.le_of_ble_eq_true rfl) dL_law_50 ⟨by show _ + 1 ≤ 600130; omega, by show _ + 6 ≤ 7301080; omega⟩) hS (fun _ _ _ _ _ _ _ h9 => absurd h9.1 (hX _ _)) (fun r_73 M_71 ad_72 H locs hP hW hS => ?_)
            obtain ⟨hw, rfl⟩ := hP
            refine lv_if_ne (tgt := 60) hx hb dL_law_53 (by decide) (fun c_74 => ?_) (fun c_74 => ?_)
            · have hw := hw.2 c_74
              refine W.widen (k := 3402 + 3402 * it + 1) (n := 20412 + 20412 * it + 6) (by omega) (by omega) ?_
              exact L_60 ad9 M_71 it hw H locs ls hW hS (lv_sub hl [0, 1, 2] rfl)
            · have hw := hw.1 c_74
              refine lv_iconst (v := 1) hx hb dL_law_56 (by decide) ?_
              refine lv_goto (tgt := 61) hx hb dL_law_57 (by decide) ?_
              refine W.widen (k := 3402 + 3402 * it + 1) (n := 20412 + 20412 * it + 6) (by omega) (by omega) ?_
              exact L_61 ad9 M_71 it 1 hw H locs ls hW hS (lv_sub hl [0, 1, 2] rfl)
      · have hw := hw.2 c_16
        refine lv_aload_n hx hb dL_law_21 rfl (lv_at hl 2 rfl) ?_
        refine lv_iconst (v := 3) hx hb dL_law_22 (by decide) ?_
        refine lv_iload_n hx hb dL_law_23 rfl (lv_at hl 3 rfl) ?_
        refine lv_iadd hx hb dL_law_24 ?_
        refine lv_iconst (v := 1) hx hb dL_law_25 (by decide) ?_
        obtain ⟨g_75, hw⟩ := hw
        obtain ⟨g_76, hw⟩ := hw
        refine r_iast hx hb hT.1 hW hS (by decide) rfl (fun _ => rfl) 29 rfl g_76 g_75 dL_law_26 (fun M_77 H locs hM_77 hW hS => ?_)
        have hw := hw M_77 hM_77
        obtain ⟨v_78, ev_78⟩ : ∃ y : Int32, y = x3 + 1 := ⟨_, rfl⟩
        have hw := hw v_78 ev_78
        refine lv_iinc (v := v_78) (lv' := [(3, .int v_78), (0, .ref (sB E)), (1, .ref (ad9 4 0)), (2, .ref (ad9 61 0))]) hx hb dL_law_27 hl (k := 3) rfl (by rw [ev_78]; rfl) (by decide) rfl (fun ls hl => ?_)
        refine lv_goto (tgt := 15) hx hb dL_law_30 (by decide) ?_
        refine W.widen (k := 3402 + 3402 * (it + 1) + 0) (n := 20412 + 20412 * (it + 1) + 0) (by omega) (by omega) ?_
        exact K15 ad9 M_77 (it + 1) v_78 hw H locs ls hW hS (lv_sub hl [1, 2, 3, 0] rfl)
  unfold w_L_law at hw
  obtain ⟨H, hH⟩ : ∃ z, z = s.heap := ⟨_, rfl⟩
  obtain ⟨locs, hlo⟩ : ∃ z : List Loc, z = [] := ⟨_, rfl⟩
  have hS : va_S (fun q : Nat => base ≤ q) s.heap H locs := by rw [hlo, hH]; exact hS
  have hW : Wd E base M ad H := by rw [hH]; exact hW
  rw [show W p l e room_1 s m #[Value.ref (sB E)] below meth c s.heap [] 0 0 QQ (F0 m 0 ls []) = W p l e room_1 s m #[Value.ref (sB E)] below meth c H locs 0 0 QQ (F0 m 0 ls []) by rw [hlo, hH]]
  obtain ⟨g_1, hw⟩ := hw
  refine r_new (dv := fun _ => .null) hx hb hts hown (hts _ k_280) (hts _ k_281) (hts _ k_282) hT.1 hW hS hT.2.2.2.2.2.2.2 clX4 tyX4 tyX4_ok (by decide) (Nat.le_of_ble_eq_true rfl) (Nat.le_of_ble_eq_true rfl) g_1 dL_law_0 (fun q_2 M_3 ad_4 H hM_3 had_4 hW hS => ?_)
  have hw := hw M_3 hM_3
  have g_5 : mE M_3 4 0 = true := mE_wN1 hM_3
  refine lv_dup hx hb dL_law_3 rfl ?_
  refine k_V (rn_I (As := []) (rest := [.ref (ad_4 4 0)]) (κ := 4) (i := 0) ⟨hx, hb, hml, hown, hts⟩ hT hW hS hl (c_X4_init l E base M_3 ad_4 _ hw) cy_X4_init rfl k_283 k_284 rfl rfl ⟨(Nat.le_of_ble_eq_true rfl), (Nat.le_of_ble_eq_true rfl)⟩ rfl rfl (Nat.le_of_ble_eq_true rfl) dL_law_4 ⟨(Nat.le_of_ble_eq_true rfl), (Nat.le_of_ble_eq_true rfl)⟩) hS kx_no (fun M_7 ad_8 H locs hP hW hS => ?_)
  obtain ⟨hw, hag⟩ := hP
  have hag_10 := hag
  rw [hag_10 4 0 (by rfl)] at ⊢
  refine lv_astore_n (lv' := [(1, .ref (ad_8 4 0)), (0, .ref (sB E))]) hx hb dL_law_7 rfl hl (by decide) rfl (fun ls hl => ?_)
  refine lv_bipush (v := 29) hx hb dL_law_8 (by decide) ?_
  obtain ⟨g_11, hw⟩ := hw
  refine r_newa hx hb .int (hts _ k_6) hT.1 hW hS hT.2.2.2.2.2.2.2 (by decide) rfl rfl (fun h9 => h9) _ rfl (fun _ => Or.inl ⟨rfl, rfl⟩) 29 rfl (by decide) (by decide) (Nat.le_of_ble_eq_true rfl) (Nat.le_of_ble_eq_true rfl) (Nat.le_of_ble_eq_true rfl) g_11 dL_law_10 (fun q_12 M_13 ad_14 H hM_13 had_14 hW hS => ?_)
  have hw := hw M_13 hM_13
  rw [upA_ne (a := 4) (b := 0) had_14 (by decide)] at hl
  have g_15 : mE M_13 61 0 = true := mE_wN1 hM_13
  refine lv_astore_n (lv' := [(2, .ref (ad_14 61 0)), (1, .ref (ad_14 4 0)), (0, .ref (sB E))]) hx hb dL_law_12 rfl hl (by decide) rfl (fun ls hl => ?_)
  refine lv_iconst (v := 0) hx hb dL_law_13 (by decide) ?_
  refine lv_istore_n (lv' := [(3, .int 0), (2, .ref (ad_14 61 0)), (1, .ref (ad_14 4 0)), (0, .ref (sB E))]) hx hb dL_law_14 rfl hl (by decide) rfl (fun ls hl => ?_)
  refine W.widen (k := 3402 + 3402 * 0 + 0) (n := 20412 + 20412 * 0 + 0) (by omega) (by omega) ?_
  obtain ⟨n9, hw⟩ := hw
  exact L_15 n9 ad_14 M_13 0 0 hw H locs ls hW hS (lv_sub hl [3, 2, 1, 0] rfl)
