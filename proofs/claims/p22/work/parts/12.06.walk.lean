def rm_L_step : Room := { frames := 9, cells := 528, slots := 3168, locals := 226 }
def fr_L_step : Nat → Nat → Bool := fun a _ => [0, 1, 2, 3, 20, 21, 22, 23, 24, 25, 26].contains a
set_option maxHeartbeats 4000000 in
set_option maxRecDepth 100000 in
theorem c_L_step (l : Launch) (hlt : l.stackTraces = false) (E : GE) (base : Nat) (M : Mem) (ad : AD) (a2 : Int32) (a3 : Int32) (a4 : Int32) (Q : Int32 → Mem → Prop) (X : Nat → Mem → Prop) (hw : w_L_step M a2 a3 a4 Q X) : Con l yL_step cL_step 14 (some .boolean) rm_L_step 528 3168 E base [.ref (ad 4 0), .ref (ad 61 0), .int a2, .int a3, .int a4] M ad (QcI E base (fun r M1 ad1 => Q r M1 ∧ AG fr_L_step ad ad1)) (fun k M1 ad1 => X k M1 ∧ AG fr_L_step ad ad1) := by
  refine con_start (by decide) (Nat.le_of_ble_eq_true rfl) ?_
  intro p e s m args below meth c ls QQ hQQ CT hnx hW hl
  obtain ⟨⟨hx, hb, hml, hown, hts⟩, hr, hlocks, hnm, hT⟩ := CT
  have hS : va_S (fun q : Nat => base ≤ q) s.heap s.heap [] := va_S.rf
  have hl : lv_has ls 14 [(0, .ref (ad 4 0)), (1, .ref (ad 61 0)), (2, .int a2), (3, .int a3), (4, .int a4)] := hl
  have L_225 : ∀ (ad9 : AD) (hag9 : AG fr_L_step ad ad9) (M : Mem) (s0 : Int32) (s1 : Int32), b_L_step_225 Q X M s0 s1 → WL p l e rm_L_step s m args below meth c QQ E base 14 M ad9 225 [(0, .ref (ad9 4 0)), (1, .ref (ad9 61 0))] [.int s0, .int s1] 12 1066 := by
    intro ad9 hag9 M s0 s1 hw H locs ls hW hS hl
    unfold b_L_step_225 at hw
    refine lv_icmp_ne (tgt := 261) hx hb dL_step_225 (by decide) (fun c_46 => ?_) (fun c_46 => ?_)
    · have hw := hw.2 c_46
      refine lv_iconst (v := 0) hx hb dL_step_261 (by decide) ?_
      rw [← hQQ]
      exact e_Z hx hb hr hlocks hW hS (Nat.le_of_ble_eq_true rfl) (Nat.le_of_ble_eq_true rfl) dL_step_262 (by decide) ⟨hw, hag9⟩
    · have hw := hw.1 c_46
      refine lv_aload_n hx hb dL_step_228 rfl (lv_at hl 0 rfl) ?_
      refine lv_aload_n hx hb dL_step_229 rfl (lv_at hl 1 rfl) ?_
      refine lv_iconst (v := 0) hx hb dL_step_230 (by decide) ?_
      obtain ⟨g_47, hw⟩ := hw
      obtain ⟨g_48, hw⟩ := hw
      refine r_iald hx hb hT.1 hW (by decide) rfl (fun _ => rfl) 29 rfl g_48 g_47 dL_step_231 ?_
      refine lv_iconst (v := 1) hx hb dL_step_232 (by decide) ?_
      refine lv_isub hx hb dL_step_233 ?_
      refine lv_aload_n hx hb dL_step_234 rfl (lv_at hl 1 rfl) ?_
      refine lv_iconst (v := 0) hx hb dL_step_235 (by decide) ?_
      obtain ⟨g_49, hw⟩ := hw
      refine r_iald hx hb hT.1 hW (by decide) rfl (fun _ => rfl) 29 rfl g_49 g_47 dL_step_236 ?_
      refine lv_iconst (v := 1) hx hb dL_step_237 (by decide) ?_
      refine lv_isub hx hb dL_step_238 ?_
      obtain ⟨g_50, hw⟩ := hw
      refine k_I (rn_V (As := [.int ((mI M 61 0 ((0 : Int32).toNatClampNeg)) - 1), .int ((mI M 61 0 ((0 : Int32).toNatClampNeg)) - 1)]) (rest := []) (κ := 4) (i := 0) ⟨hx, hb, hml, hown, hts⟩ hT hW hS hl (c_X4_got l hlt E base M ad9 ((mI M 61 0 ((0 : Int32).toNatClampNeg)) - 1) ((mI M 61 0 ((0 : Int32).toNatClampNeg)) - 1) _ _ hw) cy_X4_got k_214 k_215 k_216 g_50 (by decide) rfl rfl rfl rfl ⟨(Nat.le_of_ble_eq_true rfl), (Nat.le_of_ble_eq_true rfl)⟩ rfl rfl (Nat.le_of_ble_eq_true rfl) dL_step_239 ⟨(Nat.le_of_ble_eq_true rfl), (Nat.le_of_ble_eq_true rfl)⟩) hS (by rw [← hQQ]; exact kx_out hnx hlocks (Nat.le_of_ble_eq_true rfl) (Nat.le_of_ble_eq_true rfl) (fun _ _ _ h9 => ⟨h9.1, AG_call hag9 (AG_eq h9.2) (fun _ _ h => rfl)⟩)) (fun r_54 M_52 ad_53 H locs hP hW hS => ?_)
      obtain ⟨hw, rfl⟩ := hP
      refine lv_if_ne (tgt := 261) hx hb dL_step_242 (by decide) (fun c_55 => ?_) (fun c_55 => ?_)
      · have hw := hw.2 c_55
        refine lv_iconst (v := 0) hx hb dL_step_261 (by decide) ?_
        rw [← hQQ]
        exact e_Z hx hb hr hlocks hW hS (Nat.le_of_ble_eq_true rfl) (Nat.le_of_ble_eq_true rfl) dL_step_262 (by decide) ⟨hw, hag9⟩
      · have hw := hw.1 c_55
        refine lv_aload_n hx hb dL_step_245 rfl (lv_at hl 0 rfl) ?_
        refine lv_aload_n hx hb dL_step_246 rfl (lv_at hl 1 rfl) ?_
        refine lv_iconst (v := 0) hx hb dL_step_247 (by decide) ?_
        obtain ⟨g_56, hw⟩ := hw
        obtain ⟨g_57, hw⟩ := hw
        refine r_iald hx hb hT.1 hW (by decide) rfl (fun _ => rfl) 29 rfl g_57 g_56 dL_step_248 ?_
        refine lv_iconst (v := 1) hx hb dL_step_249 (by decide) ?_
        refine lv_isub hx hb dL_step_250 ?_
        obtain ⟨g_58, hw⟩ := hw
        refine k_I (rn_V (As := [.int ((mI M_52 61 0 ((0 : Int32).toNatClampNeg)) - 1)]) (rest := []) (κ := 4) (i := 0) ⟨hx, hb, hml, hown, hts⟩ hT hW hS hl (c_X4_doubles l hlt E base M_52 ad9 ((mI M_52 61 0 ((0 : Int32).toNatClampNeg)) - 1) _ _ hw) cy_X4_doubles k_231 k_232 k_233 g_58 (by decide) rfl rfl rfl rfl ⟨(Nat.le_of_ble_eq_true rfl), (Nat.le_of_ble_eq_true rfl)⟩ rfl rfl (Nat.le_of_ble_eq_true rfl) dL_step_251 ⟨(Nat.le_of_ble_eq_true rfl), (Nat.le_of_ble_eq_true rfl)⟩) hS (by rw [← hQQ]; exact kx_out hnx hlocks (Nat.le_of_ble_eq_true rfl) (Nat.le_of_ble_eq_true rfl) (fun _ _ _ h9 => ⟨h9.1, AG_call hag9 (AG_eq h9.2) (fun _ _ h => rfl)⟩)) (fun r_62 M_60 ad_61 H locs hP hW hS => ?_)
        obtain ⟨hw, rfl⟩ := hP
        refine lv_if_ne (tgt := 261) hx hb dL_step_254 (by decide) (fun c_63 => ?_) (fun c_63 => ?_)
        · have hw := hw.2 c_63
          refine lv_iconst (v := 0) hx hb dL_step_261 (by decide) ?_
          rw [← hQQ]
          exact e_Z hx hb hr hlocks hW hS (Nat.le_of_ble_eq_true rfl) (Nat.le_of_ble_eq_true rfl) dL_step_262 (by decide) ⟨hw, hag9⟩
        · have hw := hw.1 c_63
          refine lv_iconst (v := 1) hx hb dL_step_257 (by decide) ?_
          refine lv_goto (tgt := 262) hx hb dL_step_258 (by decide) ?_
          rw [← hQQ]
          exact e_Z hx hb hr hlocks hW hS (Nat.le_of_ble_eq_true rfl) (Nat.le_of_ble_eq_true rfl) dL_step_262 (by decide) ⟨hw, hag9⟩
  have L_182 : ∀ (ad9 : AD) (hag9 : AG fr_L_step ad ad9) (M : Mem) (x9 : Int32) (s0 : Int32) (s1 : Int32), b_L_step_182 Q X M x9 s0 s1 → WL p l e rm_L_step s m args below meth c QQ E base 14 M ad9 182 [(0, .ref (ad9 4 0)), (1, .ref (ad9 61 0)), (9, .int x9)] [.int s0, .int s1, .ref (ad9 61 0)] 0 0 := by
    intro ad9 hag9 M x9 s0 s1 hw H locs ls hW hS hl
    unfold b_L_step_182 at hw
    obtain ⟨g_24, hw⟩ := hw
    obtain ⟨g_25, hw⟩ := hw
    refine r_iast hx hb hT.1 hW hS (by decide) rfl (fun _ => rfl) 29 rfl g_25 g_24 dL_step_182 (fun M_26 H locs hM_26 hW hS => ?_)
    have hw := hw M_26 hM_26
    refine lv_aload_n hx hb dL_step_183 rfl (lv_at hl 1 rfl) ?_
    refine lv_iconst (v := 0) hx hb dL_step_184 (by decide) ?_
    refine lv_dup2_11 hx hb dL_step_185 rfl rfl ?_
    obtain ⟨g_27, hw⟩ := hw
    refine r_iald hx hb hT.1 hW (by decide) rfl (fun _ => rfl) 29 rfl g_27 (by rw [hM_26]; exact g_24) dL_step_186 ?_
    refine lv_iconst (v := 1) hx hb dL_step_187 (by decide) ?_
    refine lv_iadd hx hb dL_step_188 ?_
    obtain ⟨g_28, hw⟩ := hw
    refine r_iast hx hb hT.1 hW hS (by decide) rfl (fun _ => rfl) 29 rfl g_28 (by rw [hM_26]; exact g_24) dL_step_189 (fun M_29 H locs hM_29 hW hS => ?_)
    have hw := hw M_29 hM_29
    refine lv_aload_n hx hb dL_step_190 rfl (lv_at hl 0 rfl) ?_
    refine lv_iload hx hb dL_step_191 (lv_at hl 2 rfl) ?_
    obtain ⟨g_30, hw⟩ := hw
    refine k_I (rn_V (As := [.int x9]) (rest := []) (κ := 4) (i := 0) ⟨hx, hb, hml, hown, hts⟩ hT hW hS hl (c_X4_join l hlt E base M_29 ad9 x9 _ _ hw) cy_X4_join k_225 k_226 k_227 g_30 (by decide) rfl rfl rfl rfl ⟨(Nat.le_of_ble_eq_true rfl), (Nat.le_of_ble_eq_true rfl)⟩ rfl rfl (Nat.le_of_ble_eq_true rfl) dL_step_193 ⟨(Nat.le_of_ble_eq_true rfl), (Nat.le_of_ble_eq_true rfl)⟩) hS (by rw [← hQQ]; exact kx_out hnx hlocks (Nat.le_of_ble_eq_true rfl) (Nat.le_of_ble_eq_true rfl) (fun _ _ _ h9 => ⟨h9.1, AG_call hag9 h9.2 (fun a b h => h)⟩)) (fun r_34 M_32 ad_33 H locs hP hW hS => ?_)
    obtain ⟨hw, hag⟩ := hP
    have hag_35 := hag
    rw [hag_35 4 0 (by rfl)] at hl
    rw [hag_35 61 0 (by rfl)] at hl
    refine lv_aload_n hx hb dL_step_196 rfl (lv_at hl 1 rfl) ?_
    refine lv_iconst (v := 0) hx hb dL_step_197 (by decide) ?_
    obtain ⟨g_36, hw⟩ := hw
    obtain ⟨g_37, hw⟩ := hw
    refine r_iald hx hb hT.1 hW (by decide) rfl (fun _ => rfl) 29 rfl g_37 g_36 dL_step_198 ?_
    refine lv_iconst (v := 1) hx hb dL_step_199 (by decide) ?_
    refine lv_isub hx hb dL_step_200 ?_
    refine lv_icmp_ne (tgt := 261) hx hb dL_step_201 (by decide) (fun c_38 => ?_) (fun c_38 => ?_)
    · have hw := hw.2 c_38
      refine lv_iconst (v := 0) hx hb dL_step_261 (by decide) ?_
      rw [← hQQ]
      exact e_Z hx hb hr hlocks hW hS (Nat.le_of_ble_eq_true rfl) (Nat.le_of_ble_eq_true rfl) dL_step_262 (by decide) ⟨hw, (AG_call hag9 hag_35 (fun a b h => h))⟩
    · have hw := hw.1 c_38
      refine lv_aload_n hx hb dL_step_204 rfl (lv_at hl 0 rfl) ?_
      refine lv_aload_n hx hb dL_step_205 rfl (lv_at hl 1 rfl) ?_
      refine lv_iconst (v := 0) hx hb dL_step_206 (by decide) ?_
      obtain ⟨g_39, hw⟩ := hw
      refine r_iald hx hb hT.1 hW (by decide) rfl (fun _ => rfl) 29 rfl g_39 g_36 dL_step_207 ?_
      refine lv_iconst (v := 1) hx hb dL_step_208 (by decide) ?_
      refine lv_isub hx hb dL_step_209 ?_
      obtain ⟨g_40, hw⟩ := hw
      refine k_I (rn_V (As := [.int ((mI M_32 61 0 ((0 : Int32).toNatClampNeg)) - 1)]) (rest := []) (κ := 4) (i := 0) ⟨hx, hb, hml, hown, hts⟩ hT hW hS hl (c_X4_holds l hlt E base M_32 ad_33 ((mI M_32 61 0 ((0 : Int32).toNatClampNeg)) - 1) _ _ hw) cy_X4_holds k_228 k_229 k_230 g_40 (by decide) rfl rfl rfl rfl ⟨(Nat.le_of_ble_eq_true rfl), (Nat.le_of_ble_eq_true rfl)⟩ rfl rfl (Nat.le_of_ble_eq_true rfl) dL_step_210 ⟨(Nat.le_of_ble_eq_true rfl), (Nat.le_of_ble_eq_true rfl)⟩) hS (by rw [← hQQ]; exact kx_out hnx hlocks (Nat.le_of_ble_eq_true rfl) (Nat.le_of_ble_eq_true rfl) (fun _ _ _ h9 => ⟨h9.1, AG_call (AG_call hag9 hag_35 (fun a b h => h)) (AG_eq h9.2) (fun _ _ h => rfl)⟩)) (fun r_44 M_42 ad_43 H locs hP hW hS => ?_)
      obtain ⟨hw, rfl⟩ := hP
      refine lv_iload hx hb dL_step_213 (lv_at hl 2 rfl) ?_
      refine lv_if_eq (tgt := 224) hx hb dL_step_215 (by decide) (fun c_45 => ?_) (fun c_45 => ?_)
      · have hw := hw.1 c_45
        refine lv_iconst (v := 0) hx hb dL_step_224 (by decide) ?_
        exact L_225 ad_33 (AG_call hag9 hag_35 (fun a b h => h)) M_42 0 r_44 hw H locs ls hW hS (lv_sub hl [0, 1] rfl)
      · have hw := hw.2 c_45
        refine lv_sipush (v := 4095) hx hb dL_step_218 (by decide) ?_
        refine lv_goto (tgt := 225) hx hb dL_step_221 (by decide) ?_
        exact L_225 ad_33 (AG_call hag9 hag_35 (fun a b h => h)) M_42 4095 r_44 hw H locs ls hW hS (lv_sub hl [0, 1] rfl)
  have L_150 : ∀ (ad9 : AD) (hag9 : AG fr_L_step ad ad9) (M : Mem) (s0 : Int32), b_L_step_150 Q X M s0 → WL p l e rm_L_step s m args below meth c QQ E base 14 M ad9 150 [(0, .ref (ad9 4 0)), (1, .ref (ad9 61 0))] [.int s0] 0 0 := by
    intro ad9 hag9 M s0 hw H locs ls hW hS hl
    unfold b_L_step_150 at hw
    refine lv_istore (lv' := [(9, .int s0), (0, .ref (ad9 4 0)), (1, .ref (ad9 61 0))]) hx hb dL_step_150 hl (by decide) rfl (fun ls hl => ?_)
    refine lv_aload_n hx hb dL_step_152 rfl (lv_at hl 2 rfl) ?_
    refine lv_iconst (v := 1) hx hb dL_step_153 (by decide) ?_
    refine lv_dup2_11 hx hb dL_step_154 rfl rfl ?_
    obtain ⟨g_17, hw⟩ := hw
    obtain ⟨g_18, hw⟩ := hw
    refine r_iald hx hb hT.1 hW (by decide) rfl (fun _ => rfl) 29 rfl g_18 g_17 dL_step_155 ?_
    refine lv_iconst (v := 1) hx hb dL_step_156 (by decide) ?_
    refine lv_aload_n hx hb dL_step_157 rfl (lv_at hl 2 rfl) ?_
    refine lv_iconst (v := 0) hx hb dL_step_158 (by decide) ?_
    obtain ⟨g_19, hw⟩ := hw
    refine r_iald hx hb hT.1 hW (by decide) rfl (fun _ => rfl) 29 rfl g_19 g_17 dL_step_159 ?_
    refine lv_ishl hx hb dL_step_160 ?_
    refine lv_ior hx hb dL_step_161 ?_
    obtain ⟨g_20, hw⟩ := hw
    refine r_iast hx hb hT.1 hW hS (by decide) rfl (fun _ => rfl) 29 rfl g_20 g_17 dL_step_162 (fun M_21 H locs hM_21 hW hS => ?_)
    have hw := hw M_21 hM_21
    refine lv_aload_n hx hb dL_step_163 rfl (lv_at hl 2 rfl) ?_
    refine lv_bipush (v := 23) hx hb dL_step_164 (by decide) ?_
    refine lv_aload_n hx hb dL_step_166 rfl (lv_at hl 2 rfl) ?_
    refine lv_iconst (v := 0) hx hb dL_step_167 (by decide) ?_
    obtain ⟨g_22, hw⟩ := hw
    refine r_iald hx hb hT.1 hW (by decide) rfl (fun _ => rfl) 29 rfl g_22 (by rw [hM_21]; exact g_17) dL_step_168 ?_
    refine lv_iadd hx hb dL_step_169 ?_
    refine lv_iload hx hb dL_step_170 (lv_at hl 0 rfl) ?_
    refine lv_if_eq (tgt := 181) hx hb dL_step_172 (by decide) (fun c_23 => ?_) (fun c_23 => ?_)
    · have hw := hw.1 c_23
      refine lv_iconst (v := 0) hx hb dL_step_181 (by decide) ?_
      exact L_182 ad9 hag9 M_21 s0 0 (23 + (mI M_21 61 0 ((0 : Int32).toNatClampNeg))) hw H locs ls hW hS (lv_sub hl [1, 2, 0] rfl)
    · have hw := hw.2 c_23
      refine lv_sipush (v := 4095) hx hb dL_step_175 (by decide) ?_
      refine lv_goto (tgt := 182) hx hb dL_step_178 (by decide) ?_
      exact L_182 ad9 hag9 M_21 s0 4095 (23 + (mI M_21 61 0 ((0 : Int32).toNatClampNeg))) hw H locs ls hW hS (lv_sub hl [1, 2, 0] rfl)
  have L_145 : ∀ (ad9 : AD) (hag9 : AG fr_L_step ad ad9) (M : Mem) , b_L_step_145 Q X M → WL p l e rm_L_step s m args below meth c QQ E base 14 M ad9 145 [(0, .ref (ad9 4 0)), (1, .ref (ad9 61 0))] [] 0 0 := by
    intro ad9 hag9 M hw H locs ls hW hS hl
    unfold b_L_step_145 at hw
    refine lv_iconst (v := 1) hx hb dL_step_145 (by decide) ?_
    refine lv_goto (tgt := 150) hx hb dL_step_146 (by decide) ?_
    exact L_150 ad9 hag9 M 1 hw H locs ls hW hS (lv_sub hl [0, 1] rfl)
  have L_108 : ∀ (ad9 : AD) (hag9 : AG fr_L_step ad ad9) (M : Mem) (x4 : Int32), b_L_step_108 Q X M x4 → WL p l e rm_L_step s m args below meth c QQ E base 14 M ad9 108 [(0, .ref (ad9 4 0)), (1, .ref (ad9 61 0)), (4, .int x4)] [] 0 0 := by
    intro ad9 hag9 M x4 hw H locs ls hW hS hl
    unfold b_L_step_108 at hw
    refine lv_aload_n hx hb dL_step_108 rfl (lv_at hl 1 rfl) ?_
    refine lv_iconst (v := 0) hx hb dL_step_109 (by decide) ?_
    obtain ⟨g_12, hw⟩ := hw
    obtain ⟨g_13, hw⟩ := hw
    refine r_iald hx hb hT.1 hW (by decide) rfl (fun _ => rfl) 29 rfl g_13 g_12 dL_step_110 ?_
    refine lv_bipush (v := 6) hx hb dL_step_111 (by decide) ?_
    refine lv_icmp_ne (tgt := 132) hx hb dL_step_113 (by decide) (fun c_14 => ?_) (fun c_14 => ?_)
    · have hw := hw.2 c_14
      refine lv_aload_n hx hb dL_step_132 rfl (lv_at hl 1 rfl) ?_
      refine lv_iconst (v := 0) hx hb dL_step_133 (by decide) ?_
      obtain ⟨g_15, hw⟩ := hw
      refine r_iald hx hb hT.1 hW (by decide) rfl (fun _ => rfl) 29 rfl g_15 g_12 dL_step_134 ?_
      refine lv_if_eq (tgt := 145) hx hb dL_step_135 (by decide) (fun c_16 => ?_) (fun c_16 => ?_)
      · have hw := hw.1 c_16
        exact L_145 ad9 hag9 M hw H locs ls hW hS (lv_sub hl [0, 1] rfl)
      · have hw := hw.2 c_16
        refine lv_iload hx hb dL_step_138 (lv_at hl 2 rfl) ?_
        refine lv_iconst (v := 3) hx hb dL_step_140 (by decide) ?_
        refine lv_irem hx hb dL_step_141 (by decide) ?_
        refine lv_if_ne (tgt := 149) hx hb dL_step_142 (by decide) (fun c_64 => ?_) (fun c_64 => ?_)
        · have hw := hw.2 c_64
          refine lv_iconst (v := 0) hx hb dL_step_149 (by decide) ?_
          exact L_150 ad9 hag9 M 0 hw H locs ls hW hS (lv_sub hl [0, 1] rfl)
        · have hw := hw.1 c_64
          exact L_145 ad9 hag9 M hw H locs ls hW hS (lv_sub hl [0, 1] rfl)
    · have hw := hw.1 c_14
      refine lv_aload_n hx hb dL_step_116 rfl (lv_at hl 0 rfl) ?_
      obtain ⟨g_65, hw⟩ := hw
      refine k_I (rn_V (As := []) (rest := []) (κ := 4) (i := 0) ⟨hx, hb, hml, hown, hts⟩ hT hW hS hl (c_X4_peers l E base M ad9 _ hw) cy_X4_peers k_234 k_235 k_236 g_65 (by decide) rfl rfl rfl rfl ⟨(Nat.le_of_ble_eq_true rfl), (Nat.le_of_ble_eq_true rfl)⟩ rfl rfl (Nat.le_of_ble_eq_true rfl) dL_step_117 ⟨(Nat.le_of_ble_eq_true rfl), (Nat.le_of_ble_eq_true rfl)⟩) hS kx_no (fun r_69 M_67 ad_68 H locs hP hW hS => ?_)
      obtain ⟨hw, rfl⟩ := hP
      refine lv_aload_n hx hb dL_step_120 rfl (lv_at hl 1 rfl) ?_
      refine lv_iconst (v := 1) hx hb dL_step_121 (by decide) ?_
      obtain ⟨g_70, hw⟩ := hw
      obtain ⟨g_71, hw⟩ := hw
      refine r_iald hx hb hT.1 hW (by decide) rfl (fun _ => rfl) 29 rfl g_71 g_70 dL_step_122 ?_
      refine lv_icmp_ne (tgt := 130) hx hb dL_step_123 (by decide) (fun c_72 => ?_) (fun c_72 => ?_)
      · have hw := hw.2 c_72
        refine lv_iconst (v := 0) hx hb dL_step_130 (by decide) ?_
        rw [← hQQ]
        exact e_Z hx hb hr hlocks hW hS (Nat.le_of_ble_eq_true rfl) (Nat.le_of_ble_eq_true rfl) dL_step_131 (by decide) ⟨hw, hag9⟩
      · have hw := hw.1 c_72
        refine lv_iconst (v := 1) hx hb dL_step_126 (by decide) ?_
        refine lv_goto (tgt := 131) hx hb dL_step_127 (by decide) ?_
        rw [← hQQ]
        exact e_Z hx hb hr hlocks hW hS (Nat.le_of_ble_eq_true rfl) (Nat.le_of_ble_eq_true rfl) dL_step_131 (by decide) ⟨hw, hag9⟩
  have L_276 : ∀ (ad9 : AD) (hag9 : AG fr_L_step ad ad9) (M : Mem) , b_L_step_276 Q X M → WL p l e rm_L_step s m args below meth c QQ E base 14 M ad9 276 [(0, .ref (ad9 4 0)), (1, .ref (ad9 61 0))] [] 0 0 := by
    intro ad9 hag9 M hw H locs ls hW hS hl
    unfold b_L_step_276 at hw
    refine lv_aload_n hx hb dL_step_276 rfl (lv_at hl 0 rfl) ?_
    obtain ⟨g_74, hw⟩ := hw
    refine k_I (rn_V (As := []) (rest := []) (κ := 4) (i := 0) ⟨hx, hb, hml, hown, hts⟩ hT hW hS hl (c_X4_peers l E base M ad9 _ hw) cy_X4_peers k_234 k_235 k_236 g_74 (by decide) rfl rfl rfl rfl ⟨(Nat.le_of_ble_eq_true rfl), (Nat.le_of_ble_eq_true rfl)⟩ rfl rfl (Nat.le_of_ble_eq_true rfl) dL_step_277 ⟨(Nat.le_of_ble_eq_true rfl), (Nat.le_of_ble_eq_true rfl)⟩) hS kx_no (fun r_78 M_76 ad_77 H locs hP hW hS => ?_)
    obtain ⟨hw, rfl⟩ := hP
    refine lv_aload_n hx hb dL_step_280 rfl (lv_at hl 1 rfl) ?_
    refine lv_iconst (v := 1) hx hb dL_step_281 (by decide) ?_
    obtain ⟨g_79, hw⟩ := hw
    obtain ⟨g_80, hw⟩ := hw
    refine r_iald hx hb hT.1 hW (by decide) rfl (fun _ => rfl) 29 rfl g_80 g_79 dL_step_282 ?_
    refine lv_icmp_ne (tgt := 290) hx hb dL_step_283 (by decide) (fun c_81 => ?_) (fun c_81 => ?_)
    · have hw := hw.2 c_81
      refine lv_iconst (v := 0) hx hb dL_step_290 (by decide) ?_
      rw [← hQQ]
      exact e_Z hx hb hr hlocks hW hS (Nat.le_of_ble_eq_true rfl) (Nat.le_of_ble_eq_true rfl) dL_step_291 (by decide) ⟨hw, hag9⟩
    · have hw := hw.1 c_81
      refine lv_iconst (v := 1) hx hb dL_step_286 (by decide) ?_
      refine lv_goto (tgt := 291) hx hb dL_step_287 (by decide) ?_
      rw [← hQQ]
      exact e_Z hx hb hr hlocks hW hS (Nat.le_of_ble_eq_true rfl) (Nat.le_of_ble_eq_true rfl) dL_step_291 (by decide) ⟨hw, hag9⟩
  have L_465 : ∀ (ad9 : AD) (hag9 : AG fr_L_step ad ad9) (M : Mem) , b_L_step_465 Q X M → WL p l e rm_L_step s m args below meth c QQ E base 14 M ad9 465 [] [] 1 6 := by
    intro ad9 hag9 M hw H locs ls hW hS hl
    unfold b_L_step_465 at hw
    refine lv_iconst (v := 1) hx hb dL_step_465 (by decide) ?_
    refine lv_goto (tgt := 470) hx hb dL_step_466 (by decide) ?_
    rw [← hQQ]
    exact e_Z hx hb hr hlocks hW hS (Nat.le_of_ble_eq_true rfl) (Nat.le_of_ble_eq_true rfl) dL_step_470 (by decide) ⟨hw, hag9⟩
  have L_462 : ∀ (ad9 : AD) (hag9 : AG fr_L_step ad ad9) (M : Mem) (s0 : Int32) (s1 : Int32), b_L_step_462 Q X M s0 s1 → WL p l e rm_L_step s m args below meth c QQ E base 14 M ad9 462 [] [.int s0, .int s1] 1 6 := by
    intro ad9 hag9 M s0 s1 hw H locs ls hW hS hl
    unfold b_L_step_462 at hw
    refine lv_icmp_ne (tgt := 469) hx hb dL_step_462 (by decide) (fun c_135 => ?_) (fun c_135 => ?_)
    · have hw := hw.2 c_135
      refine lv_iconst (v := 0) hx hb dL_step_469 (by decide) ?_
      rw [← hQQ]
      exact e_Z hx hb hr hlocks hW hS (Nat.le_of_ble_eq_true rfl) (Nat.le_of_ble_eq_true rfl) dL_step_470 (by decide) ⟨hw, hag9⟩
    · have hw := hw.1 c_135
      exact L_465 ad9 hag9 M hw H locs ls hW hS (lv_sub hl [] rfl)
  have L_436 : ∀ (ad9 : AD) (hag9 : AG fr_L_step ad ad9) (M : Mem) (x5 : Int32) (x7 : Int32) (x8 : Int32) (x11 : Int32) (s0 : Int32) (s1 : Int32), b_L_step_436 Q X M x5 x7 x8 x11 s0 s1 → WL p l e rm_L_step s m args below meth c QQ E base 14 M ad9 436 [(0, .ref (ad9 4 0)), (5, .int x5), (7, .int x7), (8, .int x8), (11, .int x11)] [.int s0, .int s1, .ref (ad9 61 0)] 0 0 := by
    intro ad9 hag9 M x5 x7 x8 x11 s0 s1 hw H locs ls hW hS hl
    unfold b_L_step_436 at hw
    obtain ⟨g_125, hw⟩ := hw
    obtain ⟨g_126, hw⟩ := hw
    refine r_iast hx hb hT.1 hW hS (by decide) rfl (fun _ => rfl) 29 rfl g_126 g_125 dL_step_436 (fun M_127 H locs hM_127 hW hS => ?_)
    have hw := hw M_127 hM_127
    refine lv_iload hx hb dL_step_437 (lv_at hl 2 rfl) ?_
    refine lv_if_eq (tgt := 465) hx hb dL_step_439 (by decide) (fun c_128 => ?_) (fun c_128 => ?_)
    · have hw := hw.1 c_128
      refine W.widen (k := 1) (n := 6) (Nat.le_of_ble_eq_true rfl) (Nat.le_of_ble_eq_true rfl) ?_
      exact L_465 ad9 hag9 M_127 hw H locs ls hW hS (lv_sub hl [] rfl)
    · have hw := hw.2 c_128
      refine lv_aload_n hx hb dL_step_442 rfl (lv_at hl 0 rfl) ?_
      refine lv_iload hx hb dL_step_443 (lv_at hl 1 rfl) ?_
      refine lv_iload hx hb dL_step_445 (lv_at hl 3 rfl) ?_
      obtain ⟨g_129, hw⟩ := hw
      refine k_I (rn_V (As := [.int x5, .int x8]) (rest := []) (κ := 4) (i := 0) ⟨hx, hb, hml, hown, hts⟩ hT hW hS hl (c_X4_setSequence l hlt E base M_127 ad9 x5 x8 _ _ hw) cy_X4_setSequence k_243 k_244 k_245 g_129 (by decide) rfl rfl rfl rfl ⟨(Nat.le_of_ble_eq_true rfl), (Nat.le_of_ble_eq_true rfl)⟩ rfl rfl (Nat.le_of_ble_eq_true rfl) dL_step_447 ⟨(Nat.le_of_ble_eq_true rfl), (Nat.le_of_ble_eq_true rfl)⟩) hS (by rw [← hQQ]; exact kx_out hnx hlocks (Nat.le_of_ble_eq_true rfl) (Nat.le_of_ble_eq_true rfl) (fun _ _ _ h9 => ⟨h9.1, AG_call hag9 (AG_eq h9.2) (fun _ _ h => rfl)⟩)) (fun r_133 M_131 ad_132 H locs hP hW hS => ?_)
      obtain ⟨hw, rfl⟩ := hP
      refine lv_iload hx hb dL_step_450 (lv_at hl 4 rfl) ?_
      refine lv_iload hx hb dL_step_452 (lv_at hl 3 rfl) ?_
      refine lv_icmp_eq (tgt := 461) hx hb dL_step_454 (by decide) (fun c_134 => ?_) (fun c_134 => ?_)
      · have hw := hw.1 c_134
        refine lv_iconst (v := 0) hx hb dL_step_461 (by decide) ?_
        exact L_462 ad9 hag9 M_131 0 r_133 hw H locs ls hW hS (lv_sub hl [] rfl)
      · have hw := hw.2 c_134
        refine lv_iconst (v := 1) hx hb dL_step_457 (by decide) ?_
        refine lv_goto (tgt := 462) hx hb dL_step_458 (by decide) ?_
        exact L_462 ad9 hag9 M_131 1 r_133 hw H locs ls hW hS (lv_sub hl [] rfl)
  have L_435 : ∀ (ad9 : AD) (hag9 : AG fr_L_step ad ad9) (M : Mem) (x5 : Int32) (x7 : Int32) (x8 : Int32) (x11 : Int32) (s0 : Int32) (s1 : Int32) (s2 : Int32), b_L_step_435 Q X M x5 x7 x8 x11 s0 s1 s2 → WL p l e rm_L_step s m args below meth c QQ E base 14 M ad9 435 [(0, .ref (ad9 4 0)), (5, .int x5), (7, .int x7), (8, .int x8), (11, .int x11)] [.int s0, .int s1, .int s2, .ref (ad9 61 0)] 0 0 := by
    intro ad9 hag9 M x5 x7 x8 x11 s0 s1 s2 hw H locs ls hW hS hl
    unfold b_L_step_435 at hw
    refine lv_ior hx hb dL_step_435 ?_
    exact L_436 ad9 hag9 M x5 x7 x8 x11 (s1 ||| s0) s2 hw H locs ls hW hS (lv_sub hl [0, 1, 2, 3, 4] rfl)
  have L_394 : ∀ (ad9 : AD) (hag9 : AG fr_L_step ad ad9) (M : Mem) (x5 : Int32) (x7 : Int32) (x8 : Int32) (s0 : Int32), b_L_step_394 Q X M x5 x7 x8 s0 → WL p l e rm_L_step s m args below meth c QQ E base 14 M ad9 394 [(0, .ref (ad9 4 0)), (1, .ref (ad9 61 0)), (5, .int x5), (7, .int x7), (8, .int x8)] [.int s0] 0 0 := by
    intro ad9 hag9 M x5 x7 x8 s0 hw H locs ls hW hS hl
    unfold b_L_step_394 at hw
    refine lv_istore (lv' := [(11, .int s0), (0, .ref (ad9 4 0)), (1, .ref (ad9 61 0)), (5, .int x5), (7, .int x7), (8, .int x8)]) hx hb dL_step_394 hl (by decide) rfl (fun ls hl => ?_)
    refine lv_aload_n hx hb dL_step_396 rfl (lv_at hl 2 rfl) ?_
    refine lv_bipush (v := 16) hx hb dL_step_397 (by decide) ?_
    refine lv_iload hx hb dL_step_399 (lv_at hl 4 rfl) ?_
    refine lv_if_ne (tgt := 411) hx hb dL_step_401 (by decide) (fun c_121 => ?_) (fun c_121 => ?_)
    · have hw := hw.2 c_121
      refine lv_aload_n hx hb dL_step_411 rfl (lv_at hl 2 rfl) ?_
      refine lv_bipush (v := 16) hx hb dL_step_412 (by decide) ?_
      obtain ⟨g_122, hw⟩ := hw
      obtain ⟨g_123, hw⟩ := hw
      refine r_iald hx hb hT.1 hW (by decide) rfl (fun _ => rfl) 29 rfl g_123 g_122 dL_step_414 ?_
      refine lv_iconst (v := 1) hx hb dL_step_415 (by decide) ?_
      refine lv_iload hx hb dL_step_416 (lv_at hl 3 rfl) ?_
      refine lv_ishl hx hb dL_step_418 ?_
      refine lv_iconst (v := (-1)) hx hb dL_step_419 (by decide) ?_
      refine lv_ixor hx hb dL_step_420 ?_
      refine lv_iand hx hb dL_step_421 ?_
      refine lv_iload hx hb dL_step_422 (lv_at hl 5 rfl) ?_
      refine lv_if_eq (tgt := 434) hx hb dL_step_424 (by decide) (fun c_124 => ?_) (fun c_124 => ?_)
      · have hw := hw.1 c_124
        refine lv_iconst (v := 0) hx hb dL_step_434 (by decide) ?_
        exact L_435 ad9 hag9 M x5 x7 x8 s0 0 ((mI M 61 0 ((16 : Int32).toNatClampNeg)) &&& ((1 <<< (x5 &&& 31)) ^^^ (-1))) 16 hw H locs ls hW hS (lv_sub hl [1, 3, 4, 5, 0] rfl)
      · have hw := hw.2 c_124
        refine lv_iconst (v := 1) hx hb dL_step_427 (by decide) ?_
        refine lv_iload hx hb dL_step_428 (lv_at hl 3 rfl) ?_
        refine lv_ishl hx hb dL_step_430 ?_
        refine lv_goto (tgt := 435) hx hb dL_step_431 (by decide) ?_
        exact L_435 ad9 hag9 M x5 x7 x8 s0 (1 <<< (x5 &&& 31)) ((mI M 61 0 ((16 : Int32).toNatClampNeg)) &&& ((1 <<< (x5 &&& 31)) ^^^ (-1))) 16 hw H locs ls hW hS (lv_sub hl [1, 3, 4, 5, 0] rfl)
    · have hw := hw.1 c_121
      refine lv_aload_n hx hb dL_step_404 rfl (lv_at hl 2 rfl) ?_
      refine lv_bipush (v := 16) hx hb dL_step_405 (by decide) ?_
      obtain ⟨g_136, hw⟩ := hw
      obtain ⟨g_137, hw⟩ := hw
      refine r_iald hx hb hT.1 hW (by decide) rfl (fun _ => rfl) 29 rfl g_137 g_136 dL_step_407 ?_
      refine lv_goto (tgt := 436) hx hb dL_step_408 (by decide) ?_
      exact L_436 ad9 hag9 M x5 x7 x8 s0 (mI M 61 0 ((16 : Int32).toNatClampNeg)) 16 hw H locs ls hW hS (lv_sub hl [1, 3, 4, 5, 0] rfl)
  have L_570 : ∀ (ad9 : AD) (hag9 : AG fr_L_step ad ad9) (M : Mem) , b_L_step_570 Q X M → WL p l e rm_L_step s m args below meth c QQ E base 14 M ad9 570 [] [] 21 126 := by
    intro ad9 hag9 M hw H locs ls hW hS hl
    unfold b_L_step_570 at hw
    refine lv_iconst (v := 1) hx hb dL_step_570 (by decide) ?_
    refine lv_goto (tgt := 575) hx hb dL_step_571 (by decide) ?_
    rw [← hQQ]
    exact e_Z hx hb hr hlocks hW hS (Nat.le_of_ble_eq_true rfl) (Nat.le_of_ble_eq_true rfl) dL_step_575 (by decide) ⟨hw, hag9⟩
  have L_557 : ∀ (ad9 : AD) (hag9 : AG fr_L_step ad ad9) (M : Mem) (x5 : Int32) (s0 : Int32) (s1 : Int32), b_L_step_557 Q X M x5 s0 s1 → WL p l e rm_L_step s m args below meth c QQ E base 14 M ad9 557 [(0, .ref (ad9 4 0)), (1, .ref (ad9 61 0)), (5, .int x5)] [.int s0, .int s1] 1 6 := by
    intro ad9 hag9 M x5 s0 s1 hw H locs ls hW hS hl
    unfold b_L_step_557 at hw
    refine lv_icmp_ne (tgt := 574) hx hb dL_step_557 (by decide) (fun c_155 => ?_) (fun c_155 => ?_)
    · have hw := hw.2 c_155
      refine lv_iconst (v := 0) hx hb dL_step_574 (by decide) ?_
      rw [← hQQ]
      exact e_Z hx hb hr hlocks hW hS (Nat.le_of_ble_eq_true rfl) (Nat.le_of_ble_eq_true rfl) dL_step_575 (by decide) ⟨hw, hag9⟩
    · have hw := hw.1 c_155
      refine lv_aload_n hx hb dL_step_560 rfl (lv_at hl 0 rfl) ?_
      refine lv_aload_n hx hb dL_step_561 rfl (lv_at hl 1 rfl) ?_
      refine lv_iload hx hb dL_step_562 (lv_at hl 2 rfl) ?_
      refine k_I (rn_S (As := [.ref (ad9 4 0), .ref (ad9 61 0), .int x5]) (rest := []) ⟨hx, hb, hml, hown, hts⟩ hT hW hS hl (c_L_areShown l hlt E base M ad9 x5 _ _ hw) cy_L_areShown k_249 k_250 rfl rfl ⟨(Nat.le_of_ble_eq_true rfl), (Nat.le_of_ble_eq_true rfl)⟩ rfl rfl (Nat.le_of_ble_eq_true rfl) dL_step_564 ⟨(Nat.le_of_ble_eq_true rfl), (Nat.le_of_ble_eq_true rfl)⟩) hS (by rw [← hQQ]; exact kx_out hnx hlocks (Nat.le_of_ble_eq_true rfl) (Nat.le_of_ble_eq_true rfl) (fun _ _ _ h9 => ⟨h9.1, AG_call hag9 (AG_eq h9.2) (fun _ _ h => rfl)⟩)) (fun r_159 M_157 ad_158 H locs hP hW hS => ?_)
      obtain ⟨hw, rfl⟩ := hP
      refine lv_if_eq (tgt := 574) hx hb dL_step_567 (by decide) (fun c_160 => ?_) (fun c_160 => ?_)
      · have hw := hw.1 c_160
        refine lv_iconst (v := 0) hx hb dL_step_574 (by decide) ?_
        rw [← hQQ]
        exact e_Z hx hb hr hlocks hW hS (Nat.le_of_ble_eq_true rfl) (Nat.le_of_ble_eq_true rfl) dL_step_575 (by decide) ⟨hw, hag9⟩
      · have hw := hw.2 c_160
        exact L_570 ad9 hag9 M_157 hw H locs ls hW hS (lv_sub hl [] rfl)
  have L_531 : ∀ (ad9 : AD) (hag9 : AG fr_L_step ad ad9) (M : Mem) (x5 : Int32) (x7 : Int32) (x8 : Int32) (x12 : Int32) (s0 : Int32) (s1 : Int32), b_L_step_531 Q X M x5 x7 x8 x12 s0 s1 → WL p l e rm_L_step s m args below meth c QQ E base 14 M ad9 531 [(0, .ref (ad9 4 0)), (1, .ref (ad9 61 0)), (5, .int x5), (7, .int x7), (8, .int x8), (12, .int x12)] [.int s0, .int s1, .ref (ad9 61 0)] 0 0 := by
    intro ad9 hag9 M x5 x7 x8 x12 s0 s1 hw H locs ls hW hS hl
    unfold b_L_step_531 at hw
    obtain ⟨g_145, hw⟩ := hw
    obtain ⟨g_146, hw⟩ := hw
    refine r_iast hx hb hT.1 hW hS (by decide) rfl (fun _ => rfl) 29 rfl g_146 g_145 dL_step_531 (fun M_147 H locs hM_147 hW hS => ?_)
    have hw := hw M_147 hM_147
    refine lv_iload hx hb dL_step_532 (lv_at hl 3 rfl) ?_
    refine lv_if_eq (tgt := 570) hx hb dL_step_534 (by decide) (fun c_148 => ?_) (fun c_148 => ?_)
    · have hw := hw.1 c_148
      refine W.widen (k := 21) (n := 126) (Nat.le_of_ble_eq_true rfl) (Nat.le_of_ble_eq_true rfl) ?_
      exact L_570 ad9 hag9 M_147 hw H locs ls hW hS (lv_sub hl [] rfl)
    · have hw := hw.2 c_148
      refine lv_aload_n hx hb dL_step_537 rfl (lv_at hl 0 rfl) ?_
      refine lv_iload hx hb dL_step_538 (lv_at hl 2 rfl) ?_
      refine lv_iload hx hb dL_step_540 (lv_at hl 4 rfl) ?_
      obtain ⟨g_149, hw⟩ := hw
      refine k_I (rn_V (As := [.int x5, .int x8]) (rest := []) (κ := 4) (i := 0) ⟨hx, hb, hml, hown, hts⟩ hT hW hS hl (c_X4_setCareful l hlt E base M_147 ad9 x5 x8 _ _ hw) cy_X4_setCareful k_246 k_247 k_248 g_149 (by decide) rfl rfl rfl rfl ⟨(Nat.le_of_ble_eq_true rfl), (Nat.le_of_ble_eq_true rfl)⟩ rfl rfl (Nat.le_of_ble_eq_true rfl) dL_step_542 ⟨(Nat.le_of_ble_eq_true rfl), (Nat.le_of_ble_eq_true rfl)⟩) hS (by rw [← hQQ]; exact kx_out hnx hlocks (Nat.le_of_ble_eq_true rfl) (Nat.le_of_ble_eq_true rfl) (fun _ _ _ h9 => ⟨h9.1, AG_call hag9 (AG_eq h9.2) (fun _ _ h => rfl)⟩)) (fun r_153 M_151 ad_152 H locs hP hW hS => ?_)
      obtain ⟨hw, rfl⟩ := hP
      refine lv_iload hx hb dL_step_545 (lv_at hl 5 rfl) ?_
      refine lv_iload hx hb dL_step_547 (lv_at hl 4 rfl) ?_
      refine lv_icmp_eq (tgt := 556) hx hb dL_step_549 (by decide) (fun c_154 => ?_) (fun c_154 => ?_)
      · have hw := hw.1 c_154
        refine lv_iconst (v := 0) hx hb dL_step_556 (by decide) ?_
        exact L_557 ad9 hag9 M_151 x5 0 r_153 hw H locs ls hW hS (lv_sub hl [0, 1, 2] rfl)
      · have hw := hw.2 c_154
        refine lv_iconst (v := 1) hx hb dL_step_552 (by decide) ?_
        refine lv_goto (tgt := 557) hx hb dL_step_553 (by decide) ?_
        exact L_557 ad9 hag9 M_151 x5 1 r_153 hw H locs ls hW hS (lv_sub hl [0, 1, 2] rfl)
  have L_530 : ∀ (ad9 : AD) (hag9 : AG fr_L_step ad ad9) (M : Mem) (x5 : Int32) (x7 : Int32) (x8 : Int32) (x12 : Int32) (s0 : Int32) (s1 : Int32) (s2 : Int32), b_L_step_530 Q X M x5 x7 x8 x12 s0 s1 s2 → WL p l e rm_L_step s m args below meth c QQ E base 14 M ad9 530 [(0, .ref (ad9 4 0)), (1, .ref (ad9 61 0)), (5, .int x5), (7, .int x7), (8, .int x8), (12, .int x12)] [.int s0, .int s1, .int s2, .ref (ad9 61 0)] 0 0 := by
    intro ad9 hag9 M x5 x7 x8 x12 s0 s1 s2 hw H locs ls hW hS hl
    unfold b_L_step_530 at hw
    refine lv_ior hx hb dL_step_530 ?_
    exact L_531 ad9 hag9 M x5 x7 x8 x12 (s1 ||| s0) s2 hw H locs ls hW hS (lv_sub hl [0, 1, 2, 3, 4, 5] rfl)
  have L_489 : ∀ (ad9 : AD) (hag9 : AG fr_L_step ad ad9) (M : Mem) (x5 : Int32) (x7 : Int32) (x8 : Int32) (s0 : Int32), b_L_step_489 Q X M x5 x7 x8 s0 → WL p l e rm_L_step s m args below meth c QQ E base 14 M ad9 489 [(0, .ref (ad9 4 0)), (1, .ref (ad9 61 0)), (5, .int x5), (7, .int x7), (8, .int x8)] [.int s0] 0 0 := by
    intro ad9 hag9 M x5 x7 x8 s0 hw H locs ls hW hS hl
    unfold b_L_step_489 at hw
    refine lv_istore (lv' := [(12, .int s0), (0, .ref (ad9 4 0)), (1, .ref (ad9 61 0)), (5, .int x5), (7, .int x7), (8, .int x8)]) hx hb dL_step_489 hl (by decide) rfl (fun ls hl => ?_)
    refine lv_aload_n hx hb dL_step_491 rfl (lv_at hl 2 rfl) ?_
    refine lv_bipush (v := 15) hx hb dL_step_492 (by decide) ?_
    refine lv_iload hx hb dL_step_494 (lv_at hl 4 rfl) ?_
    refine lv_if_ne (tgt := 506) hx hb dL_step_496 (by decide) (fun c_141 => ?_) (fun c_141 => ?_)
    · have hw := hw.2 c_141
      refine lv_aload_n hx hb dL_step_506 rfl (lv_at hl 2 rfl) ?_
      refine lv_bipush (v := 15) hx hb dL_step_507 (by decide) ?_
      obtain ⟨g_142, hw⟩ := hw
      obtain ⟨g_143, hw⟩ := hw
      refine r_iald hx hb hT.1 hW (by decide) rfl (fun _ => rfl) 29 rfl g_143 g_142 dL_step_509 ?_
      refine lv_iconst (v := 1) hx hb dL_step_510 (by decide) ?_
      refine lv_iload hx hb dL_step_511 (lv_at hl 3 rfl) ?_
      refine lv_ishl hx hb dL_step_513 ?_
      refine lv_iconst (v := (-1)) hx hb dL_step_514 (by decide) ?_
      refine lv_ixor hx hb dL_step_515 ?_
      refine lv_iand hx hb dL_step_516 ?_
      refine lv_iload hx hb dL_step_517 (lv_at hl 5 rfl) ?_
      refine lv_if_eq (tgt := 529) hx hb dL_step_519 (by decide) (fun c_144 => ?_) (fun c_144 => ?_)
      · have hw := hw.1 c_144
        refine lv_iconst (v := 0) hx hb dL_step_529 (by decide) ?_
        exact L_530 ad9 hag9 M x5 x7 x8 s0 0 ((mI M 61 0 ((15 : Int32).toNatClampNeg)) &&& ((1 <<< (x5 &&& 31)) ^^^ (-1))) 15 hw H locs ls hW hS (lv_sub hl [1, 2, 3, 4, 5, 0] rfl)
      · have hw := hw.2 c_144
        refine lv_iconst (v := 1) hx hb dL_step_522 (by decide) ?_
        refine lv_iload hx hb dL_step_523 (lv_at hl 3 rfl) ?_
        refine lv_ishl hx hb dL_step_525 ?_
        refine lv_goto (tgt := 530) hx hb dL_step_526 (by decide) ?_
        exact L_530 ad9 hag9 M x5 x7 x8 s0 (1 <<< (x5 &&& 31)) ((mI M 61 0 ((15 : Int32).toNatClampNeg)) &&& ((1 <<< (x5 &&& 31)) ^^^ (-1))) 15 hw H locs ls hW hS (lv_sub hl [1, 2, 3, 4, 5, 0] rfl)
    · have hw := hw.1 c_141
      refine lv_aload_n hx hb dL_step_499 rfl (lv_at hl 2 rfl) ?_
      refine lv_bipush (v := 15) hx hb dL_step_500 (by decide) ?_
      obtain ⟨g_161, hw⟩ := hw
      obtain ⟨g_162, hw⟩ := hw
      refine r_iald hx hb hT.1 hW (by decide) rfl (fun _ => rfl) 29 rfl g_162 g_161 dL_step_502 ?_
      refine lv_goto (tgt := 531) hx hb dL_step_503 (by decide) ?_
      exact L_531 ad9 hag9 M x5 x7 x8 s0 (mI M 61 0 ((15 : Int32).toNatClampNeg)) 15 hw H locs ls hW hS (lv_sub hl [1, 2, 3, 4, 5, 0] rfl)
  have L_679 : ∀ (ad9 : AD) (hag9 : AG fr_L_step ad ad9) (M : Mem) , b_L_step_679 Q X M → WL p l e rm_L_step s m args below meth c QQ E base 14 M ad9 679 [] [] 2 12 := by
    intro ad9 hag9 M hw H locs ls hW hS hl
    unfold b_L_step_679 at hw
    refine lv_iconst (v := 1) hx hb dL_step_679 (by decide) ?_
    refine lv_goto (tgt := 684) hx hb dL_step_680 (by decide) ?_
    rw [← hQQ]
    exact e_Z hx hb hr hlocks hW hS (Nat.le_of_ble_eq_true rfl) (Nat.le_of_ble_eq_true rfl) dL_step_684 (by decide) ⟨hw, hag9⟩
  have L_676 : ∀ (ad9 : AD) (hag9 : AG fr_L_step ad ad9) (M : Mem) (s0 : Int32) (s1 : Int32), b_L_step_676 Q X M s0 s1 → WL p l e rm_L_step s m args below meth c QQ E base 14 M ad9 676 [] [.int s0, .int s1] 2 12 := by
    intro ad9 hag9 M s0 s1 hw H locs ls hW hS hl
    unfold b_L_step_676 at hw
    refine lv_icmp_ne (tgt := 683) hx hb dL_step_676 (by decide) (fun c_180 => ?_) (fun c_180 => ?_)
    · have hw := hw.2 c_180
      refine lv_iconst (v := 0) hx hb dL_step_683 (by decide) ?_
      rw [← hQQ]
      exact e_Z hx hb hr hlocks hW hS (Nat.le_of_ble_eq_true rfl) (Nat.le_of_ble_eq_true rfl) dL_step_684 (by decide) ⟨hw, hag9⟩
    · have hw := hw.1 c_180
      exact L_679 ad9 hag9 M hw H locs ls hW hS (lv_sub hl [] rfl)
  have L_648 : ∀ (ad9 : AD) (hag9 : AG fr_L_step ad ad9) (M : Mem) (x5 : Int32) (x6 : Int32) (x7 : Int32) (x8 : Int32) (x13 : Int32) (s0 : Int32) (s1 : Int32), b_L_step_648 Q X M x5 x6 x7 x8 x13 s0 s1 → WL p l e rm_L_step s m args below meth c QQ E base 14 M ad9 648 [(0, .ref (ad9 4 0)), (5, .int x5), (6, .int x6), (7, .int x7), (8, .int x8), (13, .int x13)] [.int s0, .int s1, .ref (ad9 61 0)] 0 0 := by
    intro ad9 hag9 M x5 x6 x7 x8 x13 s0 s1 hw H locs ls hW hS hl
    unfold b_L_step_648 at hw
    obtain ⟨g_170, hw⟩ := hw
    obtain ⟨g_171, hw⟩ := hw
    refine r_iast hx hb hT.1 hW hS (by decide) rfl (fun _ => rfl) 29 rfl g_171 g_170 dL_step_648 (fun M_172 H locs hM_172 hW hS => ?_)
    have hw := hw M_172 hM_172
    refine lv_iload hx hb dL_step_649 (lv_at hl 3 rfl) ?_
    refine lv_if_eq (tgt := 679) hx hb dL_step_651 (by decide) (fun c_173 => ?_) (fun c_173 => ?_)
    · have hw := hw.1 c_173
      refine W.widen (k := 2) (n := 12) (Nat.le_of_ble_eq_true rfl) (Nat.le_of_ble_eq_true rfl) ?_
      exact L_679 ad9 hag9 M_172 hw H locs ls hW hS (lv_sub hl [] rfl)
    · have hw := hw.2 c_173
      refine lv_aload_n hx hb dL_step_654 rfl (lv_at hl 0 rfl) ?_
      refine lv_iload hx hb dL_step_655 (lv_at hl 1 rfl) ?_
      refine lv_iload hx hb dL_step_657 (lv_at hl 2 rfl) ?_
      refine lv_iload hx hb dL_step_659 (lv_at hl 4 rfl) ?_
      obtain ⟨g_174, hw⟩ := hw
      refine k_I (rn_V (As := [.int x5, .int x6, .int x8]) (rest := []) (κ := 4) (i := 0) ⟨hx, hb, hml, hown, hts⟩ hT hW hS hl (c_X4_spoil l hlt E base M_172 ad9 x5 x6 x8 _ _ hw) cy_X4_spoil k_251 k_252 k_253 g_174 (by decide) rfl rfl rfl rfl ⟨(Nat.le_of_ble_eq_true rfl), (Nat.le_of_ble_eq_true rfl)⟩ rfl rfl (Nat.le_of_ble_eq_true rfl) dL_step_661 ⟨(Nat.le_of_ble_eq_true rfl), (Nat.le_of_ble_eq_true rfl)⟩) hS (by rw [← hQQ]; exact kx_out hnx hlocks (Nat.le_of_ble_eq_true rfl) (Nat.le_of_ble_eq_true rfl) (fun _ _ _ h9 => ⟨h9.1, AG_call hag9 (AG_eq h9.2) (fun _ _ h => rfl)⟩)) (fun r_178 M_176 ad_177 H locs hP hW hS => ?_)
      obtain ⟨hw, rfl⟩ := hP
      refine lv_iload hx hb dL_step_664 (lv_at hl 5 rfl) ?_
      refine lv_iload hx hb dL_step_666 (lv_at hl 4 rfl) ?_
      refine lv_icmp_eq (tgt := 675) hx hb dL_step_668 (by decide) (fun c_179 => ?_) (fun c_179 => ?_)
      · have hw := hw.1 c_179
        refine lv_iconst (v := 0) hx hb dL_step_675 (by decide) ?_
        exact L_676 ad9 hag9 M_176 0 r_178 hw H locs ls hW hS (lv_sub hl [] rfl)
      · have hw := hw.2 c_179
        refine lv_iconst (v := 1) hx hb dL_step_671 (by decide) ?_
        refine lv_goto (tgt := 676) hx hb dL_step_672 (by decide) ?_
        exact L_676 ad9 hag9 M_176 1 r_178 hw H locs ls hW hS (lv_sub hl [] rfl)
  have L_647 : ∀ (ad9 : AD) (hag9 : AG fr_L_step ad ad9) (M : Mem) (x5 : Int32) (x6 : Int32) (x7 : Int32) (x8 : Int32) (x13 : Int32) (s0 : Int32) (s1 : Int32) (s2 : Int32), b_L_step_647 Q X M x5 x6 x7 x8 x13 s0 s1 s2 → WL p l e rm_L_step s m args below meth c QQ E base 14 M ad9 647 [(0, .ref (ad9 4 0)), (5, .int x5), (6, .int x6), (7, .int x7), (8, .int x8), (13, .int x13)] [.int s0, .int s1, .int s2, .ref (ad9 61 0)] 0 0 := by
    intro ad9 hag9 M x5 x6 x7 x8 x13 s0 s1 s2 hw H locs ls hW hS hl
    unfold b_L_step_647 at hw
    refine lv_ior hx hb dL_step_647 ?_
    exact L_648 ad9 hag9 M x5 x6 x7 x8 x13 (s1 ||| s0) s2 hw H locs ls hW hS (lv_sub hl [0, 1, 2, 3, 4, 5] rfl)
  have L_597 : ∀ (ad9 : AD) (hag9 : AG fr_L_step ad ad9) (M : Mem) (x5 : Int32) (x6 : Int32) (x7 : Int32) (x8 : Int32) (s0 : Int32), b_L_step_597 Q X M x5 x6 x7 x8 s0 → WL p l e rm_L_step s m args below meth c QQ E base 14 M ad9 597 [(0, .ref (ad9 4 0)), (1, .ref (ad9 61 0)), (5, .int x5), (6, .int x6), (7, .int x7), (8, .int x8)] [.int s0] 0 0 := by
    intro ad9 hag9 M x5 x6 x7 x8 s0 hw H locs ls hW hS hl
    unfold b_L_step_597 at hw
    refine lv_istore (lv' := [(13, .int s0), (0, .ref (ad9 4 0)), (1, .ref (ad9 61 0)), (5, .int x5), (6, .int x6), (7, .int x7), (8, .int x8)]) hx hb dL_step_597 hl (by decide) rfl (fun ls hl => ?_)
    refine lv_aload_n hx hb dL_step_599 rfl (lv_at hl 2 rfl) ?_
    refine lv_bipush (v := 17) hx hb dL_step_600 (by decide) ?_
    refine lv_iload hx hb dL_step_602 (lv_at hl 3 rfl) ?_
    refine lv_iadd hx hb dL_step_604 ?_
    refine lv_iload hx hb dL_step_605 (lv_at hl 5 rfl) ?_
    refine lv_if_ne (tgt := 620) hx hb dL_step_607 (by decide) (fun c_166 => ?_) (fun c_166 => ?_)
    · have hw := hw.2 c_166
      refine lv_aload_n hx hb dL_step_620 rfl (lv_at hl 2 rfl) ?_
      refine lv_bipush (v := 17) hx hb dL_step_621 (by decide) ?_
      refine lv_iload hx hb dL_step_623 (lv_at hl 3 rfl) ?_
      refine lv_iadd hx hb dL_step_625 ?_
      obtain ⟨g_167, hw⟩ := hw
      obtain ⟨g_168, hw⟩ := hw
      refine r_iald hx hb hT.1 hW (by decide) rfl (fun _ => rfl) 29 rfl g_168 g_167 dL_step_626 ?_
      refine lv_iconst (v := 1) hx hb dL_step_627 (by decide) ?_
      refine lv_iload hx hb dL_step_628 (lv_at hl 4 rfl) ?_
      refine lv_ishl hx hb dL_step_630 ?_
      refine lv_iconst (v := (-1)) hx hb dL_step_631 (by decide) ?_
      refine lv_ixor hx hb dL_step_632 ?_
      refine lv_iand hx hb dL_step_633 ?_
      refine lv_iload hx hb dL_step_634 (lv_at hl 6 rfl) ?_
      refine lv_if_eq (tgt := 646) hx hb dL_step_636 (by decide) (fun c_169 => ?_) (fun c_169 => ?_)
      · have hw := hw.1 c_169
        refine lv_iconst (v := 0) hx hb dL_step_646 (by decide) ?_
        exact L_647 ad9 hag9 M x5 x6 x7 x8 s0 0 ((mI M 61 0 ((17 + x5).toNatClampNeg)) &&& ((1 <<< (x6 &&& 31)) ^^^ (-1))) (17 + x5) hw H locs ls hW hS (lv_sub hl [1, 3, 4, 5, 6, 0] rfl)
      · have hw := hw.2 c_169
        refine lv_iconst (v := 1) hx hb dL_step_639 (by decide) ?_
        refine lv_iload hx hb dL_step_640 (lv_at hl 4 rfl) ?_
        refine lv_ishl hx hb dL_step_642 ?_
        refine lv_goto (tgt := 647) hx hb dL_step_643 (by decide) ?_
        exact L_647 ad9 hag9 M x5 x6 x7 x8 s0 (1 <<< (x6 &&& 31)) ((mI M 61 0 ((17 + x5).toNatClampNeg)) &&& ((1 <<< (x6 &&& 31)) ^^^ (-1))) (17 + x5) hw H locs ls hW hS (lv_sub hl [1, 3, 4, 5, 6, 0] rfl)
    · have hw := hw.1 c_166
      refine lv_aload_n hx hb dL_step_610 rfl (lv_at hl 2 rfl) ?_
      refine lv_bipush (v := 17) hx hb dL_step_611 (by decide) ?_
      refine lv_iload hx hb dL_step_613 (lv_at hl 3 rfl) ?_
      refine lv_iadd hx hb dL_step_615 ?_
      obtain ⟨g_181, hw⟩ := hw
      obtain ⟨g_182, hw⟩ := hw
      refine r_iald hx hb hT.1 hW (by decide) rfl (fun _ => rfl) 29 rfl g_182 g_181 dL_step_616 ?_
      refine lv_goto (tgt := 648) hx hb dL_step_617 (by decide) ?_
      exact L_648 ad9 hag9 M x5 x6 x7 x8 s0 (mI M 61 0 ((17 + x5).toNatClampNeg)) (17 + x5) hw H locs ls hW hS (lv_sub hl [1, 3, 4, 5, 6, 0] rfl)
  have L_703 : ∀ (ad9 : AD) (hag9 : AG fr_L_step ad ad9) (M : Mem) (s0 : Int32), b_L_step_703 Q X M s0 → WL p l e rm_L_step s m args below meth c QQ E base 14 M ad9 703 [] [.int s0, .ref (ad9 61 0), .ref (ad9 4 0)] 0 0 := by
    intro ad9 hag9 M s0 hw H locs ls hW hS hl
    unfold b_L_step_703 at hw
    refine k_I (rn_S (As := [.ref (ad9 4 0), .ref (ad9 61 0), .int s0]) (rest := []) ⟨hx, hb, hml, hown, hts⟩ hT hW hS hl (c_L_runs l hlt E base M ad9 s0 _ _ hw) cy_L_runs k_254 k_255 rfl rfl ⟨(Nat.le_of_ble_eq_true rfl), (Nat.le_of_ble_eq_true rfl)⟩ rfl rfl (Nat.le_of_ble_eq_true rfl) dL_step_703 ⟨(Nat.le_of_ble_eq_true rfl), (Nat.le_of_ble_eq_true rfl)⟩) hS (by rw [← hQQ]; exact kx_out hnx hlocks (Nat.le_of_ble_eq_true rfl) (Nat.le_of_ble_eq_true rfl) (fun _ _ _ h9 => ⟨h9.1, AG_call hag9 (AG_eq h9.2) (fun _ _ h => rfl)⟩)) (fun r_187 M_185 ad_186 H locs hP hW hS => ?_)
    obtain ⟨hw, rfl⟩ := hP
    obtain ⟨g_188, hw⟩ := hw
    rw [← hQQ]
    exact e_Z hx hb hr hlocks hW hS (Nat.le_of_ble_eq_true rfl) (Nat.le_of_ble_eq_true rfl) dL_step_706 g_188 ⟨hw, hag9⟩
  have L_58 : ∀ (ad9 : AD) (hag9 : AG fr_L_step ad ad9) (M : Mem) (x2 : Int32) (x3 : Int32) (x4 : Int32) (x5 : Int32) (x6 : Int32) (x7 : Int32) (s0 : Int32), b_L_step_58 Q X M x2 x3 x4 x5 x6 x7 s0 → WL p l e rm_L_step s m args below meth c QQ E base 14 M ad9 58 [(0, .ref (ad9 4 0)), (1, .ref (ad9 61 0)), (2, .int x2), (3, .int x3), (4, .int x4), (5, .int x5), (6, .int x6), (7, .int x7)] [.int s0] 0 0 := by
    intro ad9 hag9 M x2 x3 x4 x5 x6 x7 s0 hw H locs ls hW hS hl
    unfold b_L_step_58 at hw
    refine lv_istore (lv' := [(8, .int s0), (0, .ref (ad9 4 0)), (1, .ref (ad9 61 0)), (2, .int x2), (3, .int x3), (4, .int x4), (5, .int x5), (6, .int x6), (7, .int x7)]) hx hb dL_step_58 hl (by decide) rfl (fun ls hl => ?_)
    refine lv_iload_n hx hb dL_step_60 rfl (lv_at hl 3 rfl) ?_
    refine lv_bipush (v := 14) hx hb dL_step_61 (by decide) ?_
    refine lv_irem hx hb dL_step_63 (by decide) ?_
    refine lv_topi (fun v_11 ev_11 => ?_)
    have hw := hw v_11 ev_11
    by_cases h0 : v_11 = 0
    · have hw := hw.1 h0
      refine lv_tableIn (tgt := 108) hx hb dL_step_64 (by rw [h0]; decide) (by rw [h0]; decide) (by rw [h0]; rfl) (by decide) ?_
      exact L_108 ad9 hag9 M x4 hw H locs ls hW hS (lv_sub hl [1, 2, 5] rfl)
    have hw := hw.2 h0
    by_cases h1 : v_11 = 1
    · have hw := hw.1 h1
      refine lv_tableIn (tgt := 108) hx hb dL_step_64 (by rw [h1]; decide) (by rw [h1]; decide) (by rw [h1]; rfl) (by decide) ?_
      exact L_108 ad9 hag9 M x4 hw H locs ls hW hS (lv_sub hl [1, 2, 5] rfl)
    have hw := hw.2 h1
    by_cases h2 : v_11 = 2
    · have hw := hw.1 h2
      refine lv_tableIn (tgt := 263) hx hb dL_step_64 (by rw [h2]; decide) (by rw [h2]; decide) (by rw [h2]; rfl) (by decide) ?_
      refine lv_iload hx hb dL_step_263 (lv_at hl 8 rfl) ?_
      refine lv_if_eq (tgt := 276) hx hb dL_step_265 (by decide) (fun c_73 => ?_) (fun c_73 => ?_)
      · have hw := hw.1 c_73
        exact L_276 ad9 hag9 M hw H locs ls hW hS (lv_sub hl [1, 2] rfl)
      · have hw := hw.2 c_73
        refine lv_iload hx hb dL_step_268 (lv_at hl 5 rfl) ?_
        refine lv_bipush (v := 6) hx hb dL_step_270 (by decide) ?_
        refine lv_irem hx hb dL_step_272 (by decide) ?_
        refine lv_if_le (tgt := 292) hx hb dL_step_273 (by decide) (fun c_82 => ?_) (fun c_82 => ?_)
        · have hw := hw.1 c_82
          refine lv_aload_n hx hb dL_step_292 rfl (lv_at hl 2 rfl) ?_
          refine lv_iconst (v := 1) hx hb dL_step_293 (by decide) ?_
          refine lv_dup2_11 hx hb dL_step_294 rfl rfl ?_
          obtain ⟨g_83, hw⟩ := hw
          obtain ⟨g_84, hw⟩ := hw
          refine r_iald hx hb hT.1 hW (by decide) rfl (fun _ => rfl) 29 rfl g_84 g_83 dL_step_295 ?_
          refine lv_iconst (v := 1) hx hb dL_step_296 (by decide) ?_
          refine lv_iload hx hb dL_step_297 (lv_at hl 6 rfl) ?_
          refine lv_ishl hx hb dL_step_299 ?_
          refine lv_iconst (v := (-1)) hx hb dL_step_300 (by decide) ?_
          refine lv_ixor hx hb dL_step_301 ?_
          refine lv_iand hx hb dL_step_302 ?_
          obtain ⟨g_85, hw⟩ := hw
          refine r_iast hx hb hT.1 hW hS (by decide) rfl (fun _ => rfl) 29 rfl g_85 g_83 dL_step_303 (fun M_86 H locs hM_86 hW hS => ?_)
          have hw := hw M_86 hM_86
          refine lv_aload_n hx hb dL_step_304 rfl (lv_at hl 1 rfl) ?_
          refine lv_iload hx hb dL_step_305 (lv_at hl 6 rfl) ?_
          obtain ⟨g_87, hw⟩ := hw
          refine k_I (rn_V (As := [.int x5]) (rest := []) (κ := 4) (i := 0) ⟨hx, hb, hml, hown, hts⟩ hT hW hS hl (c_X4_leave l hlt E base M_86 ad9 x5 _ _ hw) cy_X4_leave k_237 k_238 k_239 g_87 (by decide) rfl rfl rfl rfl ⟨(Nat.le_of_ble_eq_true rfl), (Nat.le_of_ble_eq_true rfl)⟩ rfl rfl (Nat.le_of_ble_eq_true rfl) dL_step_307 ⟨(Nat.le_of_ble_eq_true rfl), (Nat.le_of_ble_eq_true rfl)⟩) hS (by rw [← hQQ]; exact kx_out hnx hlocks (Nat.le_of_ble_eq_true rfl) (Nat.le_of_ble_eq_true rfl) (fun _ _ _ h9 => ⟨h9.1, AG_call hag9 (AG_eq h9.2) (fun _ _ h => rfl)⟩)) (fun r_91 M_89 ad_90 H locs hP hW hS => ?_)
          obtain ⟨hw, rfl⟩ := hP
          refine lv_aload_n hx hb dL_step_310 rfl (lv_at hl 2 rfl) ?_
          refine lv_bipush (v := 23) hx hb dL_step_311 (by decide) ?_
          refine lv_iload hx hb dL_step_313 (lv_at hl 6 rfl) ?_
          refine lv_iadd hx hb dL_step_315 ?_
          obtain ⟨g_92, hw⟩ := hw
          obtain ⟨g_93, hw⟩ := hw
          refine r_iald hx hb hT.1 hW (by decide) rfl (fun _ => rfl) 29 rfl g_93 g_92 dL_step_316 ?_
          refine k_I (rn_S (As := [.int (mI M_89 61 0 ((23 + x5).toNatClampNeg))]) (rest := [.int r_91]) ⟨hx, hb, hml, hown, hts⟩ hT hW hS hl (c_L_count l E base M_89 ad9 (mI M_89 61 0 ((23 + x5).toNatClampNeg)) _ hw) cy_L_count k_223 k_224 rfl rfl ⟨(Nat.le_of_ble_eq_true rfl), (Nat.le_of_ble_eq_true rfl)⟩ rfl rfl (Nat.le_of_ble_eq_true rfl) dL_step_317 ⟨(Nat.le_of_ble_eq_true rfl), (Nat.le_of_ble_eq_true rfl)⟩) hS kx_no (fun r_97 M_95 ad_96 H locs hP hW hS => ?_)
          obtain ⟨hw, rfl⟩ := hP
          refine lv_icmp_ne (tgt := 337) hx hb dL_step_320 (by decide) (fun c_98 => ?_) (fun c_98 => ?_)
          · have hw := hw.2 c_98
            refine lv_iconst (v := 0) hx hb dL_step_337 (by decide) ?_
            rw [← hQQ]
            exact e_Z hx hb hr hlocks hW hS (Nat.le_of_ble_eq_true rfl) (Nat.le_of_ble_eq_true rfl) dL_step_338 (by decide) ⟨hw, hag9⟩
          · have hw := hw.1 c_98
            refine lv_aload_n hx hb dL_step_323 rfl (lv_at hl 1 rfl) ?_
            obtain ⟨g_99, hw⟩ := hw
            refine k_I (rn_V (As := []) (rest := []) (κ := 4) (i := 0) ⟨hx, hb, hml, hown, hts⟩ hT hW hS hl (c_X4_peers l E base M_95 ad9 _ hw) cy_X4_peers k_234 k_235 k_236 g_99 (by decide) rfl rfl rfl rfl ⟨(Nat.le_of_ble_eq_true rfl), (Nat.le_of_ble_eq_true rfl)⟩ rfl rfl (Nat.le_of_ble_eq_true rfl) dL_step_324 ⟨(Nat.le_of_ble_eq_true rfl), (Nat.le_of_ble_eq_true rfl)⟩) hS kx_no (fun r_103 M_101 ad_102 H locs hP hW hS => ?_)
            obtain ⟨hw, rfl⟩ := hP
            refine lv_aload_n hx hb dL_step_327 rfl (lv_at hl 2 rfl) ?_
            refine lv_iconst (v := 1) hx hb dL_step_328 (by decide) ?_
            obtain ⟨g_104, hw⟩ := hw
            obtain ⟨g_105, hw⟩ := hw
            refine r_iald hx hb hT.1 hW (by decide) rfl (fun _ => rfl) 29 rfl g_105 g_104 dL_step_329 ?_
            refine lv_icmp_ne (tgt := 337) hx hb dL_step_330 (by decide) (fun c_106 => ?_) (fun c_106 => ?_)
            · have hw := hw.2 c_106
              refine lv_iconst (v := 0) hx hb dL_step_337 (by decide) ?_
              rw [← hQQ]
              exact e_Z hx hb hr hlocks hW hS (Nat.le_of_ble_eq_true rfl) (Nat.le_of_ble_eq_true rfl) dL_step_338 (by decide) ⟨hw, hag9⟩
            · have hw := hw.1 c_106
              refine lv_iconst (v := 1) hx hb dL_step_333 (by decide) ?_
              refine lv_goto (tgt := 338) hx hb dL_step_334 (by decide) ?_
              rw [← hQQ]
              exact e_Z hx hb hr hlocks hW hS (Nat.le_of_ble_eq_true rfl) (Nat.le_of_ble_eq_true rfl) dL_step_338 (by decide) ⟨hw, hag9⟩
        · have hw := hw.2 c_82
          exact L_276 ad9 hag9 M hw H locs ls hW hS (lv_sub hl [1, 2] rfl)
    have hw := hw.2 h2
    by_cases h3 : v_11 = 3
    · have hw := hw.1 h3
      refine lv_tableIn (tgt := 339) hx hb dL_step_64 (by rw [h3]; decide) (by rw [h3]; decide) (by rw [h3]; rfl) (by decide) ?_
      refine lv_aload_n hx hb dL_step_339 rfl (lv_at hl 2 rfl) ?_
      refine lv_iconst (v := 3) hx hb dL_step_340 (by decide) ?_
      refine lv_iload hx hb dL_step_341 (lv_at hl 7 rfl) ?_
      refine lv_iadd hx hb dL_step_343 ?_
      obtain ⟨g_107, hw⟩ := hw
      obtain ⟨g_108, hw⟩ := hw
      refine r_iald hx hb hT.1 hW (by decide) rfl (fun _ => rfl) 29 rfl g_108 g_107 dL_step_344 ?_
      refine lv_topi (fun v_109 ev_109 => ?_)
      have hw := hw v_109 ev_109
      refine lv_istore (lv' := [(10, .int v_109), (8, .int s0), (0, .ref (ad9 4 0)), (1, .ref (ad9 61 0)), (2, .int x2), (3, .int x3), (4, .int x4), (5, .int x5), (6, .int x6), (7, .int x7)]) hx hb dL_step_345 hl (by decide) rfl (fun ls hl => ?_)
      refine lv_aload_n hx hb dL_step_347 rfl (lv_at hl 3 rfl) ?_
      refine lv_iconst (v := 3) hx hb dL_step_348 (by decide) ?_
      refine lv_iload hx hb dL_step_349 (lv_at hl 8 rfl) ?_
      refine lv_iadd hx hb dL_step_351 ?_
      refine lv_iload_n hx hb dL_step_352 rfl (lv_at hl 5 rfl) ?_
      refine lv_iconst (v := 4) hx hb dL_step_353 (by decide) ?_
      refine lv_irem hx hb dL_step_354 (by decide) ?_
      obtain ⟨g_110, hw⟩ := hw
      refine r_iast hx hb hT.1 hW hS (by decide) rfl (fun _ => rfl) 29 rfl g_110 g_107 dL_step_355 (fun M_111 H locs hM_111 hW hS => ?_)
      have hw := hw M_111 hM_111
      refine lv_aload_n hx hb dL_step_356 rfl (lv_at hl 2 rfl) ?_
      refine lv_iload hx hb dL_step_357 (lv_at hl 8 rfl) ?_
      refine lv_iload_n hx hb dL_step_359 rfl (lv_at hl 5 rfl) ?_
      refine lv_iconst (v := 4) hx hb dL_step_360 (by decide) ?_
      refine lv_irem hx hb dL_step_361 (by decide) ?_
      obtain ⟨g_112, hw⟩ := hw
      refine k_I (rn_V (As := [.int x6, .int (x3 - x3 / 4 * 4)]) (rest := []) (κ := 4) (i := 0) ⟨hx, hb, hml, hown, hts⟩ hT hW hS hl (c_X4_setPriority l hlt E base M_111 ad9 x6 (x3 - x3 / 4 * 4) _ _ hw) cy_X4_setPriority k_240 k_241 k_242 g_112 (by decide) rfl rfl rfl rfl ⟨(Nat.le_of_ble_eq_true rfl), (Nat.le_of_ble_eq_true rfl)⟩ rfl rfl (Nat.le_of_ble_eq_true rfl) dL_step_362 ⟨(Nat.le_of_ble_eq_true rfl), (Nat.le_of_ble_eq_true rfl)⟩) hS (by rw [← hQQ]; exact kx_out hnx hlocks (Nat.le_of_ble_eq_true rfl) (Nat.le_of_ble_eq_true rfl) (fun _ _ _ h9 => ⟨h9.1, AG_call hag9 (AG_eq h9.2) (fun _ _ h => rfl)⟩)) (fun r_116 M_114 ad_115 H locs hP hW hS => ?_)
      obtain ⟨hw, rfl⟩ := hP
      refine lv_iload hx hb dL_step_365 (lv_at hl 0 rfl) ?_
      refine lv_icmp_ne (tgt := 374) hx hb dL_step_367 (by decide) (fun c_117 => ?_) (fun c_117 => ?_)
      · have hw := hw.2 c_117
        refine lv_iconst (v := 0) hx hb dL_step_374 (by decide) ?_
        rw [← hQQ]
        exact e_Z hx hb hr hlocks hW hS (Nat.le_of_ble_eq_true rfl) (Nat.le_of_ble_eq_true rfl) dL_step_375 (by decide) ⟨hw, hag9⟩
      · have hw := hw.1 c_117
        refine lv_iconst (v := 1) hx hb dL_step_370 (by decide) ?_
        refine lv_goto (tgt := 375) hx hb dL_step_371 (by decide) ?_
        rw [← hQQ]
        exact e_Z hx hb hr hlocks hW hS (Nat.le_of_ble_eq_true rfl) (Nat.le_of_ble_eq_true rfl) dL_step_375 (by decide) ⟨hw, hag9⟩
    have hw := hw.2 h3
    by_cases h4 : v_11 = 4
    · have hw := hw.1 h4
      refine lv_tableIn (tgt := 376) hx hb dL_step_64 (by rw [h4]; decide) (by rw [h4]; decide) (by rw [h4]; rfl) (by decide) ?_
      refine lv_aload_n hx hb dL_step_376 rfl (lv_at hl 2 rfl) ?_
      refine lv_bipush (v := 16) hx hb dL_step_377 (by decide) ?_
      obtain ⟨g_118, hw⟩ := hw
      obtain ⟨g_119, hw⟩ := hw
      refine r_iald hx hb hT.1 hW (by decide) rfl (fun _ => rfl) 29 rfl g_119 g_118 dL_step_379 ?_
      refine lv_iload hx hb dL_step_380 (lv_at hl 6 rfl) ?_
      refine lv_ishr hx hb dL_step_382 ?_
      refine lv_iconst (v := 1) hx hb dL_step_383 (by decide) ?_
      refine lv_iand hx hb dL_step_384 ?_
      refine lv_iconst (v := 1) hx hb dL_step_385 (by decide) ?_
      refine lv_icmp_ne (tgt := 393) hx hb dL_step_386 (by decide) (fun c_120 => ?_) (fun c_120 => ?_)
      · have hw := hw.2 c_120
        refine lv_iconst (v := 0) hx hb dL_step_393 (by decide) ?_
        exact L_394 ad9 hag9 M x5 x7 s0 0 hw H locs ls hW hS (lv_sub hl [1, 2, 6, 8, 0] rfl)
      · have hw := hw.1 c_120
        refine lv_iconst (v := 1) hx hb dL_step_389 (by decide) ?_
        refine lv_goto (tgt := 394) hx hb dL_step_390 (by decide) ?_
        exact L_394 ad9 hag9 M x5 x7 s0 1 hw H locs ls hW hS (lv_sub hl [1, 2, 6, 8, 0] rfl)
    have hw := hw.2 h4
    by_cases h5 : v_11 = 5
    · have hw := hw.1 h5
      refine lv_tableIn (tgt := 471) hx hb dL_step_64 (by rw [h5]; decide) (by rw [h5]; decide) (by rw [h5]; rfl) (by decide) ?_
      refine lv_aload_n hx hb dL_step_471 rfl (lv_at hl 2 rfl) ?_
      refine lv_bipush (v := 15) hx hb dL_step_472 (by decide) ?_
      obtain ⟨g_138, hw⟩ := hw
      obtain ⟨g_139, hw⟩ := hw
      refine r_iald hx hb hT.1 hW (by decide) rfl (fun _ => rfl) 29 rfl g_139 g_138 dL_step_474 ?_
      refine lv_iload hx hb dL_step_475 (lv_at hl 6 rfl) ?_
      refine lv_ishr hx hb dL_step_477 ?_
      refine lv_iconst (v := 1) hx hb dL_step_478 (by decide) ?_
      refine lv_iand hx hb dL_step_479 ?_
      refine lv_iconst (v := 1) hx hb dL_step_480 (by decide) ?_
      refine lv_icmp_ne (tgt := 488) hx hb dL_step_481 (by decide) (fun c_140 => ?_) (fun c_140 => ?_)
      · have hw := hw.2 c_140
        refine lv_iconst (v := 0) hx hb dL_step_488 (by decide) ?_
        exact L_489 ad9 hag9 M x5 x7 s0 0 hw H locs ls hW hS (lv_sub hl [1, 2, 6, 8, 0] rfl)
      · have hw := hw.1 c_140
        refine lv_iconst (v := 1) hx hb dL_step_484 (by decide) ?_
        refine lv_goto (tgt := 489) hx hb dL_step_485 (by decide) ?_
        exact L_489 ad9 hag9 M x5 x7 s0 1 hw H locs ls hW hS (lv_sub hl [1, 2, 6, 8, 0] rfl)
    have hw := hw.2 h5
    by_cases h6 : v_11 = 6
    · have hw := hw.1 h6
      refine lv_tableIn (tgt := 576) hx hb dL_step_64 (by rw [h6]; decide) (by rw [h6]; decide) (by rw [h6]; rfl) (by decide) ?_
      refine lv_aload_n hx hb dL_step_576 rfl (lv_at hl 2 rfl) ?_
      refine lv_bipush (v := 17) hx hb dL_step_577 (by decide) ?_
      refine lv_iload hx hb dL_step_579 (lv_at hl 6 rfl) ?_
      refine lv_iadd hx hb dL_step_581 ?_
      obtain ⟨g_163, hw⟩ := hw
      obtain ⟨g_164, hw⟩ := hw
      refine r_iald hx hb hT.1 hW (by decide) rfl (fun _ => rfl) 29 rfl g_164 g_163 dL_step_582 ?_
      refine lv_iload hx hb dL_step_583 (lv_at hl 7 rfl) ?_
      refine lv_ishr hx hb dL_step_585 ?_
      refine lv_iconst (v := 1) hx hb dL_step_586 (by decide) ?_
      refine lv_iand hx hb dL_step_587 ?_
      refine lv_iconst (v := 1) hx hb dL_step_588 (by decide) ?_
      refine lv_icmp_ne (tgt := 596) hx hb dL_step_589 (by decide) (fun c_165 => ?_) (fun c_165 => ?_)
      · have hw := hw.2 c_165
        refine lv_iconst (v := 0) hx hb dL_step_596 (by decide) ?_
        exact L_597 ad9 hag9 M x5 x6 x7 s0 0 hw H locs ls hW hS (lv_sub hl [1, 2, 6, 7, 8, 0] rfl)
      · have hw := hw.1 c_165
        refine lv_iconst (v := 1) hx hb dL_step_592 (by decide) ?_
        refine lv_goto (tgt := 597) hx hb dL_step_593 (by decide) ?_
        exact L_597 ad9 hag9 M x5 x6 x7 s0 1 hw H locs ls hW hS (lv_sub hl [1, 2, 6, 7, 8, 0] rfl)
    have hw := hw.2 h6
    refine lv_tableOut (tgt := 685) hx hb dL_step_64 (sw_out h0 h1 h2 h3 h4 h5 h6) (by decide) ?_
    refine lv_aload_n hx hb dL_step_685 rfl (lv_at hl 1 rfl) ?_
    refine lv_aload_n hx hb dL_step_686 rfl (lv_at hl 2 rfl) ?_
    refine lv_iload hx hb dL_step_687 (lv_at hl 5 rfl) ?_
    refine lv_iconst (v := 5) hx hb dL_step_689 (by decide) ?_
    refine lv_irem hx hb dL_step_690 (by decide) ?_
    refine lv_if_ne (tgt := 702) hx hb dL_step_691 (by decide) (fun c_183 => ?_) (fun c_183 => ?_)
    · have hw := hw.2 c_183
      refine lv_iconst (v := 1) hx hb dL_step_702 (by decide) ?_
      exact L_703 ad9 hag9 M 1 hw H locs ls hW hS (lv_sub hl [] rfl)
    · have hw := hw.1 c_183
      refine lv_iconst (v := 1) hx hb dL_step_694 (by decide) ?_
      refine lv_iload_n hx hb dL_step_695 rfl (lv_at hl 4 rfl) ?_
      refine lv_iconst (v := 3) hx hb dL_step_696 (by decide) ?_
      refine lv_irem hx hb dL_step_697 (by decide) ?_
      refine lv_iadd hx hb dL_step_698 ?_
      refine lv_goto (tgt := 703) hx hb dL_step_699 (by decide) ?_
      exact L_703 ad9 hag9 M (1 + (x3 - x3 / 3 * 3)) hw H locs ls hW hS (lv_sub hl [] rfl)
  have L_41 : ∀ (ad9 : AD) (hag9 : AG fr_L_step ad ad9) (M : Mem) (x2 : Int32) (x3 : Int32) (x4 : Int32) (x5 : Int32) (x6 : Int32) (s0 : Int32), b_L_step_41 Q X M x2 x3 x4 x5 x6 s0 → WL p l e rm_L_step s m args below meth c QQ E base 14 M ad9 41 [(0, .ref (ad9 4 0)), (1, .ref (ad9 61 0)), (2, .int x2), (3, .int x3), (4, .int x4), (5, .int x5), (6, .int x6)] [.int s0] 0 0 := by
    intro ad9 hag9 M x2 x3 x4 x5 x6 s0 hw H locs ls hW hS hl
    unfold b_L_step_41 at hw
    refine lv_istore (lv' := [(7, .int s0), (0, .ref (ad9 4 0)), (1, .ref (ad9 61 0)), (2, .int x2), (3, .int x3), (4, .int x4), (5, .int x5), (6, .int x6)]) hx hb dL_step_41 hl (by decide) rfl (fun ls hl => ?_)
    refine lv_iload hx hb dL_step_43 (lv_at hl 5 rfl) ?_
    refine lv_bipush (v := 12) hx hb dL_step_45 (by decide) ?_
    refine lv_idiv hx hb dL_step_47 (by decide) ?_
    refine lv_iconst (v := 2) hx hb dL_step_48 (by decide) ?_
    refine lv_irem hx hb dL_step_49 (by decide) ?_
    refine lv_if_ne (tgt := 57) hx hb dL_step_50 (by decide) (fun c_10 => ?_) (fun c_10 => ?_)
    · have hw := hw.2 c_10
      refine lv_iconst (v := 0) hx hb dL_step_57 (by decide) ?_
      exact L_58 ad9 hag9 M x2 x3 x4 x5 x6 s0 0 hw H locs ls hW hS (lv_sub hl [1, 2, 3, 4, 5, 6, 7, 0] rfl)
    · have hw := hw.1 c_10
      refine lv_iconst (v := 1) hx hb dL_step_53 (by decide) ?_
      refine lv_goto (tgt := 58) hx hb dL_step_54 (by decide) ?_
      exact L_58 ad9 hag9 M x2 x3 x4 x5 x6 s0 1 hw H locs ls hW hS (lv_sub hl [1, 2, 3, 4, 5, 6, 7, 0] rfl)
  have L_15 : ∀ (ad9 : AD) (hag9 : AG fr_L_step ad ad9) (M : Mem) (x2 : Int32) (x3 : Int32) (x4 : Int32) (s0 : Int32), b_L_step_15 Q X M x2 x3 x4 s0 → WL p l e rm_L_step s m args below meth c QQ E base 14 M ad9 15 [(0, .ref (ad9 4 0)), (1, .ref (ad9 61 0)), (2, .int x2), (3, .int x3), (4, .int x4)] [.int s0] 0 0 := by
    intro ad9 hag9 M x2 x3 x4 s0 hw H locs ls hW hS hl
    unfold b_L_step_15 at hw
    refine lv_istore (lv' := [(5, .int s0), (0, .ref (ad9 4 0)), (1, .ref (ad9 61 0)), (2, .int x2), (3, .int x3), (4, .int x4)]) hx hb dL_step_15 hl (by decide) rfl (fun ls hl => ?_)
    refine lv_iload hx hb dL_step_17 (lv_at hl 5 rfl) ?_
    refine lv_bipush (v := 12) hx hb dL_step_19 (by decide) ?_
    refine lv_irem hx hb dL_step_21 (by decide) ?_
    refine lv_topi (fun v_6 ev_6 => ?_)
    have hw := hw v_6 ev_6
    refine lv_istore (lv' := [(6, .int v_6), (5, .int s0), (0, .ref (ad9 4 0)), (1, .ref (ad9 61 0)), (2, .int x2), (3, .int x3), (4, .int x4)]) hx hb dL_step_22 hl (by decide) rfl (fun ls hl => ?_)
    refine lv_aload_n hx hb dL_step_24 rfl (lv_at hl 3 rfl) ?_
    refine lv_iconst (v := 1) hx hb dL_step_25 (by decide) ?_
    obtain ⟨g_7, hw⟩ := hw
    obtain ⟨g_8, hw⟩ := hw
    refine r_iald hx hb hT.1 hW (by decide) rfl (fun _ => rfl) 29 rfl g_8 g_7 dL_step_26 ?_
    refine lv_iload hx hb dL_step_27 (lv_at hl 1 rfl) ?_
    refine lv_ishr hx hb dL_step_29 ?_
    refine lv_iconst (v := 1) hx hb dL_step_30 (by decide) ?_
    refine lv_iand hx hb dL_step_31 ?_
    refine lv_iconst (v := 1) hx hb dL_step_32 (by decide) ?_
    refine lv_icmp_ne (tgt := 40) hx hb dL_step_33 (by decide) (fun c_9 => ?_) (fun c_9 => ?_)
    · have hw := hw.2 c_9
      refine lv_iconst (v := 0) hx hb dL_step_40 (by decide) ?_
      exact L_41 ad9 hag9 M x2 x3 x4 s0 v_6 0 hw H locs ls hW hS (lv_sub hl [2, 3, 4, 5, 6, 1, 0] rfl)
    · have hw := hw.1 c_9
      refine lv_iconst (v := 1) hx hb dL_step_36 (by decide) ?_
      refine lv_goto (tgt := 41) hx hb dL_step_37 (by decide) ?_
      exact L_41 ad9 hag9 M x2 x3 x4 s0 v_6 1 hw H locs ls hW hS (lv_sub hl [2, 3, 4, 5, 6, 1, 0] rfl)
  unfold w_L_step at hw
  obtain ⟨H, hH⟩ : ∃ z, z = s.heap := ⟨_, rfl⟩
  obtain ⟨locs, hlo⟩ : ∃ z : List Loc, z = [] := ⟨_, rfl⟩
  have hS : va_S (fun q : Nat => base ≤ q) s.heap H locs := by rw [hlo, hH]; exact hS
  have hW : Wd E base M ad H := by rw [hH]; exact hW
  rw [show W p l e rm_L_step s m args below meth c s.heap [] 0 0 QQ (F0 m 0 ls []) = W p l e rm_L_step s m args below meth c H locs 0 0 QQ (F0 m 0 ls []) by rw [hlo, hH]]
  refine lv_aload_n hx hb dL_step_0 rfl (lv_at hl 1 rfl) ?_
  refine lv_iconst (v := 0) hx hb dL_step_1 (by decide) ?_
  obtain ⟨g_1, hw⟩ := hw
  obtain ⟨g_2, hw⟩ := hw
  refine r_iald hx hb hT.1 hW (by decide) rfl (fun _ => rfl) 29 rfl g_2 g_1 dL_step_2 ?_
  refine lv_if_ne (tgt := 10) hx hb dL_step_3 (by decide) (fun c_3 => ?_) (fun c_3 => ?_)
  · have hw := hw.2 c_3
    refine lv_iload_n hx hb dL_step_10 rfl (lv_at hl 3 rfl) ?_
    refine lv_aload_n hx hb dL_step_11 rfl (lv_at hl 1 rfl) ?_
    refine lv_iconst (v := 0) hx hb dL_step_12 (by decide) ?_
    obtain ⟨g_4, hw⟩ := hw
    refine r_iald hx hb hT.1 hW (by decide) rfl (fun _ => rfl) 29 rfl g_4 g_1 dL_step_13 ?_
    obtain ⟨g_5, hw⟩ := hw
    refine lv_irem hx hb dL_step_14 g_5 ?_
    exact L_15 ad AG_refl M a2 a3 a4 (a3 - a3 / (mI M 61 0 ((0 : Int32).toNatClampNeg)) * (mI M 61 0 ((0 : Int32).toNatClampNeg))) hw H locs ls hW hS (lv_sub hl [0, 1, 2, 3, 4] rfl)
  · have hw := hw.1 c_3
    refine lv_iconst (v := 0) hx hb dL_step_6 (by decide) ?_
    refine lv_goto (tgt := 15) hx hb dL_step_7 (by decide) ?_
    exact L_15 ad AG_refl M a2 a3 a4 0 hw H locs ls hW hS (lv_sub hl [0, 1, 2, 3, 4] rfl)
