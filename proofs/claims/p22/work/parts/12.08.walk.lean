def rm_L_areChosen : Room := { frames := 8, cells := 264, slots := 1584, locals := 171 }
set_option maxHeartbeats 4000000 in
set_option maxRecDepth 100000 in
theorem c_L_areChosen (l : Launch) (hlt : l.stackTraces = false) (E : GE) (base : Nat) (M : Mem) (ad : AD) (a2 : Int32) (Q : Int32 → Mem → Prop) (X : Nat → Mem → Prop) (hw : w_L_areChosen M a2 Q X) : Con l yL_areChosen cL_areChosen 10 (some .boolean) rm_L_areChosen 264 1584 E base [.ref (ad 4 0), .ref (ad 61 0), .int a2] M ad (QcI E base (fun r M1 ad1 => Q r M1 ∧ ad = ad1)) (fun k M1 ad1 => X k M1 ∧ ad = ad1) := by
  refine con_start (by decide) (Nat.le_of_ble_eq_true rfl) ?_
  intro p e s m args below meth c ls QQ hQQ CT hnx hW hl
  obtain ⟨⟨hx, hb, hml, hown, hts⟩, hr, hlocks, hnm, hT⟩ := CT
  have hS : va_S (fun q : Nat => base ≤ q) s.heap s.heap [] := va_S.rf
  have hl : lv_has ls 10 [(0, .ref (ad 4 0)), (1, .ref (ad 61 0)), (2, .int a2)] := hl
  have L_273 : ∀ (k161 : Mem → Nat → Int32 → Int32 → Int32 → Int32 → Int32 → Prop) (K161 : ∀ (M : Mem) (it : Nat) (x2 : Int32) (x3 : Int32) (x4 : Int32) (x6 : Int32) (x7 : Int32), k161 M it x2 x3 x4 x6 x7 → WL p l e rm_L_areChosen s m args below meth c QQ E base 10 M ad 161 [(0, .ref (ad 4 0)), (1, .ref (ad 61 0)), (2, .int x2), (3, .int x3), (4, .int x4), (6, .int x6), (7, .int x7)] [] (4 + 4 * it + 0) (24 + 24 * it + 0)) (M : Mem) (it : Nat) (x2 : Int32) (x3 : Int32) (x4 : Int32) (x7 : Int32) (s0 : Int32), b_L_areChosen_273 k161 Q X M it x2 x3 x4 x7 s0 → WL p l e rm_L_areChosen s m args below meth c QQ E base 10 M ad 273 [(0, .ref (ad 4 0)), (1, .ref (ad 61 0)), (2, .int x2), (3, .int x3), (4, .int x4), (7, .int x7)] [.int s0] (4 + 4 * it + 0) (24 + 24 * it + 0) := by
    intro k161 K161 M it x2 x3 x4 x7 s0 hw H locs ls hW hS hl
    unfold b_L_areChosen_273 at hw
    obtain ⟨hit, hw⟩ := hw
    refine lv_istore (lv' := [(6, .int s0), (0, .ref (ad 4 0)), (1, .ref (ad 61 0)), (2, .int x2), (3, .int x3), (4, .int x4), (7, .int x7)]) hx hb dL_areChosen_273 hl (by decide) rfl (fun ls hl => ?_)
    obtain ⟨v_25, ev_25⟩ : ∃ y : Int32, y = x7 + 1 := ⟨_, rfl⟩
    have hw := hw v_25 ev_25
    refine lv_iinc (v := v_25) (lv' := [(7, .int v_25), (6, .int s0), (0, .ref (ad 4 0)), (1, .ref (ad 61 0)), (2, .int x2), (3, .int x3), (4, .int x4)]) hx hb dL_areChosen_275 hl (k := 6) rfl (by rw [ev_25]; rfl) (by decide) rfl (fun ls hl => ?_)
    refine lv_goto (tgt := 161) hx hb dL_areChosen_278 (by decide) ?_
    refine W.widen (k := 4 + 4 * (it + 1) + 0) (n := 24 + 24 * (it + 1) + 0) (by omega) (by omega) ?_
    exact K161 M (it + 1) x2 x3 x4 s0 v_25 hw H locs ls hW hS (lv_sub hl [2, 3, 4, 5, 6, 1, 0] rfl)
  have L_268 : ∀ (k161 : Mem → Nat → Int32 → Int32 → Int32 → Int32 → Int32 → Prop) (K161 : ∀ (M : Mem) (it : Nat) (x2 : Int32) (x3 : Int32) (x4 : Int32) (x6 : Int32) (x7 : Int32), k161 M it x2 x3 x4 x6 x7 → WL p l e rm_L_areChosen s m args below meth c QQ E base 10 M ad 161 [(0, .ref (ad 4 0)), (1, .ref (ad 61 0)), (2, .int x2), (3, .int x3), (4, .int x4), (6, .int x6), (7, .int x7)] [] (4 + 4 * it + 0) (24 + 24 * it + 0)) (M : Mem) (it : Nat) (x2 : Int32) (x3 : Int32) (x4 : Int32) (x7 : Int32), b_L_areChosen_268 k161 Q X M it x2 x3 x4 x7 → WL p l e rm_L_areChosen s m args below meth c QQ E base 10 M ad 268 [(0, .ref (ad 4 0)), (1, .ref (ad 61 0)), (2, .int x2), (3, .int x3), (4, .int x4), (7, .int x7)] [] (4 + 4 * it + 0) (24 + 24 * it + 0) := by
    intro k161 K161 M it x2 x3 x4 x7 hw H locs ls hW hS hl
    unfold b_L_areChosen_268 at hw
    obtain ⟨hit, hw⟩ := hw
    refine lv_iconst (v := 1) hx hb dL_areChosen_268 (by decide) ?_
    refine lv_goto (tgt := 273) hx hb dL_areChosen_269 (by decide) ?_
    refine W.widen (k := 4 + 4 * it + 0) (n := 24 + 24 * it + 0) (by omega) (by omega) ?_
    exact L_273 k161 K161 M it x2 x3 x4 x7 1 hw H locs ls hW hS (lv_sub hl [0, 1, 2, 3, 4, 5] rfl)
  have L_242 : ∀ (k161 : Mem → Nat → Int32 → Int32 → Int32 → Int32 → Int32 → Prop) (K161 : ∀ (M : Mem) (it : Nat) (x2 : Int32) (x3 : Int32) (x4 : Int32) (x6 : Int32) (x7 : Int32), k161 M it x2 x3 x4 x6 x7 → WL p l e rm_L_areChosen s m args below meth c QQ E base 10 M ad 161 [(0, .ref (ad 4 0)), (1, .ref (ad 61 0)), (2, .int x2), (3, .int x3), (4, .int x4), (6, .int x6), (7, .int x7)] [] (4 + 4 * it + 0) (24 + 24 * it + 0)) (M : Mem) (it : Nat) (x2 : Int32) (x3 : Int32) (x4 : Int32) (x7 : Int32) (x8 : Int32), b_L_areChosen_242 k161 Q X M it x2 x3 x4 x7 x8 → WL p l e rm_L_areChosen s m args below meth c QQ E base 10 M ad 242 [(0, .ref (ad 4 0)), (1, .ref (ad 61 0)), (2, .int x2), (3, .int x3), (4, .int x4), (7, .int x7), (8, .int x8)] [] (4 + 4 * it + 0) (24 + 24 * it + 0) := by
    intro k161 K161 M it x2 x3 x4 x7 x8 hw H locs ls hW hS hl
    unfold b_L_areChosen_242 at hw
    obtain ⟨hit, hw⟩ := hw
    refine lv_iload_n hx hb dL_areChosen_242 rfl (lv_at hl 3 rfl) ?_
    refine lv_iload hx hb dL_areChosen_243 (lv_at hl 5 rfl) ?_
    refine lv_ishr hx hb dL_areChosen_245 ?_
    refine lv_iconst (v := 1) hx hb dL_areChosen_246 (by decide) ?_
    refine lv_iand hx hb dL_areChosen_247 ?_
    refine lv_if_eq (tgt := 268) hx hb dL_areChosen_248 (by decide) (fun c_24 => ?_) (fun c_24 => ?_)
    · have hw := hw.1 c_24
      refine W.widen (k := 4 + 4 * it + 0) (n := 24 + 24 * it + 0) (by omega) (by omega) ?_
      exact L_268 k161 K161 M it x2 x3 x4 x7 hw H locs ls hW hS (lv_sub hl [0, 1, 2, 3, 4, 5] rfl)
    · have hw := hw.2 c_24
      refine lv_iload hx hb dL_areChosen_251 (lv_at hl 4 rfl) ?_
      refine lv_iload hx hb dL_areChosen_253 (lv_at hl 5 rfl) ?_
      refine lv_ishr hx hb dL_areChosen_255 ?_
      refine lv_iconst (v := 1) hx hb dL_areChosen_256 (by decide) ?_
      refine lv_iand hx hb dL_areChosen_257 ?_
      refine lv_iconst (v := 1) hx hb dL_areChosen_258 (by decide) ?_
      refine lv_icmp_eq (tgt := 268) hx hb dL_areChosen_259 (by decide) (fun c_26 => ?_) (fun c_26 => ?_)
      · have hw := hw.1 c_26
        refine W.widen (k := 4 + 4 * it + 0) (n := 24 + 24 * it + 0) (by omega) (by omega) ?_
        exact L_268 k161 K161 M it x2 x3 x4 x7 hw H locs ls hW hS (lv_sub hl [0, 1, 2, 3, 4, 5] rfl)
      · have hw := hw.2 c_26
        refine lv_iload hx hb dL_areChosen_262 (lv_at hl 6 rfl) ?_
        refine lv_iconst (v := 2) hx hb dL_areChosen_264 (by decide) ?_
        refine lv_icmp_lt (tgt := 272) hx hb dL_areChosen_265 (by decide) (fun c_27 => ?_) (fun c_27 => ?_)
        · have hw := hw.1 c_27
          refine lv_iconst (v := 0) hx hb dL_areChosen_272 (by decide) ?_
          refine W.widen (k := 4 + 4 * it + 0) (n := 24 + 24 * it + 0) (by omega) (by omega) ?_
          exact L_273 k161 K161 M it x2 x3 x4 x7 0 hw H locs ls hW hS (lv_sub hl [0, 1, 2, 3, 4, 5] rfl)
        · have hw := hw.2 c_27
          refine W.widen (k := 4 + 4 * it + 0) (n := 24 + 24 * it + 0) (by omega) (by omega) ?_
          exact L_268 k161 K161 M it x2 x3 x4 x7 hw H locs ls hW hS (lv_sub hl [0, 1, 2, 3, 4, 5] rfl)
  have L_233 : ∀ (k161 : Mem → Nat → Int32 → Int32 → Int32 → Int32 → Int32 → Prop) (K161 : ∀ (M : Mem) (it : Nat) (x2 : Int32) (x3 : Int32) (x4 : Int32) (x6 : Int32) (x7 : Int32), k161 M it x2 x3 x4 x6 x7 → WL p l e rm_L_areChosen s m args below meth c QQ E base 10 M ad 161 [(0, .ref (ad 4 0)), (1, .ref (ad 61 0)), (2, .int x2), (3, .int x3), (4, .int x4), (6, .int x6), (7, .int x7)] [] (4 + 4 * it + 0) (24 + 24 * it + 0)) (k180 : Mem → Nat → Int32 → Int32 → Int32 → Int32 → Int32 → Int32 → Prop) (K180 : ∀ (M : Mem) (it : Nat) (x2 : Int32) (x3 : Int32) (x4 : Int32) (x7 : Int32) (x8 : Int32) (x9 : Int32), k180 M it x2 x3 x4 x7 x8 x9 → WL p l e rm_L_areChosen s m args below meth c QQ E base 10 M ad 180 [(0, .ref (ad 4 0)), (1, .ref (ad 61 0)), (2, .int x2), (3, .int x3), (4, .int x4), (7, .int x7), (8, .int x8), (9, .int x9)] [] (4 + 4 * it + 0) (24 + 24 * it + 0)) (M : Mem) (it : Nat) (x2 : Int32) (x3 : Int32) (x4 : Int32) (x7 : Int32) (x9 : Int32) (s0 : Int32) (s1 : Int32), b_L_areChosen_233 k161 k180 Q X M it x2 x3 x4 x7 x9 s0 s1 → WL p l e rm_L_areChosen s m args below meth c QQ E base 10 M ad 233 [(0, .ref (ad 4 0)), (1, .ref (ad 61 0)), (2, .int x2), (3, .int x3), (4, .int x4), (7, .int x7), (9, .int x9)] [.int s0, .int s1] (4 + 4 * it + 4) (24 + 24 * it + 24) := by
    intro k161 K161 k180 K180 M it x2 x3 x4 x7 x9 s0 s1 hw H locs ls hW hS hl
    unfold b_L_areChosen_233 at hw
    obtain ⟨hit, hw⟩ := hw
    refine lv_iadd hx hb dL_areChosen_233 ?_
    refine lv_topi (fun v_30 ev_30 => ?_)
    have hw := hw v_30 ev_30
    refine lv_istore (lv' := [(8, .int v_30), (0, .ref (ad 4 0)), (1, .ref (ad 61 0)), (2, .int x2), (3, .int x3), (4, .int x4), (7, .int x7), (9, .int x9)]) hx hb dL_areChosen_234 hl (by decide) rfl (fun ls hl => ?_)
    obtain ⟨v_31, ev_31⟩ : ∃ y : Int32, y = x9 + 1 := ⟨_, rfl⟩
    have hw := hw v_31 ev_31
    refine lv_iinc (v := v_31) (lv' := [(9, .int v_31), (8, .int v_30), (0, .ref (ad 4 0)), (1, .ref (ad 61 0)), (2, .int x2), (3, .int x3), (4, .int x4), (7, .int x7)]) hx hb dL_areChosen_236 hl (k := 7) rfl (by rw [ev_31]; rfl) (by decide) rfl (fun ls hl => ?_)
    refine lv_goto (tgt := 180) hx hb dL_areChosen_239 (by decide) ?_
    refine W.widen (k := 4 + 4 * (it + 1) + 0) (n := 24 + 24 * (it + 1) + 0) (by omega) (by omega) ?_
    exact K180 M (it + 1) x2 x3 x4 x7 v_30 v_31 hw H locs ls hW hS (lv_sub hl [2, 3, 4, 5, 6, 7, 1, 0] rfl)
  have L_232 : ∀ (k161 : Mem → Nat → Int32 → Int32 → Int32 → Int32 → Int32 → Prop) (K161 : ∀ (M : Mem) (it : Nat) (x2 : Int32) (x3 : Int32) (x4 : Int32) (x6 : Int32) (x7 : Int32), k161 M it x2 x3 x4 x6 x7 → WL p l e rm_L_areChosen s m args below meth c QQ E base 10 M ad 161 [(0, .ref (ad 4 0)), (1, .ref (ad 61 0)), (2, .int x2), (3, .int x3), (4, .int x4), (6, .int x6), (7, .int x7)] [] (4 + 4 * it + 0) (24 + 24 * it + 0)) (k180 : Mem → Nat → Int32 → Int32 → Int32 → Int32 → Int32 → Int32 → Prop) (K180 : ∀ (M : Mem) (it : Nat) (x2 : Int32) (x3 : Int32) (x4 : Int32) (x7 : Int32) (x8 : Int32) (x9 : Int32), k180 M it x2 x3 x4 x7 x8 x9 → WL p l e rm_L_areChosen s m args below meth c QQ E base 10 M ad 180 [(0, .ref (ad 4 0)), (1, .ref (ad 61 0)), (2, .int x2), (3, .int x3), (4, .int x4), (7, .int x7), (8, .int x8), (9, .int x9)] [] (4 + 4 * it + 0) (24 + 24 * it + 0)) (M : Mem) (it : Nat) (x2 : Int32) (x3 : Int32) (x4 : Int32) (x7 : Int32) (x9 : Int32) (s0 : Int32), b_L_areChosen_232 k161 k180 Q X M it x2 x3 x4 x7 x9 s0 → WL p l e rm_L_areChosen s m args below meth c QQ E base 10 M ad 232 [(0, .ref (ad 4 0)), (1, .ref (ad 61 0)), (2, .int x2), (3, .int x3), (4, .int x4), (7, .int x7), (9, .int x9)] [.int s0] (4 + 4 * it + 4) (24 + 24 * it + 24) := by
    intro k161 K161 k180 K180 M it x2 x3 x4 x7 x9 s0 hw H locs ls hW hS hl
    unfold b_L_areChosen_232 at hw
    obtain ⟨hit, hw⟩ := hw
    refine lv_iconst (v := 0) hx hb dL_areChosen_232 (by decide) ?_
    refine W.widen (k := 4 + 4 * it + 4) (n := 24 + 24 * it + 24) (by omega) (by omega) ?_
    exact L_233 k161 K161 k180 K180 M it x2 x3 x4 x7 x9 0 s0 hw H locs ls hW hS (lv_sub hl [0, 1, 2, 3, 4, 5, 6] rfl)
  have L_180 : ∀ (k161 : Mem → Nat → Int32 → Int32 → Int32 → Int32 → Int32 → Prop) (K161 : ∀ (M : Mem) (it : Nat) (x2 : Int32) (x3 : Int32) (x4 : Int32) (x6 : Int32) (x7 : Int32), k161 M it x2 x3 x4 x6 x7 → WL p l e rm_L_areChosen s m args below meth c QQ E base 10 M ad 161 [(0, .ref (ad 4 0)), (1, .ref (ad 61 0)), (2, .int x2), (3, .int x3), (4, .int x4), (6, .int x6), (7, .int x7)] [] (4 + 4 * it + 0) (24 + 24 * it + 0)) (n : Nat) (M : Mem) (it : Nat) (x2 : Int32) (x3 : Int32) (x4 : Int32) (x7 : Int32) (x8 : Int32) (x9 : Int32), l_L_areChosen_180 k161 Q X n M it x2 x3 x4 x7 x8 x9 → WL p l e rm_L_areChosen s m args below meth c QQ E base 10 M ad 180 [(0, .ref (ad 4 0)), (1, .ref (ad 61 0)), (2, .int x2), (3, .int x3), (4, .int x4), (7, .int x7), (8, .int x8), (9, .int x9)] [] (4 + 4 * it + 0) (24 + 24 * it + 0) := by
    intro k161 K161 n
    induction n with
    | zero => intro M it x2 x3 x4 x7 x8 x9 hw; exact False.elim hw
    | succ n K180 =>
      intro M it x2 x3 x4 x7 x8 x9 hw H locs ls hW hS hl
      obtain ⟨k180, hk180⟩ : ∃ z, z = l_L_areChosen_180 k161 Q X n := ⟨_, rfl⟩
      have hw : b_L_areChosen_180 k161 Q X k180 M it x2 x3 x4 x7 x8 x9 := by rw [hk180]; exact hw
      rw [← hk180] at K180
      unfold b_L_areChosen_180 at hw
      obtain ⟨hit, hw⟩ := hw
      refine lv_iload hx hb dL_areChosen_180 (lv_at hl 7 rfl) ?_
      refine lv_aload_n hx hb dL_areChosen_182 rfl (lv_at hl 1 rfl) ?_
      refine lv_iconst (v := 0) hx hb dL_areChosen_183 (by decide) ?_
      obtain ⟨g_21, hw⟩ := hw
      obtain ⟨g_22, hw⟩ := hw
      refine r_iald hx hb hT.1 hW (by decide) rfl (fun _ => rfl) 29 rfl g_22 g_21 dL_areChosen_184 ?_
      refine lv_icmp_ge (tgt := 242) hx hb dL_areChosen_185 (by decide) (fun c_23 => ?_) (fun c_23 => ?_)
      · have hw := hw.1 c_23
        refine W.widen (k := 4 + 4 * it + 0) (n := 24 + 24 * it + 0) (by omega) (by omega) ?_
        exact L_242 k161 K161 M it x2 x3 x4 x7 x8 hw H locs ls hW hS (lv_sub hl [0, 1, 2, 3, 4, 5, 6] rfl)
      · have hw := hw.2 c_23
        refine lv_iload_n hx hb dL_areChosen_188 rfl (lv_at hl 3 rfl) ?_
        refine lv_iload hx hb dL_areChosen_189 (lv_at hl 5 rfl) ?_
        refine lv_ishr hx hb dL_areChosen_191 ?_
        refine lv_iconst (v := 1) hx hb dL_areChosen_192 (by decide) ?_
        refine lv_iand hx hb dL_areChosen_193 ?_
        refine lv_iconst (v := 1) hx hb dL_areChosen_194 (by decide) ?_
        refine lv_icmp_ne (tgt := 242) hx hb dL_areChosen_195 (by decide) (fun c_28 => ?_) (fun c_28 => ?_)
        · have hw := hw.2 c_28
          refine W.widen (k := 4 + 4 * it + 0) (n := 24 + 24 * it + 0) (by omega) (by omega) ?_
          exact L_242 k161 K161 M it x2 x3 x4 x7 x8 hw H locs ls hW hS (lv_sub hl [0, 1, 2, 3, 4, 5, 6] rfl)
        · have hw := hw.1 c_28
          refine lv_iload hx hb dL_areChosen_198 (lv_at hl 6 rfl) ?_
          refine lv_iload hx hb dL_areChosen_200 (lv_at hl 4 rfl) ?_
          refine lv_iload hx hb dL_areChosen_202 (lv_at hl 7 rfl) ?_
          refine lv_ishr hx hb dL_areChosen_204 ?_
          refine lv_iconst (v := 1) hx hb dL_areChosen_205 (by decide) ?_
          refine lv_iand hx hb dL_areChosen_206 ?_
          refine lv_iconst (v := 1) hx hb dL_areChosen_207 (by decide) ?_
          refine lv_icmp_ne (tgt := 232) hx hb dL_areChosen_208 (by decide) (fun c_29 => ?_) (fun c_29 => ?_)
          · have hw := hw.2 c_29
            refine W.widen (k := 4 + 4 * it + 4) (n := 24 + 24 * it + 24) (by omega) (by omega) ?_
            exact L_232 k161 K161 k180 K180 M it x2 x3 x4 x7 x9 x8 hw H locs ls hW hS (lv_sub hl [0, 1, 2, 3, 4, 5, 7] rfl)
          · have hw := hw.1 c_29
            refine lv_aload_n hx hb dL_areChosen_211 rfl (lv_at hl 0 rfl) ?_
            refine lv_iload_n hx hb dL_areChosen_212 rfl (lv_at hl 2 rfl) ?_
            refine lv_iload hx hb dL_areChosen_213 (lv_at hl 7 rfl) ?_
            obtain ⟨g_32, hw⟩ := hw
            refine k_I (rn_V (As := [.int x2, .int x9]) (rest := [.int x8]) (κ := 4) (i := 0) ⟨hx, hb, hml, hown, hts⟩ hT hW hS hl (c_X4_got l hlt E base M ad x2 x9 _ _ hw) cy_X4_got k_214 k_215 k_216 g_32 (by decide) rfl rfl rfl rfl ⟨(Nat.le_of_ble_eq_true rfl), (Nat.le_of_ble_eq_true rfl)⟩ rfl rfl (Nat.le_of_ble_eq_true rfl) dL_areChosen_215 ⟨by show _ + 2 ≤ 264; omega, by show _ + 12 ≤ 1584; omega⟩) hS (by rw [← hQQ]; exact kx_out hnx hlocks (by omega) (by omega) (fun _ _ _ h9 => h9)) (fun r_36 M_34 ad_35 H locs hP hW hS => ?_)
            obtain ⟨hw, rfl⟩ := hP
            refine lv_aload_n hx hb dL_areChosen_218 rfl (lv_at hl 0 rfl) ?_
            refine lv_iload_n hx hb dL_areChosen_219 rfl (lv_at hl 2 rfl) ?_
            refine lv_iload hx hb dL_areChosen_220 (lv_at hl 5 rfl) ?_
            obtain ⟨g_37, hw⟩ := hw
            refine k_I (rn_V (As := [.int x2, .int x7]) (rest := [.int r_36, .int x8]) (κ := 4) (i := 0) ⟨hx, hb, hml, hown, hts⟩ hT hW hS hl (c_X4_got l hlt E base M_34 ad x2 x7 _ _ hw) cy_X4_got k_214 k_215 k_216 g_37 (by decide) rfl rfl rfl rfl ⟨(Nat.le_of_ble_eq_true rfl), (Nat.le_of_ble_eq_true rfl)⟩ rfl rfl (Nat.le_of_ble_eq_true rfl) dL_areChosen_222 ⟨by show _ + 2 ≤ 264; omega, by show _ + 12 ≤ 1584; omega⟩) hS (by rw [← hQQ]; exact kx_out hnx hlocks (by omega) (by omega) (fun _ _ _ h9 => h9)) (fun r_41 M_39 ad_40 H locs hP hW hS => ?_)
            obtain ⟨hw, rfl⟩ := hP
            refine lv_icmp_lt (tgt := 232) hx hb dL_areChosen_225 (by decide) (fun c_42 => ?_) (fun c_42 => ?_)
            · have hw := hw.1 c_42
              refine W.widen (k := 4 + 4 * it + 4) (n := 24 + 24 * it + 24) (by omega) (by omega) ?_
              exact L_232 k161 K161 k180 K180 M_39 it x2 x3 x4 x7 x9 x8 hw H locs ls hW hS (lv_sub hl [0, 1, 2, 3, 4, 5, 7] rfl)
            · have hw := hw.2 c_42
              refine lv_iconst (v := 1) hx hb dL_areChosen_228 (by decide) ?_
              refine lv_goto (tgt := 233) hx hb dL_areChosen_229 (by decide) ?_
              refine W.widen (k := 4 + 4 * it + 4) (n := 24 + 24 * it + 24) (by omega) (by omega) ?_
              exact L_233 k161 K161 k180 K180 M_39 it x2 x3 x4 x7 x9 1 x8 hw H locs ls hW hS (lv_sub hl [0, 1, 2, 3, 4, 5, 7] rfl)
  have L_161 : ∀ (n : Nat) (M : Mem) (it : Nat) (x2 : Int32) (x3 : Int32) (x4 : Int32) (x6 : Int32) (x7 : Int32), l_L_areChosen_161 Q X n M it x2 x3 x4 x6 x7 → WL p l e rm_L_areChosen s m args below meth c QQ E base 10 M ad 161 [(0, .ref (ad 4 0)), (1, .ref (ad 61 0)), (2, .int x2), (3, .int x3), (4, .int x4), (6, .int x6), (7, .int x7)] [] (4 + 4 * it + 0) (24 + 24 * it + 0) := by
    intro n
    induction n with
    | zero => intro M it x2 x3 x4 x6 x7 hw; exact False.elim hw
    | succ n K161 =>
      intro M it x2 x3 x4 x6 x7 hw H locs ls hW hS hl
      obtain ⟨k161, hk161⟩ : ∃ z, z = l_L_areChosen_161 Q X n := ⟨_, rfl⟩
      have hw : b_L_areChosen_161 Q X k161 M it x2 x3 x4 x6 x7 := by rw [hk161]; exact hw
      rw [← hk161] at K161
      unfold b_L_areChosen_161 at hw
      obtain ⟨hit, hw⟩ := hw
      refine lv_iload hx hb dL_areChosen_161 (lv_at hl 6 rfl) ?_
      refine lv_aload_n hx hb dL_areChosen_163 rfl (lv_at hl 1 rfl) ?_
      refine lv_iconst (v := 0) hx hb dL_areChosen_164 (by decide) ?_
      obtain ⟨g_15, hw⟩ := hw
      obtain ⟨g_16, hw⟩ := hw
      refine r_iald hx hb hT.1 hW (by decide) rfl (fun _ => rfl) 29 rfl g_16 g_15 dL_areChosen_165 ?_
      refine lv_icmp_ge (tgt := 281) hx hb dL_areChosen_166 (by decide) (fun c_17 => ?_) (fun c_17 => ?_)
      · have hw := hw.1 c_17
        refine lv_iload hx hb dL_areChosen_281 (lv_at hl 5 rfl) ?_
        obtain ⟨g_18, hw⟩ := hw
        rw [← hQQ]
        exact e_Z hx hb hr hlocks hW hS (by omega) (by omega) dL_areChosen_283 g_18 ⟨hw, rfl⟩
      · have hw := hw.2 c_17
        refine lv_iload hx hb dL_areChosen_169 (lv_at hl 5 rfl) ?_
        refine lv_if_eq (tgt := 281) hx hb dL_areChosen_171 (by decide) (fun c_19 => ?_) (fun c_19 => ?_)
        · have hw := hw.1 c_19
          refine lv_iload hx hb dL_areChosen_281 (lv_at hl 5 rfl) ?_
          obtain ⟨g_20, hw⟩ := hw
          rw [← hQQ]
          exact e_Z hx hb hr hlocks hW hS (by omega) (by omega) dL_areChosen_283 g_20 ⟨hw, rfl⟩
        · have hw := hw.2 c_19
          refine lv_iconst (v := 0) hx hb dL_areChosen_174 (by decide) ?_
          refine lv_istore (lv' := [(8, .int 0), (0, .ref (ad 4 0)), (1, .ref (ad 61 0)), (2, .int x2), (3, .int x3), (4, .int x4), (6, .int x6), (7, .int x7)]) hx hb dL_areChosen_175 hl (by decide) rfl (fun ls hl => ?_)
          refine lv_iconst (v := 0) hx hb dL_areChosen_177 (by decide) ?_
          refine lv_istore (lv' := [(9, .int 0), (8, .int 0), (0, .ref (ad 4 0)), (1, .ref (ad 61 0)), (2, .int x2), (3, .int x3), (4, .int x4), (6, .int x6), (7, .int x7)]) hx hb dL_areChosen_178 hl (by decide) rfl (fun ls hl => ?_)
          refine W.widen (k := 4 + 4 * (it + 1) + 0) (n := 24 + 24 * (it + 1) + 0) (by omega) (by omega) ?_
          obtain ⟨n9, hw⟩ := hw
          exact L_180 k161 K161 n9 M (it + 1) x2 x3 x4 x7 0 0 hw H locs ls hW hS (lv_sub hl [2, 3, 4, 5, 6, 8, 1, 0] rfl)
  have L_156 : ∀ (M : Mem) (it : Nat) (x2 : Int32) (x3 : Int32) (x4 : Int32) (s0 : Int32), b_L_areChosen_156 Q X M it x2 x3 x4 s0 → WL p l e rm_L_areChosen s m args below meth c QQ E base 10 M ad 156 [(0, .ref (ad 4 0)), (1, .ref (ad 61 0)), (2, .int x2), (3, .int x3), (4, .int x4)] [.int s0] (4 + 4 * it + 1) (24 + 24 * it + 6) := by
    intro M it x2 x3 x4 s0 hw H locs ls hW hS hl
    unfold b_L_areChosen_156 at hw
    obtain ⟨hit, hw⟩ := hw
    refine lv_istore (lv' := [(6, .int s0), (0, .ref (ad 4 0)), (1, .ref (ad 61 0)), (2, .int x2), (3, .int x3), (4, .int x4)]) hx hb dL_areChosen_156 hl (by decide) rfl (fun ls hl => ?_)
    refine lv_iconst (v := 0) hx hb dL_areChosen_158 (by decide) ?_
    refine lv_istore (lv' := [(7, .int 0), (6, .int s0), (0, .ref (ad 4 0)), (1, .ref (ad 61 0)), (2, .int x2), (3, .int x3), (4, .int x4)]) hx hb dL_areChosen_159 hl (by decide) rfl (fun ls hl => ?_)
    refine W.widen (k := 4 + 4 * (it + 1) + 0) (n := 24 + 24 * (it + 1) + 0) (by omega) (by omega) ?_
    obtain ⟨n9, hw⟩ := hw
    exact L_161 n9 M (it + 1) x2 x3 x4 s0 0 hw H locs ls hW hS (lv_sub hl [2, 3, 4, 5, 6, 1, 0] rfl)
  have L_155 : ∀ (M : Mem) (it : Nat) (x2 : Int32) (x3 : Int32) (x4 : Int32), b_L_areChosen_155 Q X M it x2 x3 x4 → WL p l e rm_L_areChosen s m args below meth c QQ E base 10 M ad 155 [(0, .ref (ad 4 0)), (1, .ref (ad 61 0)), (2, .int x2), (3, .int x3), (4, .int x4)] [] (4 + 4 * it + 1) (24 + 24 * it + 6) := by
    intro M it x2 x3 x4 hw H locs ls hW hS hl
    unfold b_L_areChosen_155 at hw
    obtain ⟨hit, hw⟩ := hw
    refine lv_iconst (v := 0) hx hb dL_areChosen_155 (by decide) ?_
    refine W.widen (k := 4 + 4 * it + 1) (n := 24 + 24 * it + 6) (by omega) (by omega) ?_
    exact L_156 M it x2 x3 x4 0 hw H locs ls hW hS (lv_sub hl [0, 1, 2, 3, 4] rfl)
  have L_130 : ∀ (M : Mem) (it : Nat) (x2 : Int32) (x3 : Int32) (x4 : Int32) (s0 : Int32), b_L_areChosen_130 Q X M it x2 x3 x4 s0 → WL p l e rm_L_areChosen s m args below meth c QQ E base 10 M ad 130 [(0, .ref (ad 4 0)), (1, .ref (ad 61 0)), (2, .int x2), (3, .int x3), (4, .int x4)] [.int s0] (4 + 4 * it + 1) (24 + 24 * it + 6) := by
    intro M it x2 x3 x4 s0 hw H locs ls hW hS hl
    unfold b_L_areChosen_130 at hw
    obtain ⟨hit, hw⟩ := hw
    refine lv_istore (lv' := [(5, .int s0), (0, .ref (ad 4 0)), (1, .ref (ad 61 0)), (2, .int x2), (3, .int x3), (4, .int x4)]) hx hb dL_areChosen_130 hl (by decide) rfl (fun ls hl => ?_)
    refine lv_iload hx hb dL_areChosen_132 (lv_at hl 5 rfl) ?_
    refine lv_iload_n hx hb dL_areChosen_134 rfl (lv_at hl 4 rfl) ?_
    refine lv_iconst (v := (-1)) hx hb dL_areChosen_135 (by decide) ?_
    refine lv_ixor hx hb dL_areChosen_136 ?_
    refine lv_iand hx hb dL_areChosen_137 ?_
    refine lv_if_ne (tgt := 155) hx hb dL_areChosen_138 (by decide) (fun c_14 => ?_) (fun c_14 => ?_)
    · have hw := hw.2 c_14
      refine W.widen (k := 4 + 4 * it + 1) (n := 24 + 24 * it + 6) (by omega) (by omega) ?_
      exact L_155 M it x2 x3 x4 hw H locs ls hW hS (lv_sub hl [1, 2, 3, 4, 5] rfl)
    · have hw := hw.1 c_14
      refine lv_iload hx hb dL_areChosen_141 (lv_at hl 5 rfl) ?_
      refine k_I (rn_S (As := [.int x4]) (rest := []) ⟨hx, hb, hml, hown, hts⟩ hT hW hS hl (c_L_count l E base M ad x4 _ hw) cy_L_count k_223 k_224 rfl rfl ⟨(Nat.le_of_ble_eq_true rfl), (Nat.le_of_ble_eq_true rfl)⟩ rfl rfl (Nat.le_of_ble_eq_true rfl) dL_areChosen_143 ⟨by show _ + 0 ≤ 264; omega, by show _ + 0 ≤ 1584; omega⟩) hS kx_no (fun r_46 M_44 ad_45 H locs hP hW hS => ?_)
      obtain ⟨hw, rfl⟩ := hP
      refine lv_iload hx hb dL_areChosen_146 (lv_at hl 0 rfl) ?_
      refine lv_icmp_ne (tgt := 155) hx hb dL_areChosen_148 (by decide) (fun c_47 => ?_) (fun c_47 => ?_)
      · have hw := hw.2 c_47
        refine W.widen (k := 4 + 4 * it + 1) (n := 24 + 24 * it + 6) (by omega) (by omega) ?_
        exact L_155 M_44 it x2 x3 x4 hw H locs ls hW hS (lv_sub hl [1, 2, 3, 4, 5] rfl)
      · have hw := hw.1 c_47
        refine lv_iconst (v := 1) hx hb dL_areChosen_151 (by decide) ?_
        refine lv_goto (tgt := 156) hx hb dL_areChosen_152 (by decide) ?_
        refine W.widen (k := 4 + 4 * it + 1) (n := 24 + 24 * it + 6) (by omega) (by omega) ?_
        exact L_156 M_44 it x2 x3 x4 1 hw H locs ls hW hS (lv_sub hl [1, 2, 3, 4, 5] rfl)
  have L_99 : ∀ (k5 : Mem → Nat → Int32 → Int32 → Int32 → Prop) (K5 : ∀ (M : Mem) (it : Nat) (x2 : Int32) (x3 : Int32) (x4 : Int32), k5 M it x2 x3 x4 → WL p l e rm_L_areChosen s m args below meth c QQ E base 10 M ad 5 [(0, .ref (ad 4 0)), (1, .ref (ad 61 0)), (2, .int x2), (3, .int x3), (4, .int x4)] [] (4 + 4 * it + 0) (24 + 24 * it + 0)) (M : Mem) (it : Nat) (x2 : Int32) (x4 : Int32) (s0 : Int32) (s1 : Int32), b_L_areChosen_99 k5 Q X M it x2 x4 s0 s1 → WL p l e rm_L_areChosen s m args below meth c QQ E base 10 M ad 99 [(0, .ref (ad 4 0)), (1, .ref (ad 61 0)), (2, .int x2), (4, .int x4)] [.int s0, .int s1] (4 + 4 * it + 4) (24 + 24 * it + 24) := by
    intro k5 K5 M it x2 x4 s0 s1 hw H locs ls hW hS hl
    unfold b_L_areChosen_99 at hw
    obtain ⟨hit, hw⟩ := hw
    refine lv_ior hx hb dL_areChosen_99 ?_
    refine lv_topi (fun v_55 ev_55 => ?_)
    have hw := hw v_55 ev_55
    refine lv_istore_n (lv' := [(3, .int v_55), (0, .ref (ad 4 0)), (1, .ref (ad 61 0)), (2, .int x2), (4, .int x4)]) hx hb dL_areChosen_100 rfl hl (by decide) rfl (fun ls hl => ?_)
    obtain ⟨v_56, ev_56⟩ : ∃ y : Int32, y = x4 + 1 := ⟨_, rfl⟩
    have hw := hw v_56 ev_56
    refine lv_iinc (v := v_56) (lv' := [(4, .int v_56), (3, .int v_55), (0, .ref (ad 4 0)), (1, .ref (ad 61 0)), (2, .int x2)]) hx hb dL_areChosen_101 hl (k := 4) rfl (by rw [ev_56]; rfl) (by decide) rfl (fun ls hl => ?_)
    refine lv_goto (tgt := 5) hx hb dL_areChosen_104 (by decide) ?_
    refine W.widen (k := 4 + 4 * (it + 1) + 0) (n := 24 + 24 * (it + 1) + 0) (by omega) (by omega) ?_
    exact K5 M (it + 1) x2 v_55 v_56 hw H locs ls hW hS (lv_sub hl [2, 3, 4, 1, 0] rfl)
  have L_83 : ∀ (k5 : Mem → Nat → Int32 → Int32 → Int32 → Prop) (K5 : ∀ (M : Mem) (it : Nat) (x2 : Int32) (x3 : Int32) (x4 : Int32), k5 M it x2 x3 x4 → WL p l e rm_L_areChosen s m args below meth c QQ E base 10 M ad 5 [(0, .ref (ad 4 0)), (1, .ref (ad 61 0)), (2, .int x2), (3, .int x3), (4, .int x4)] [] (4 + 4 * it + 0) (24 + 24 * it + 0)) (M : Mem) (it : Nat) (x2 : Int32) (x3 : Int32) (x4 : Int32) (s0 : Int32), b_L_areChosen_83 k5 Q X M it x2 x3 x4 s0 → WL p l e rm_L_areChosen s m args below meth c QQ E base 10 M ad 83 [(0, .ref (ad 4 0)), (1, .ref (ad 61 0)), (2, .int x2), (3, .int x3), (4, .int x4)] [.int s0] (4 + 4 * it + 4) (24 + 24 * it + 24) := by
    intro k5 K5 M it x2 x3 x4 s0 hw H locs ls hW hS hl
    unfold b_L_areChosen_83 at hw
    obtain ⟨hit, hw⟩ := hw
    refine lv_istore (lv' := [(6, .int s0), (0, .ref (ad 4 0)), (1, .ref (ad 61 0)), (2, .int x2), (3, .int x3), (4, .int x4)]) hx hb dL_areChosen_83 hl (by decide) rfl (fun ls hl => ?_)
    refine lv_iload_n hx hb dL_areChosen_85 rfl (lv_at hl 4 rfl) ?_
    refine lv_iload hx hb dL_areChosen_86 (lv_at hl 0 rfl) ?_
    refine lv_if_eq (tgt := 98) hx hb dL_areChosen_88 (by decide) (fun c_54 => ?_) (fun c_54 => ?_)
    · have hw := hw.1 c_54
      refine lv_iconst (v := 0) hx hb dL_areChosen_98 (by decide) ?_
      refine W.widen (k := 4 + 4 * it + 4) (n := 24 + 24 * it + 24) (by omega) (by omega) ?_
      exact L_99 k5 K5 M it x2 x4 0 x3 hw H locs ls hW hS (lv_sub hl [1, 2, 3, 5] rfl)
    · have hw := hw.2 c_54
      refine lv_iconst (v := 1) hx hb dL_areChosen_91 (by decide) ?_
      refine lv_iload hx hb dL_areChosen_92 (lv_at hl 5 rfl) ?_
      refine lv_ishl hx hb dL_areChosen_94 ?_
      refine lv_goto (tgt := 99) hx hb dL_areChosen_95 (by decide) ?_
      refine W.widen (k := 4 + 4 * it + 4) (n := 24 + 24 * it + 24) (by omega) (by omega) ?_
      exact L_99 k5 K5 M it x2 x4 (1 <<< (x4 &&& 31)) x3 hw H locs ls hW hS (lv_sub hl [1, 2, 3, 5] rfl)
  have L_82 : ∀ (k5 : Mem → Nat → Int32 → Int32 → Int32 → Prop) (K5 : ∀ (M : Mem) (it : Nat) (x2 : Int32) (x3 : Int32) (x4 : Int32), k5 M it x2 x3 x4 → WL p l e rm_L_areChosen s m args below meth c QQ E base 10 M ad 5 [(0, .ref (ad 4 0)), (1, .ref (ad 61 0)), (2, .int x2), (3, .int x3), (4, .int x4)] [] (4 + 4 * it + 0) (24 + 24 * it + 0)) (M : Mem) (it : Nat) (x2 : Int32) (x3 : Int32) (x4 : Int32), b_L_areChosen_82 k5 Q X M it x2 x3 x4 → WL p l e rm_L_areChosen s m args below meth c QQ E base 10 M ad 82 [(0, .ref (ad 4 0)), (1, .ref (ad 61 0)), (2, .int x2), (3, .int x3), (4, .int x4)] [] (4 + 4 * it + 4) (24 + 24 * it + 24) := by
    intro k5 K5 M it x2 x3 x4 hw H locs ls hW hS hl
    unfold b_L_areChosen_82 at hw
    obtain ⟨hit, hw⟩ := hw
    refine lv_iconst (v := 0) hx hb dL_areChosen_82 (by decide) ?_
    refine W.widen (k := 4 + 4 * it + 4) (n := 24 + 24 * it + 24) (by omega) (by omega) ?_
    exact L_83 k5 K5 M it x2 x3 x4 0 hw H locs ls hW hS (lv_sub hl [0, 1, 2, 3, 4] rfl)
  have L_36 : ∀ (k5 : Mem → Nat → Int32 → Int32 → Int32 → Prop) (K5 : ∀ (M : Mem) (it : Nat) (x2 : Int32) (x3 : Int32) (x4 : Int32), k5 M it x2 x3 x4 → WL p l e rm_L_areChosen s m args below meth c QQ E base 10 M ad 5 [(0, .ref (ad 4 0)), (1, .ref (ad 61 0)), (2, .int x2), (3, .int x3), (4, .int x4)] [] (4 + 4 * it + 0) (24 + 24 * it + 0)) (M : Mem) (it : Nat) (x2 : Int32) (x3 : Int32) (x4 : Int32) (s0 : Int32), b_L_areChosen_36 k5 Q X M it x2 x3 x4 s0 → WL p l e rm_L_areChosen s m args below meth c QQ E base 10 M ad 36 [(0, .ref (ad 4 0)), (1, .ref (ad 61 0)), (2, .int x2), (3, .int x3), (4, .int x4)] [.int s0] (4 + 4 * it + 0) (24 + 24 * it + 0) := by
    intro k5 K5 M it x2 x3 x4 s0 hw H locs ls hW hS hl
    unfold b_L_areChosen_36 at hw
    obtain ⟨hit, hw⟩ := hw
    refine lv_istore (lv' := [(5, .int s0), (0, .ref (ad 4 0)), (1, .ref (ad 61 0)), (2, .int x2), (3, .int x3), (4, .int x4)]) hx hb dL_areChosen_36 hl (by decide) rfl (fun ls hl => ?_)
    refine lv_iload hx hb dL_areChosen_38 (lv_at hl 0 rfl) ?_
    refine lv_if_eq (tgt := 82) hx hb dL_areChosen_40 (by decide) (fun c_53 => ?_) (fun c_53 => ?_)
    · have hw := hw.1 c_53
      refine W.widen (k := 4 + 4 * it + 4) (n := 24 + 24 * it + 24) (by omega) (by omega) ?_
      exact L_82 k5 K5 M it x2 x3 x4 hw H locs ls hW hS (lv_sub hl [1, 2, 3, 4, 5] rfl)
    · have hw := hw.2 c_53
      refine lv_aload_n hx hb dL_areChosen_43 rfl (lv_at hl 1 rfl) ?_
      refine lv_iload hx hb dL_areChosen_44 (lv_at hl 5 rfl) ?_
      refine lv_iload_n hx hb dL_areChosen_46 rfl (lv_at hl 3 rfl) ?_
      obtain ⟨g_57, hw⟩ := hw
      refine k_I (rn_V (As := [.int x4, .int x2]) (rest := []) (κ := 4) (i := 0) ⟨hx, hb, hml, hown, hts⟩ hT hW hS hl (c_X4_isBanned l hlt E base M ad x4 x2 _ _ hw) cy_X4_isBanned k_273 k_274 k_275 g_57 (by decide) rfl rfl rfl rfl ⟨(Nat.le_of_ble_eq_true rfl), (Nat.le_of_ble_eq_true rfl)⟩ rfl rfl (Nat.le_of_ble_eq_true rfl) dL_areChosen_47 ⟨by show _ + 2 ≤ 264; omega, by show _ + 12 ≤ 1584; omega⟩) hS (by rw [← hQQ]; exact kx_out hnx hlocks (by omega) (by omega) (fun _ _ _ h9 => h9)) (fun r_61 M_59 ad_60 H locs hP hW hS => ?_)
      obtain ⟨hw, rfl⟩ := hP
      refine lv_if_ne (tgt := 82) hx hb dL_areChosen_50 (by decide) (fun c_62 => ?_) (fun c_62 => ?_)
      · have hw := hw.2 c_62
        refine W.widen (k := 4 + 4 * it + 4) (n := 24 + 24 * it + 24) (by omega) (by omega) ?_
        exact L_82 k5 K5 M_59 it x2 x3 x4 hw H locs ls hW hS (lv_sub hl [1, 2, 3, 4, 5] rfl)
      · have hw := hw.1 c_62
        refine lv_aload_n hx hb dL_areChosen_53 rfl (lv_at hl 1 rfl) ?_
        refine lv_iload_n hx hb dL_areChosen_54 rfl (lv_at hl 3 rfl) ?_
        refine lv_iload hx hb dL_areChosen_55 (lv_at hl 5 rfl) ?_
        obtain ⟨g_63, hw⟩ := hw
        refine k_I (rn_V (As := [.int x2, .int x4]) (rest := []) (κ := 4) (i := 0) ⟨hx, hb, hml, hown, hts⟩ hT hW hS hl (c_X4_shown l hlt E base M_59 ad x2 x4 _ _ hw) cy_X4_shown k_100 k_101 k_102 g_63 (by decide) rfl rfl rfl rfl ⟨(Nat.le_of_ble_eq_true rfl), (Nat.le_of_ble_eq_true rfl)⟩ rfl rfl (Nat.le_of_ble_eq_true rfl) dL_areChosen_57 ⟨by show _ + 2 ≤ 264; omega, by show _ + 12 ≤ 1584; omega⟩) hS (by rw [← hQQ]; exact kx_out hnx hlocks (by omega) (by omega) (fun _ _ _ h9 => h9)) (fun r_67 M_65 ad_66 H locs hP hW hS => ?_)
        obtain ⟨hw, rfl⟩ := hP
        refine lv_aload_n hx hb dL_areChosen_60 rfl (lv_at hl 2 rfl) ?_
        refine k_I (rn_S (As := [.ref (ad 61 0)]) (rest := [.int r_67]) ⟨hx, hb, hml, hown, hts⟩ hT hW hS hl (c_L_wanted l E base M_65 ad _ hw) cy_L_wanted k_276 k_277 rfl rfl ⟨(Nat.le_of_ble_eq_true rfl), (Nat.le_of_ble_eq_true rfl)⟩ rfl rfl (Nat.le_of_ble_eq_true rfl) dL_areChosen_61 ⟨by show _ + 0 ≤ 264; omega, by show _ + 0 ≤ 1584; omega⟩) hS kx_no (fun r_71 M_69 ad_70 H locs hP hW hS => ?_)
        obtain ⟨hw, rfl⟩ := hP
        refine lv_iand hx hb dL_areChosen_64 ?_
        refine lv_aload_n hx hb dL_areChosen_65 rfl (lv_at hl 2 rfl) ?_
        refine lv_bipush (v := 23) hx hb dL_areChosen_66 (by decide) ?_
        refine lv_iload hx hb dL_areChosen_68 (lv_at hl 5 rfl) ?_
        refine lv_iadd hx hb dL_areChosen_70 ?_
        obtain ⟨g_72, hw⟩ := hw
        obtain ⟨g_73, hw⟩ := hw
        refine r_iald hx hb hT.1 hW (by decide) rfl (fun _ => rfl) 29 rfl g_73 g_72 dL_areChosen_71 ?_
        refine lv_iconst (v := (-1)) hx hb dL_areChosen_72 (by decide) ?_
        refine lv_ixor hx hb dL_areChosen_73 ?_
        refine lv_iand hx hb dL_areChosen_74 ?_
        refine lv_if_eq (tgt := 82) hx hb dL_areChosen_75 (by decide) (fun c_74 => ?_) (fun c_74 => ?_)
        · have hw := hw.1 c_74
          refine W.widen (k := 4 + 4 * it + 4) (n := 24 + 24 * it + 24) (by omega) (by omega) ?_
          exact L_82 k5 K5 M_69 it x2 x3 x4 hw H locs ls hW hS (lv_sub hl [1, 2, 3, 4, 5] rfl)
        · have hw := hw.2 c_74
          refine lv_iconst (v := 1) hx hb dL_areChosen_78 (by decide) ?_
          refine lv_goto (tgt := 83) hx hb dL_areChosen_79 (by decide) ?_
          refine W.widen (k := 4 + 4 * it + 4) (n := 24 + 24 * it + 24) (by omega) (by omega) ?_
          exact L_83 k5 K5 M_69 it x2 x3 x4 1 hw H locs ls hW hS (lv_sub hl [1, 2, 3, 4, 5] rfl)
  have L_35 : ∀ (k5 : Mem → Nat → Int32 → Int32 → Int32 → Prop) (K5 : ∀ (M : Mem) (it : Nat) (x2 : Int32) (x3 : Int32) (x4 : Int32), k5 M it x2 x3 x4 → WL p l e rm_L_areChosen s m args below meth c QQ E base 10 M ad 5 [(0, .ref (ad 4 0)), (1, .ref (ad 61 0)), (2, .int x2), (3, .int x3), (4, .int x4)] [] (4 + 4 * it + 0) (24 + 24 * it + 0)) (M : Mem) (it : Nat) (x2 : Int32) (x3 : Int32) (x4 : Int32), b_L_areChosen_35 k5 Q X M it x2 x3 x4 → WL p l e rm_L_areChosen s m args below meth c QQ E base 10 M ad 35 [(0, .ref (ad 4 0)), (1, .ref (ad 61 0)), (2, .int x2), (3, .int x3), (4, .int x4)] [] (4 + 4 * it + 0) (24 + 24 * it + 0) := by
    intro k5 K5 M it x2 x3 x4 hw H locs ls hW hS hl
    unfold b_L_areChosen_35 at hw
    obtain ⟨hit, hw⟩ := hw
    refine lv_iconst (v := 0) hx hb dL_areChosen_35 (by decide) ?_
    refine W.widen (k := 4 + 4 * it + 0) (n := 24 + 24 * it + 0) (by omega) (by omega) ?_
    exact L_36 k5 K5 M it x2 x3 x4 0 hw H locs ls hW hS (lv_sub hl [0, 1, 2, 3, 4] rfl)
  have L_5 : ∀ (n : Nat) (M : Mem) (it : Nat) (x2 : Int32) (x3 : Int32) (x4 : Int32), l_L_areChosen_5 Q X n M it x2 x3 x4 → WL p l e rm_L_areChosen s m args below meth c QQ E base 10 M ad 5 [(0, .ref (ad 4 0)), (1, .ref (ad 61 0)), (2, .int x2), (3, .int x3), (4, .int x4)] [] (4 + 4 * it + 0) (24 + 24 * it + 0) := by
    intro n
    induction n with
    | zero => intro M it x2 x3 x4 hw; exact False.elim hw
    | succ n K5 =>
      intro M it x2 x3 x4 hw H locs ls hW hS hl
      obtain ⟨k5, hk5⟩ : ∃ z, z = l_L_areChosen_5 Q X n := ⟨_, rfl⟩
      have hw : b_L_areChosen_5 Q X k5 M it x2 x3 x4 := by rw [hk5]; exact hw
      rw [← hk5] at K5
      unfold b_L_areChosen_5 at hw
      obtain ⟨hit, hw⟩ := hw
      refine lv_iload hx hb dL_areChosen_5 (lv_at hl 4 rfl) ?_
      refine lv_aload_n hx hb dL_areChosen_7 rfl (lv_at hl 1 rfl) ?_
      refine lv_iconst (v := 0) hx hb dL_areChosen_8 (by decide) ?_
      obtain ⟨g_1, hw⟩ := hw
      obtain ⟨g_2, hw⟩ := hw
      refine r_iald hx hb hT.1 hW (by decide) rfl (fun _ => rfl) 29 rfl g_2 g_1 dL_areChosen_9 ?_
      refine lv_icmp_ge (tgt := 107) hx hb dL_areChosen_10 (by decide) (fun c_3 => ?_) (fun c_3 => ?_)
      · have hw := hw.1 c_3
        refine lv_aload_n hx hb dL_areChosen_107 rfl (lv_at hl 0 rfl) ?_
        refine lv_iload_n hx hb dL_areChosen_108 rfl (lv_at hl 2 rfl) ?_
        obtain ⟨g_4, hw⟩ := hw
        refine k_I (rn_V (As := [.int x2]) (rest := []) (κ := 4) (i := 0) ⟨hx, hb, hml, hown, hts⟩ hT hW hS hl (c_X4_chosen l hlt E base M ad x2 _ _ hw) cy_X4_chosen k_220 k_221 k_222 g_4 (by decide) rfl rfl rfl rfl ⟨(Nat.le_of_ble_eq_true rfl), (Nat.le_of_ble_eq_true rfl)⟩ rfl rfl (Nat.le_of_ble_eq_true rfl) dL_areChosen_109 ⟨by show _ + 1 ≤ 264; omega, by show _ + 6 ≤ 1584; omega⟩) hS (by rw [← hQQ]; exact kx_out hnx hlocks (by omega) (by omega) (fun _ _ _ h9 => h9)) (fun r_8 M_6 ad_7 H locs hP hW hS => ?_)
        obtain ⟨hw, rfl⟩ := hP
        refine lv_istore (lv' := [(4, .int r_8), (0, .ref (ad 4 0)), (1, .ref (ad 61 0)), (2, .int x2), (3, .int x3)]) hx hb dL_areChosen_112 hl (by decide) rfl (fun ls hl => ?_)
        refine lv_iload_n hx hb dL_areChosen_114 rfl (lv_at hl 4 rfl) ?_
        refine k_I (rn_S (As := [.int x3]) (rest := []) ⟨hx, hb, hml, hown, hts⟩ hT hW hS hl (c_L_count l E base M_6 ad x3 _ hw) cy_L_count k_223 k_224 rfl rfl ⟨(Nat.le_of_ble_eq_true rfl), (Nat.le_of_ble_eq_true rfl)⟩ rfl rfl (Nat.le_of_ble_eq_true rfl) dL_areChosen_115 ⟨by show _ + 0 ≤ 264; omega, by show _ + 0 ≤ 1584; omega⟩) hS kx_no (fun r_12 M_10 ad_11 H locs hP hW hS => ?_)
        obtain ⟨hw, rfl⟩ := hP
        refine lv_iconst (v := 3) hx hb dL_areChosen_118 (by decide) ?_
        refine lv_icmp_ge (tgt := 129) hx hb dL_areChosen_119 (by decide) (fun c_13 => ?_) (fun c_13 => ?_)
        · have hw := hw.1 c_13
          refine lv_iconst (v := 3) hx hb dL_areChosen_129 (by decide) ?_
          refine W.widen (k := 4 + 4 * it + 1) (n := 24 + 24 * it + 6) (by omega) (by omega) ?_
          exact L_130 M_10 it x2 x3 r_8 3 hw H locs ls hW hS (lv_sub hl [1, 2, 3, 4, 0] rfl)
        · have hw := hw.2 c_13
          refine lv_iload_n hx hb dL_areChosen_122 rfl (lv_at hl 4 rfl) ?_
          refine k_I (rn_S (As := [.int x3]) (rest := []) ⟨hx, hb, hml, hown, hts⟩ hT hW hS hl (c_L_count l E base M_10 ad x3 _ hw) cy_L_count k_223 k_224 rfl rfl ⟨(Nat.le_of_ble_eq_true rfl), (Nat.le_of_ble_eq_true rfl)⟩ rfl rfl (Nat.le_of_ble_eq_true rfl) dL_areChosen_123 ⟨by show _ + 0 ≤ 264; omega, by show _ + 0 ≤ 1584; omega⟩) hS kx_no (fun r_51 M_49 ad_50 H locs hP hW hS => ?_)
          obtain ⟨hw, rfl⟩ := hP
          refine lv_goto (tgt := 130) hx hb dL_areChosen_126 (by decide) ?_
          refine W.widen (k := 4 + 4 * it + 1) (n := 24 + 24 * it + 6) (by omega) (by omega) ?_
          exact L_130 M_49 it x2 x3 r_8 r_51 hw H locs ls hW hS (lv_sub hl [1, 2, 3, 4, 0] rfl)
      · have hw := hw.2 c_3
        refine lv_iload hx hb dL_areChosen_13 (lv_at hl 4 rfl) ?_
        refine lv_iload_n hx hb dL_areChosen_15 rfl (lv_at hl 2 rfl) ?_
        refine lv_icmp_eq (tgt := 35) hx hb dL_areChosen_16 (by decide) (fun c_52 => ?_) (fun c_52 => ?_)
        · have hw := hw.1 c_52
          refine W.widen (k := 4 + 4 * it + 0) (n := 24 + 24 * it + 0) (by omega) (by omega) ?_
          exact L_35 k5 K5 M it x2 x3 x4 hw H locs ls hW hS (lv_sub hl [0, 1, 2, 3, 4] rfl)
        · have hw := hw.2 c_52
          refine lv_aload_n hx hb dL_areChosen_19 rfl (lv_at hl 1 rfl) ?_
          refine lv_iconst (v := 1) hx hb dL_areChosen_20 (by decide) ?_
          obtain ⟨g_75, hw⟩ := hw
          refine r_iald hx hb hT.1 hW (by decide) rfl (fun _ => rfl) 29 rfl g_75 g_1 dL_areChosen_21 ?_
          refine lv_iload hx hb dL_areChosen_22 (lv_at hl 4 rfl) ?_
          refine lv_ishr hx hb dL_areChosen_24 ?_
          refine lv_iconst (v := 1) hx hb dL_areChosen_25 (by decide) ?_
          refine lv_iand hx hb dL_areChosen_26 ?_
          refine lv_iconst (v := 1) hx hb dL_areChosen_27 (by decide) ?_
          refine lv_icmp_ne (tgt := 35) hx hb dL_areChosen_28 (by decide) (fun c_76 => ?_) (fun c_76 => ?_)
          · have hw := hw.2 c_76
            refine W.widen (k := 4 + 4 * it + 0) (n := 24 + 24 * it + 0) (by omega) (by omega) ?_
            exact L_35 k5 K5 M it x2 x3 x4 hw H locs ls hW hS (lv_sub hl [0, 1, 2, 3, 4] rfl)
          · have hw := hw.1 c_76
            refine lv_iconst (v := 1) hx hb dL_areChosen_31 (by decide) ?_
            refine lv_goto (tgt := 36) hx hb dL_areChosen_32 (by decide) ?_
            refine W.widen (k := 4 + 4 * it + 0) (n := 24 + 24 * it + 0) (by omega) (by omega) ?_
            exact L_36 k5 K5 M it x2 x3 x4 1 hw H locs ls hW hS (lv_sub hl [0, 1, 2, 3, 4] rfl)
  unfold w_L_areChosen at hw
  obtain ⟨H, hH⟩ : ∃ z, z = s.heap := ⟨_, rfl⟩
  obtain ⟨locs, hlo⟩ : ∃ z : List Loc, z = [] := ⟨_, rfl⟩
  have hS : va_S (fun q : Nat => base ≤ q) s.heap H locs := by rw [hlo, hH]; exact hS
  have hW : Wd E base M ad H := by rw [hH]; exact hW
  rw [show W p l e rm_L_areChosen s m args below meth c s.heap [] 0 0 QQ (F0 m 0 ls []) = W p l e rm_L_areChosen s m args below meth c H locs 0 0 QQ (F0 m 0 ls []) by rw [hlo, hH]]
  refine lv_iconst (v := 0) hx hb dL_areChosen_0 (by decide) ?_
  refine lv_istore_n (lv' := [(3, .int 0), (0, .ref (ad 4 0)), (1, .ref (ad 61 0)), (2, .int a2)]) hx hb dL_areChosen_1 rfl hl (by decide) rfl (fun ls hl => ?_)
  refine lv_iconst (v := 0) hx hb dL_areChosen_2 (by decide) ?_
  refine lv_istore (lv' := [(4, .int 0), (3, .int 0), (0, .ref (ad 4 0)), (1, .ref (ad 61 0)), (2, .int a2)]) hx hb dL_areChosen_3 hl (by decide) rfl (fun ls hl => ?_)
  refine W.widen (k := 4 + 4 * 0 + 0) (n := 24 + 24 * 0 + 0) (by omega) (by omega) ?_
  obtain ⟨n9, hw⟩ := hw
  exact L_5 n9 M 0 a2 0 0 hw H locs ls hW hS (lv_sub hl [2, 3, 4, 1, 0] rfl)
def rm_L_areBans : Room := { frames := 9, cells := 274, slots := 1644, locals := 200 }
set_option maxHeartbeats 4000000 in
set_option maxRecDepth 100000 in
theorem c_L_areBans (l : Launch) (hlt : l.stackTraces = false) (E : GE) (base : Nat) (M : Mem) (ad : AD) (a2 : Int32) (a3 : Int32) (Q : Int32 → Mem → Prop) (X : Nat → Mem → Prop) (hw : w_L_areBans M a2 a3 Q X) : Con l yL_areBans cL_areBans 5 (some .boolean) rm_L_areBans 274 1644 E base [.ref (ad 4 0), .ref (ad 61 0), .int a2, .int a3] M ad (QcI E base (fun r M1 ad1 => Q r M1 ∧ ad = ad1)) (fun k M1 ad1 => X k M1 ∧ ad = ad1) := by
  refine con_start (by decide) (Nat.le_of_ble_eq_true rfl) ?_
  intro p e s m args below meth c ls QQ hQQ CT hnx hW hl
  obtain ⟨⟨hx, hb, hml, hown, hts⟩, hr, hlocks, hnm, hT⟩ := CT
  have hS : va_S (fun q : Nat => base ≤ q) s.heap s.heap [] := va_S.rf
  have hl : lv_has ls 5 [(0, .ref (ad 4 0)), (1, .ref (ad 61 0)), (2, .int a2), (3, .int a3)] := hl
  have L_90 : ∀ (M : Mem) , b_L_areBans_90 Q X M → WL p l e rm_L_areBans s m args below meth c QQ E base 5 M ad 90 [] [] 274 1644 := by
    intro M hw H locs ls hW hS hl
    unfold b_L_areBans_90 at hw
    refine lv_iconst (v := 1) hx hb dL_areBans_90 (by decide) ?_
    refine lv_goto (tgt := 95) hx hb dL_areBans_91 (by decide) ?_
    rw [← hQQ]
    exact e_Z hx hb hr hlocks hW hS (Nat.le_of_ble_eq_true rfl) (Nat.le_of_ble_eq_true rfl) dL_areBans_95 (by decide) ⟨hw, rfl⟩
  have L_81 : ∀ (M : Mem) (x2 : Int32), b_L_areBans_81 Q X M x2 → WL p l e rm_L_areBans s m args below meth c QQ E base 5 M ad 81 [(0, .ref (ad 4 0)), (1, .ref (ad 61 0)), (2, .int x2)] [] 10 60 := by
    intro M x2 hw H locs ls hW hS hl
    unfold b_L_areBans_81 at hw
    refine lv_aload_n hx hb dL_areBans_81 rfl (lv_at hl 0 rfl) ?_
    refine lv_aload_n hx hb dL_areBans_82 rfl (lv_at hl 1 rfl) ?_
    refine lv_iload_n hx hb dL_areBans_83 rfl (lv_at hl 2 rfl) ?_
    refine k_I (rn_S (As := [.ref (ad 4 0), .ref (ad 61 0), .int x2]) (rest := []) ⟨hx, hb, hml, hown, hts⟩ hT hW hS hl (c_L_areChosen l hlt E base M ad x2 _ _ hw) cy_L_areChosen k_278 k_279 rfl rfl ⟨(Nat.le_of_ble_eq_true rfl), (Nat.le_of_ble_eq_true rfl)⟩ rfl rfl (Nat.le_of_ble_eq_true rfl) dL_areBans_84 ⟨(Nat.le_of_ble_eq_true rfl), (Nat.le_of_ble_eq_true rfl)⟩) hS (by rw [← hQQ]; exact kx_out hnx hlocks (Nat.le_of_ble_eq_true rfl) (Nat.le_of_ble_eq_true rfl) (fun _ _ _ h9 => h9)) (fun r_26 M_24 ad_25 H locs hP hW hS => ?_)
    obtain ⟨hw, rfl⟩ := hP
    refine lv_if_eq (tgt := 94) hx hb dL_areBans_87 (by decide) (fun c_27 => ?_) (fun c_27 => ?_)
    · have hw := hw.1 c_27
      refine lv_iconst (v := 0) hx hb dL_areBans_94 (by decide) ?_
      rw [← hQQ]
      exact e_Z hx hb hr hlocks hW hS (Nat.le_of_ble_eq_true rfl) (Nat.le_of_ble_eq_true rfl) dL_areBans_95 (by decide) ⟨hw, rfl⟩
    · have hw := hw.2 c_27
      exact L_90 M_24 hw H locs ls hW hS (lv_sub hl [] rfl)
  have L_62 : ∀ (M : Mem) (x2 : Int32) (x3 : Int32), b_L_areBans_62 Q X M x2 x3 → WL p l e rm_L_areBans s m args below meth c QQ E base 5 M ad 62 [(0, .ref (ad 4 0)), (1, .ref (ad 61 0)), (2, .int x2), (3, .int x3)] [] 6 36 := by
    intro M x2 x3 hw H locs ls hW hS hl
    unfold b_L_areBans_62 at hw
    refine lv_aload_n hx hb dL_areBans_62 rfl (lv_at hl 0 rfl) ?_
    refine lv_iload_n hx hb dL_areBans_63 rfl (lv_at hl 2 rfl) ?_
    refine lv_iload_n hx hb dL_areBans_64 rfl (lv_at hl 3 rfl) ?_
    obtain ⟨g_17, hw⟩ := hw
    refine k_I (rn_V (As := [.int x2, .int x3]) (rest := []) (κ := 4) (i := 0) ⟨hx, hb, hml, hown, hts⟩ hT hW hS hl (c_X4_isBanned l hlt E base M ad x2 x3 _ _ hw) cy_X4_isBanned k_273 k_274 k_275 g_17 (by decide) rfl rfl rfl rfl ⟨(Nat.le_of_ble_eq_true rfl), (Nat.le_of_ble_eq_true rfl)⟩ rfl rfl (Nat.le_of_ble_eq_true rfl) dL_areBans_65 ⟨(Nat.le_of_ble_eq_true rfl), (Nat.le_of_ble_eq_true rfl)⟩) hS (by rw [← hQQ]; exact kx_out hnx hlocks (Nat.le_of_ble_eq_true rfl) (Nat.le_of_ble_eq_true rfl) (fun _ _ _ h9 => h9)) (fun r_21 M_19 ad_20 H locs hP hW hS => ?_)
    obtain ⟨hw, rfl⟩ := hP
    refine lv_if_ne (tgt := 81) hx hb dL_areBans_68 (by decide) (fun c_22 => ?_) (fun c_22 => ?_)
    · have hw := hw.2 c_22
      refine W.widen (k := 10) (n := 60) (Nat.le_of_ble_eq_true rfl) (Nat.le_of_ble_eq_true rfl) ?_
      exact L_81 M_19 x2 hw H locs ls hW hS (lv_sub hl [0, 1, 2] rfl)
    · have hw := hw.1 c_22
      refine lv_aload_n hx hb dL_areBans_71 rfl (lv_at hl 0 rfl) ?_
      refine lv_iload_n hx hb dL_areBans_72 rfl (lv_at hl 2 rfl) ?_
      refine lv_iload_n hx hb dL_areBans_73 rfl (lv_at hl 3 rfl) ?_
      obtain ⟨g_28, hw⟩ := hw
      refine k_I (rn_V (As := [.int x2, .int x3]) (rest := []) (κ := 4) (i := 0) ⟨hx, hb, hml, hown, hts⟩ hT hW hS hl (c_X4_strikes l hlt E base M_19 ad x2 x3 _ _ hw) cy_X4_strikes k_217 k_218 k_219 g_28 (by decide) rfl rfl rfl rfl ⟨(Nat.le_of_ble_eq_true rfl), (Nat.le_of_ble_eq_true rfl)⟩ rfl rfl (Nat.le_of_ble_eq_true rfl) dL_areBans_74 ⟨(Nat.le_of_ble_eq_true rfl), (Nat.le_of_ble_eq_true rfl)⟩) hS (by rw [← hQQ]; exact kx_out hnx hlocks (Nat.le_of_ble_eq_true rfl) (Nat.le_of_ble_eq_true rfl) (fun _ _ _ h9 => h9)) (fun r_32 M_30 ad_31 H locs hP hW hS => ?_)
      obtain ⟨hw, rfl⟩ := hP
      refine lv_iconst (v := 3) hx hb dL_areBans_77 (by decide) ?_
      refine lv_icmp_ge (tgt := 94) hx hb dL_areBans_78 (by decide) (fun c_33 => ?_) (fun c_33 => ?_)
      · have hw := hw.1 c_33
        refine lv_iconst (v := 0) hx hb dL_areBans_94 (by decide) ?_
        rw [← hQQ]
        exact e_Z hx hb hr hlocks hW hS (Nat.le_of_ble_eq_true rfl) (Nat.le_of_ble_eq_true rfl) dL_areBans_95 (by decide) ⟨hw, rfl⟩
      · have hw := hw.2 c_33
        exact L_81 M_30 x2 hw H locs ls hW hS (lv_sub hl [0, 1, 2] rfl)
  have L_27 : ∀ (M : Mem) (x2 : Int32) (x3 : Int32) (s0 : Int32), b_L_areBans_27 Q X M x2 x3 s0 → WL p l e rm_L_areBans s m args below meth c QQ E base 5 M ad 27 [(0, .ref (ad 4 0)), (1, .ref (ad 61 0)), (2, .int x2), (3, .int x3)] [.int s0] 0 0 := by
    intro M x2 x3 s0 hw H locs ls hW hS hl
    unfold b_L_areBans_27 at hw
    refine lv_istore (lv' := [(4, .int s0), (0, .ref (ad 4 0)), (1, .ref (ad 61 0)), (2, .int x2), (3, .int x3)]) hx hb dL_areBans_27 hl (by decide) rfl (fun ls hl => ?_)
    refine lv_iload hx hb dL_areBans_29 (lv_at hl 0 rfl) ?_
    refine lv_if_eq (tgt := 90) hx hb dL_areBans_31 (by decide) (fun c_4 => ?_) (fun c_4 => ?_)
    · have hw := hw.1 c_4
      refine W.widen (k := 274) (n := 1644) (Nat.le_of_ble_eq_true rfl) (Nat.le_of_ble_eq_true rfl) ?_
      exact L_90 M hw H locs ls hW hS (lv_sub hl [] rfl)
    · have hw := hw.2 c_4
      refine lv_aload_n hx hb dL_areBans_34 rfl (lv_at hl 1 rfl) ?_
      refine lv_iload_n hx hb dL_areBans_35 rfl (lv_at hl 3 rfl) ?_
      refine lv_iload_n hx hb dL_areBans_36 rfl (lv_at hl 4 rfl) ?_
      obtain ⟨g_5, hw⟩ := hw
      refine k_I (rn_V (As := [.int x2, .int x3]) (rest := []) (κ := 4) (i := 0) ⟨hx, hb, hml, hown, hts⟩ hT hW hS hl (c_X4_strikes l hlt E base M ad x2 x3 _ _ hw) cy_X4_strikes k_217 k_218 k_219 g_5 (by decide) rfl rfl rfl rfl ⟨(Nat.le_of_ble_eq_true rfl), (Nat.le_of_ble_eq_true rfl)⟩ rfl rfl (Nat.le_of_ble_eq_true rfl) dL_areBans_37 ⟨(Nat.le_of_ble_eq_true rfl), (Nat.le_of_ble_eq_true rfl)⟩) hS (by rw [← hQQ]; exact kx_out hnx hlocks (Nat.le_of_ble_eq_true rfl) (Nat.le_of_ble_eq_true rfl) (fun _ _ _ h9 => h9)) (fun r_9 M_7 ad_8 H locs hP hW hS => ?_)
      obtain ⟨hw, rfl⟩ := hP
      refine lv_if_lt (tgt := 94) hx hb dL_areBans_40 (by decide) (fun c_10 => ?_) (fun c_10 => ?_)
      · have hw := hw.1 c_10
        refine lv_iconst (v := 0) hx hb dL_areBans_94 (by decide) ?_
        rw [← hQQ]
        exact e_Z hx hb hr hlocks hW hS (Nat.le_of_ble_eq_true rfl) (Nat.le_of_ble_eq_true rfl) dL_areBans_95 (by decide) ⟨hw, rfl⟩
      · have hw := hw.2 c_10
        refine lv_aload_n hx hb dL_areBans_43 rfl (lv_at hl 1 rfl) ?_
        refine lv_iload_n hx hb dL_areBans_44 rfl (lv_at hl 3 rfl) ?_
        refine lv_iload_n hx hb dL_areBans_45 rfl (lv_at hl 4 rfl) ?_
        obtain ⟨g_11, hw⟩ := hw
        refine k_I (rn_V (As := [.int x2, .int x3]) (rest := []) (κ := 4) (i := 0) ⟨hx, hb, hml, hown, hts⟩ hT hW hS hl (c_X4_isBanned l hlt E base M_7 ad x2 x3 _ _ hw) cy_X4_isBanned k_273 k_274 k_275 g_11 (by decide) rfl rfl rfl rfl ⟨(Nat.le_of_ble_eq_true rfl), (Nat.le_of_ble_eq_true rfl)⟩ rfl rfl (Nat.le_of_ble_eq_true rfl) dL_areBans_46 ⟨(Nat.le_of_ble_eq_true rfl), (Nat.le_of_ble_eq_true rfl)⟩) hS (by rw [← hQQ]; exact kx_out hnx hlocks (Nat.le_of_ble_eq_true rfl) (Nat.le_of_ble_eq_true rfl) (fun _ _ _ h9 => h9)) (fun r_15 M_13 ad_14 H locs hP hW hS => ?_)
        obtain ⟨hw, rfl⟩ := hP
        refine lv_if_eq (tgt := 62) hx hb dL_areBans_49 (by decide) (fun c_16 => ?_) (fun c_16 => ?_)
        · have hw := hw.1 c_16
          refine W.widen (k := 6) (n := 36) (Nat.le_of_ble_eq_true rfl) (Nat.le_of_ble_eq_true rfl) ?_
          exact L_62 M_13 x2 x3 hw H locs ls hW hS (lv_sub hl [1, 2, 3, 4] rfl)
        · have hw := hw.2 c_16
          refine lv_aload_n hx hb dL_areBans_52 rfl (lv_at hl 1 rfl) ?_
          refine lv_iload_n hx hb dL_areBans_53 rfl (lv_at hl 3 rfl) ?_
          refine lv_iload_n hx hb dL_areBans_54 rfl (lv_at hl 4 rfl) ?_
          obtain ⟨g_34, hw⟩ := hw
          refine k_I (rn_V (As := [.int x2, .int x3]) (rest := []) (κ := 4) (i := 0) ⟨hx, hb, hml, hown, hts⟩ hT hW hS hl (c_X4_strikes l hlt E base M_13 ad x2 x3 _ _ hw) cy_X4_strikes k_217 k_218 k_219 g_34 (by decide) rfl rfl rfl rfl ⟨(Nat.le_of_ble_eq_true rfl), (Nat.le_of_ble_eq_true rfl)⟩ rfl rfl (Nat.le_of_ble_eq_true rfl) dL_areBans_55 ⟨(Nat.le_of_ble_eq_true rfl), (Nat.le_of_ble_eq_true rfl)⟩) hS (by rw [← hQQ]; exact kx_out hnx hlocks (Nat.le_of_ble_eq_true rfl) (Nat.le_of_ble_eq_true rfl) (fun _ _ _ h9 => h9)) (fun r_38 M_36 ad_37 H locs hP hW hS => ?_)
          obtain ⟨hw, rfl⟩ := hP
          refine lv_iconst (v := 1) hx hb dL_areBans_58 (by decide) ?_
          refine lv_icmp_lt (tgt := 94) hx hb dL_areBans_59 (by decide) (fun c_39 => ?_) (fun c_39 => ?_)
          · have hw := hw.1 c_39
            refine lv_iconst (v := 0) hx hb dL_areBans_94 (by decide) ?_
            rw [← hQQ]
            exact e_Z hx hb hr hlocks hW hS (Nat.le_of_ble_eq_true rfl) (Nat.le_of_ble_eq_true rfl) dL_areBans_95 (by decide) ⟨hw, rfl⟩
          · have hw := hw.2 c_39
            exact L_62 M_36 x2 x3 hw H locs ls hW hS (lv_sub hl [1, 2, 3, 4] rfl)
  have L_26 : ∀ (M : Mem) (x2 : Int32) (x3 : Int32), b_L_areBans_26 Q X M x2 x3 → WL p l e rm_L_areBans s m args below meth c QQ E base 5 M ad 26 [(0, .ref (ad 4 0)), (1, .ref (ad 61 0)), (2, .int x2), (3, .int x3)] [] 0 0 := by
    intro M x2 x3 hw H locs ls hW hS hl
    unfold b_L_areBans_26 at hw
    refine lv_iconst (v := 0) hx hb dL_areBans_26 (by decide) ?_
    exact L_27 M x2 x3 0 hw H locs ls hW hS (lv_sub hl [0, 1, 2, 3] rfl)
  unfold w_L_areBans at hw
  obtain ⟨H, hH⟩ : ∃ z, z = s.heap := ⟨_, rfl⟩
  obtain ⟨locs, hlo⟩ : ∃ z : List Loc, z = [] := ⟨_, rfl⟩
  have hS : va_S (fun q : Nat => base ≤ q) s.heap H locs := by rw [hlo, hH]; exact hS
  have hW : Wd E base M ad H := by rw [hH]; exact hW
  rw [show W p l e rm_L_areBans s m args below meth c s.heap [] 0 0 QQ (F0 m 0 ls []) = W p l e rm_L_areBans s m args below meth c H locs 0 0 QQ (F0 m 0 ls []) by rw [hlo, hH]]
  refine lv_aload_n hx hb dL_areBans_0 rfl (lv_at hl 1 rfl) ?_
  refine lv_iconst (v := 1) hx hb dL_areBans_1 (by decide) ?_
  obtain ⟨g_1, hw⟩ := hw
  obtain ⟨g_2, hw⟩ := hw
  refine r_iald hx hb hT.1 hW (by decide) rfl (fun _ => rfl) 29 rfl g_2 g_1 dL_areBans_2 ?_
  refine lv_iload_n hx hb dL_areBans_3 rfl (lv_at hl 2 rfl) ?_
  refine lv_ishr hx hb dL_areBans_4 ?_
  refine lv_iconst (v := 1) hx hb dL_areBans_5 (by decide) ?_
  refine lv_iand hx hb dL_areBans_6 ?_
  refine lv_iconst (v := 1) hx hb dL_areBans_7 (by decide) ?_
  refine lv_icmp_ne (tgt := 26) hx hb dL_areBans_8 (by decide) (fun c_3 => ?_) (fun c_3 => ?_)
  · have hw := hw.2 c_3
    exact L_26 M a2 a3 hw H locs ls hW hS (lv_sub hl [0, 1, 2, 3] rfl)
  · have hw := hw.1 c_3
    refine lv_aload_n hx hb dL_areBans_11 rfl (lv_at hl 1 rfl) ?_
    refine lv_iconst (v := 1) hx hb dL_areBans_12 (by decide) ?_
    obtain ⟨g_40, hw⟩ := hw
    refine r_iald hx hb hT.1 hW (by decide) rfl (fun _ => rfl) 29 rfl g_40 g_1 dL_areBans_13 ?_
    refine lv_iload_n hx hb dL_areBans_14 rfl (lv_at hl 3 rfl) ?_
    refine lv_ishr hx hb dL_areBans_15 ?_
    refine lv_iconst (v := 1) hx hb dL_areBans_16 (by decide) ?_
    refine lv_iand hx hb dL_areBans_17 ?_
    refine lv_iconst (v := 1) hx hb dL_areBans_18 (by decide) ?_
    refine lv_icmp_ne (tgt := 26) hx hb dL_areBans_19 (by decide) (fun c_41 => ?_) (fun c_41 => ?_)
    · have hw := hw.2 c_41
      exact L_26 M a2 a3 hw H locs ls hW hS (lv_sub hl [0, 1, 2, 3] rfl)
    · have hw := hw.1 c_41
      refine lv_iconst (v := 1) hx hb dL_areBans_22 (by decide) ?_
      refine lv_goto (tgt := 27) hx hb dL_areBans_23 (by decide) ?_
      exact L_27 M a2 a3 1 hw H locs ls hW hS (lv_sub hl [0, 1, 2, 3] rfl)
