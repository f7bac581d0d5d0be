/-! the law's methods: counts, what is shown, who is chosen -/
theorem bs_n {f : Nat → Bool} {n : Nat} (h : ∀ k, n ≤ k → f k = false) : ∀ m, n ≤ m → bs f m = bs f n
  | 0, hm => by rw [show n = 0 by omega]
  | m + 1, hm => by
    by_cases e : n = m + 1
    · rw [e]
    · rw [bs_s0 (h m (by omega))]; exact bs_n h m (by omega)
theorem intr_n {S : SS} (ok : OKS S) (i : Nat) : intr S i = bs (wantsB S i) (sN S) := bs_n (fun k hk => by unfold wantsB; rw [hr_hi ok hk]; rfl) 6 ok.n
section LAW1
variable {S : SS} {hh : Nat → Nat} {M : Mem} {Q : Int32 → Mem → Prop} {X : Nat → Mem → Prop} {x y : Int32} {i o p : Nat}
theorem pL_count (n : Nat) (hy : y = nI n) (hn : n < 2 ^ 31) (hQ : Q (nI (pcT n 12)) M) : w_L_count M y Q := by
  subst hy
  have loop : ∀ d i, i + d = 12 → l_L_count_4 Q (d + 1) M (nI n) (nI (pcT n i)) (nI i) := by
    intro d
    induction d with
    | zero =>
      intro i hi
      have e : i = 12 := by omega
      subst e
      show b_L_count_4 Q _ M _ _ _
      unfold b_L_count_4
      exact pk_le 12 12 (fun _ => hQ) (fun z => absurd z (by omega))
    | succ d ih =>
      intro i hi
      have nx := ih (i + 1) (by omega)
      rw [pcT] at nx
      show b_L_count_4 Q (l_L_count_4 Q (d + 1)) M _ _ _
      unfold b_L_count_4
      refine pk_le 12 i (fun z => absurd z (by omega)) (fun _ v hv w hw => ?_)
      rw [hv, hw, i_has hn (by omega), nI_add, nI_1]
      exact nx
  exact ⟨13, loop 12 0 rfl⟩
theorem pL_wanted (hb : LB S hh M) (hQ : Q (nI (wantS S)) M) : w_L_wanted M Q := by
  have hc := hb.v
  have loop : ∀ d i, i + d = 12 → l_L_wanted_4 Q (d + 1) M (nI (bs (fun p => decide (0 < sPr S p)) i)) (nI i) := by
    intro d
    induction d with
    | zero =>
      intro i hi
      have e : i = 12 := by omega
      subst e
      show b_L_wanted_4 Q _ M _ _
      unfold b_L_wanted_4
      exact pk_le 12 12 (fun _ => hQ) (fun z => absurd z (by omega))
    | succ d ih =>
      intro i hi
      have nx := ih (i + 1) (by omega)
      have hp := hb.ok.pr i
      show b_L_wanted_4 Q (l_L_wanted_4 Q (d + 1)) M _ _
      unfold b_L_wanted_4 b_L_wanted_26
      rw [hc.pr (by omega)]
      refine pk_le 12 i (fun z => absurd z (by omega)) (fun _ => ⟨hc.e, in3 (by omega), pk_le (sPr S i) 0 (fun hz v hv w hw => ?_) (fun hz v hv w hw => ?_)⟩)
      · rw [bs_s0 (by simp; omega)] at nx
        rw [hv, hw, show (0 : Int32) = nI 0 from rfl, fa_or, Nat.or_zero, nI_1]; exact nx
      · rw [bs_s1 (by simp; omega)] at nx
        rw [hv, hw, i_one i (by omega), fa_or, nI_1]; exact nx
  exact ⟨13, loop 12 0 rfl⟩
theorem pow_and : ∀ q, q < 12 → nI (2 ^ q) &&& (nI (2 ^ q) - 1) = 0 := by decide +kernel
/-- what a careful one shows, as the law asks it -/
theorem shown_law (ok : OKS S) (hio : i ≠ o) (hc : sCar S i ≠ 0) : nd (shown S i o) (nd (sHeld S i) (sHeld S o)) = 0 ∧ nI (shown S i o) &&& (nI (shown S i o) - 1) = 0 ∧ (shown S i o = 0 → nd (sHeld S i) (sHeld S o) = 0) := by
  rcases shown_can ok hio hc with ⟨h1, h2⟩ | ⟨q, q12, h1, h2⟩
  · rw [h1, h2]
    exact ⟨nd_0 0, by decide, fun _ => rfl⟩
  · rw [h1]
    refine ⟨?_, pow_and q q12, fun z => ?_⟩
    · apply Nat.eq_of_testBit_eq
      intro k
      rw [nd_bit, p2_bit, Nat.zero_testBit]
      by_cases e : q = k
      · subst e; rw [h2]; simp
      · simp [e]
    · have := Nat.two_pow_pos q
      omega
theorem car_bit (ok : OKS S) (hi : i < 6) : (carS S).testBit i = decide (sCar S i ≠ 0) := by
  unfold carS
  rw [bs_bit]
  have := ok.car i
  simp [hi]
  rcases (show sCar S i = 0 ∨ sCar S i = 1 by omega) with z | z
  · rw [z]; rfl
  · rw [z]; rfl
theorem pL_areShown (hb : LB S hh M) (ht : ∀ k, hr S k = true → hh k = sHeld S k) (hi : hr S i = true) (hx : x = nI i) (hQ : Q 1 M) : w_L_areShown M x Q X := by
  subst hx
  have ok := hb.ok
  have hc := hb.v
  have n6 := ok.n
  have i6 := hb.h6 hi
  have cl6 := carS_lt S
  have main : ∀ d o, o + d = sN S → l_L_areShown_18 Q X (d + 1) M (1 + o) (nI i) 1 (nI o) := by
    intro d
    induction d with
    | zero =>
      intro o ho
      have e : o = sN S := by omega
      subst e
      show b_L_areShown_18 Q X _ M _ _ _ _
      unfold b_L_areShown_18
      rw [hc.n]
      exact ⟨by omega, hc.e, in0, pk_le (sN S) (sN S) (fun _ => ⟨Or.inr rfl, hQ⟩) (fun z => absurd z (by omega))⟩
    | succ d ih =>
      intro o ho
      have nx := ih (o + 1) (by omega)
      have o6 : o < 6 := by omega
      show b_L_areShown_18 Q X (l_L_areShown_18 Q X (d + 1)) M _ _ _ _
      generalize l_L_areShown_18 Q X (d + 1) = k at nx ⊢
      have fin : b_L_areShown_164 k Q X M (1 + o) (nI i) (nI o) := ⟨by omega, by omega, fun v hv => by rw [hv, nI_1]; exact nx⟩
      have z71 : ∀ s0, b_L_areShown_71 k Q X M (1 + o) (nI i) (nI o) 0 s0 := fun s0 => ⟨by omega, hc.e, in23 i6, in23 o6, fun v hv => ⟨in15, t_bit hc.car (by omega) (by omega) (fun _ => ⟨by omega, t0 fin⟩) (fun _ => ⟨by omega, t0 fin⟩)⟩⟩
      have no : b_L_areShown_52 k Q X M (1 + o) (nI i) (nI o) := ⟨by omega, by omega, t0 (z71 0)⟩
      unfold b_L_areShown_18
      rw [hc.n]
      refine ⟨by omega, hc.e, in0, pk_le (sN S) o (fun z => absurd z (by omega)) (fun _ => t1 (pk_eq o i (fun _ => no) (fun hne => ⟨in1, t_here hc o6 (fun hro => ⟨by omega, t1 ?_⟩) (fun _ => no)⟩)))⟩
      refine q_shown hb hi hro rfl rfl ⟨by omega, hc.e, in23 i6, in23 o6, fun v hv => ⟨in15, t_bit hc.car (by omega) (by omega) (fun hcar => ⟨by omega, t1 (t1 ?_)⟩) (fun hcar => ⟨by omega, t1 (t0 ⟨hc.e, in23 i6, ?_⟩)⟩)⟩⟩
      · rw [hc.hd i6, hc.hd o6, i_nd, ht i hi, ht o hro] at hv
        subst hv
        rw [car_bit ok i6] at hcar
        obtain ⟨s1, s2, s3⟩ := shown_law ok (o := o) (fun z => hne z.symm) (by simpa using hcar)
        have sl := shown_lt ok i o
        have dl : nd (sHeld S i) (sHeld S o) < 2 ^ 12 := nd_lt (ok.held i)
        rw [i_nd, s1]
        refine ⟨fun _ => ⟨fun _ => pk_eq (shown S i o) 0 (fun z => pk_eq (nd (sHeld S i) (sHeld S o)) 0 (fun _ => fin) (fun w => absurd (s3 z) w)) (fun _ => fin), fun z => absurd s2 z⟩, fun z => absurd rfl z⟩
      · rw [car_bit ok i6] at hcar
        have c0 : sCar S i = 0 := by simpa using hcar
        have e : shown S i o = sHeld S i := by unfold shown; rw [if_neg (fun z => hne z.symm), if_pos c0]
        rw [hc.hd i6, ht i hi, e]
        exact ⟨fun _ => fin, fun z => absurd rfl z⟩
  have s0 : shown S i i = 0 := by unfold shown; rw [if_pos rfl]
  refine q_shown hb hi hi rfl rfl ?_
  rw [s0]
  exact ⟨fun _ => ⟨by omega, sN S + 1, main (sN S) 0 (by omega)⟩, fun z => absurd rfl z⟩
theorem pL_areChosen (hb : LB S hh M) (ht : ∀ k, hr S k = true → hh k = sHeld S k) (hi : hr S i = true) (hx : x = nI i) (hQ : Q 1 M) : w_L_areChosen M x Q X := by
  subst hx
  have ok := hb.ok
  have hc := hb.v
  have n6 := ok.n
  have i6 := hb.h6 hi
  have il := intr_lt S i
  have cl' := chosen_lt (S := S) i
  have gl := ok.got i
  -- the second loop
  have loop2 : ∀ d k, k + d = sN S → ∀ it, it ≤ 7 + 8 * k → l_L_areChosen_161 Q X (d + 1) M it (nI i) (nI (intr S i)) (nI (chosen S i)) 1 (nI k) := by
    intro d
    induction d with
    | zero =>
      intro k hk it hit
      have e : k = sN S := by omega
      subst e
      show b_L_areChosen_161 Q X _ M _ _ _ _ _ _
      unfold b_L_areChosen_161
      rw [hc.n]
      exact ⟨by omega, hc.e, in0, pk_le (sN S) (sN S) (fun _ => ⟨Or.inr rfl, hQ⟩) (fun z => absurd z (by omega))⟩
    | succ d ih =>
      intro k hk it hit
      have k6 : k < 6 := by omega
      have nx := ih (k + 1) (by omega)
      show b_L_areChosen_161 Q X (l_L_areChosen_161 Q X (d + 1)) M _ _ _ _ _ _
      generalize l_L_areChosen_161 Q X (d + 1) = kk at nx ⊢
      have fin : ∀ it2, it2 ≤ it + 7 → b_L_areChosen_268 kk Q X M it2 (nI i) (nI (intr S i)) (nI (chosen S i)) (nI k) := fun it2 h2 => ⟨by omega, by omega, fun v hv => by rw [hv, nI_1]; exact nx (it2 + 1) (by omega)⟩
      have end242 : ∀ it2 w, it2 ≤ it + 7 → w < 100 → ((intr S i).testBit k = true → (chosen S i).testBit k = false → 2 ≤ w) → b_L_areChosen_242 kk Q X M it2 (nI i) (nI (intr S i)) (nI (chosen S i)) (nI k) (nI w) := fun it2 w h2 hw hcw => by
        refine ⟨by omega, t_bit0 rfl (by omega) (by omega) (fun _ => fin it2 h2) (fun hik => t_bit rfl (by omega) (by omega) (fun _ => fin it2 h2) (fun hck => pk_lt w 2 (fun z => ?_) (fun _ => fin it2 h2)))⟩
        have := hcw hik hck
        omega
      unfold b_L_areChosen_161
      rw [hc.n]
      refine ⟨by omega, hc.e, in0, pk_le (sN S) k (fun z => absurd z (by omega)) (fun _ => t1 ⟨sN S + 1, ?_⟩)⟩
      let f : Nat → Nat := fun o => if (chosen S i).testBit o && decide (sGot S i k ≤ sGot S i o) then 1 else 0
      have fb : ∀ o, f o ≤ 1 := fun o => by
        show (if _ then 1 else 0) ≤ 1
        split <;> omega
      have inner : ∀ d2 o, o + d2 = sN S → ((intr S i).testBit k = true ∨ o = 0) → l_L_areChosen_180 kk Q X (d2 + 1) M (it + 1 + o) (nI i) (nI (intr S i)) (nI (chosen S i)) (nI k) (nI (sm f o)) (nI o) := by
        intro d2
        induction d2 with
        | zero =>
          intro o ho hor
          have e : o = sN S := by omega
          subst e
          have sb := sm_bd fb (sN S)
          show b_L_areChosen_180 kk Q X _ M _ _ _ _ _ _ _
          unfold b_L_areChosen_180
          rw [hc.n]
          exact ⟨by omega, hc.e, in0, pk_le (sN S) (sN S) (fun _ => end242 _ _ (by omega) (by omega) (fun h1 h2 => ch_better ok h1 h2)) (fun z => absurd z (by omega))⟩
        | succ d2 ih2 =>
          intro o ho hor
          have o6 : o < 6 := by omega
          have sb := sm_bd fb o
          show b_L_areChosen_180 kk Q X (l_L_areChosen_180 kk Q X (d2 + 1)) M _ _ _ _ _ _ _
          have step : (intr S i).testBit k = true → ∀ s0 : Nat, s0 = f o → b_L_areChosen_233 kk (l_L_areChosen_180 kk Q X (d2 + 1)) Q X M (it + 1 + o) (nI i) (nI (intr S i)) (nI (chosen S i)) (nI k) (nI o) (nI s0) (nI (sm f o)) := fun hik s0 hs0 => by
            have nx2 := ih2 (o + 1) (by omega) (Or.inl hik)
            refine ⟨by omega, fun v hv w hw => ?_⟩
            rw [hv, hw, nI_add, nI_1, hs0]
            exact nx2
          unfold b_L_areChosen_180
          rw [hc.n]
          refine ⟨by omega, hc.e, in0, pk_le (sN S) o (fun z => absurd z (by omega)) (fun _ => t_bit rfl (by omega) (by omega) (fun hik => t_bit rfl (by omega) (by omega) (fun hco => ?_) (fun hco => ⟨by omega, step hik 0 ?_⟩)) (fun hik => ?_))⟩
          · have hio := intr_hr (ch_sub S i o hco)
            have hik2 := intr_hr hik
            refine q_got hb hi hio.2.1 rfl rfl (q_got hb hi hik2.2.1 rfl rfl ?_)
            have g1 := gl o
            have g2 := gl k
            refine pk_lt (sGot S i o) (sGot S i k) (fun z => ⟨by omega, step hik 0 ?_⟩) (fun z => step hik 1 ?_)
            · show 0 = if _ then 1 else 0
              rw [if_neg]; simp; intro _; omega
            · show 1 = if _ then 1 else 0
              rw [if_pos]; simp [hco]; omega
          · show 0 = if _ then 1 else 0
            rw [if_neg]; simp [hco]
          · rcases hor with z | z
            · rw [z] at hik; cases hik
            · subst z
              exact end242 _ _ (by omega) (by show 0 < 100; omega) (fun h1 => by rw [h1] at hik; cases hik)
      exact inner (sN S) 0 (by omega) (Or.inr rfl)
  -- the first loop
  have loop1 : ∀ d o, o + d = sN S → l_L_areChosen_5 Q X (d + 1) M o (nI i) (nI (bs (wantsB S i) o)) (nI o) := by
    intro d
    induction d with
    | zero =>
      intro o ho
      have e : o = sN S := by omega
      subst e
      show b_L_areChosen_5 Q X _ M _ _ _ _
      unfold b_L_areChosen_5
      rw [hc.n, ← intr_n ok i]
      refine ⟨by omega, hc.e, in0, pk_le (sN S) (sN S) (fun _ => ?_) (fun z => absurd z (by omega))⟩
      have pl := pcT_le (intr S i) 12
      have pl2 := pcT_le (chosen S i) 12
      have cc := ch_count S i
      have b130 : ∀ s0 : Nat, s0 = pcT (chosen S i) 12 → b_L_areChosen_130 Q X M (sN S) (nI i) (nI (intr S i)) (nI (chosen S i)) (nI s0) := fun s0 hs0 => by
        have nz : nd (chosen S i) (intr S i) = 0 := by
          apply Nat.eq_of_testBit_eq
          intro k
          rw [nd_bit, Nat.zero_testBit]
          cases hk : (chosen S i).testBit k
          · rfl
          · rw [ch_sub S i k hk]; rfl
        refine ⟨by omega, ?_⟩
        rw [i_nd, nz]
        refine ⟨fun _ => pL_count (chosen S i) rfl (by omega) ?_, fun z => absurd rfl z⟩
        subst hs0
        exact ⟨fun _ => ⟨by omega, sN S + 1, loop2 (sN S) 0 (by omega) _ (by omega)⟩, fun z => absurd rfl z⟩
      refine q_chosen hb hi rfl (pL_count (intr S i) rfl (by omega) (pk_le 3 (pcT (intr S i) 12) (fun z => b130 3 ?_) (fun z => pL_count (intr S i) rfl (by omega) (b130 _ ?_))))
      · rw [cc, if_neg (by omega)]
      · rw [cc, if_pos (by omega)]
    | succ d ih =>
      intro o ho
      have o6 : o < 6 := by omega
      have nx := ih (o + 1) (by omega)
      show b_L_areChosen_5 Q X (l_L_areChosen_5 Q X (d + 1)) M _ _ _ _
      generalize l_L_areChosen_5 Q X (d + 1) = kk at nx ⊢
      have skip : wantsB S i o = false → b_L_areChosen_82 kk Q X M o (nI i) (nI (bs (wantsB S i) o)) (nI o) := fun hf => by
        rw [bs_s0 hf] at nx
        refine ⟨by omega, by omega, t0 ⟨by omega, fun v hv w hw => ?_⟩⟩
        rw [hv, hw, show (0 : Int32) = nI 0 from rfl, fa_or, Nat.or_zero, nI_1]
        exact nx
      have take : wantsB S i o = true → b_L_areChosen_83 kk Q X M o (nI i) (nI (bs (wantsB S i) o)) (nI o) 1 := fun hf => by
        rw [bs_s1 hf] at nx
        refine ⟨by omega, t1 ⟨by omega, fun v hv w hw => ?_⟩⟩
        rw [hv, hw, i_one o (by omega), fa_or, nI_1]
        exact nx
      have no : wantsB S i o = false → b_L_areChosen_35 kk Q X M o (nI i) (nI (bs (wantsB S i) o)) (nI o) := fun hf => ⟨by omega, by omega, t0 (skip hf)⟩
      unfold b_L_areChosen_5
      rw [hc.n]
      refine ⟨by omega, hc.e, in0, pk_le (sN S) o (fun z => absurd z (by omega)) (fun _ => pk_eq o i (fun e => no (by unfold wantsB; simp [e])) (fun hne => ⟨in1, t_here hc o6 (fun hro => ⟨by omega, t1 ?_⟩) (fun hro => no (by unfold wantsB; simp [hro]))⟩))⟩
      refine q_isBanned hb hro hi rfl rfl (fun hban => ?_) (fun hban => ?_)
      · exact ⟨fun z => absurd z (by decide), fun _ => skip (by unfold wantsB; simp [hban])⟩
      · refine ⟨fun _ => q_shown hb hi hro rfl rfl (pL_wanted hb ⟨hc.e, in23 o6, ?_⟩), fun z => absurd rfl z⟩
        rw [hc.hd o6, ht o hro, fa_and, i_nd]
        have hs := shown_lt ok i o
        have hlt : nd (shown S i o &&& wantS S) (sHeld S o) < 2 ^ 12 := nd_lt (and_lt hs)
        exact pk_eq (nd (shown S i o &&& wantS S) (sHeld S o)) 0 (fun hz => skip (by unfold wantsB; simp [hz])) (fun hz => take (by unfold wantsB; simp [hro, hne, hban, hz]))
  exact ⟨sN S + 1, loop1 (sN S) 0 (by omega)⟩
end LAW1
