theorem q_4 (p k : Nat) : (4 : Int32) * nI p + nI k = nI (4 * p + k) := by rw [show (4 : Int32) * nI p = nI (4 * p) from pk_mul 4 p, nI_add]
/-- the lowest of four blocks that are not none -/
theorem low4 {x : Nat} (hx : x < 16) (h : x ≠ 0) : ∃ k, k < 4 ∧ x.testBit k = true ∧ ∀ j, j < k → x.testBit j = false := by
  obtain ⟨q, hq⟩ := lowF_ex (x := x) (Nat.lt_trans hx (by decide)) h
  obtain ⟨h1, h2⟩ := lowF_lt hq
  have k4 : q < 4 := bit_lt (n := 4) hx h2
  refine ⟨q, k4, h2, fun j hj => ?_⟩
  rcases lowF_low x with ⟨e, -⟩ | ⟨k, e, -, -, -, a4⟩
  · rw [hq] at e; cases e
  · rw [hq] at e
    have e := Option.some.inj e
    subst e
    exact a4 j (Nat.zero_le _) hj
theorem p_blockFor {S : SS} {M : Mem} {Q : Int32 → Mem → Prop} {asked : Nat} {x y : Int32} (i o : Nat) (hx : x = nI i) (hy : y = nI o) (h : RepM S M) (ok : OKS S) (hi : i < 6) (ho : o < 6) (hh : hr S i = true) (hho : hr S o = true) (hR : RoundM S M) (hA : AskM M i asked) (hQ : Q (oI (askB S i o asked)) M) : w_X5_blockFor M x y Q := by
  subst hx hy
  have iN := ok.here hh
  have oN := ok.here hho
  have sh : mI M 47 0 (6 * o + i) = nI (shown S o i) := by rw [hR.1 o i oN iN, hh, hho]; rfl
  have F48 : nd (avail S i o) asked < 2 ^ 48 := nd_lt (avail_lt S i o)
  -- the end of the search
  have fin : ∀ r4 r5, TopO S i asked (nd (avail S i o) asked) 0 r4 → LowO (avail S i o) 0 r5 → ∀ n, l_X5_blockFor_27 Q (n + 1) M (nI i) (nI (shown S o i &&& lackS S i)) (oI r4) (oI r5) (-1) := by
    intro r4 r5 h4 h5 n
    have e4 := top_un h4 (bestP_top ok i asked (nd (avail S i o) asked))
    have e5 := low_un h5 (lowF_low (avail S i o))
    show b_X5_blockFor_27 Q _ M _ _ _ _ _
    unfold b_X5_blockFor_27
    refine ⟨fun _ => ?_, fun z => absurd (by decide) z⟩
    unfold askB at hQ
    rw [show missing S i &&& blk (shown S o i) = avail S i o from rfl] at hQ
    rcases h4 with ⟨e, hn⟩ | ⟨p, e, -, p12, pz, -⟩
    · have F0 : nd (avail S i o) asked = 0 := by
        rw [nib_all F48]
        intro p hp; rw [nib_z]; exact hn p (Nat.zero_le _) hp
      rw [if_neg (fun z => z F0)] at hQ
      subst e
      refine ⟨fun _ => ⟨h.e 5, p_hasAskedAll rfl h ok hi hA (q_b2 _ (fun hb => ?_) (fun hb => ?_))⟩, fun z => absurd rfl z⟩
      · rw [if_neg (fun z => by rw [decide_eq_false_iff_not] at hb; exact hb z.1)] at hQ
        exact hQ
      · by_cases az : avail S i o = 0
        · have : lowF (avail S i o) 48 = none := by
            rw [az]
            cases hl : lowF 0 48 with
            | none => rfl
            | some k => have := (lowF_lt hl).2; rw [Nat.zero_testBit] at this; cases this
          rw [if_neg (fun z => z.2 az)] at hQ
          rw [e5, this]; exact hQ
        · rw [if_pos ⟨by simpa using hb, az⟩] at hQ
          rw [e5]; exact hQ
    · have Fz : nd (avail S i o) asked ≠ 0 := fun z => pz (by rw [z, Nat.zero_and])
      rw [if_pos Fz] at hQ
      rw [e] at e4
      have hQ : Q (oI (match bestP S i asked (nd (avail S i o) asked) 12 with | none => none | some p => lowF (nd (avail S i o) asked &&& blkP p) 48)) M := hQ
      rw [← e4] at hQ
      subst e
      refine ⟨fun z => absurd z (oI_n1 (by omega)), fun _ => ⟨h.e 5, h.f 10, p_at i p rfl rfl ⟨h.e 40, pk_in (12 * i + p) 72 (by omega), h.e 5, h.f 12, p_at i p rfl rfl ⟨h.e 42, pk_in (12 * i + p) 72 (by omega), ?_⟩⟩⟩⟩
      rw [cl _ (by omega), h.had hi p12, hA p p12, show (15 : Int32) = nI 15 from rfl, i_nd, i_nd]
      -- the four blocks
      have nz : nib (nd (avail S i o) asked) p ≠ 0 := fun z => pz (nib_z.mp z)
      have ne : nib (nd (avail S i o) asked) p = nd (nd 15 (nib (sHad S i) p)) (nib asked p) := by
        rw [nib_nd, nib_av p12] at nz ⊢
        have n0 : ∀ x : Nat, nd 0 x = 0 := fun x => by unfold nd; simp
        cases hl : (shown S o i &&& lackS S i).testBit p
        · rw [hl] at nz; exact absurd (n0 _) nz
        · rfl
      rw [← ne]
      obtain ⟨k, k4, kb, kl⟩ := low4 (nib_lt _ _) nz
      refine p_lowest k rfl (nib_lt _ _) k4 kb kl ?_
      have fb : ∀ j, (nd (avail S i o) asked &&& blkP p).testBit j = (decide (j / 4 = p) && (nib (nd (avail S i o) asked) p).testBit (j % 4)) := fun j => by
        rw [Nat.testBit_and, blkP_b4, nib_bit]
        by_cases e : j / 4 = p
        · have e4 : j % 4 < 4 := by omega
          rw [show 4 * p + j % 4 = j by omega]
          simp [e, e4]
        · simp [e]
      have el : lowF (nd (avail S i o) asked &&& blkP p) 48 = some (4 * p + k) := by
        refine low_un (A := nd (avail S i o) asked &&& blkP p) (m := 0) (lowF_low _) (Or.inr ⟨4 * p + k, rfl, Nat.zero_le _, by omega, ?_, fun j _ hj => ?_⟩)
        · rw [fb, show (4 * p + k) / 4 = p by omega, show (4 * p + k) % 4 = k by omega, kb]; simp
        · rw [fb]
          by_cases e : j / 4 = p
          · rw [kl (j % 4) (by omega)]; simp
          · simp [e]
      have hQ : Q (oI (lowF (nd (avail S i o) asked &&& blkP p) 48)) M := hQ
      rw [el] at hQ
      show Q ((4 : Int32) * nI p + nI k) M
      rw [q_4]; exact hQ
  have loop : ∀ d r4 r5, d ≤ 12 → TopO S i asked (nd (avail S i o) asked) d r4 → LowO (avail S i o) d r5 → l_X5_blockFor_27 Q (d + 1) M (nI i) (nI (shown S o i &&& lackS S i)) (oI r4) (oI r5) (nI d + (-1)) := by
    intro d
    induction d with
    | zero => intro r4 r5 _ h4 h5; exact fin r4 r5 h4 h5 0
    | succ d ih =>
      intro r4 r5 hd h4 h5
      have l12 := lackS_lt S i
      have sl12 : shown S o i &&& lackS S i < 2 ^ 12 := by rw [Nat.and_comm]; exact and_lt l12
      show b_X5_blockFor_27 Q (l_X5_blockFor_27 Q (d + 1)) M _ _ _ _ _
      rw [pk_m1]
      unfold b_X5_blockFor_27
      -- x7 is the piece's blocks
      have core : ∀ x7 : Nat, x7 = nib (avail S i o) d → b_X5_blockFor_61 (l_X5_blockFor_27 Q (d + 1)) Q M (nI i) (nI (shown S o i &&& lackS S i)) (oI r4) (oI r5) (nI d) (nI x7) := by
        intro x7 hx7
        have x16 : x7 < 16 := by rw [hx7]; exact nib_lt _ _
        unfold b_X5_blockFor_61 b_X5_blockFor_87 b_X5_blockFor_117 b_X5_blockFor_112 b_X5_blockFor_119 b_X5_blockFor_141
        have nf : nd x7 (nib asked d) = nib (nd (avail S i o) asked) d := by rw [nib_nd, hx7]
        -- the lowest, then on
        have low : ∀ s0 : Int32, ∀ r, s0 = oI r → TopO S i asked (nd (avail S i o) asked) d r → ((nI x7 = 0 → ∀ v59 : Int32, v59 = nI d + (-1) → l_X5_blockFor_27 Q (d + 1) M (nI i) (nI (shown S o i &&& lackS S i)) s0 (oI r5) v59) ∧ (¬ nI x7 = 0 → w_X5_lowest M (nI x7) (fun (r_63 : Int32) (M_61 : Mem) => ∀ v59 : Int32, v59 = nI d + (-1) → l_X5_blockFor_27 Q (d + 1) M_61 (nI i) (nI (shown S o i &&& lackS S i)) s0 ((4 * nI d) + r_63) v59))) := by
          intro s0 r hs hr
          subst hs
          have ab : ∀ j, j < 48 → j / 4 = d → (avail S i o).testBit j = x7.testBit (j % 4) := fun j _ hj => by
            rw [hx7, nib_bit, show 4 * d + j % 4 = j by omega]
            have : j % 4 < 4 := by omega
            simp [this]
          refine pk_eq x7 0 (fun z v hv => ?_) (fun z => ?_) rfl rfl (by omega)
          · rw [hv]
            refine ih r r5 (by omega) hr ?_
            rcases h5 with ⟨e, hn⟩ | ⟨k, e, a1, a2, a3, a4⟩
            · refine Or.inl ⟨e, fun j hj hj2 => ?_⟩
              by_cases e2 : j / 4 = d
              · rw [ab j hj2 e2, z, Nat.zero_testBit]
              · exact hn j (by omega) hj2
            · refine Or.inr ⟨k, e, by omega, a2, a3, fun j hj hj2 => ?_⟩
              by_cases e2 : j / 4 = d
              · rw [ab j (by omega) e2, z, Nat.zero_testBit]
              · exact a4 j (by omega) hj2
          · obtain ⟨k, k4, kb, kl⟩ := low4 x16 z
            refine p_lowest k rfl x16 k4 kb kl (fun v hv => ?_)
            rw [hv, q_4]
            refine ih r (some (4 * d + k)) (by omega) hr (Or.inr ⟨4 * d + k, rfl, by omega, by omega, ?_, fun j hj hj2 => ?_⟩)
            · rw [ab _ (by omega) (by omega), show (4 * d + k) % 4 = k by omega]; exact kb
            · rw [ab j (by omega) (by omega)]; exact kl (j % 4) (by omega)
        have keep : (nib (nd (avail S i o) asked) d = 0 ∨ ∃ p, r4 = some p ∧ p < 12 ∧ rk S i asked d < rk S i asked p) → TopO S i asked (nd (avail S i o) asked) d r4 := by
          intro hk
          rcases h4 with ⟨e, hn⟩ | ⟨p, e, a1, a2, a3, a4⟩
          · rcases hk with hk | ⟨p, e2, -⟩
            · refine Or.inl ⟨e, fun j hj hj2 => ?_⟩
              by_cases e2 : j = d
              · subst e2; exact nib_z.mp hk
              · exact hn j (by omega) hj2
            · rw [e] at e2; cases e2
          · refine Or.inr ⟨p, e, by omega, a2, a3, fun j hj hj2 hjz => ?_⟩
            by_cases e2 : j = d
            · subst e2
              rcases hk with hk | ⟨q, e3, _, lt⟩
              · exact absurd (nib_z.mp hk) hjz
              · rw [e] at e3
                have e3 := Option.some.inj e3
                subst e3; omega
            · exact a4 j (by omega) hj2 hjz
        have take : nib (nd (avail S i o) asked) d ≠ 0 → (∀ p, r4 = some p → p < 12 → rk S i asked p ≤ rk S i asked d) → TopO S i asked (nd (avail S i o) asked) d (some d) := by
          intro hz hle
          refine Or.inr ⟨d, rfl, Nat.le_refl _, by omega, fun z => hz (nib_z.mpr z), fun j hj hj2 hjz => ?_⟩
          by_cases e2 : j = d
          · subst e2; exact Nat.le_refl _
          · rcases h4 with ⟨e, hn⟩ | ⟨p, e, a1, a2, a3, a4⟩
            · exact absurd (hn j (by omega) hj2) hjz
            · have := a4 j (by omega) hj2 hjz
              have := hle p e a2
              omega
        refine ⟨h.e 5, h.f 12, p_at i d rfl rfl ⟨h.e 42, pk_in (12 * i + d) 72 (by omega), ?_⟩⟩
        rw [cl _ (by omega), hA d (by omega), i_nd, nf]
        have lt16 := nib_lt (nd (avail S i o) asked) d
        refine pk_eq (nib (nd (avail S i o) asked) d) 0 (fun z => t0 (low (oI r4) r4 rfl (keep (Or.inl z)))) (fun z => t1 ?_)
        rcases h4 with ⟨e, hn⟩ | ⟨p, e, a1, a2, a3, a4⟩
        · subst e
          exact ⟨fun _ => low (nI d) (some d) rfl (take z (fun p e _ => by cases e)), fun z => absurd rfl z⟩
        · subst e
          refine ⟨fun z => absurd z (oI_n1 (by omega)), fun _ => ⟨h.e 5, p_isBetterM d p rfl rfl rfl h ok hi hA (by omega) a2 ?_⟩⟩
          rw [better_rk ok (by omega) a2]
          refine q_b2 _ (fun hb => ?_) (fun hb => ?_)
          · rw [decide_eq_false_iff_not] at hb
            refine low (oI (some p)) (some p) rfl (keep (Or.inr ⟨p, rfl, a2, ?_⟩))
            rcases Nat.lt_or_ge (rk S i asked d) (rk S i asked p) with y | y
            · exact y
            · have : d = p := rk_inj (S := S) (i := i) (asked := asked) (by omega) a2 (by omega)
              omega
          · rw [decide_eq_true_eq] at hb
            exact low (nI d) (some d) rfl (take z (fun q e _ => by have e := Option.some.inj e; subst e; omega))
      refine ⟨fun z => absurd z (nI_pos (by omega)), fun _ => p_has (shown S o i &&& lackS S i) d rfl rfl (by omega) (by omega) (fun hb => t1 ⟨h.e 5, h.f 10, p_at i d rfl rfl ⟨h.e 40, pk_in (12 * i + d) 72 (by omega), ?_⟩⟩) (fun hb => t0 (core 0 (by rw [nib_av (by omega), hb]; rfl)))⟩
      rw [cl _ (by omega), h.had hi (by omega), show (15 : Int32) = nI 15 from rfl, i_nd]
      exact core _ (by rw [nib_av (by omega), if_pos hb])
  refine ⟨h.e 5, h.f 17, p_pair o i rfl rfl ⟨h.e 47, pk_in (6 * o + i) 36 (by omega), h.e 5, p_lackedBy i rfl h ok hi (fun v hv => ?_)⟩⟩
  rw [cl _ (by omega), sh, fa_and] at hv
  subst hv
  exact ⟨13, loop 12 none none (Nat.le_refl _) (Or.inl ⟨rfl, fun p h1 h2 => absurd h2 (by omega)⟩) (Or.inl ⟨rfl, fun j h1 h2 => absurd h2 (by omega)⟩)⟩
