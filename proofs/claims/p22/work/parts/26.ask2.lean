theorem mI_wL (M : Mem) (κ i k a b c : Nat) (v : Int64) : mI (wL M κ i k v) a b c = mI M a b c := rfl
theorem mL_wI (M : Mem) (κ i k a b c : Nat) (v : Int32) : mL (wI M κ i k v) a b c = mL M a b c := rfl
theorem mF_wI (M : Mem) (κ i k a b c : Nat) (v : Int32) : mF (wI M κ i k v) a b c = mF M a b c := rfl
theorem mF_wL (M : Mem) (κ i k a b c : Nat) (v : Int64) : mF (wL M κ i k v) a b c = mF M a b c := rfl
theorem mE_wI (M : Mem) (κ i k a b : Nat) (v : Int32) : mE (wI M κ i k v) a b = mE M a b := rfl
theorem mE_wL (M : Mem) (κ i k a b : Nat) (v : Int64) : mE (wL M κ i k v) a b = mE M a b := rfl
theorem p_add {S : SS} {M : Mem} {Q : Mem → Prop} {i asked b o : Nat} {l : List (Nat × Nat)} {x y : Int32} (hx : x = nI b) (hy : y = nI o) (h : RepC S M) (hi : hr S i = true) (hA : AskV M i asked l) (hl : l.length < 6) (hb : b < 48) (hQ : ∀ M1, Ag (PAsk i) M M1 → AskV M1 i (asked ||| 2 ^ b) (l ++ [(b, o)]) → Q M1) : w_X0_add M i x y Q := by
  subst hx hy
  obtain ⟨a1, a2, a3⟩ := hA
  have hc : (mI M 0 i 2).toNatClampNeg = l.length := by rw [a2]; exact cl _ (by omega)
  unfold w_X0_add
  refine ⟨fun z => absurd z (oI_n1 (by omega)), fun _ => ⟨h.pe hi 0, (h.2.2 i hi).1.2.2.1, h.pe hi 20, pk_le 6 l.length (fun z => absurd z (by omega)) (fun _ => ⟨pk_in l.length 6 (by omega) a2, fun M7 h7 => ?_⟩) rfl a2⟩⟩
  have e7 : mI M7 0 i 2 = mI M 0 i 2 := by rw [h7, mI_wI, if_neg (by omega)]
  have g7 : Ag (PAsk i) M M7 := Ag.rf.wI h7 ⟨by omega, rfl⟩
  refine ⟨(g7.2.1 0 i 1).trans (h.2.2 i hi).1.2.2.2.1, (g7.1 21 i).trans (h.pe hi 21), pk_in l.length 6 (by omega) (e7.trans a2), fun M11 h11 M12 h12 M13 h13 => ?_⟩
  have g11 := g7.wI h11 ⟨by omega, rfl⟩
  have g12 := g11.wI h12 ⟨by omega, rfl⟩
  have g13 := g12.wL h13 ⟨by omega, rfl⟩
  have e11 : mI M11 0 i 2 = mI M 0 i 2 := by rw [h11, mI_wI, if_neg (by omega), e7]
  refine hQ M13 g13 ⟨?_, ?_, fun c q hq => ?_⟩
  · have e : mL M12 0 i 3 = lN asked := by rw [h12, mL_wI, h11, mL_wI, h7, mL_wI, a1]
    rw [h13, mL_wL, if_pos ⟨rfl, rfl, rfl⟩, e, nI_l (by omega), show lN b = (nI b).toInt64 from (nI_l (by omega)).symm, l_one (by omega), l_or]
  · rw [h13, mI_wL, h12, mI_wI, if_pos ⟨rfl, rfl, rfl⟩, e11, a2, nI_1, List.length_append]
    rfl
  · have r20 : mI M13 20 i c = if c = l.length then nI b else mI M 20 i c := by
      rw [h13, mI_wL, h12, mI_wI, if_neg (by omega), h11, mI_wI, if_neg (by omega), h7, mI_wI, hc]
      by_cases hcl : c = l.length
      · rw [if_pos ⟨rfl, rfl, hcl⟩, if_pos hcl]
      · rw [if_neg (by omega), if_neg hcl]
    have r21 : mI M13 21 i c = if c = l.length then nI o else mI M 21 i c := by
      rw [h13, mI_wL, h12, mI_wI, if_neg (by omega), h11, mI_wI, e7, hc]
      by_cases hcl : c = l.length
      · rw [if_pos ⟨rfl, rfl, hcl⟩, if_pos hcl]
      · rw [if_neg (by omega), if_neg hcl, h7, mI_wI, if_neg (by omega)]
    rw [r20, r21]
    by_cases hcl : c = l.length
    · subst hcl
      rw [List.getElem?_append_right (Nat.le_refl _), Nat.sub_self] at hq
      cases hq
      rw [if_pos rfl, if_pos rfl]; exact ⟨rfl, rfl⟩
    · rw [if_neg hcl, if_neg hcl]
      have : c < l.length := by
        have := (List.getElem?_eq_some_iff.mp hq).1
        rw [List.length_append] at this
        simp at this; omega
      rw [List.getElem?_append_left this] at hq
      exact a3 c q hq
theorem lowF_none {x : Nat} : ∀ {k : Nat}, lowF x k = none → ∀ j, j < k → x.testBit j = false
  | 0, _, j, hj => absurd hj (Nat.not_lt_zero _)
  | k + 1, h, j, hj => by
    rw [lowF] at h
    cases hk : lowF x k with
    | some q => rw [hk] at h; cases h
    | none =>
      rw [hk] at h
      rcases Nat.lt_or_ge j k with q | q
      · exact lowF_none hk j q
      · have : j = k := by omega
        subst this
        cases hb : x.testBit j
        · rfl
        · rw [hb] at h; cases h
theorem lowF_ex {x : Nat} (hx : x < 2 ^ 48) (h : x ≠ 0) : ∃ q, lowF x 48 = some q := by
  cases hl : lowF x 48 with
  | some q => exact ⟨q, rfl⟩
  | none =>
    obtain ⟨k, hk, hb⟩ := (ne0_bit hx).mp h
    rw [lowF_none hl k hk] at hb; cases hb
theorem bestP_none {S : SS} {i asked fresh : Nat} : ∀ {k : Nat}, bestP S i asked fresh k = none → ∀ p, p < k → fresh &&& blkP p = 0
  | 0, _, p, hp => absurd hp (Nat.not_lt_zero _)
  | k + 1, h, p, hp => by
    rw [bestP] at h
    cases hk : bestP S i asked fresh k with
    | some q => rw [hk] at h; simp only at h; split at h <;> cases h
    | none =>
      rw [hk] at h
      rcases Nat.lt_or_ge p k with q | q
      · exact bestP_none hk p q
      · have : p = k := by omega
        subst this
        apply Classical.byContradiction
        intro hn
        simp only at h
        rw [if_pos hn] at h; cases h
theorem blk_lt (ps : Nat) : blk ps < 2 ^ 48 := bs_lt _ _
theorem missing_lt (S : SS) (i : Nat) : missing S i < 2 ^ 48 := nd_lt (blk_lt _)
theorem bestP_ex {S : SS} {i asked fresh : Nat} (hx : fresh < 2 ^ 48) (h : fresh ≠ 0) : ∃ q, bestP S i asked fresh 12 = some q := by
  cases hl : bestP S i asked fresh 12 with
  | some q => exact ⟨q, rfl⟩
  | none =>
    obtain ⟨k, hk, hb⟩ := (ne0_bit hx).mp h
    have := bestP_none hl (k / 4) (by omega)
    have h2 : (fresh &&& blkP (k / 4)).testBit k = true := by
      rw [Nat.testBit_and, hb, blkP_bit]
      simp; omega
    rw [this, Nat.zero_testBit] at h2; cases h2
theorem p_askOne {S : SS} {M : Mem} {Q : Mem → Prop} {i o asked : Nat} {l : List (Nat × Nat)} {x : Int64} (hx : x = lN (missing S i)) (h : RepC S M) (hR : RoundV S M) (ok : OKS S) (hi : hr S i = true) (ho : hr S o = true) (hA : AskV M i asked l) (ha : asked < 2 ^ 48) (hl : l.length < 6)
    (hn : askB S i o asked = none → Q M) (hs : ∀ b, askB S i o asked = some b → b < 48 → ∀ M1, Ag (PAsk i) M M1 → AskV M1 i (asked ||| 2 ^ b) (l ++ [(b, o)]) → Q M1) : w_X4_askOne M i o x Q := by
  subst hx
  have hi6 := ok.h6 hi
  have ho6 := ok.h6 ho
  have m1 := missing_lt S i
  unfold w_X4_askOne
  rw [h.num hi, cl i (by omega), hR.2.1 o i ho hi]
  refine ⟨h.pe ho 2, h.pf ho 12, h.pe hi 2, h.pe ho 26, pk_in i 6 hi6, p_blocksOf (shown S o i) rfl (shown_lt ok o i) (fun v10 h10 => ⟨h.pe hi 2, h.pf hi 3, h.pe hi 0, fun v14 h14 => ?_⟩)⟩
  rw [l_and] at h10
  have of1 : missing S i &&& blk (shown S o i) < 2 ^ 48 := and_lt m1
  rw [hA.1, h10, l_nd] at h14
  have fr1 : nd (missing S i &&& blk (shown S o i)) asked < 2 ^ 48 := nd_lt of1
  rw [h14, h10, hA.1, l_nd, q_lcmp, l_eq0 (Nat.lt_trans fr1 (by decide)), q_lcmp, l_eq0 (Nat.lt_trans (nd_lt m1) (by decide)), q_lcmp, l_eq0 (Nat.lt_trans of1 (by decide))]
  unfold askB at hn hs
  have add : ∀ (w : Nat), w < 2 ^ 48 → w ≠ 0 → (∀ b, lowF w 48 = some b → b < 48 → ∀ M1, Ag (PAsk i) M M1 → AskV M1 i (asked ||| 2 ^ b) (l ++ [(b, o)]) → Q M1) → ∀ wv : Int64, wv = lN w → w_X4_findLowest M wv (fun r M1 => mE M1 2 o = true ∧ mE M1 0 i = true ∧ w_X0_add M1 i r (mI M1 2 o 0) (fun M2 => Q M2)) := by
    intro w hw hw0 hk wv hwv
    refine p_findLowest w hwv (Nat.lt_trans hw (by decide)) ⟨h.pe ho 2, h.pe hi 0, ?_⟩
    obtain ⟨b, hb⟩ := lowF_ex hw hw0
    have hb48 := (lowF_lt hb).1
    rw [hb]
    exact p_add rfl (h.num ho) h hi hA hl hb48 (hk b hb hb48)
  refine ⟨fun hf => ⟨fun hm => ⟨fun hof => ?_, fun hof => ?_⟩, fun hm => ?_⟩, fun hf => ?_⟩
  · rw [if_neg (by omega), if_neg (by intro z; exact z.2 hof)] at hn
    exact hn rfl
  · rw [if_neg (by omega), if_pos ⟨hm, hof⟩] at hs
    exact add _ of1 hof hs _ rfl
  · rw [if_neg (by omega), if_neg (by intro z; exact hm z.1)] at hn
    exact hn rfl
  · obtain ⟨p, hp⟩ := bestP_ex (S := S) (i := i) (asked := asked) fr1 hf
    have hp2 := bestP_lt hp
    rw [if_pos hf, hp] at hs
    refine ⟨h.e 4, p_findBestPiece _ rfl fr1 h hR ok hi hA.1 ha ?_⟩
    rw [hp]
    refine ⟨h.pe hi 2, h.pf hi 3, p_blocksOfPiece p rfl hp2.1 ?_⟩
    exact add _ (and_lt fr1) hp2.2 hs _ (l_and _ _)
theorem askB_lt {S : SS} {i o asked b : Nat} (h : askB S i o asked = some b) : b < 48 := by
  unfold askB at h
  split at h
  · split at h
    · cases h
    · exact (lowF_lt h).1
  · split at h
    · exact (lowF_lt h).1
    · cases h
theorem askTo_ok (S : SS) (i : Nat) : ∀ o, (askTo S i o).1 < 2 ^ 48 ∧ (askTo S i o).2.length ≤ o
  | 0 => ⟨Nat.two_pow_pos 48, Nat.le_refl 0⟩
  | o + 1 => by
    obtain ⟨h1, h2⟩ := askTo_ok S i o
    rw [askTo]
    split
    · cases hb : askB S i o (askTo S i o).1 with
      | none => exact ⟨h1, Nat.le_succ_of_le h2⟩
      | some b =>
        refine ⟨Nat.or_lt_two_pow h1 (Nat.pow_lt_pow_right (by omega) (askB_lt hb)), ?_⟩
        simp only [List.length_append, List.length_singleton]; omega
    · exact ⟨h1, by omega⟩
theorem chosen_lt {S : SS} (i : Nat) : chosen S i < 2 ^ 6 := by
  unfold chosen
  refine Nat.or_lt_two_pow (Nat.or_lt_two_pow (single_lt fun q hq => ?_) (single_lt fun q hq => ?_)) (single_lt fun q hq => ?_)
  · exact (bestG_lt hq).1
  · exact (bestG_lt hq).1
  · exact (turnF_lt hq).1
theorem p_askOthers {S : SS} {M : Mem} {Q : Mem → Prop} {i : Nat} {x : Int32} (hx : x = nI (wantS S)) (h : RepC S M) (hR : RoundV S M) (ok : OKS S) (hi : hr S i = true) (hA : AskV M i 0 []) (hQ : ∀ M1, Ag (PAsk i) M M1 → AskV M1 i (askTo S i 6).1 (askTo S i 6).2 → Q M1) : w_X4_askOthers M i x Q := by
  subst hx
  have hi6 := ok.h6 hi
  have loop : ∀ d j, j + d = 6 → ∀ M1, Ag (PAsk i) M M1 → AskV M1 i (askTo S i j).1 (askTo S i j).2 → l_X4_askOthers_41 Q (d + 1) M1 i (lN (missing S i)) 6 (nI j) := by
    intro d
    induction d with
    | zero =>
      intro j hj M1 g hA1
      have e : j = 6 := by omega
      subst e
      show b_X4_askOthers_41 Q _ M1 _ _ _ _
      unfold b_X4_askOthers_41
      exact pk_le 6 6 (fun _ => hQ M1 g hA1) (fun z => absurd z (by omega))
    | succ d ih =>
      intro j hj M1 g hA1
      have h1 := h.ag g (fun _ _ _ z => PAsk_tr z)
      have hR1 := hR.ag g (fun _ _ _ z => z.1)
      obtain ⟨k1, k2⟩ := askTo_ok S i j
      show b_X4_askOthers_41 Q (l_X4_askOthers_41 Q (d + 1)) M1 _ _ _ _
      unfold b_X4_askOthers_41 b_X4_askOthers_84
      rw [cl j (by omega)]
      have nx := ih (j + 1) (by omega)
      rw [askTo] at nx
      refine pk_le 6 j (fun z => absurd z (by omega)) (fun _ => ⟨h1.e 10, pk_in j 6 (by omega), fun hf => ?_, fun hf v hv => ?_⟩)
      · rw [h1.pres (by omega)] at hf
        have hc := chosen_lt (S := S) j
        refine ⟨h1.pe hf 2, h1.pe hi 2, p_isIn (chosen S j) i (by rw [hR1.2.2 j hf]; exact nI_l (by omega)) (h1.num hi) (by omega) (by omega) (fun hb => t1 ⟨h1.e 4, ?_⟩) (fun hb => t0 (fun v hv => ?_))⟩
        · rw [if_pos (by simp [hf, hb])] at nx
          refine p_askOne rfl h1 hR1 ok hi hf hA1 k1 (by omega) (fun hn v hv => ?_) (fun b hb2 hb48 M2 g2 hA2 v hv => ?_)
          · rw [hn] at nx
            rw [hv, nI_1]; exact nx M1 g hA1
          · rw [hb2] at nx
            rw [hv, nI_1]; exact nx M2 (g.tr g2) hA2
        · rw [if_neg (by simp [hb])] at nx
          rw [hv, nI_1]; exact nx M1 g hA1
      · rw [h1.pres (by omega)] at hf
        rw [if_neg (by simp [hf])] at nx
        rw [hv, nI_1]; exact nx M1 g hA1
  unfold w_X4_askOthers
  rw [h.held hi, i_nd]
  refine ⟨h.pe hi 2, h.pf hi 1, h.pe hi 3, p_blocksOf _ rfl (nd_lt (wantS_lt S)) ⟨h.pe hi 2, h.pf hi 1, h.pe hi 3, fun v hv => ⟨h.e 4, h.f 0, h.e 10, 7, ?_⟩⟩⟩
  rw [h.had hi, l_nd] at hv
  rw [hv]
  exact loop 6 0 rfl M Ag.rf hA
def PAskA (κ _a _k : Nat) : Prop := κ = 0 ∨ κ = 20 ∨ κ = 21
theorem AskV.ag {P : Nat → Nat → Nat → Prop} {M M1 : Mem} {i asked : Nat} {l : List (Nat × Nat)} (h : AskV M i asked l) (g : Ag P M M1) (hp : ∀ κ k, (κ = 0 ∨ κ = 20 ∨ κ = 21) → ¬ P κ i k) : AskV M1 i asked l :=
  ⟨by rw [g.l (hp 0 3 (by omega))]; exact h.1, by rw [g.i (hp 0 2 (by omega))]; exact h.2.1, fun c q hq => ⟨by rw [g.i (hp 20 c (by omega))]; exact (h.2.2 c q hq).1, by rw [g.i (hp 21 c (by omega))]; exact (h.2.2 c q hq).2⟩⟩
theorem p_askAll {S : SS} {M : Mem} {Q : Mem → Prop} (h : RepC S M) (hR : RoundV S M) (ok : OKS S) (hA : ∀ i, hr S i = true → AskV M i 0 []) (hQ : ∀ M1, Ag PAskA M M1 → (∀ i, hr S i = true → AskV M1 i (askTo S i 6).1 (askTo S i 6).2) → Q M1) : w_X4_askAll M Q := by
  have loop : ∀ d j, j + d = 6 → ∀ M1, Ag PAskA M M1 → (∀ i, hr S i = true → i < j → AskV M1 i (askTo S i 6).1 (askTo S i 6).2) → (∀ i, hr S i = true → j ≤ i → AskV M1 i 0 []) → l_X4_askAll_16 Q (d + 1) M1 (nI (wantS S)) 6 (nI j) := by
    intro d
    induction d with
    | zero =>
      intro j hj M1 g ha hb
      have e : j = 6 := by omega
      subst e
      show b_X4_askAll_16 Q _ M1 _ _ _
      unfold b_X4_askAll_16
      exact pk_le 6 6 (fun _ => hQ M1 g (fun i hi => ha i hi (ok.h6 hi))) (fun z => absurd z (by omega))
    | succ d ih =>
      intro j hj M1 g ha hb
      have h1 := h.ag g (fun κ a k z => by unfold PAskA at z; unfold Tr; omega)
      have hR1 := hR.ag g (fun _ _ _ z => z)
      show b_X4_askAll_16 Q (l_X4_askAll_16 Q (d + 1)) M1 _ _ _
      unfold b_X4_askAll_16 b_X4_askAll_40
      rw [cl j (by omega)]
      refine pk_le 6 j (fun z => absurd z (by omega)) (fun _ => ⟨h1.e 10, pk_in j 6 (by omega), fun hf => ⟨h1.e 4, ?_⟩, fun hf v hv => ?_⟩)
      · rw [h1.pres (by omega)] at hf
        refine p_askOthers rfl h1 hR1 ok hf (hb j hf (Nat.le_refl _)) (fun M2 g2 hA2 v hv => ?_)
        rw [hv, nI_1]
        refine ih (j + 1) (by omega) M2 (g.tr (g2.mono (fun _ _ _ z => z.1))) (fun i hi hij => ?_) (fun i hi hij => ?_)
        · by_cases e : i = j
          · rw [e]; exact hA2
          · exact (ha i hi (by omega)).ag g2 (fun κ k _ z => e z.2)
        · exact (hb i hi (by omega)).ag g2 (fun κ k _ z => absurd z.2 (by omega))
      · rw [h1.pres (by omega)] at hf
        rw [hv, nI_1]
        refine ih (j + 1) (by omega) M1 g (fun i hi hij => ?_) (fun i hi hij => hb i hi (by omega))
        by_cases e : i = j
        · rw [e, hf] at hi; cases hi
        · exact ha i hi (by omega)
  exact ⟨h.e 4, p_wanted h ok ⟨h.e 4, h.f 0, h.e 10, 7, loop 6 0 rfl M Ag.rf (fun i _ hi => absurd hi (Nat.not_lt_zero _)) (fun i hi _ => hA i hi)⟩⟩
