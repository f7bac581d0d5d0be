/-! the law's looks at bans and at what is held -/
theorem cH_n {S : SS} (ok : OKS S) (p : Nat) : ∀ m, sN S ≤ m → cH S p m = cH S p (sN S)
  | 0, h => by rw [show sN S = 0 by omega]
  | m + 1, h => by
    by_cases e : sN S = m + 1
    · rw [e]
    · rw [cH, hr_hi ok (show sN S ≤ m by omega), cH_n ok p m (by omega)]; rfl
/-- only the count of holders changes -/
theorem LB.k {S : SS} {hh : Nat → Nat} {M M1 : Mem} (h : LB S hh M) (hk : ∀ κ i, ¬ (κ = 62 ∧ i = 0) → mE M1 κ i = mE M κ i ∧ ∀ k, mF M1 κ i k = mF M κ i k ∧ mI M1 κ i k = mI M κ i k ∧ mL M1 κ i k = mL M κ i k) : LB S hh M1 := by
  have hc := h.c
  have z : ∀ κ i, κ ≤ 61 → mE M1 κ i = mE M κ i ∧ ∀ k, mF M1 κ i k = mF M κ i k ∧ mI M1 κ i k = mI M κ i k ∧ mL M1 κ i k = mL M κ i k := fun κ i w => hk κ i (by omega)
  refine ⟨h.1, ⟨⟨⟨fun κ hκ => ?_, fun k hk' => ((z 4 0 (by omega)).2 k).1.trans (hc.1.2 k hk')⟩, ⟨?_, ?_, fun p hp => ?_, fun j hj => ?_⟩, fun i hi => peer_keep hc hi (fun κ k w => ?_) (fun _ _ _ => rfl)⟩, fun i hi => ?_, ⟨fun a => ?_, fun k => ?_⟩, fun κ hκ i hi => ?_⟩, ?_⟩
  · have w : κ ≤ 61 := by
      simp only [List.mem_cons, List.not_mem_nil, or_false] at hκ; omega
    exact (z κ 0 w).1.trans (hc.1.1 κ hκ)
  · rw [((z 4 0 (by omega)).2 3).2.1]; exact hc.n
  · rw [((z 4 0 (by omega)).2 4).2.1]; exact hc.r
  · rw [((z 11 0 (by omega)).2 p).2.1]; exact hc.pr hp
  · rw [((z 10 0 (by omega)).2 j).1]; exact hc.pres hj
  · have q := z κ i (by omega)
    exact ⟨q.1, (q.2 k).1, (q.2 k).2.1, (q.2 k).2.2⟩
  · obtain ⟨h0, es, l1, l2⟩ := h.2.1.2.1 i hi
    exact ⟨h0, es, ⟨((z 1 i (by omega)).2 0).2.1.trans l1.1, ((z 1 i (by omega)).2 2).2.1.trans l1.2.1, fun c q hq => ((z 22 i (by omega)).2 c).2.1.trans (l1.2.2 c q hq)⟩, l2⟩
  · rw [(hk a 6 (by omega)).1]; exact h.2.1.2.2.1.1 a
  · rw [((z 3 6 (by omega)).2 k).1]; exact h.2.1.2.2.1.2 k
  · have w : κ ≤ 61 := by
      simp only [List.mem_cons, List.not_mem_nil, or_false] at hκ; omega
    rw [(z κ i w).1]; exact h.2.1.2.2.2 κ hκ i hi
  · exact ⟨(z 61 0 (by omega)).1.trans h.v.1, fun k hk' => ((z 61 0 (by omega)).2 k).2.1.trans (h.v.2 k hk')⟩
theorem LB.new {S : SS} {hh : Nat → Nat} {M M1 : Mem} (h : LB S hh M) (e : M1 = wN M 62 0) : LB S hh M1 ∧ mE M1 62 0 = true ∧ ∀ k, mI M1 62 0 k = 0 := by
  refine ⟨h.k (fun κ i z => ⟨?_, fun k => ⟨?_, ?_, ?_⟩⟩), ?_, fun k => ?_⟩
  · rw [e, mE_N, if_neg z]
  · rw [e, mF_N, if_neg z]
  · rw [e, mI_N, if_neg z]
  · rw [e, mL_N, if_neg z]
  · rw [e, mE_N, if_pos ⟨rfl, rfl⟩]
  · rw [e, mI_N, if_pos ⟨rfl, rfl⟩]
theorem LB.drop {S : SS} {hh : Nat → Nat} {M : Mem} (h : LB S hh M) : LB S hh (wD M 62 0) ∧ mE (wD M 62 0) 62 0 = false := by
  refine ⟨h.k (fun κ i z => ⟨?_, fun k => ⟨rfl, rfl, rfl⟩⟩), ?_⟩
  · rw [mE_D, if_neg z]
  · rw [mE_D, if_pos ⟨rfl, rfl⟩]
theorem LB.w62 {S : SS} {hh : Nat → Nat} {M M1 : Mem} {p : Nat} {v : Int32} (h : LB S hh M) (e : M1 = wI M 62 0 p v) : LB S hh M1 :=
  h.k (fun κ i z => ⟨by rw [e, mE_wI], fun k => ⟨by rw [e, mF_wI], by rw [e, mI_wI, if_neg (fun w => z ⟨w.1, w.2.1⟩)], by rw [e, mL_wI]⟩⟩)
theorem LB.w23 {S : SS} {hh : Nat → Nat} {M M1 : Mem} {i v : Nat} (h : LB S hh M) (hi : i < 6) (e : M1 = wI M 61 0 (23 + i) (nI v)) : LB S (fun k => if k = i then v else hh k) M1 := by
  have g : Ag (fun κ a k => κ = 61) M M1 := Ag.rf.wI e rfl
  refine ⟨h.1, h.2.1.far g (fun κ a k z => by unfold PF; omega), h.v.put e (fun j hj => ?_)⟩
  by_cases z : j = 23 + i
  · subst z
    rw [cell_h, if_pos rfl, if_pos rfl]
  · rw [if_neg z]
    by_cases w : j < 23
    · have c : ∀ h1 h2, cell S h1 j = cell S h2 j := fun h1 h2 => by
        unfold cell
        simp only [if_pos w]
      exact c _ _
    · obtain ⟨k, rfl⟩ : ∃ k, j = 23 + k := ⟨j - 23, by omega⟩
      rw [cell_h, cell_h, if_neg (by omega)]
section LAW3
variable {S : SS} {hh : Nat → Nat} {M : Mem} {Q : Int32 → Mem → Prop} {X : Nat → Mem → Prop} {x y : Int32} {i o p : Nat}
theorem pL_areBans (hb : LB S hh M) (ht : ∀ k, hr S k = true → hh k = sHeld S k) (hi6 : i < 6) (ho6 : o < 6) (hx : x = nI i) (hy : y = nI o) (hQ : Q 1 M) : w_L_areBans M x y Q X := by
  subst hx hy
  have hc := hb.v
  have st := hb.ok.st i o
  have no : b_L_areBans_26 Q X M (nI i) (nI o) := t0 hQ
  refine ⟨hc.e, in1, t_here hc hi6 (fun hi => ⟨in1, t_here hc ho6 (fun ho => t1 ?_) (fun _ => no)⟩) (fun _ => no)⟩
  have b81 : b_L_areBans_81 Q X M (nI i) := pL_areChosen hb ht hi rfl (t1 hQ)
  have b62 : b_L_areBans_62 Q X M (nI i) (nI o) := by
    refine q_isBanned hb hi ho rfl rfl (fun _ => t1 b81) (fun hn => t0 (q_strikes hb hi ho rfl rfl (pk_le 3 (sSt S i o) (fun z => ?_) (fun _ => b81))))
    have := hb.1.2.2.1 i o hi6 ho6 z
    rw [hn] at this; cases this
  refine q_strikes hb hi ho rfl rfl (pk_lt (sSt S i o) 0 (fun z => absurd z (by omega)) (fun _ => q_isBanned hb hi ho rfl rfl (fun hy => t1 (q_strikes hb hi ho rfl rfl (pk_lt (sSt S i o) 1 (fun z => ?_) (fun _ => b62)))) (fun _ => t0 b62)))
  have := hb.1.2.2.2.1 i o hi6 ho6 hy
  omega
theorem pL_areHeld (hb : LB S hh M) (h62 : mE M 62 0 = false) (hsub : ∀ k, hr S k = true → ∀ p, (hh k).testBit p = true → (sHeld S k).testBit p = true)
    (hQ : ∀ M1 h1, LB S h1 M1 → mE M1 62 0 = false → (∀ k, hr S k = true → h1 k = sHeld S k) → Q 1 M1) : w_L_areHeld M Q X := by
  have ok := hb.ok
  have n6 := ok.n
  have cb := fun p m => cH_le S p m
  -- the holders of each piece
  have loop3 : ∀ h1 M1, LB S h1 M1 → mE M1 62 0 = true → (∀ p, p < 12 → mI M1 62 0 p = nI (cH S p (sN S))) → (∀ k, hr S k = true → h1 k = sHeld S k) → ∀ d p, p + d = 12 → ∀ it, it ≤ 93 + p → l_L_areHeld_257 Q X (d + 1) M1 it 1 (nI p) := by
    intro h1 M1 hb1 e62 c62 t1' d
    induction d with
    | zero =>
      intro p hp it hit
      have e : p = 12 := by omega
      subst e
      show b_L_areHeld_257 Q X _ M1 _ _ _
      unfold b_L_areHeld_257
      obtain ⟨d1, d2⟩ := hb1.drop
      exact ⟨by omega, pk_le 12 12 (fun _ => ⟨Or.inr rfl, hQ _ h1 d1 d2 t1'⟩) (fun z => absurd z (by omega))⟩
    | succ d ih =>
      intro p hp it hit
      have nx := ih (p + 1) (by omega) (it + 1) (by omega)
      show b_L_areHeld_257 Q X (l_L_areHeld_257 Q X (d + 1)) M1 _ _ _
      unfold b_L_areHeld_257
      refine ⟨by omega, pk_le 12 p (fun z => absurd z (by omega)) (fun _ => t1 (q_holders hb1 (by omega) rfl ⟨e62, pk_in p 12 (by omega), ?_⟩))⟩
      rw [cl p (by omega), c62 p (by omega), cH_n ok p 6 n6]
      exact ⟨fun _ => ⟨by omega, fun v hv => by rw [hv, nI_1]; exact nx⟩, fun z => absurd rfl z⟩
  -- what each shows
  have loop2 : ∀ h1 M1, LB S h1 M1 → mE M1 62 0 = true → (∀ p, p < 12 → mI M1 62 0 p = nI (cH S p (sN S))) → (∀ k, hr S k = true → h1 k = sHeld S k) → ∀ d k, k + d = sN S → ∀ it, it ≤ 86 + k → l_L_areHeld_209 Q X (d + 1) M1 it 1 (nI k) := by
    intro h1 M1 hb1 e62 c62 t1' d
    have hc := hb1.v
    induction d with
    | zero =>
      intro k hk it hit
      have e : k = sN S := by omega
      subst e
      show b_L_areHeld_209 Q X _ M1 _ _ _
      unfold b_L_areHeld_209
      rw [hc.n]
      exact ⟨by omega, hc.e, in0, pk_le (sN S) (sN S) (fun _ => ⟨by omega, 13, loop3 h1 M1 hb1 e62 c62 t1' 12 0 rfl _ (by omega)⟩) (fun z => absurd z (by omega))⟩
    | succ d ih =>
      intro k hk it hit
      have k6 : k < 6 := by omega
      have nx := ih (k + 1) (by omega) (it + 1) (by omega)
      show b_L_areHeld_209 Q X (l_L_areHeld_209 Q X (d + 1)) M1 _ _ _
      have fin : b_L_areHeld_242 (l_L_areHeld_209 Q X (d + 1)) Q X M1 it (nI k) := ⟨by omega, by omega, fun v hv => by rw [hv, nI_1]; exact nx⟩
      unfold b_L_areHeld_209
      rw [hc.n]
      exact ⟨by omega, hc.e, in0, pk_le (sN S) k (fun z => absurd z (by omega)) (fun _ => t1 ⟨in1, t_gone hc k6 (fun _ => fin) (fun hk' => pL_areShown hb1 t1' hk' rfl (t1 fin))⟩)⟩
  -- what each holds
  have loop1 : ∀ d k, k + d = sN S → ∀ h1 M1, LB S h1 M1 → mE M1 62 0 = true → (∀ p, p < 12 → mI M1 62 0 p = nI (cH S p k)) → (∀ j, j < k → hr S j = true → h1 j = sHeld S j) → (∀ j, k ≤ j → h1 j = hh j) → ∀ it, it ≤ 1 + 14 * k → l_L_areHeld_24 Q X (d + 1) M1 it 1 (nI k) := by
    intro d
    induction d with
    | zero =>
      intro k hk h1 M1 hb1 e62 c62 lo hi it hit
      have hc := hb1.v
      have e : k = sN S := by omega
      subst e
      show b_L_areHeld_24 Q X _ M1 _ _ _
      unfold b_L_areHeld_24
      rw [hc.n]
      exact ⟨by omega, hc.e, in0, pk_le (sN S) (sN S) (fun _ => ⟨by omega, sN S + 1, loop2 h1 M1 hb1 e62 c62 (fun j hj => lo j (ok.here hj) hj) (sN S) 0 (by omega) _ (by omega)⟩) (fun z => absurd z (by omega))⟩
    | succ d ih =>
      intro k hk h1 M1 hb1 e62 c62 lo hi it hit
      have hc := hb1.v
      have k6 : k < 6 := by omega
      have nx := ih (k + 1) (by omega)
      show b_L_areHeld_24 Q X (l_L_areHeld_24 Q X (d + 1)) M1 _ _ _
      generalize l_L_areHeld_24 Q X (d + 1) = kk at nx ⊢
      unfold b_L_areHeld_24
      rw [hc.n]
      refine ⟨by omega, hc.e, in0, pk_le (sN S) k (fun z => absurd z (by omega)) (fun _ => t1 ⟨in1, t_here hc k6 (fun hk' => ?_) (fun hk' => ?_)⟩)⟩
      · refine q_holds hb1 hk' rfl ⟨hc.e, in23 k6, ?_⟩
        have hz : nd (hh k) (sHeld S k) = 0 := by
          apply Nat.eq_of_testBit_eq
          intro b
          rw [nd_bit, Nat.zero_testBit]
          cases hb' : (hh k).testBit b
          · rfl
          · rw [hsub k hk' b hb']; rfl
        rw [hc.hd k6, hi k (Nat.le_refl k), i_nd, hz]
        refine ⟨fun _ => q_holdsByLog hb1 hk' rfl (fun M2 hb2 f2 => ⟨fun _ => ?_, fun z => absurd rfl z⟩), fun z => absurd rfl z⟩
        refine ⟨by omega, hb2.v.e, in23 k6, fun M3 e3 => ⟨13, ?_⟩⟩
        rw [k23p k6] at e3
        have hb3 := hb2.w23 k6 e3
        have e362 : mE M3 62 0 = true := by rw [e3, mE_wI, f2.1 62 (by omega)]; exact e62
        have c362 : ∀ p, p < 12 → mI M3 62 0 p = nI (cH S p k) := fun p hp => by
          rw [e3, mI_wI, if_neg (by omega), f2.2 62 p (by omega)]; exact c62 p hp
        have held := ok.held k
        have inner : ∀ d2 p, p + d2 = 12 → ∀ M4, LB S (fun j => if j = k then sHeld S k else h1 j) M4 → mE M4 62 0 = true → (∀ q, q < 12 → mI M4 62 0 q = nI (if q < p then cH S q (k + 1) else cH S q k)) → l_L_areHeld_100 kk Q X (d2 + 1) M4 (it + 1 + p) 1 (nI k) (nI (sHeld S k)) (nI p) := by
          intro d2
          induction d2 with
          | zero =>
            intro p hp M4 hb4 e4 c4
            have e : p = 12 := by omega
            subst e
            show b_L_areHeld_100 kk Q X _ M4 _ _ _ _ _
            unfold b_L_areHeld_100
            refine ⟨by omega, pk_le 12 12 (fun _ => ⟨by omega, fun v hv => ?_⟩) (fun z => absurd z (by omega))⟩
            rw [hv, nI_1]
            refine nx _ M4 hb4 e4 (fun q hq => by rw [c4 q hq, if_pos hq]) (fun j hj hj' => ?_) (fun j hj => ?_) _ (by omega)
            · by_cases z : j = k
              · simp only [if_pos z]; rw [z]
              · simp only [if_neg z]; exact lo j (by omega) hj'
            · simp only [if_neg (show ¬ j = k by omega)]; exact hi j (by omega)
          | succ d2 ih2 =>
            intro p hp M4 hb4 e4 c4
            have nx2 := ih2 (p + 1) (by omega)
            show b_L_areHeld_100 kk Q X (l_L_areHeld_100 kk Q X (d2 + 1)) M4 _ _ _ _ _
            have nx2 : ∀ M4, LB S (fun j => if j = k then sHeld S k else h1 j) M4 → mE M4 62 0 = true → (∀ q, q < 12 → mI M4 62 0 q = nI (if q < p + 1 then cH S q (k + 1) else cH S q k)) → l_L_areHeld_100 kk Q X (d2 + 1) M4 (it + 1 + p + 1) 1 (nI k) (nI (sHeld S k)) (nI (p + 1)) := nx2
            have fin : ∀ M5, M5 = wI M4 62 0 p (nI (cH S p (k + 1))) → b_L_areHeld_193 kk (l_L_areHeld_100 kk Q X (d2 + 1)) Q X M5 (it + 1 + p) (nI k) (nI (sHeld S k)) (nI p) 1 := fun M5 e5 => by
              refine ⟨by omega, fun v hv => ?_⟩
              rw [hv, nI_1]
              refine nx2 M5 (hb4.w62 e5) (by rw [e5, mE_wI]; exact e4) (fun q hq => ?_)
              rw [e5, mI_wI]
              by_cases z : q = p
              · subst z; rw [if_pos ⟨rfl, rfl, rfl⟩, if_pos (by omega)]
              · rw [if_neg (by omega), c4 q hq]
                by_cases w : q < p
                · rw [if_pos w, if_pos (by omega)]
                · rw [if_neg w, if_neg (by omega)]
            unfold b_L_areHeld_100
            have nf := hb.1.nf k p (by omega)
            have nl := nib_lt nf
            refine ⟨by omega, pk_le 12 p (fun z => absurd z (by omega)) (fun _ => t1 (t_bit rfl (by omega) (by omega) (fun hp' => ?_) (fun hp' => ?_)))⟩
            · refine ⟨by omega, q_blocks hb4 hk' rfl (by omega) rfl ⟨e4, pk_in p 12 (by omega), t1 ⟨by omega, e4, pk_in p 12 (by omega), fun M5 e5 => t1 ?_⟩⟩⟩
              rw [cl p (by omega), c4 p (by omega), if_neg (by omega), nI_1] at e5
              have ec : cH S p (k + 1) = cH S p k + 1 := by rw [cH, hk', hp']; rfl
              rw [if_pos hp']
              exact ⟨fun _ => fin M5 (by rw [ec]; exact e5), fun z => absurd rfl z⟩
            · refine ⟨by omega, q_blocks hb4 hk' rfl (by omega) rfl ⟨e4, pk_in p 12 (by omega), t0 ⟨by omega, e4, pk_in p 12 (by omega), fun M5 e5 => t0 ?_⟩⟩⟩
              rw [cl p (by omega), c4 p (by omega), if_neg (by omega), show (0 : Int32) = nI 0 from rfl, nI_add] at e5
              have ec : cH S p (k + 1) = cH S p k + 0 := by rw [cH, hk', hp']; rfl
              rw [if_neg (by rw [hp']; decide)]
              exact pk_lt (nib (sHad S k) p) 0 (fun z => absurd z (by omega)) (fun _ => pk_le 15 (nib (sHad S k) p) (fun z => absurd z (by omega)) (fun _ => fin M5 (by rw [ec]; exact e5)))
        exact inner 12 0 rfl M3 hb3 e362 (fun q hq => by rw [if_neg (by omega)]; exact c362 q hq)
      · refine ⟨by omega, fun v hv => ?_⟩
        rw [hv, nI_1]
        refine nx h1 M1 hb1 e62 (fun p hp => ?_) (fun j hj hj' => ?_) (fun j hj => hi j (by omega)) _ (by omega)
        · rw [c62 p hp, cH, hk']; rfl
        · by_cases z : j = k
          · rw [z, hk'] at hj'; cases hj'
          · exact lo j (by omega) hj'
  have hc := hb.v
  have pl := pS_lt S
  refine q_peers hb ⟨hc.e, in1, ?_⟩
  rw [hc.p]
  refine ⟨fun _ => ⟨by omega, h62, fun M1 e1 => ⟨sN S + 1, ?_⟩⟩, fun z => absurd rfl z⟩
  obtain ⟨b1, b2, b3⟩ := hb.new e1
  exact loop1 (sN S) 0 (by omega) hh M1 b1 b2 (fun p _ => by rw [b3]; rfl) (fun j hj => absurd hj (by omega)) (fun j _ => rfl) _ (by omega)
end LAW3
