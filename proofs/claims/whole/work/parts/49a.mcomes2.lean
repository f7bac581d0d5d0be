theorem alls_mem (S : SS) : ∀ m, ∀ q ∈ alls S m, q.1 < m ∧ q.2.1 < 48 ∧ q.2.2 < 6
  | 0, q, hq => by cases hq
  | m + 1, q, hq => by
    rw [alls] at hq
    rcases List.mem_append.mp hq with z | z
    · have := alls_mem S m q z
      exact ⟨by omega, this.2⟩
    · unfold askL at z
      obtain ⟨y, hy, rfl⟩ := List.mem_map.mp z
      have := askTo_mem S m 6 y hy
      exact ⟨Nat.lt_succ_self m, this.1, this.2.1⟩
theorem fold_7 {f a c : Nat} (hf : f ≤ 7) : ∀ (l : List (Nat × Nat × Nat)) (st : SS × Nat), (l.foldl cS st).1 f a c = st.1 f a c
  | [], _ => rfl
  | q :: l, st => by
    show (l.foldl cS (cS st q)).1 f a c = _
    rw [fold_7 hf l]
    exact comeOne_low (Or.inl hf)
def PCm (κ a _k : Nat) : Prop := a = 0 ∧ (κ = 39 ∨ κ = 40 ∨ κ = 41 ∨ κ = 43 ∨ κ = 44)
theorem nI_bit {x k : Nat} (hx : x < 2 ^ 31) {A B : Prop} (f0 : x.testBit k = false → A) (f1 : x.testBit k = true → B) : (nI x &&& nI (2 ^ k) = 0 → A) ∧ (¬ nI x &&& nI (2 ^ k) = 0 → B) := by
  rw [fa_and]
  have e : x &&& 2 ^ k = if x.testBit k then 2 ^ k else 0 := by
    apply Nat.eq_of_testBit_eq; intro j
    rw [Nat.testBit_and, Nat.testBit_two_pow]
    by_cases z : k = j
    · subst z
      cases h : x.testBit k
      · simp
      · simp [Nat.testBit_two_pow]
    · cases h : x.testBit k
      · simp [z]
      · simp [z, Nat.testBit_two_pow]
  have l : x &&& 2 ^ k < 2 ^ 31 := Nat.lt_of_le_of_lt Nat.and_le_left hx
  refine pk_eq (x &&& 2 ^ k) 0 (fun z => f0 ?_) (fun z => f1 ?_) rfl rfl l
  · rw [e] at z
    cases h : x.testBit k with
    | false => rfl
    | true => rw [h, if_pos rfl] at z; have := Nat.two_pow_pos k; omega
  · cases h : x.testBit k with
    | true => rfl
    | false => rw [e, h] at z; exact absurd rfl z
theorem p_comesM {S : SS} {M : Mem} {Q : Int32 → Mem → Prop} (h : RepM S M) (ok : OKS S) (hl : ListM M (alls S 6)) (hQ : ∀ M1, Ag PCm M M1 → RepM (comesTo S (askL S) 6).1 M1 → Q (nI (comesTo S (askL S) 6).2) M1) : w_X5_comes M Q := by
  have len := alls_len S 6 (Nat.le_refl _)
  have lm : ∀ {M1 : Mem}, Ag PCm M M1 → ListM M1 (alls S 6) := fun {M1} g => ⟨by rw [g.i (by unfold PCm; omega)]; exact hl.1, fun c q hq => by
    rw [g.i (by unfold PCm; omega), g.i (by unfold PCm; omega), g.i (by unfold PCm; omega)]; exact hl.2 c q hq⟩
  have main : ∀ d c, c + d = (alls S 6).length → ∀ M1, Ag PCm M M1 → RepM (((alls S 6).take c).foldl cS (mask 0 S, 0)).1 M1 → l_X5_comes_25 Q (d + 1) M1 (nI (((alls S 6).take c).foldl cS (mask 0 S, 0)).2) (nI c) := by
    intro d
    induction d with
    | zero =>
      intro c hc M1 g h1
      have e : c = (alls S 6).length := by omega
      subst e
      rw [List.take_length] at h1 ⊢
      rw [alls_fold S 6 (Nat.le_refl _)] at h1 ⊢
      have h1 : RepM (mask 6 (comesTo S (askL S) 6).1) M1 := h1
      rw [mask_6] at h1
      show b_X5_comes_25 Q _ M1 _ _
      unfold b_X5_comes_25
      rw [(lm g).1]
      exact ⟨h1.e 5, pk_le (alls S 6).length (alls S 6).length (fun _ => hQ M1 g h1) (fun z => absurd z (by omega))⟩
    | succ d ih =>
      intro c hc M1 g h1
      have l1 := lm g
      obtain ⟨q, hq⟩ : ∃ q, (alls S 6)[c]? = some q := ⟨(alls S 6)[c], List.getElem?_eq_getElem (by omega)⟩
      obtain ⟨i, b, o⟩ := q
      obtain ⟨i6, b48, o6⟩ := alls_mem S 6 _ (List.mem_of_getElem? hq)
      have i6 : i < 6 := i6
      have b48 : b < 48 := b48
      have o6 : o < 6 := o6
      obtain ⟨v50, v52, v51⟩ := l1.2 c _ hq
      have v50 : mI M1 50 0 c = nI i := v50
      have v52 : mI M1 52 0 c = nI b := v52
      have v51 : mI M1 51 0 c = nI o := v51
      have nx := ih (c + 1) (by omega)
      have es : ((alls S 6).take (c + 1)).foldl cS (mask 0 S, 0) = cS (((alls S 6).take c).foldl cS (mask 0 S, 0)) (i, b, o) := by
        rw [List.take_succ, hq, List.foldl_append]; rfl
      rw [es] at nx
      have sp : sSp (((alls S 6).take c).foldl cS (mask 0 S, 0)).1 o < 2 ^ 12 := by
        unfold sSp
        rw [fold_7 (by omega)]
        show mask 0 S 7 o 0 < _
        rw [mask_r (Or.inl (by decide))]; exact ok.sp o
      generalize hA : ((alls S 6).take c).foldl cS (mask 0 S, 0) = A at h1 nx sp ⊢
      have nx : ∀ M1, Ag PCm M M1 → RepM (comeOne A.1 i b o) M1 → l_X5_comes_25 Q (d + 1) M1 (nI (A.2 + if (sHad A.1 i).testBit b then 0 else 1)) (nI (c + 1)) := nx
      show b_X5_comes_25 Q (l_X5_comes_25 Q (d + 1)) M1 _ _
      unfold b_X5_comes_25 b_X5_comes_198
      rw [l1.1, cl c (by omega), v50, v52]
      refine ⟨h1.e 5, pk_le (alls S 6).length c (fun z => absurd z (by omega)) (fun _ => ⟨h1.f 20, h1.e 50, pk_in c 36 (by omega), h1.f 22, h1.e 52, pk_in c 36 (by omega), p_at i (b / 4) rfl (pk_div (a := b) (d := 4) (by omega) (by decide) (by decide)) ⟨h1.e 5, h1.f 22, h1.e 52, pk_in c 36 (by omega), fun v18 h18 => ?_⟩⟩)⟩
      rw [v52, show nI b - nI b / 4 * 4 = nI (b % 4) from pk_rem (a := b) (d := 4) (by omega) (by decide) (by decide), i_one _ (by omega)] at h18
      subst h18
      have r72 : 12 * i + b / 4 < 72 := by omega
      rw [cl (12 * i + b / 4) (by omega), h1.had i6 (by omega)]
      have nb : (nib (sHad A.1 i) (b / 4)).testBit (b % 4) = (sHad A.1 i).testBit b := by
        rw [nib_bit, show 4 * (b / 4) + b % 4 = b by omega]
        have : b % 4 < 4 := by omega
        simp [this]
      have n16 := nib_lt (sHad A.1 i) (b / 4)
      refine ⟨h1.f 10, h1.e 40, pk_in _ 72 r72, nI_bit (by omega) (fun hz => ?_) (fun hz => ?_)⟩
      · rw [nb] at hz
        refine ⟨pk_in _ 72 r72, pk_in _ 72 r72, fun M25 h25 => ?_⟩
        rw [fa_or] at h25
        have g25 : Ag PCm M M25 := g.wI h25 ⟨rfl, by omega⟩
        have x25 : ∀ κ a k, κ ≠ 40 → mI M25 κ a k = mI M1 κ a k := fun κ a k z => by rw [h25, mI_wI, if_neg (by omega)]
        have e25 : ∀ κ a, mE M25 κ a = mE M1 κ a := fun κ a => by rw [h25]; rfl
        have f25 : ∀ κ a k, mF M25 κ a k = mF M1 κ a k := fun κ a k => by rw [h25]; rfl
        rw [x25 51 0 c (by decide), x25 52 0 c (by decide), v51, v52, cl o (by omega), x25 38 0 o (by decide), x25 41 0 _ (by decide), h1.sp o6, h1.wr i6 (by omega)]
        have put : ∀ s0 : Int32, s0 = nI (if (sSp A.1 o).testBit (b / 4) then 2 ^ (b % 4) else 0) → b_X5_comes_142 (l_X5_comes_25 Q (d + 1)) Q M25 (nI A.2) (nI c) s0 (nI (nib (sWr A.1 i) (b / 4))) (nI (12 * i + b / 4)) := by
          intro s0 hs0
          subst hs0
          unfold b_X5_comes_142 b_X5_comes_198
          rw [cl (12 * i + b / 4) (by omega), cl c (by omega)]
          refine ⟨(e25 41 0).trans (h1.e 41), pk_in _ 72 r72, fun M43 h43 => ?_⟩
          rw [fa_or] at h43
          have g43 : Ag PCm M M43 := g25.wI h43 ⟨rfl, by omega⟩
          have x43 : ∀ κ a k, κ ≠ 40 ∧ κ ≠ 41 → mI M43 κ a k = mI M1 κ a k := fun κ a k z => by rw [h43, mI_wI, if_neg (by omega)]; exact x25 κ a k z.1
          have e43 : ∀ κ a, mE M43 κ a = mE M1 κ a := fun κ a => by rw [h43]; exact e25 κ a
          have f43 : ∀ κ a k, mF M43 κ a k = mF M1 κ a k := fun κ a k => by rw [h43]; exact f25 κ a k
          have ix : (48 : Int32) * nI i + nI b = nI (48 * i + b) := by rw [show (48 : Int32) * nI i = nI (48 * i) from pk_mul 48 i, nI_add]
          rw [x43 50 0 c (by decide), x43 51 0 c (by decide), x43 52 0 c (by decide), v50, v51, v52, ix, cl _ (by omega)]
          refine ⟨(e43 5 0).trans (h1.e 5), (f43 5 0 13).trans (h1.f 13), (f43 5 0 20).trans (h1.f 20), (e43 50 0).trans (h1.e 50), pk_in c 36 (by omega), (f43 5 0 22).trans (h1.f 22), (e43 52 0).trans (h1.e 52), pk_in c 36 (by omega), (f43 5 0 21).trans (h1.f 21), (e43 51 0).trans (h1.e 51), pk_in c 36 (by omega), (e43 43 0).trans (h1.e 43), pk_in (48 * i + b) 288 (by omega), fun M57 h57 => ?_⟩
          have g57 : Ag PCm M M57 := g43.wI h57 ⟨rfl, by omega⟩
          have x57 : ∀ κ a k, κ ≠ 40 ∧ κ ≠ 41 ∧ κ ≠ 43 → mI M57 κ a k = mI M1 κ a k := fun κ a k z => by rw [h57, mI_wI, if_neg (by omega)]; exact x43 κ a k ⟨z.1, z.2.1⟩
          rw [x57 50 0 c (by decide), x57 51 0 c (by decide), v50, v51]
          have e57 : ∀ κ a, mE M57 κ a = mE M1 κ a := fun κ a => by rw [h57]; exact e43 κ a
          have f57 : ∀ κ a k, mF M57 κ a k = mF M1 κ a k := fun κ a k => by rw [h57]; exact f43 κ a k
          refine ⟨(f57 5 0 14).trans (h1.f 14), pk_in c 36 (by omega), pk_in c 36 (by omega), p_pair i o rfl rfl ⟨(e57 44 0).trans (h1.e 44), pk_in (6 * i + o) 36 (by omega), pk_in (6 * i + o) 36 (by omega), fun M68 h68 v69 h69 v70 h70 => ?_⟩⟩
          rw [cl _ (by omega), x57 44 0 _ (by decide), h1.got i6 o6, nI_1] at h68
          rw [h69, h70, nI_1, nI_1]
          have fin := nx M68 (g57.wI h68 ⟨rfl, by omega⟩) (RepM_miss h1 i6 o6 b48 hz h25 h43 h57 h68)
          rw [if_neg (by rw [hz]; decide)] at fin
          exact fin
        refine ⟨(f25 5 0 11).trans (h1.f 11), (e25 41 0).trans (h1.e 41), pk_in _ 72 r72, (f25 5 0 8).trans (h1.f 8), (f25 5 0 21).trans (h1.f 21), (e25 51 0).trans (h1.e 51), pk_in c 36 (by omega), (e25 38 0).trans (h1.e 38), pk_in o 6 o6, pk_in c 36 (by omega), ?_⟩
        refine p_has (sSp A.1 o) (b / 4) rfl (pk_div (a := b) (d := 4) (by omega) (by decide) (by decide)) (by omega) (by omega) (fun hs => t1 (put _ (by rw [if_pos hs]))) (fun hs => t0 (put 0 (by rw [if_neg (by rw [hs]; decide)]; rfl)))
      · rw [nb] at hz
        rw [v50, cl i (by omega), h1.db i6, nI_1]
        refine ⟨h1.f 9, h1.f 20, h1.e 50, pk_in c 36 (by omega), h1.e 39, pk_in i 6 i6, pk_in i 6 i6, fun M78 h78 v hv => ?_⟩
        rw [hv, nI_1]
        have fin := nx M78 (g.wI h78 ⟨rfl, by omega⟩) (RepM_hit h1 i6 hz h78)
        rw [if_pos hz] at fin
        exact fin
  have clear : ∀ d k, k + d = 36 → ∀ M1, Ag PCm M M1 → (∀ κ a j, κ ≠ 44 → mI M1 κ a j = mI M κ a j) → (∀ j, j < k → mI M1 44 0 j = 0) → l_X5_comes_4 Q (d + 1) M1 0 (nI k) := by
    intro d
    induction d with
    | zero =>
      intro k hk M1 g v z
      have e : k = 36 := by omega
      subst e
      show b_X5_comes_4 Q _ M1 _ _
      unfold b_X5_comes_4
      refine pk_le 36 36 (fun _ => ⟨(alls S 6).length + 1, ?_⟩) (fun z => absurd z (by omega))
      refine main (alls S 6).length 0 (by omega) M1 g ?_
      show RepM (mask 0 S) M1
      have m : ∀ f a c, f ≠ 12 → mask 0 S f a c = S f a c := fun f a c z => mask_r (Or.inl z)
      refine ⟨⟨fun κ hκ => (g.1 κ 0).trans (h.1.1 κ hκ), fun k hk => (g.2.1 5 0 k).trans (h.1.2 k hk)⟩, ?_, ?_, fun p hp' => ?_, fun i hi => ⟨?_, ?_, ?_, ?_, ?_, ?_⟩, fun i p hi hp' => ⟨?_, ?_⟩, fun i b hi hb => ?_, fun i o hi ho => ⟨?_, ?_, ?_⟩⟩
      · rw [v _ _ _ (by decide), sR, m _ _ _ (by decide)]; exact h.r
      · rw [v _ _ _ (by decide), sN, m _ _ _ (by decide)]; exact h.n
      · rw [v _ _ _ (by decide), sPr, m _ _ _ (by decide)]; exact h.pr hp'
      · rw [v _ _ _ (by decide), m _ _ _ (by decide)]; exact h.he hi
      · rw [v _ _ _ (by decide), sHeld, m _ _ _ (by decide)]; exact h.held hi
      · rw [v _ _ _ (by decide), sCar, m _ _ _ (by decide)]; exact h.car hi
      · rw [v _ _ _ (by decide), sSeq, m _ _ _ (by decide)]; exact h.seq hi
      · rw [v _ _ _ (by decide), sSp, m _ _ _ (by decide)]; exact h.sp hi
      · rw [v _ _ _ (by decide), sDb, m _ _ _ (by decide)]; exact h.db hi
      · rw [v _ _ _ (by decide), sHad, m _ _ _ (by decide)]; exact h.had hi hp'
      · rw [v _ _ _ (by decide), sWr, m _ _ _ (by decide)]; exact h.wr hi hp'
      · rw [v _ _ _ (by decide), sFr, m _ _ _ (by decide)]; exact h.fr hi hb
      · rw [z _ (by omega)]
        have : sGot (mask 0 S) i o = 0 := by
          show (if 12 = 12 ∧ 0 ≤ i ∧ i < 6 then 0 else S 12 i o) = 0
          rw [if_pos ⟨rfl, Nat.zero_le _, hi⟩]
        rw [this]; rfl
      · rw [v _ _ _ (by decide), sSt, m _ _ _ (by decide)]; exact h.st hi ho
      · rw [v _ _ _ (by decide), sBan, m _ _ _ (by decide)]; exact h.ban hi ho
    | succ d ih =>
      intro k hk M1 g v z
      show b_X5_comes_4 Q (l_X5_comes_4 Q (d + 1)) M1 _ _
      unfold b_X5_comes_4
      rw [cl k (by omega)]
      refine pk_le 36 k (fun z => absurd z (by omega)) (fun _ => ⟨(g.1 5 0).trans (h.e 5), (g.2.1 5 0 14).trans (h.f 14), (g.1 44 0).trans (h.e 44), pk_in k 36 (by omega), fun M2 h2 w hw => ?_⟩)
      rw [hw, nI_1]
      refine ih (k + 1) (by omega) M2 (g.wI h2 ⟨rfl, by omega⟩) (fun κ a j hj => by rw [h2, mI_wI, if_neg (by omega)]; exact v κ a j hj) (fun j hj => ?_)
      rw [h2, mI_wI]
      by_cases e : j = k
      · rw [if_pos ⟨rfl, rfl, e⟩]
      · rw [if_neg (fun y => e y.2.2)]; exact z j (by omega)
  exact ⟨37, clear 36 0 rfl M Ag.rf (fun _ _ _ _ => rfl) (fun j hj => absurd hj (Nat.not_lt_zero _))⟩
