theorem nib_ndP {x p q : Nat} : nib (nd x (blkP p)) q = if q = p then 0 else nib x q := by
  apply Nat.eq_of_testBit_eq; intro k
  rw [nib_bit, nd_bit, blkP_b4]
  by_cases hk : k < 4
  · have e : (4 * q + k) / 4 = q := by omega
    rw [e]
    by_cases z : q = p
    · rw [if_pos z]; simp [z]
    · rw [if_neg z, nib_bit]; simp [z]
  · have d : decide (k < 4) = false := by simp [hk]
    rw [d]
    split
    · rw [Nat.zero_testBit]; rfl
    · rw [nib_bit, d]; rfl
theorem clr_9 (T : SS) (i p a : Nat) : sHad (clr T i p) a = if a = i then nd (sHad T i) (blkP p) else sHad T a := by
  unfold clr sHad
  rw [sU_f (by decide)]
  by_cases e : a = i
  · subst e; rw [sU_at, if_pos rfl]
  · rw [sU_i e, if_neg e]
theorem clr_10 (T : SS) (i p a : Nat) : sWr (clr T i p) a = if a = i then nd (sWr T i) (blkP p) else sWr T a := by
  unfold clr sWr
  by_cases e : a = i
  · subst e; rw [sU_at, if_pos rfl]
  · rw [sU_i e, sU_i e, if_neg e]
theorem clr_f {T : SS} {i p f a c : Nat} (h : f ≠ 9 ∧ f ≠ 10) : clr T i p f a c = T f a c := by unfold clr; rw [sU_f h.2, sU_f h.1]
theorem RepM_clr {T : SS} {M M1 : Mem} {i p : Nat} (h : RepM T M) (hp : p < 12) (g : Ag (fun κ a k => a = 0 ∧ (κ = 40 ∨ κ = 41) ∧ k = 12 * i + p) M M1) (z40 : mI M1 40 0 (12 * i + p) = 0) (z41 : mI M1 41 0 (12 * i + p) = 0) : RepM (clr T i p) M1 := by
  have v : ∀ κ a k, κ ≠ 40 ∧ κ ≠ 41 → mI M1 κ a k = mI M κ a k := fun κ a k z => g.i (by omega)
  have c : ∀ f a c, f ≠ 9 ∧ f ≠ 10 → clr T i p f a c = T f a c := fun f a c z => clr_f z
  refine ⟨⟨fun κ hκ => (g.1 κ 0).trans (h.1.1 κ hκ), fun k hk => (g.2.1 5 0 k).trans (h.1.2 k hk)⟩, ?_, ?_, fun p hp' => ?_, fun i hi => ⟨?_, ?_, ?_, ?_, ?_, ?_⟩, fun i2 p2 hi2 hp2 => ⟨?_, ?_⟩, fun i b hi hb => ?_, fun i o hi ho => ⟨?_, ?_, ?_⟩⟩
  · rw [v _ _ _ (by decide), sR, c _ _ _ (by decide)]; exact h.r
  · rw [v _ _ _ (by decide), sN, c _ _ _ (by decide)]; exact h.n
  · rw [v _ _ _ (by decide), sPr, c _ _ _ (by decide)]; exact h.pr hp'
  · rw [v _ _ _ (by decide), c _ _ _ (by decide)]; exact h.he hi
  · rw [v _ _ _ (by decide), sHeld, c _ _ _ (by decide)]; exact h.held hi
  · rw [v _ _ _ (by decide), sCar, c _ _ _ (by decide)]; exact h.car hi
  · rw [v _ _ _ (by decide), sSeq, c _ _ _ (by decide)]; exact h.seq hi
  · rw [v _ _ _ (by decide), sSp, c _ _ _ (by decide)]; exact h.sp hi
  · rw [v _ _ _ (by decide), sDb, c _ _ _ (by decide)]; exact h.db hi
  · rw [clr_9]
    by_cases e : i2 = i
    · subst e
      rw [if_pos rfl, nib_ndP]
      by_cases e2 : p2 = p
      · subst e2; rw [if_pos rfl]; exact z40
      · rw [if_neg e2, g.i (by omega)]; exact h.had hi2 hp2
    · rw [if_neg e, g.i (by omega)]; exact h.had hi2 hp2
  · rw [clr_10]
    by_cases e : i2 = i
    · subst e
      rw [if_pos rfl, nib_ndP]
      by_cases e2 : p2 = p
      · subst e2; rw [if_pos rfl]; exact z41
      · rw [if_neg e2, g.i (by omega)]; exact h.wr hi2 hp2
    · rw [if_neg e, g.i (by omega)]; exact h.wr hi2 hp2
  · rw [v _ _ _ (by decide), sFr, c _ _ _ (by decide)]; exact h.fr hi hb
  · rw [v _ _ _ (by decide), sGot, c _ _ _ (by decide)]; exact h.got hi ho
  · rw [v _ _ _ (by decide), sSt, c _ _ _ (by decide)]; exact h.st hi ho
  · rw [v _ _ _ (by decide), sBan, c _ _ _ (by decide)]; exact h.ban hi ho
theorem drop_s (S : SS) (i p k a c : Nat) : sSt (dropO S i p (k + 1)) a c = sSt (dropO S i p k) a c + (if a = i ∧ c = k ∧ cntF S i p k 4 ≠ 0 then 1 else 0) := by
  rw [dropO]
  by_cases hz : cntF S i p k 4 = 0
  · rw [if_pos hz, if_neg (fun z => z.2.2 hz)]; rfl
  · rw [if_neg hz]
    have base : sSt (sU (dropO S i p k) 13 i k (sSt (dropO S i p k) i k + 1)) a c = sSt (dropO S i p k) a c + (if a = i ∧ c = k ∧ cntF S i p k 4 ≠ 0 then 1 else 0) := by
      rw [s45]
      by_cases e : a = i ∧ c = k
      · obtain ⟨rfl, rfl⟩ := e
        rw [if_pos ⟨rfl, rfl⟩, if_pos ⟨rfl, rfl, hz⟩]
      · rw [if_neg e, if_neg (fun z => e ⟨z.1, z.2.1⟩)]; rfl
    split
    · have : ∀ T : SS, ∀ v, sSt (sU T 14 i 0 v) a c = sSt T a c := fun T v => by unfold sSt; rw [sU_f (by decide)]
      rw [this]; exact base
    · exact base
theorem drop_b (S : SS) (i p k a c : Nat) : (sBan (dropO S i p (k + 1)) a).testBit c = ((sBan (dropO S i p k) a).testBit c || decide (a = i ∧ c = k ∧ cntF S i p k 4 ≠ 0 ∧ (cntF S i p k 4 = 4 ∨ 3 ≤ sSt (dropO S i p k) i k + 1))) := by
  rw [dropO]
  by_cases hz : cntF S i p k 4 = 0
  · rw [if_pos hz]; simp [hz]
  · rw [if_neg hz]
    have nb : ∀ T : SS, ∀ v, sBan (sU T 13 i k v) a = sBan T a := fun T v => by unfold sBan; rw [sU_f (by decide)]
    by_cases hc : cntF S i p k 4 = 4 ∨ 3 ≤ sSt (dropO S i p k) i k + 1
    · rw [if_pos hc, s46]
      by_cases e : a = i
      · subst e
        rw [if_pos rfl, Nat.testBit_or, Nat.testBit_two_pow]
        by_cases e2 : c = k
        · subst e2
          rw [decide_eq_true (show (a = a ∧ c = c ∧ cntF S a p c 4 ≠ 0 ∧ (cntF S a p c 4 = 4 ∨ 3 ≤ sSt (dropO S a p c) a c + 1)) from ⟨rfl, rfl, hz, hc⟩)]
          simp
        · have : ¬ k = c := fun z => e2 z.symm
          simp [e2, this]
      · rw [if_neg e, nb]; simp [e]
    · rw [if_neg hc, nb, decide_eq_false (fun z => hc z.2.2.2), Bool.or_false]
theorem b2_of {b : Bool} : ∀ {A B : Prop}, (b = false → A) → (b = true → B) → (nI (b2 b) = 0 → A) ∧ (¬ nI (b2 b) = 0 → B) := fun f0 f1 => q_b2 b f0 f1
/-- where blocks came from -/
def FrI (S : SS) : Prop := ∀ i b, i < 6 → b < 48 → sFr S i b = 0 ∨ sFr S i b < sN S
theorem b2_01 (v : Bool) : nI (b2 v) = 0 ∨ nI (b2 v) = 1 := by
  cases v
  · exact Or.inl rfl
  · exact Or.inr rfl
theorem p_dropsM {S : SS} {M : Mem} {Q : Mem → Prop} {x y : Int32} (i p : Nat) (hx : x = nI i) (hy : y = nI p) (h : RepM S M) (ok : OKS S) (hB : BanI S) (hF : FrI S) (hi : i < sN S) (hp : p < 12) (hst : ∀ a o, sSt S a o ≤ 99000)
    (hQ : ∀ M1, Ag (fun κ a _ => a = 0 ∧ (κ = 40 ∨ κ = 41 ∨ κ = 45 ∨ κ = 46)) M M1 → RepM (clr (dropO S i p 6) i p) M1 → Q M1) : w_X5_drops M x y Q := by
  subst hx hy
  have n6 := ok.n
  have i6 : i < 6 := by omega
  have hi0 : ∀ o, sN S ≤ o → cntF S i p o 4 = 0 := fun o ho => (cntF_0 S i p o 4).mpr (fun j hj => by
    rcases hF i (4 * p + j) i6 (by omega) with z | z <;> omega)
  have dn : ∀ m, sN S ≤ m → dropO S i p m = dropO S i p (sN S) := by
    intro m
    induction m with
    | zero => intro z; rw [show sN S = 0 by omega]
    | succ m ihm =>
      intro z
      by_cases e : sN S = m + 1
      · rw [e]
      · rw [dropO, if_pos (hi0 m (by omega))]; exact ihm (by omega)
  have trm : ∀ {M1 : Mem}, Ag (fun κ a _ => a = 0 ∧ (κ = 45 ∨ κ = 46)) M M1 → ∀ κ, κ ∈ [5, 32, 34, 35, 36, 37, 38, 39, 40, 41, 42, 43, 44, 45, 46, 47, 48, 50, 51, 52] → mE M1 κ 0 = true := fun g κ hκ => (g.1 κ 0).trans (h.1.1 κ hκ)
  have main : ∀ d o, o + d = sN S → ∀ M1, Ag (fun κ a _ => a = 0 ∧ (κ = 45 ∨ κ = 46)) M M1 → RepM (dropO S i p o) M1 → l_X5_drops_2 Q (d + 1) M1 (nI i) (nI p) (nI o) := by
    intro d
    induction d with
    | zero =>
      intro o ho M1 g h1
      have e : o = sN S := by omega
      subst e
      rw [← dn 6 n6] at h1
      show b_X5_drops_2 Q _ M1 _ _ _
      unfold b_X5_drops_2
      have hn : mI M1 5 0 3 = nI (sN S) := by rw [g.i (by omega)]; exact h.n
      rw [hn]
      refine ⟨h1.e 5, pk_le (sN S) (sN S) (fun _ => ⟨h1.f 10, p_at i p rfl rfl ⟨h1.e 40, pk_in (12 * i + p) 72 (by omega), fun M2 h2 => ?_⟩⟩) (fun z => absurd z (by omega))⟩
      rw [cl _ (by omega)] at h2
      have g2 : Ag (fun κ a k => a = 0 ∧ (κ = 40 ∨ κ = 41) ∧ k = 12 * i + p) M1 M2 := Ag.rf.wI h2 ⟨rfl, by omega, rfl⟩
      refine ⟨(g2.1 5 0).trans (h1.e 5), (g2.2.1 5 0 11).trans (h1.f 11), p_at i p rfl rfl ⟨(g2.1 41 0).trans (h1.e 41), pk_in (12 * i + p) 72 (by omega), fun M3 h3 => ?_⟩⟩
      rw [cl _ (by omega)] at h3
      have g3 := g2.wI h3 ⟨rfl, by omega, rfl⟩
      refine hQ M3 ((g.mono (fun κ a k z => by omega)).tr (g3.mono (fun κ a k z => by omega))) (RepM_clr h1 hp g3 (by rw [h3, mI_wI, if_neg (by omega), h2, mI_wI, if_pos ⟨rfl, rfl, rfl⟩]) (by rw [h3, mI_wI, if_pos ⟨rfl, rfl, rfl⟩]))
    | succ d ih =>
      intro o ho M1 g h1
      have hn : mI M1 5 0 3 = nI (sN S) := by rw [g.i (by omega)]; exact h.n
      have bi := dropO_bi hB i p (fun a => ok.ban a) o (by omega)
      have fr : ∀ b, b < 48 → mI M1 43 0 (48 * i + b) = nI (sFr S i b) := fun b hb => by rw [g.i (by omega)]; exact h.fr i6 hb
      -- what the source gets
      have fin : ∀ s0 : Nat, s0 = (if cntF S i p o 4 = 0 then 0 else 1) → b_X5_drops_83 (l_X5_drops_2 Q (d + 1)) Q M1 (nI i) (nI p) (nI o) (nI (cntF S i p o 4)) (nI (6 * i + o)) (nI s0) (nI (sSt (dropO S i p o) i o)) (nI (6 * i + o)) := by
        intro s0 hs0
        unfold b_X5_drops_83 b_X5_drops_118 b_X5_drops_123
        rw [cl _ (by omega), nI_add]
        refine ⟨h1.e 45, pk_in (6 * i + o) 36 (by omega), fun M2 h2 => ?_⟩
        have g2 : Ag (fun κ a _ => a = 0 ∧ (κ = 45 ∨ κ = 46)) M M2 := g.wI h2 ⟨rfl, Or.inl rfl⟩
        have v45 : mI M2 45 0 (6 * i + o) = nI (sSt (dropO S i p o) i o + s0) := by rw [h2, mI_wI, if_pos ⟨rfl, rfl, rfl⟩]
        have v46 : mI M2 46 0 (6 * i + o) = nI (b2 ((sBan (dropO S i p o) i).testBit o)) := by rw [h2, mI_wI, if_neg (by omega)]; exact h1.ban i6 (by omega)
        have f2 : ∀ k, mF M2 5 0 k = mF M1 5 0 k := fun k => by rw [h2]; rfl
        have e2 : ∀ κ, mE M2 κ 0 = mE M1 κ 0 := fun κ => by rw [h2]; rfl
        have put : ∀ v : Bool, v = ((sBan (dropO S i p o) i).testBit o || decide (cntF S i p o 4 = 4 ∨ 3 ≤ sSt (dropO S i p o) i o + s0)) → ∀ s : Int32, s = nI (b2 v) → (mE M2 46 0 = true ∧ ((vp_in (nI (6 * i + o)) 36) ∧ ((s = 0 ∨ s = 1) ∧ (∀ M_40 : Mem, M_40 = wI M2 46 0 (6 * i + o) s → (∀ v_42 : Int32, v_42 = nI o + 1 → (l_X5_drops_2 Q (d + 1) M_40 (nI i) (nI p) v_42)))))) := by
          intro v hv s hs
          subst hs
          refine ⟨(e2 46).trans (h1.e 46), pk_in (6 * i + o) 36 (by omega), (b2_01 v), fun M3 h3 w hw => ?_⟩
          rw [hw, nI_1]
          refine ih (o + 1) (by omega) M3 (g2.wI h3 ⟨rfl, Or.inr rfl⟩) ?_
          have g13 : Ag (fun κ a _ => a = 0 ∧ (κ = 45 ∨ κ = 46)) M1 M3 := (Ag.rf.wI h2 ⟨rfl, Or.inl rfl⟩).wI h3 ⟨rfl, Or.inr rfl⟩
          refine RepM_st h1 g13 (fun f a c z => by rw [dropO_f (Or.inl z), dropO_f (Or.inl z)]) (fun a c ha hc => ?_) (fun a c ha hc => ?_)
          · rw [drop_s, h3, mI_wI, if_neg (by omega), h2, mI_wI]
            by_cases e : a = i ∧ c = o
            · obtain ⟨rfl, rfl⟩ := e
              rw [if_pos ⟨rfl, rfl, rfl⟩, hs0]
              congr 2
              by_cases z : cntF S a p c 4 = 0
              · rw [if_pos z, if_neg (fun y => y.2.2 z)]
              · rw [if_neg z, if_pos ⟨rfl, rfl, z⟩]
            · rw [if_neg (by omega), if_neg (fun y => e ⟨y.1, y.2.1⟩)]; exact h1.st ha hc
          · rw [drop_b, h3, mI_wI]
            by_cases e : a = i ∧ c = o
            · obtain ⟨rfl, rfl⟩ := e
              rw [if_pos ⟨rfl, rfl, rfl⟩, hv]
              congr 2
              by_cases z : cntF S a p c 4 = 0
              · rw [decide_eq_false (p := a = a ∧ _) (fun y => y.2.2.1 z), Bool.or_false]
                rw [if_pos z] at hs0
                subst hs0
                by_cases y : 3 ≤ sSt (dropO S a p c) a c
                · rw [bi a c ha hc y]; rfl
                · rw [decide_eq_false (by omega), Bool.or_false]
              · rw [if_neg z] at hs0
                subst hs0
                congr 1
                rw [decide_eq_decide]
                exact ⟨fun y => ⟨rfl, rfl, z, y⟩, fun y => y.2.2.2⟩
            · rw [if_neg (by omega), decide_eq_false (fun y => e ⟨y.1, y.2.1⟩), Bool.or_false, h2, mI_wI, if_neg (by omega)]; exact h1.ban ha hc
        have s1 : sSt (dropO S i p o) i o + s0 < 2 ^ 31 := by
          have a1 : ∀ m, sSt (dropO S i p m) i o ≤ sSt S i o + m := by
            intro m
            induction m with
            | zero => exact Nat.le_refl _
            | succ m ihm => rw [drop_s]; split <;> omega
          have := a1 o
          have := hst i o
          split at hs0 <;> omega
        refine ⟨(e2 5).trans (h1.e 5), (f2 16).trans (h1.f 16), (e2 46).trans (h1.e 46), pk_in (6 * i + o) 36 (by omega), ?_⟩
        rw [v46, v45]
        refine q_b2 _ (fun hb => ?_) (fun hb => put true (by rw [hb]; rfl) 1 rfl)
        have c4 := cntF_le S i p o 4
        refine pk_eq (cntF S i p o 4) 4 (fun z => put true (by rw [decide_eq_true (Or.inl z)]; simp) 1 rfl) (fun z => ⟨(f2 15).trans (h1.f 15), pk_in (6 * i + o) 36 (by omega), ?_⟩)
        refine pk_lt (sSt (dropO S i p o) i o + s0) 3 (fun y => put false (by rw [hb, decide_eq_false (by omega)]; rfl) 0 rfl) (fun y => put true (by rw [decide_eq_true (Or.inr y)]; simp) 1 rfl) rfl rfl s1
      have inner : ∀ d2 k, k + d2 = 4 → l_X5_drops_16 (l_X5_drops_2 Q (d + 1)) Q (d2 + 1) M1 (nI i) (nI p) (nI o) (nI (cntF S i p o k)) (nI k) := by
        intro d2
        induction d2 with
        | zero =>
          intro k hk
          have e : k = 4 := by omega
          subst e
          have c4 := cntF_le S i p o 4
          show b_X5_drops_16 _ Q _ M1 _ _ _ _ _
          unfold b_X5_drops_16
          refine pk_le 4 4 (fun _ => p_pair i o rfl rfl ⟨h1.e 5, h1.f 15, h1.e 45, pk_in (6 * i + o) 36 (by omega), ?_⟩) (fun z => absurd z (by omega))
          rw [cl _ (by omega), h1.st i6 (by omega)]
          exact pk_le (cntF S i p o 4) 0 (fun z => fin 0 (by rw [if_pos (by omega)])) (fun z => fin 1 (by rw [if_neg (by omega)]))
        | succ d2 ih2 =>
          intro k hk
          have ck := cntF_le S i p o k
          have nx := ih2 (k + 1) (by omega)
          rw [cntF] at nx
          show b_X5_drops_16 _ Q (l_X5_drops_16 (l_X5_drops_2 Q (d + 1)) Q (d2 + 1)) M1 _ _ _ _ _
          unfold b_X5_drops_16 b_X5_drops_49
          rw [show (48 : Int32) * nI i = nI (48 * i) from pk_mul 48 i, show (4 : Int32) * nI p = nI (4 * p) from pk_mul 4 p, nI_add, nI_add, cl _ (by omega), show 48 * i + 4 * p + k = 48 * i + (4 * p + k) by omega, fr _ (by omega)]
          have f6 := ok.fr i (4 * p + k)
          refine pk_le 4 k (fun z => absurd z (by omega)) (fun _ => ⟨h1.e 5, h1.f 13, h1.e 43, pk_in (48 * i + (4 * p + k)) 288 (by omega), pk_eq (sFr S i (4 * p + k)) o (fun z v hv w hw => ?_) (fun z v hv w hw => ?_)⟩)
          · rw [if_pos z] at nx
            rw [hv, hw, nI_1, nI_1]; exact nx
          · rw [if_neg z] at nx
            rw [hv, hw, nI_1, show (0 : Int32) = nI 0 from rfl, nI_add]; exact nx
      show b_X5_drops_2 Q (l_X5_drops_2 Q (d + 1)) M1 _ _ _
      unfold b_X5_drops_2
      rw [hn]
      exact ⟨h1.e 5, pk_le (sN S) o (fun z => absurd z (by omega)) (fun _ => ⟨5, inner 4 0 rfl⟩)⟩
  exact ⟨sN S + 1, main (sN S) 0 (by omega) M Ag.rf h⟩
