/-- k is the best step of those from m on below n -/
def Best (S : SS) (ps f m n k : Nat) : Prop := m ≤ k ∧ k < n ∧ ps.testBit ((f + k) % 12) = true ∧ ∀ j, m ≤ j → j < n → ps.testBit ((f + j) % 12) = true → cH S ((f + k) % 12) 6 < cH S ((f + j) % 12) 6 ∨ (cH S ((f + k) % 12) 6 = cH S ((f + j) % 12) 6 ∧ k ≤ j)
def BestO (S : SS) (ps f m n : Nat) (r : Option Nat) : Prop := (r = none ∧ ∀ j, m ≤ j → j < n → ps.testBit ((f + j) % 12) = false) ∨ ∃ k, r = some ((f + k) % 12) ∧ Best S ps f m n k
theorem rarest_best (S : SS) (ps f : Nat) : ∀ n, BestO S ps f 0 n (rarest S ps f n)
  | 0 => Or.inl ⟨rfl, fun j _ h => absurd h (Nat.not_lt_zero _)⟩
  | n + 1 => by
    have ih := rarest_best S ps f n
    rw [rarest]
    by_cases hb : ps.testBit ((f + n) % 12) = true
    · rw [if_pos hb]
      rcases ih with ⟨e, hn⟩ | ⟨k, e, a1, a2, a3, a4⟩
      · rw [e]
        refine Or.inr ⟨n, rfl, Nat.zero_le _, Nat.lt_succ_self n, hb, fun j _ hj hbj => ?_⟩
        by_cases z : j = n
        · subst z; exact Or.inr ⟨rfl, Nat.le_refl _⟩
        · rw [hn j (Nat.zero_le _) (by omega)] at hbj; cases hbj
      · rw [e]
        show BestO S ps f 0 (n + 1) (if _ then _ else _)
        by_cases hc : cH S ((f + n) % 12) 6 < cH S ((f + k) % 12) 6
        · rw [if_pos hc]
          refine Or.inr ⟨n, rfl, Nat.zero_le _, Nat.lt_succ_self n, hb, fun j _ hj hbj => ?_⟩
          by_cases z : j = n
          · subst z; exact Or.inr ⟨rfl, Nat.le_refl _⟩
          · rcases a4 j (Nat.zero_le _) (by omega) hbj with y | y <;> omega
        · rw [if_neg hc]
          refine Or.inr ⟨k, rfl, a1, by omega, a3, fun j _ hj hbj => ?_⟩
          by_cases z : j = n
          · subst z; omega
          · exact a4 j (Nat.zero_le _) (by omega) hbj
    · rw [if_neg hb]
      rcases ih with ⟨e, hn⟩ | ⟨k, e, a1, a2, a3, a4⟩
      · refine Or.inl ⟨e, fun j _ hj => ?_⟩
        by_cases z : j = n
        · subst z; simpa using hb
        · exact hn j (Nat.zero_le _) (by omega)
      · refine Or.inr ⟨k, e, a1, by omega, a3, fun j _ hj hbj => ?_⟩
        by_cases z : j = n
        · subst z; exact absurd hbj hb
        · exact a4 j (Nat.zero_le _) (by omega) hbj
theorem best_un {S : SS} {ps f m n : Nat} {r r2 : Option Nat} (h : BestO S ps f m n r) (h2 : BestO S ps f m n r2) : r = r2 := by
  rcases h with ⟨e, hn⟩ | ⟨k, e, a1, a2, a3, a4⟩ <;> rcases h2 with ⟨e2, hn2⟩ | ⟨k2, e2, b1, b2, b3, b4⟩
  · rw [e, e2]
  · rw [hn k2 b1 b2] at b3; cases b3
  · rw [hn2 k a1 a2] at a3; cases a3
  · have c1 := a4 k2 b1 b2 b3
    have c2 := b4 k a1 a2 a3
    have : k = k2 := by omega
    rw [e, e2, this]
theorem p_shownBy {S : SS} {M : Mem} {Q : Int32 → Mem → Prop} {x y : Int32} (i o : Nat) (hx : x = nI i) (hy : y = nI o) (h : RepM S M) (ok : OKS S) (hi : i < 6) (ho : o < 6) (hQ : Q (nI (shown S i o)) M) : w_X5_shownBy M x y Q := by
  subst hx hy
  have loop : ∀ d r, BestO S (nd (sHeld S i) (sHeld S o)) o d 12 r → d ≤ 12 → i ≠ o → ¬ sCar S i = 0 → l_X5_shownBy_36 Q (d + 1) M (nI i) (nI o) (oI r) (nI d + (-1)) := by
    intro d
    induction d with
    | zero =>
      intro r hr _ hio hc
      have er := best_un hr (rarest_best S _ o 12)
      show b_X5_shownBy_36 Q _ M _ _ _ _
      unfold b_X5_shownBy_36
      refine ⟨fun _ => ?_, fun z => absurd (by decide) z⟩
      unfold shown at hQ
      rw [if_neg hio, if_neg hc, ← er] at hQ
      rcases hr with ⟨e, -⟩ | ⟨k, e, -⟩
      · subst e
        exact ⟨fun _ => hQ, fun z => absurd rfl z⟩
      · subst e
        have : (o + k) % 12 < 12 := Nat.mod_lt _ (by omega)
        refine ⟨fun z => absurd z (oI_n1 (by omega)), fun _ => ?_⟩
        show Q ((1 : Int32) <<< (nI ((o + k) % 12) &&& 31)) M
        rw [i_one _ (by omega)]; exact hQ
    | succ d ih =>
      intro r hr hd hio hc
      have k12 : (o + d) % 12 < 12 := Nat.mod_lt _ (by omega)
      show b_X5_shownBy_36 Q (l_X5_shownBy_36 Q (d + 1)) M _ _ _ _
      rw [pk_m1]
      unfold b_X5_shownBy_36 b_X5_shownBy_83 b_X5_shownBy_82 b_X5_shownBy_83 b_X5_shownBy_109 b_X5_shownBy_114 b_X5_shownBy_115
      rw [cl i (by omega), cl o (by omega)]
      refine ⟨fun z => absurd z (nI_pos (by omega)), fun _ v hv => ?_⟩
      have hv : v = nI ((o + d) % 12) := hv.trans (by rw [nI_add]; exact pk_rem (a := o + d) (d := 12) (by omega) (by decide) (by decide))
      subst hv
      have keep : (nd (sHeld S i) (sHeld S o)).testBit ((o + d) % 12) = false → ∀ v25 : Int32, v25 = nI d + (-1) → l_X5_shownBy_36 Q (d + 1) M (nI i) (nI o) (oI r) v25 := by
        intro hb v25 h25
        subst h25
        refine ih r ?_ (by omega) hio hc
        rcases hr with ⟨e, hn⟩ | ⟨k, e, a1, a2, a3, a4⟩
        · refine Or.inl ⟨e, fun j hj hj2 => ?_⟩
          by_cases z : j = d
          · subst z; exact hb
          · exact hn j (by omega) hj2
        · refine Or.inr ⟨k, e, by omega, a2, a3, fun j hj hj2 hbj => ?_⟩
          by_cases z : j = d
          · subst z; rw [hb] at hbj; cases hbj
          · exact a4 j (by omega) hj2 hbj
      refine ⟨h.e 5, h.f 5, h.e 35, pk_in i 6 (by omega), p_has (sHeld S i) ((o + d) % 12) (h.held hi) rfl (lt12 (ok.held i)) (by omega) (fun hb => t1 ⟨h.e 5, h.f 5, h.e 35, pk_in o 6 (by omega), ?_⟩) (fun hb => t0 (t0 (keep (by rw [nd_bit, hb]; rfl))))⟩
      refine p_has (sHeld S o) ((o + d) % 12) (h.held ho) rfl (lt12 (ok.held o)) (by omega) (fun hb2 => t1 (t0 (keep (by rw [nd_bit, hb, hb2]; rfl)))) (fun hb2 => t0 (t1 ?_))
      have hbit : (nd (sHeld S i) (sHeld S o)).testBit ((o + d) % 12) = true := by rw [nd_bit, hb, hb2]; rfl
      have take : (∀ k, r = some ((o + k) % 12) → d + 1 ≤ k → Best S (nd (sHeld S i) (sHeld S o)) o (d + 1) 12 k → cH S ((o + d) % 12) 6 ≤ cH S ((o + k) % 12) 6) → ∀ v25 : Int32, v25 = nI d + (-1) → l_X5_shownBy_36 Q (d + 1) M (nI i) (nI o) (nI ((o + d) % 12)) v25 := by
        intro hle v25 h25
        subst h25
        refine ih (some ((o + d) % 12)) (Or.inr ⟨d, rfl, Nat.le_refl _, by omega, hbit, fun j hj hj2 hbj => ?_⟩) (by omega) hio hc
        by_cases z : j = d
        · subst z; exact Or.inr ⟨rfl, Nat.le_refl _⟩
        · rcases hr with ⟨e, hn⟩ | ⟨k, e, hk⟩
          · rw [hn j (by omega) hj2] at hbj; cases hbj
          · have := hle k e hk.1 hk
            rcases hk.2.2.2 j (by omega) hj2 hbj with y | y <;> omega
      rcases hr with ⟨e, hn⟩ | ⟨k, e, hk⟩
      · subst e
        exact ⟨fun _ => take (fun k z _ _ => by cases z), fun z => absurd rfl z⟩
      · have k12' : (o + k) % 12 < 12 := Nat.mod_lt _ (by omega)
        have c1 := cH_le S ((o + d) % 12) 6
        have c2 := cH_le S ((o + k) % 12) 6
        subst e
        refine ⟨fun z => absurd z (oI_n1 (by omega)), fun _ => ⟨h.e 5, p_holdersOf ((o + d) % 12) rfl h ok k12 ⟨h.e 5, p_holdersOf ((o + k) % 12) rfl h ok k12' ?_⟩⟩⟩
        refine pk_lt (cH S ((o + k) % 12) 6) (cH S ((o + d) % 12) 6) (fun hlt v25 h25 => ?_) (fun hge => take (fun k2 z hk2 _ => by
          have z2 : (o + k) % 12 = (o + k2) % 12 := Option.some.inj z
          rw [← z2]; exact hge))
        subst h25
        refine ih (some ((o + k) % 12)) (Or.inr ⟨k, rfl, by have := hk.1; omega, hk.2.1, hk.2.2.1, fun j hj hj2 hbj => ?_⟩) (by omega) hio hc
        by_cases z : j = d
        · subst z; omega
        · exact hk.2.2.2 j (by omega) hj2 hbj
  have plain : (i = o ∨ sCar S i = 0) → b_X5_shownBy_14 Q M (nI i) (nI o) := by
    intro hp
    unfold b_X5_shownBy_14
    rw [cl i (by omega)]
    unfold shown at hQ
    refine pk_eq i o (fun e => by rw [if_pos e] at hQ; exact hQ) (fun e => ⟨h.e 5, h.f 5, h.e 35, pk_in i 6 hi, ?_⟩)
    rw [if_neg e, if_pos (hp.resolve_left e)] at hQ
    rw [h.held hi]; exact hQ
  unfold w_X5_shownBy
  rw [cl i (by omega)]
  refine pk_eq i o (fun e => plain (Or.inl e)) (fun e => ⟨h.e 5, h.f 6, h.e 36, pk_in i 6 hi, ?_⟩)
  rw [h.car hi]
  have c1 := ok.car i
  refine pk_eq (sCar S i) 0 (fun z => plain (Or.inr z)) (fun z => ⟨13, ?_⟩)
  exact loop 12 none (Or.inl ⟨rfl, fun j h1 h2 => absurd h2 (by omega)⟩) (Nat.le_refl _) e z
theorem p_lackedBy {S : SS} {M : Mem} {Q : Int32 → Mem → Prop} {x : Int32} (i : Nat) (hx : x = nI i) (h : RepM S M) (ok : OKS S) (hi : i < 6) (hQ : Q (nI (lackS S i)) M) : w_X5_lackedBy M x Q := by
  subst hx
  let F : Nat → Bool := fun p => decide (0 < sPr S p) && !(sHeld S i).testBit p
  have loop : ∀ d p, p + d = 12 → l_X5_lackedBy_4 Q (d + 1) M (nI i) (nI (bs F p)) (nI p) := by
    intro d
    induction d with
    | zero =>
      intro p hp
      have e : p = 12 := by omega
      subst e
      show b_X5_lackedBy_4 Q _ M _ _ _
      unfold b_X5_lackedBy_4
      exact pk_le 12 12 (fun _ => hQ) (fun z => absurd z (by omega))
    | succ d ih =>
      intro p hp
      have nx := ih (p + 1) (by omega)
      have p3 := ok.pr p
      show b_X5_lackedBy_4 Q (l_X5_lackedBy_4 Q (d + 1)) M _ _ _
      unfold b_X5_lackedBy_4 b_X5_lackedBy_39 b_X5_lackedBy_40
      rw [cl p (by omega), cl i (by omega), h.pr (by omega)]
      have no : F p = false → ∀ v7 : Int32, v7 = (nI (bs F p)) ||| 0 → ∀ v8 : Int32, v8 = nI p + 1 → l_X5_lackedBy_4 Q (d + 1) M (nI i) v7 v8 := by
        intro hf v7 h7 v8 h8
        rw [bs_s0 hf] at nx
        have : nI (bs F p) ||| nI 0 = nI (bs F p) := by rw [fa_or, Nat.or_zero]
        rw [h7, h8, nI_1]
        rw [show (0 : Int32) = nI 0 from rfl, this]
        exact nx
      refine pk_le 12 p (fun z => absurd z (by omega)) (fun _ => ⟨h.e 5, h.f 2, h.e 32, pk_in p 12 (by omega), pk_le (sPr S p) 0 (fun z => no ?_) (fun z => ⟨h.f 5, h.e 35, pk_in i 6 hi, p_has (sHeld S i) p (h.held hi) rfl (lt12 (ok.held i)) (by omega) (fun hb => t1 (no ?_)) (fun hb => t0 (fun v7 h7 v8 h8 => ?_))⟩)⟩)
      · show (decide (0 < sPr S p) && _) = false
        have : ¬ 0 < sPr S p := by omega
        simp [this]
      · show (_ && !(sHeld S i).testBit p) = false
        rw [hb]; simp
      · have hf : F p = true := by
          show (decide (0 < sPr S p) && !(sHeld S i).testBit p) = true
          rw [hb]; simp [z]
        rw [bs_s1 hf] at nx
        rw [h7, h8, nI_1, i_one p (by omega), fa_or]
        exact nx
  exact ⟨13, loop 12 0 rfl⟩
