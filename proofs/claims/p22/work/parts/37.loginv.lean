theorem blkP_pos (p : Nat) : blkP p ≠ 0 := by
  intro h
  have := blkP_b4 p (4 * p)
  rw [h, Nat.zero_testBit] at this
  have e : 4 * p / 4 = p := by omega
  simp [e] at this
theorem nd_self {x p : Nat} : nd x (blkP p) &&& blkP p = 0 := by
  apply Nat.eq_of_testBit_eq
  intro b
  rw [Nat.testBit_and, nd_bit, Nat.zero_testBit]
  cases (blkP p).testBit b <;> simp
/-- a settling leaves nothing complete -/
theorem stTo_nf (t : Nat × Nat × Nat) {p : Nat} : ∀ k, p < k → (stTo t k).2.1 &&& blkP p ≠ blkP p
  | 0, h => absurd h (Nat.not_lt_zero _)
  | k + 1, h => by
    rw [stTo]
    unfold stP
    by_cases e : p = k
    · subst e
      by_cases hf : (stTo t p).2.1 &&& blkP p = blkP p
      · rw [if_pos hf]
        show nd _ _ &&& _ ≠ _
        rw [nd_self]
        exact fun z => blkP_pos p z.symm
      · rw [if_neg hf]; exact hf
    · have ih := stTo_nf t (p := p) k (by omega)
      split
      · show nd _ _ &&& _ ≠ _
        rw [nd_blkP (by omega)]; exact ih
      · exact ih
theorem stTo_id {t : Nat × Nat × Nat} (h : ∀ p, p < 12 → t.2.1 &&& blkP p ≠ blkP p) : ∀ k, k ≤ 12 → stTo t k = t
  | 0, _ => rfl
  | k + 1, hk => by
    rw [stTo, stTo_id h k (by omega)]
    unfold stP
    rw [if_neg (h k (by omega))]
theorem stTo_12 (t : Nat × Nat × Nat) : stTo (stTo t 12) 12 = stTo t 12 := stTo_id (fun p hp => stTo_nf t 12 hp) 12 (Nat.le_refl _)
/-- the log of one says what it has -/
def LogV (S : SS) (i h0 : Nat) (es : List Nat) : Prop := h0 < 2 ^ 12 ∧ (∀ e ∈ es, e < 2 ^ 20) ∧ es.length ≤ 5 * sR S ∧ (rpL h0 es).2 ≤ sR S ∧ ((rpL h0 es).2 = sR S → (rpL h0 es).1 = tri S i) ∧ stTo (rpL h0 es).1 12 = tri S i
theorem come_tri (A : SS) (i b o : Nat) : tri (comeOne A i b o) i = tk (tri A i) b (if (sSp A o).testBit (b / 4) then 1 else 0) := by
  cases hb : (sHad A i).testBit b with
  | true =>
    have e : tk (tri A i) b (if (sSp A o).testBit (b / 4) then 1 else 0) = tri A i := by unfold tk; exact if_pos hb
    rw [e, comeOne_hit hb]
    unfold tri sHeld sHad sWr
    rw [sU_f (by decide), sU_f (by decide), sU_f (by decide)]
  | false =>
    have e : tk (tri A i) b (if (sSp A o).testBit (b / 4) then 1 else 0) = (sHeld A i, sHad A i ||| 2 ^ b, if (if (sSp A o).testBit (b / 4) then 1 else 0) = 1 then sWr A i ||| 2 ^ b else sWr A i) := by
      unfold tk; exact if_neg (by show ¬ (sHad A i).testBit b = true; rw [hb]; exact Bool.false_ne_true)
    rw [e, comeOne_miss hb]
    have x1 : ∀ T : SS, ∀ v1 v2 v3 v4, tri (sU (sU (sU (sU T 9 i 0 v1) 10 i 0 v2) 11 i b v3) 12 i o v4) i = (sHeld T i, v1, v2) := fun T v1 v2 v3 v4 => by
      unfold tri sHeld sHad sWr
      rw [sU_f (by decide), sU_f (by decide), sU_f (by decide), sU_f (by decide), sU_f (by decide), sU_f (by decide), sU_f (by decide), sU_at, sU_f (by decide), sU_f (by decide), sU_at]
    rw [x1]
    cases (sSp A o).testBit (b / 4) <;> rfl
theorem ent_q {S : SS} {q : Nat × Nat} (hq : q.1 < 48) : ent S q / 96 = sR S ∧ ent S q % 48 = q.1 ∧ ent S q / 48 % 2 = (if (sSp S q.2).testBit (q.1 / 4) then 1 else 0) := by
  unfold ent
  split <;> omega
theorem stK_tri {S A : SS} {i : Nat} {l : List (Nat × Nat)} (hA : ∀ f a c, f ≤ 7 → A f a c = S f a c) (hl : ∀ q ∈ l, q.1 < 48) : ∀ k, k ≤ l.length → tri (stK A i l k).1 i = ((l.take k).map (ent S)).foldl (fun t e => tk t (e % 48) (e / 48 % 2)) (tri A i) ∧ ∀ f a c, f ≤ 7 → (stK A i l k).1 f a c = S f a c
  | 0, _ => ⟨by unfold tri; rfl, fun f a c hf => (gz_f (by omega)).trans (hA f a c hf)⟩
  | k + 1, hk => by
    obtain ⟨ih, il⟩ := stK_tri hA hl k (by omega)
    obtain ⟨q, hq⟩ : ∃ q, l[k]? = some q := ⟨l[k], List.getElem?_eq_getElem (by omega)⟩
    have q48 := hl q (List.mem_of_getElem? hq)
    obtain ⟨-, e2, e3⟩ := ent_q (S := S) q48
    rw [stK_s hq, List.take_succ, hq, List.map_append, List.foldl_append, ← ih]
    refine ⟨?_, fun f a c hf => ?_⟩
    · show tri (comeOne _ i q.1 q.2) i = tk (tri _ i) (ent S q % 48) (ent S q / 48 % 2)
      rw [come_tri, e2, e3, sSp, il 7 _ _ (by omega)]
    · show comeOne _ i q.1 q.2 f a c = _
      rw [comeOne_low (by omega)]; exact il f a c hf
theorem comesTo_hi {S : SS} {f a c : Nat} (L : Nat → List (Nat × Nat × Nat)) (hL : ∀ j, ∀ q ∈ L j, q.1 = j) : ∀ j, j ≤ a → (comesTo S L j).1 f a c = S f a c
  | 0, _ => rfl
  | j + 1, h => by
    have ih := comesTo_hi (S := S) (f := f) (a := a) (c := c) L hL j (by omega)
    have fo : ∀ (l : List (Nat × Nat × Nat)) (st : SS × Nat), (∀ q ∈ l, q.1 = j) → (l.foldl cS st).1 f a c = st.1 f a c := by
      intro l
      induction l with
      | nil => intro st _; rfl
      | cons q l ihl =>
        intro st hq
        show (l.foldl cS (cS st q)).1 f a c = _
        rw [ihl _ (fun q hq' => hq q (List.mem_cons_of_mem _ hq'))]
        show comeOne _ q.1 q.2.1 q.2.2 f a c = _
        exact comeOne_i (by have := hq q List.mem_cons_self; omega)
    rw [comesTo]
    split
    · rw [fo _ _ (hL j)]
      show gz j _ f a c = _
      rw [gz_i (by omega)]; exact ih
    · show gz j _ f a c = _
      rw [gz_i (by omega)]; exact ih
theorem comesTo_row {S : SS} {f a c : Nat} (L : Nat → List (Nat × Nat × Nat)) (hL : ∀ j, ∀ q ∈ L j, q.1 = j) : ∀ j, a < j → (comesTo S L j).1 f a c = (comesTo S L (a + 1)).1 f a c
  | 0, h => absurd h (Nat.not_lt_zero _)
  | j + 1, h => by
    by_cases e : a = j
    · subst e; rfl
    · have ih := comesTo_row (S := S) (f := f) (a := a) (c := c) L hL j (by omega)
      have fo : ∀ (l : List (Nat × Nat × Nat)) (st : SS × Nat), (∀ q ∈ l, q.1 = j) → (l.foldl cS st).1 f a c = st.1 f a c := by
        intro l
        induction l with
        | nil => intro st _; rfl
        | cons q l ihl =>
          intro st hq
          show (l.foldl cS (cS st q)).1 f a c = _
          rw [ihl _ (fun q hq' => hq q (List.mem_cons_of_mem _ hq'))]
          show comeOne _ q.1 q.2.1 q.2.2 f a c = _
          exact comeOne_i (by have := hq q List.mem_cons_self; omega)
      rw [← ih, comesTo]
      split
      · rw [fo _ _ (hL j)]
        exact gz_i (by omega)
      · exact gz_i (by omega)
theorem askL_i (S : SS) : ∀ j, ∀ q ∈ askL S j, q.1 = j := by
  intro j q hq
  unfold askL at hq
  obtain ⟨z, _, rfl⟩ := List.mem_map.mp hq
  rfl
theorem comes_tri {S : SS} {i : Nat} (hi : hr S i = true) (h6 : i < 6) : tri (comesTo S (askL S) 6).1 i = ((askTo S i 6).2.map (ent S)).foldl (fun t e => tk t (e % 48) (e / 48 % 2)) (tri S i) := by
  have e1 : tri (comesTo S (askL S) 6).1 i = tri (comesTo S (askL S) (i + 1)).1 i := by
    unfold tri sHeld sHad sWr
    rw [comesTo_row _ (askL_i S) 6 h6, comesTo_row _ (askL_i S) 6 h6, comesTo_row _ (askL_i S) 6 h6]
  have e2 : tri (comesTo S (askL S) i).1 i = tri S i := by
    unfold tri sHeld sHad sWr
    rw [comesTo_hi _ (askL_i S) i (Nat.le_refl _), comesTo_hi _ (askL_i S) i (Nat.le_refl _), comesTo_hi _ (askL_i S) i (Nat.le_refl _)]
  rw [e1, comesTo_s hi]
  have := (stK_tri (S := S) (A := (comesTo S (askL S) i).1) (i := i) (l := (askTo S i 6).2) (fun f a c hf => comesTo_low (by omega) i) (fun q hq => (askTo_mem S i 6 q hq).1) _ (Nat.le_refl _)).1
  rw [List.take_length, e2] at this
  exact this
theorem rp_same {r : Nat} : ∀ (l : List Nat) (t : Nat × Nat × Nat), (∀ e ∈ l, e / 96 = r) → l.foldl rpS (t, r) = (l.foldl (fun t e => tk t (e % 48) (e / 48 % 2)) t, r)
  | [], _, _ => rfl
  | e :: l, t, h => by
    have he := h e List.mem_cons_self
    show l.foldl rpS (rpS (t, r) e) = _
    have : rpS (t, r) e = (tk t (e % 48) (e / 48 % 2), r) := by unfold rpS; rw [he, if_pos rfl]
    rw [this, rp_same l _ (fun e he => h e (List.mem_cons_of_mem _ he))]
    rfl
theorem rp_any {st : (Nat × Nat × Nat) × Nat} {T : Nat × Nat × Nat} {r : Nat} (h1 : st.2 = r → st.1 = T) (h2 : stTo st.1 12 = T) : ∀ (l : List Nat), l ≠ [] → (∀ e ∈ l, e / 96 = r) → l.foldl rpS st = (l.foldl (fun t e => tk t (e % 48) (e / 48 % 2)) T, r)
  | [], h, _ => absurd rfl h
  | e :: l, _, h => by
    have he := h e List.mem_cons_self
    show l.foldl rpS (rpS st e) = _
    have : rpS st e = (tk T (e % 48) (e / 48 % 2), r) := by
      unfold rpS
      rw [he]
      split
      · rename_i z; rw [h1 z.symm]
      · rw [h2]
    rw [this, rp_same l _ (fun e he => h e (List.mem_cons_of_mem _ he))]
    rfl
theorem round_tri {S : SS} {i : Nat} (h6 : i < 6) : tri (roundS S).1 i = stTo (tri (comesTo S (askL S) 6).1 i) 12 := by
  rw [← endsTo_tri 6 h6]
  rw [roundS_e]
  unfold tri sHeld sHad sWr
  rw [sU_f (by decide), sU_f (by decide), sU_f (by decide)]
theorem LogV_round {S : SS} {i h0 : Nat} {es : List Nat} (hi : hr S i = true) (h6 : i < 6) (h199 : sR S ≤ 199) (h : LogV S i h0 es) : LogV (roundS S).1 i h0 (es ++ (askTo S i 6).2.map (ent S)) := by
  obtain ⟨a1, a2, a3, a4, a5, a6⟩ := h
  have en : ∀ e ∈ (askTo S i 6).2.map (ent S), e / 96 = sR S := fun e he => by
    obtain ⟨q, hq, rfl⟩ := List.mem_map.mp he
    exact (ent_q (askTo_mem S i 6 q hq).1).1
  have ct := comes_tri hi h6
  have ln := askL_len (S := S) (i := i) h6
  have ap : rpL h0 (es ++ (askTo S i 6).2.map (ent S)) = ((askTo S i 6).2.map (ent S)).foldl rpS (rpL h0 es) := by unfold rpL; rw [List.foldl_append]
  refine ⟨a1, fun e he => ?_, ?_, ?_⟩
  · rcases List.mem_append.mp he with z | z
    · exact a2 e z
    · have := en e z; omega
  · rw [List.length_append, List.length_map, roundS_r]; omega
  · rw [ap, roundS_r, round_tri h6]
    by_cases hn : (askTo S i 6).2.map (ent S) = []
    · rw [hn] at ct ⊢
      have ct2 : tri (comesTo S (askL S) 6).1 i = tri S i := ct
      rw [ct2]
      refine ⟨Nat.le_succ_of_le a4, fun z => ?_, ?_⟩
      · have z2 : (rpL h0 es).2 = sR S + 1 := z
        omega
      · show stTo (rpL h0 es).1 12 = _
        rw [a6, ← a6, stTo_12]
    · rw [rp_any a5 a6 _ hn en, ← ct]
      exact ⟨Nat.le_succ _, fun z => absurd z (Nat.ne_of_lt (Nat.lt_succ_self _)), rfl⟩
