/-! what holds of every state: the class alone -/
theorem askTo_ne (S : SS) (i : Nat) : ∀ o, ∀ q ∈ (askTo S i o).2, q.2 ≠ i
  | 0, q, hq => by cases hq
  | o + 1, q, hq => by
    rw [askTo] at hq
    split at hq
    · rename_i hc
      simp only [Bool.and_eq_true] at hc
      cases hb : askB S i o (askTo S i o).1 with
      | none =>
        rw [hb] at hq
        exact askTo_ne S i o q hq
      | some b =>
        rw [hb] at hq
        rcases List.mem_append.mp hq with z | z
        · exact askTo_ne S i o q z
        · rw [List.mem_singleton.mp z]
          exact fun e => (chosen_intr hc.2).2 e.symm
    · exact askTo_ne S i o q hq
/-- who is banned has a strike -/
def Ban1 (S : SS) : Prop := ∀ i o, i < 6 → o < 6 → (sBan S i).testBit o = true → 1 ≤ sSt S i o
/-- nobody has anything of himself -/
def SelfI (S : SS) : Prop := ∀ i, i < 6 → sSt S i i = 0 ∧ ∀ b, (sHad S i).testBit b = true → sFr S i b ≠ i
/-- no piece is complete -/
def NFI (S : SS) : Prop := ∀ i p, p < 12 → sHad S i &&& blkP p ≠ blkP p
theorem dropO_b1 {S : SS} (hB : Ban1 S) (i p : Nat) : ∀ k, Ban1 (dropO S i p k)
  | 0 => hB
  | k + 1 => by
    have ih := dropO_b1 hB i p k
    rw [dropO]
    split
    · exact ih
    · intro a o ha ho hb
      by_cases hc : cntF S i p k 4 = 4 ∨ 3 ≤ sSt (dropO S i p k) i k + 1
      · rw [if_pos hc] at hb ⊢
        have e1 : sSt (sU (sU (dropO S i p k) 13 i k (sSt (dropO S i p k) i k + 1)) 14 i 0 (sBan (dropO S i p k) i ||| 2 ^ k)) a o = sSt (sU (dropO S i p k) 13 i k (sSt (dropO S i p k) i k + 1)) a o := by
          unfold sSt; rw [sU_f (by decide)]
        rw [e1, s45]
        split
        · omega
        · rename_i hn
          rw [s46] at hb
          by_cases e : a = i
          · subst e
            rw [if_pos rfl, Nat.testBit_or, Nat.testBit_two_pow] at hb
            have : decide (k = o) = false := by simp; omega
            rw [this, Bool.or_false] at hb
            exact ih a o ha ho hb
          · rw [if_neg e] at hb
            have : sBan (sU (dropO S i p k) 13 i k (sSt (dropO S i p k) i k + 1)) a = sBan (dropO S i p k) a := by unfold sBan; rw [sU_f (by decide)]
            rw [this] at hb
            exact ih a o ha ho hb
      · rw [if_neg hc] at hb ⊢
        have : sBan (sU (dropO S i p k) 13 i k (sSt (dropO S i p k) i k + 1)) a = sBan (dropO S i p k) a := by unfold sBan; rw [sU_f (by decide)]
        rw [this] at hb
        rw [s45]
        split
        · omega
        · exact ih a o ha ho hb
theorem settleP_b1 {S : SS} (hB : Ban1 S) (i p : Nat) : Ban1 (settleP S i p) := by
  have c : ∀ T : SS, Ban1 T → Ban1 (clr T i p) := fun T hT a o ha ho h3 => by
    have e1 : sSt (clr T i p) a o = sSt T a o := clr_f (by decide)
    have e2 : sBan (clr T i p) a = sBan T a := clr_f (by decide)
    rw [e2] at h3; rw [e1]; exact hT a o ha ho h3
  unfold settleP
  split
  · split
    · refine c _ (fun a o ha ho h3 => ?_)
      have e1 : sSt (sU S 4 i 0 (sHeld S i ||| 2 ^ p)) a o = sSt S a o := by unfold sSt; rw [sU_f (by decide)]
      have e2 : sBan (sU S 4 i 0 (sHeld S i ||| 2 ^ p)) a = sBan S a := by unfold sBan; rw [sU_f (by decide)]
      rw [e2] at h3; rw [e1]; exact hB a o ha ho h3
    · exact c _ (dropO_b1 hB i p 6)
  · exact hB
theorem settleTo_b1 {S : SS} (hB : Ban1 S) (i : Nat) : ∀ p, Ban1 (settleTo S i p)
  | 0 => hB
  | p + 1 => settleP_b1 (settleTo_b1 hB i p) i p
theorem endsTo_b1 {S : SS} (hB : Ban1 S) : ∀ j, Ban1 (endsTo S j)
  | 0 => hB
  | j + 1 => settleTo_b1 (endsTo_b1 hB j) j 12
theorem settleP_self {S : SS} (h : SelfI S) {i p : Nat} (hp : p < 12) : SelfI (settleP S i p) := fun a ha => by
  have f11 : ∀ b, sFr (settleP S i p) a b = sFr S a b := fun b => settleP_f (Or.inl (by decide))
  by_cases e : a = i
  · subst e
    obtain ⟨h1, h2⟩ := h a ha
    constructor
    · rw [settleP_st S hp ha]
      split
      · rename_i hc
        unfold bst
        rw [if_pos ((cf_0 hc.1 hp).mpr ((cntF_0 S a p a 4).mpr (fun k hk => h2 _ ?_)))]
        · exact h1
        · have hf : (sHad S a &&& blkP p).testBit (4 * p + k) = (blkP p).testBit (4 * p + k) := by rw [hc.1]
          have e4 : (4 * p + k) / 4 = p := by omega
          rw [Nat.testBit_and, blkP_b4] at hf
          simp [e4] at hf
          exact hf
      · exact h1
    · intro b hb
      rw [f11]
      refine h2 b ?_
      have et := settleP_tri S a p
      have e9 : sHad (settleP S a p) a = (stP (tri S a) p).2.1 := by rw [← et]; rfl
      rw [e9] at hb
      unfold stP at hb
      split at hb
      · have hb : (nd (tri S a).2.1 (blkP p)).testBit b = true := hb
        rw [nd_bit] at hb
        simp only [Bool.and_eq_true] at hb
        exact hb.1
      · exact hb
  · obtain ⟨h1, h2⟩ := h a ha
    have e13 : sSt (settleP S i p) a a = sSt S a a := settleP_f (Or.inr e)
    have e9 : sHad (settleP S i p) a = sHad S a := settleP_f (Or.inr e)
    rw [e13, e9]
    exact ⟨h1, fun b hb => by rw [f11]; exact h2 b hb⟩
theorem settleTo_self {S : SS} (h : SelfI S) (i : Nat) : ∀ p, p ≤ 12 → SelfI (settleTo S i p)
  | 0, _ => h
  | p + 1, hp => settleP_self (settleTo_self h i p (by omega)) (by omega)
theorem endsTo_self {S : SS} (h : SelfI S) : ∀ j, SelfI (endsTo S j)
  | 0 => h
  | j + 1 => settleTo_self (endsTo_self h j) j 12 (Nat.le_refl _)
theorem comeOne_self {S : SS} (h : SelfI S) {i b o : Nat} (ho : o ≠ i) : SelfI (comeOne S i b o) := fun a ha => by
  obtain ⟨h1, h2⟩ := h a ha
  have e13 : sSt (comeOne S i b o) a a = sSt S a a := comeOne_f (by decide)
  refine ⟨by rw [e13]; exact h1, fun c hc => ?_⟩
  cases hb : (sHad S i).testBit b with
  | true =>
    rw [comeOne_hit hb] at hc ⊢
    have e9 : sHad (sU S 8 i 0 (sDb S i + 1)) a = sHad S a := sU_f (by decide)
    have e11 : sFr (sU S 8 i 0 (sDb S i + 1)) a c = sFr S a c := sU_f (by decide)
    rw [e9] at hc; rw [e11]; exact h2 c hc
  | false =>
    rw [comeOne_miss hb] at hc ⊢
    rw [m9] at hc
    rw [m11]
    by_cases e : a = i
    · subst e
      rw [if_pos rfl, Nat.testBit_or, Nat.testBit_two_pow] at hc
      by_cases z : c = b
      · rw [if_pos ⟨rfl, z⟩]; exact ho
      · rw [if_neg (fun y => z y.2)]
        have : decide (b = c) = false := by simp; omega
        rw [this, Bool.or_false] at hc
        exact h2 c hc
    · rw [if_neg e] at hc
      rw [if_neg (fun y => e y.1)]
      exact h2 c hc
theorem gz_self {S : SS} (h : SelfI S) (i : Nat) : SelfI (gz i S) := fun a ha => h a ha
theorem stK_self {S : SS} (h : SelfI S) {i : Nat} {l : List (Nat × Nat)} (hl : ∀ q ∈ l, q.2 ≠ i) : ∀ k, SelfI (stK S i l k).1
  | 0 => gz_self h i
  | k + 1 => by
    have ih := stK_self h hl k
    cases hq : l[k]? with
    | none =>
      have e : stK S i l (k + 1) = stK S i l k := by unfold stK; rw [List.take_succ, hq]; simp
      rw [e]; exact ih
    | some q =>
      rw [stK_s hq]
      exact comeOne_self ih (hl q (List.mem_of_getElem? hq))
theorem comesTo_self {S : SS} (h : SelfI S) : ∀ j, SelfI (comesTo S (askL S) j).1
  | 0 => h
  | j + 1 => by
    cases hj : hr S j with
    | false => rw [comesTo, if_neg (by rw [hj]; decide)]; exact gz_self (comesTo_self h j) j
    | true => rw [comesTo_s hj]; exact stK_self (comesTo_self h j) (askTo_ne S j 6) _
def Good (S : SS) : Prop := OKS S ∧ (∀ a o, sSt S a o ≤ 12 * sR S) ∧ BanI S ∧ Ban1 S ∧ SelfI S ∧ NFI S ∧ ∀ f i c, 4 ≤ f → sN S ≤ i → S f i c = 0
theorem Good.ok {S : SS} (h : Good S) : OKS S := h.1
theorem Good.nf {S : SS} (h : Good S) : NFI S := h.2.2.2.2.2.1
theorem Good.z {S : SS} (h : Good S) : ∀ f i c, 4 ≤ f → sN S ≤ i → S f i c = 0 := h.2.2.2.2.2.2
theorem round_n (S : SS) : sN (roundS S).1 = sN S := by
  show (roundS S).1 0 0 0 = _
  rw [roundS_e, sU_f (by decide), endsTo_f (by decide)]; exact comesTo_low (by omega) 6
theorem round_f {S : SS} {f a c : Nat} (h : f ≠ 1 ∧ f ≤ 7 ∧ f ≠ 4) : (roundS S).1 f a c = S f a c := by
  rw [roundS_e, sU_f (by omega), endsTo_f (by omega)]; exact comesTo_low (by omega) 6
theorem round_hr (S : SS) (i : Nat) : hr (roundS S).1 i = hr S i := by unfold hr; rw [round_f (by decide)]
theorem round_good {S : SS} (h : Good S) (h199 : sR S ≤ 199) : Good (roundS S).1 := by
  obtain ⟨ok, hst, hB, hB1, hS, hN, hz⟩ := h
  obtain ⟨ok2, hst2⟩ := roundS_ok ok h199 hst
  have okc := comesTo_ok ok 6 (Nat.le_refl _)
  have stc : ∀ a o, sSt (comesTo S (askL S) 6).1 a o ≤ 98000 := fun a o => by
    have e1 : sSt (comesTo S (askL S) 6).1 a o = sSt S a o := comesTo_low (by omega) 6
    rw [e1]; have := hst a o; omega
  have be := endsTo_bi (comes_bi hB) okc stc 6 (Nat.le_refl _)
  have c1 : Ban1 (comesTo S (askL S) 6).1 := fun a o ha ho hb => by
    have e1 : sSt (comesTo S (askL S) 6).1 a o = sSt S a o := comesTo_low (by omega) 6
    have e2 : sBan (comesTo S (askL S) 6).1 a = sBan S a := comesTo_low (by omega) 6
    rw [e2] at hb; rw [e1]; exact hB1 a o ha ho hb
  have be1 := endsTo_b1 c1 6
  have se := endsTo_self (comesTo_self hS 6) 6
  have x : ∀ f a c, f ≠ 1 → (roundS S).1 f a c = endsTo (comesTo S (askL S) 6).1 6 f a c := fun f a c z => by rw [roundS_e]; exact sU_f z
  have zz : ∀ f i c, 4 ≤ f → sN S ≤ i → (roundS S).1 f i c = 0 := fun f i c hf hi => by
    have hh := hr_hi ok hi
    rw [x _ _ _ (by omega), ends_row (by exact comes_row hh 9 0 (hz 9 i 0 (by omega) hi))]
    exact comes_row hh f c (hz f i c hf hi)
  refine ⟨ok2, hst2, fun a o ha ho h3 => ?_, fun a o ha ho hb => ?_, fun a ha => ?_, fun i p hp => ?_, fun f i c hf hi => ?_⟩
  · have e1 : sSt (roundS S).1 a o = sSt (endsTo (comesTo S (askL S) 6).1 6) a o := x _ _ _ (by decide)
    have e2 : sBan (roundS S).1 a = sBan (endsTo (comesTo S (askL S) 6).1 6) a := x _ _ _ (by decide)
    rw [e1] at h3; rw [e2]; exact be a o ha ho h3
  · have e1 : sSt (roundS S).1 a o = sSt (endsTo (comesTo S (askL S) 6).1 6) a o := x _ _ _ (by decide)
    have e2 : sBan (roundS S).1 a = sBan (endsTo (comesTo S (askL S) 6).1 6) a := x _ _ _ (by decide)
    rw [e2] at hb; rw [e1]; exact be1 a o ha ho hb
  · have e1 : sSt (roundS S).1 a a = sSt (endsTo (comesTo S (askL S) 6).1 6) a a := x _ _ _ (by decide)
    have e2 : sHad (roundS S).1 a = sHad (endsTo (comesTo S (askL S) 6).1 6) a := x _ _ _ (by decide)
    have e3 : ∀ b, sFr (roundS S).1 a b = sFr (endsTo (comesTo S (askL S) 6).1 6) a b := fun b => x _ _ _ (by decide)
    rw [e1, e2]
    exact ⟨(se a ha).1, fun b hb => by rw [e3]; exact (se a ha).2 b hb⟩
  · rcases Nat.lt_or_ge i 6 with h6 | h6
    · have et := round_tri (S := S) h6
      have e9 : sHad (roundS S).1 i = (stTo (tri (comesTo S (askL S) 6).1 i) 12).2.1 := by rw [← et]; rfl
      rw [e9]
      exact stTo_nf _ 12 hp
    · have e9 : sHad (roundS S).1 i = 0 := zz 9 i 0 (by omega) (Nat.le_trans ok.n h6)
      rw [e9, Nat.zero_and]
      exact fun z => blkP_pos p z.symm
  · rw [round_n] at hi
    exact zz f i c hf hi
/-- so many rounds: the state behind them, and how many came -/
def runS (S : SS) : Nat → SS × Nat
  | 0 => (S, 0)
  | k + 1 => ((roundS (runS S k).1).1, (runS S k).2 + (roundS (runS S k).1).2)
theorem runS_r (S : SS) : ∀ k, sR (runS S k).1 = sR S + k
  | 0 => rfl
  | k + 1 => by
    show sR (roundS (runS S k).1).1 = _
    rw [roundS_r, runS_r S k]; rfl
theorem runS_good {S : SS} (h : Good S) : ∀ k, sR S + k ≤ 200 → Good (runS S k).1
  | 0, _ => h
  | k + 1, hk => round_good (runS_good h k (by omega)) (by rw [runS_r]; omega)
theorem runS_n (S : SS) : ∀ k, sN (runS S k).1 = sN S
  | 0 => rfl
  | k + 1 => by
    show sN (roundS (runS S k).1).1 = _
    rw [round_n, runS_n S k]
theorem runS_f {S : SS} {f a c : Nat} (h : f ≠ 1 ∧ f ≤ 7 ∧ f ≠ 4) : ∀ k, (runS S k).1 f a c = S f a c
  | 0 => rfl
  | k + 1 => (round_f h).trans (runS_f h k)
theorem runS_hr (S : SS) (k i : Nat) : hr (runS S k).1 i = hr S i := by unfold hr; rw [runS_f (by decide)]
