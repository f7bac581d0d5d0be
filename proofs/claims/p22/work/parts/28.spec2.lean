/-! what comes, and what is settled -/
def comeOne (S : SS) (i b o : Nat) : SS :=
  if (sHad S i).testBit b then sU S 8 i 0 (sDb S i + 1)
  else sU (sU (sU (sU S 9 i 0 (sHad S i ||| 2 ^ b)) 10 i 0 (if (sSp S o).testBit (b / 4) then sWr S i ||| 2 ^ b else sWr S i)) 11 i b o) 12 i o (sGot S i o + 1)
def cS (st : SS × Nat) (q : Nat × Nat × Nat) : SS × Nat := (comeOne st.1 q.1 q.2.1 q.2.2, st.2 + if (sHad st.1 q.1).testBit q.2.1 then 0 else 1)
/-- one's row of what it got is empty -/
def gz (i : Nat) (S : SS) : SS := fun a b c => if a = 12 ∧ b = i then 0 else S a b c
def askL (S : SS) (i : Nat) : List (Nat × Nat × Nat) := (askTo S i 6).2.map (fun q => (i, q.1, q.2))
def comesTo (S : SS) (L : Nat → List (Nat × Nat × Nat)) : Nat → SS × Nat
  | 0 => (S, 0)
  | j + 1 => if hr S j then (L j).foldl cS (gz j (comesTo S L j).1, (comesTo S L j).2) else (gz j (comesTo S L j).1, (comesTo S L j).2)
/-- how many blocks of a piece came from one -/
def cntF (S : SS) (i p o : Nat) : Nat → Nat
  | 0 => 0
  | k + 1 => cntF S i p o k + if sFr S i (4 * p + k) = o then 1 else 0
def dropO (S : SS) (i p : Nat) : Nat → SS
  | 0 => S
  | o + 1 => if cntF S i p o 4 = 0 then dropO S i p o
    else if cntF S i p o 4 = 4 ∨ 3 ≤ sSt (dropO S i p o) i o + 1 then sU (sU (dropO S i p o) 13 i o (sSt (dropO S i p o) i o + 1)) 14 i 0 (sBan (dropO S i p o) i ||| 2 ^ o)
    else sU (dropO S i p o) 13 i o (sSt (dropO S i p o) i o + 1)
def full (S : SS) (i p : Nat) : Prop := sHad S i &&& blkP p = blkP p
def clr (S : SS) (i p : Nat) : SS := sU (sU S 9 i 0 (nd (sHad S i) (blkP p))) 10 i 0 (nd (sWr S i) (blkP p))
def settleP (S : SS) (i p : Nat) : SS :=
  if sHad S i &&& blkP p = blkP p then
    (if sWr S i &&& blkP p = 0 then clr (sU S 4 i 0 (sHeld S i ||| 2 ^ p)) i p else clr (dropO S i p 6) i p)
  else S
def settleTo (S : SS) (i : Nat) : Nat → SS
  | 0 => S
  | p + 1 => settleP (settleTo S i p) i p
def endsTo (S : SS) : Nat → SS
  | 0 => S
  | j + 1 => settleTo (endsTo S j) j 12
/-- a round: the state behind it, and how many came -/
def roundS (S : SS) : SS × Nat := (sU (endsTo (comesTo S (askL S) 6).1 6) 1 0 0 (sR S + 1), (comesTo S (askL S) 6).2)
theorem sU_at (S : SS) (f i j v : Nat) : sU S f i j v f i j = v := by unfold sU; rw [if_pos ⟨rfl, rfl, rfl⟩]
theorem sU_f {S : SS} {f i j v a b c : Nat} (h : a ≠ f) : sU S f i j v a b c = S a b c := by unfold sU; rw [if_neg (fun z => h z.1)]
theorem sU_i {S : SS} {f i j v a b c : Nat} (h : b ≠ i) : sU S f i j v a b c = S a b c := by unfold sU; rw [if_neg (fun z => h z.2.1)]
theorem sU_j {S : SS} {f i j v a b c : Nat} (h : c ≠ j) : sU S f i j v a b c = S a b c := by unfold sU; rw [if_neg (fun z => h z.2.2)]
/-- a block comes: who reads other fields or other rows sees no change -/
theorem comeOne_f {S : SS} {i b o f a c : Nat} (h : f ≠ 8 ∧ f ≠ 9 ∧ f ≠ 10 ∧ f ≠ 11 ∧ f ≠ 12) : comeOne S i b o f a c = S f a c := by
  unfold comeOne
  split
  · exact sU_f h.1
  · rw [sU_f h.2.2.2.2, sU_f h.2.2.2.1, sU_f h.2.2.1, sU_f h.2.1]
theorem comeOne_i {S : SS} {i b o f a c : Nat} (h : a ≠ i) : comeOne S i b o f a c = S f a c := by
  unfold comeOne
  split
  · exact sU_i h
  · rw [sU_i h, sU_i h, sU_i h, sU_i h]
theorem comeOne_hr {S : SS} {i b o : Nat} (a : Nat) : hr (comeOne S i b o) a = hr S a := by unfold hr; rw [comeOne_f (by decide)]
theorem cf_lt (S : SS) (i o : Nat) : cf S i o < 2 ^ 48 := bs_lt _ _
theorem cf_bit (S : SS) (i o b : Nat) : (cf S i o).testBit b = (decide (b < 48) && ((sHad S i).testBit b && sFr S i b == o)) := bs_bit _ _ _
theorem comeOne_ok {S : SS} {i b o : Nat} (ok : OKS S) (hb : b < 48) (ho : o < 6) (hg : sGot S i o ≤ 999) : OKS (comeOne S i b o) := by
  obtain ⟨h1, h2, h3, h4, h5, h6, h7, h8, h9, h10, h11, h12, h13, h14, h15⟩ := ok
  have pw : 2 ^ b < 2 ^ 48 := Nat.pow_lt_pow_right (by omega) hb
  refine ⟨by unfold sN; rw [comeOne_f (by decide)]; exact h1, by unfold sR; rw [comeOne_f (by decide)]; exact h2, fun a => by rw [comeOne_f (by decide)]; exact h3 a, fun a ha => by rw [comeOne_hr] at ha; unfold sN; rw [comeOne_f (by decide)]; exact h4 a ha, fun a => by unfold sPr; rw [comeOne_f (by decide)]; exact h5 a, fun a => by unfold sHeld; rw [comeOne_f (by decide)]; exact h6 a, fun a => by unfold sCar; rw [comeOne_f (by decide)]; exact h7 a, fun a => by unfold sSeq; rw [comeOne_f (by decide)]; exact h8 a, fun a => by unfold sSp; rw [comeOne_f (by decide)]; exact h9 a, fun a => ?_, fun a => ?_, fun a => by unfold sBan; rw [comeOne_f (by decide)]; exact h12 a, fun a c => ?_, fun a c => ?_, fun a c => by unfold sSt; rw [comeOne_f (by decide)]; exact h15 a c⟩
  · by_cases e : a = i
    · subst e
      unfold comeOne
      split
      · exact h10 a
      · show sU _ 12 _ _ _ 9 a 0 < _
        rw [sU_f (by decide), sU_f (by decide), sU_f (by decide), sU_at]
        exact Nat.or_lt_two_pow (h10 a) pw
    · unfold sHad; rw [comeOne_i e]; exact h10 a
  · by_cases e : a = i
    · subst e
      unfold comeOne
      split
      · exact h11 a
      · show sU _ 12 _ _ _ 10 a 0 < _
        rw [sU_f (by decide), sU_f (by decide), sU_at]
        split
        · exact Nat.or_lt_two_pow (h11 a) pw
        · exact h11 a
    · unfold sWr; rw [comeOne_i e]; exact h11 a
  · by_cases e : a = i
    · subst e
      unfold comeOne
      split
      · exact h13 a c
      · show sU _ 12 _ _ _ 11 a c < _
        rw [sU_f (by decide)]
        by_cases e2 : c = b
        · subst e2; rw [sU_at]; exact ho
        · rw [sU_j e2, sU_f (by decide), sU_f (by decide)]; exact h13 a c
    · unfold sFr; rw [comeOne_i e]; exact h13 a c
  · by_cases e : a = i
    · subst e
      unfold comeOne
      split
      · exact h14 a c
      · show sU _ 12 _ _ _ 12 a c ≤ _
        by_cases e2 : c = o
        · subst e2; rw [sU_at]; omega
        · rw [sU_j e2, sU_f (by decide), sU_f (by decide), sU_f (by decide)]; exact h14 a c
    · unfold sGot; rw [comeOne_i e]; exact h14 a c
