/-! sets of numbers as numbers -/
def bs (f : Nat → Bool) : Nat → Nat
  | 0 => 0
  | n + 1 => bs f n ||| (if f n then 2 ^ n else 0)
theorem bs_bit (f : Nat → Bool) : ∀ (n k : Nat), (bs f n).testBit k = (decide (k < n) && f k)
  | 0, k => by simp [bs]
  | n + 1, k => by
    rw [bs, Nat.testBit_or, bs_bit f n k]
    by_cases h : k = n
    · subst h
      cases hf : f k <;> simp [hf]
    · cases hf : f n
      · simp only [Bool.false_eq_true, if_false, Nat.zero_testBit, Bool.or_false]
        have : decide (k < n + 1) = decide (k < n) := by simp; omega
        rw [this]
      · simp only [if_true, Nat.testBit_two_pow]
        have : decide (k < n + 1) = decide (k < n) := by simp; omega
        rw [this]
        simp [Ne.symm h]
theorem bs_lt (f : Nat → Bool) : ∀ n, bs f n < 2 ^ n
  | 0 => by simp [bs]
  | n + 1 => by
    rw [bs]
    apply Nat.or_lt_two_pow
    · have := bs_lt f n; have : 2 ^ n < 2 ^ (n + 1) := Nat.pow_lt_pow_right (by omega) (by omega); omega
    · split
      · exact Nat.pow_lt_pow_right (by omega) (by omega)
      · exact Nat.two_pow_pos _
theorem bs_s1 {f : Nat → Bool} {n : Nat} (h : f n = true) : bs f (n + 1) = bs f n ||| 2 ^ n := by rw [bs, if_pos h]
theorem bs_s0 {f : Nat → Bool} {n : Nat} (h : f n = false) : bs f (n + 1) = bs f n := by rw [bs, if_neg (by rw [h]; decide), Nat.or_zero]
/-- a without h -/
def nd (a h : Nat) : Nat := a ^^^ (a &&& h)
theorem nd_bit (a h k : Nat) : (nd a h).testBit k = (a.testBit k && !h.testBit k) := by
  unfold nd
  rw [Nat.testBit_xor, Nat.testBit_and]
  cases a.testBit k <;> cases h.testBit k <;> rfl
theorem nd_lt {a h n : Nat} (ha : a < 2 ^ n) : nd a h < 2 ^ n := by
  unfold nd
  exact Nat.xor_lt_two_pow ha (Nat.lt_of_le_of_lt Nat.and_le_left ha)
theorem and_lt {a b n : Nat} (ha : a < 2 ^ n) : a &&& b < 2 ^ n := Nat.lt_of_le_of_lt Nat.and_le_left ha
theorem bit_lt {a n k : Nat} (ha : a < 2 ^ n) (h : a.testBit k = true) : k < n := by
  rcases Nat.lt_or_ge k n with q | q
  · exact q
  · have : a.testBit k = false := Nat.testBit_lt_two_pow (Nat.lt_of_lt_of_le ha (Nat.pow_le_pow_right (by omega) q))
    rw [this] at h; cases h
theorem bit_hi {a n k : Nat} (ha : a < 2 ^ n) (h : n ≤ k) : a.testBit k = false := Nat.testBit_lt_two_pow (Nat.lt_of_lt_of_le ha (Nat.pow_le_pow_right (by omega) h))
theorem eq_bits {a b n : Nat} (ha : a < 2 ^ n) (hb : b < 2 ^ n) (h : ∀ k, k < n → a.testBit k = b.testBit k) : a = b := by
  apply Nat.eq_of_testBit_eq
  intro k
  rcases Nat.lt_or_ge k n with q | q
  · exact h k q
  · rw [bit_hi ha q, bit_hi hb q]
theorem ne0_bit {a n : Nat} (ha : a < 2 ^ n) : a ≠ 0 ↔ ∃ k, k < n ∧ a.testBit k = true := by
  constructor
  · intro h
    apply Classical.byContradiction
    intro hn
    apply h
    apply eq_bits ha (Nat.two_pow_pos n)
    intro k hk
    rw [Nat.zero_testBit]
    cases hb : a.testBit k
    · rfl
    · exact absurd ⟨k, hk, hb⟩ hn
  · rintro ⟨k, -, hk⟩ rfl
    rw [Nat.zero_testBit] at hk; cases hk
/-! the state of both: numbers by field, row, place -/
abbrev SS : Type := Nat → Nat → Nat → Nat
def sU (S : SS) (f i j v : Nat) : SS := fun a b c => if a = f ∧ b = i ∧ c = j then v else S a b c
abbrev sN (S : SS) : Nat := S 0 0 0
abbrev sR (S : SS) : Nat := S 1 0 0
abbrev sPr (S : SS) (p : Nat) : Nat := S 3 p 0
abbrev sHeld (S : SS) (i : Nat) : Nat := S 4 i 0
abbrev sCar (S : SS) (i : Nat) : Nat := S 5 i 0
abbrev sSeq (S : SS) (i : Nat) : Nat := S 6 i 0
abbrev sSp (S : SS) (i : Nat) : Nat := S 7 i 0
abbrev sDb (S : SS) (i : Nat) : Nat := S 8 i 0
abbrev sHad (S : SS) (i : Nat) : Nat := S 9 i 0
abbrev sWr (S : SS) (i : Nat) : Nat := S 10 i 0
abbrev sFr (S : SS) (i b : Nat) : Nat := S 11 i b
abbrev sGot (S : SS) (i o : Nat) : Nat := S 12 i o
abbrev sSt (S : SS) (i o : Nat) : Nat := S 13 i o
abbrev sBan (S : SS) (i : Nat) : Nat := S 14 i 0
def hr (S : SS) (i : Nat) : Bool := S 2 i 0 == 1
/-- how many here, of the first m, hold a piece -/
def cH (S : SS) (p : Nat) : Nat → Nat
  | 0 => 0
  | m + 1 => cH S p m + (if hr S m && (sHeld S m).testBit p then 1 else 0)
def wantS (S : SS) : Nat := bs (fun p => decide (0 < sPr S p)) 12
def lackS (S : SS) (i : Nat) : Nat := bs (fun p => decide (0 < sPr S p) && !(sHeld S i).testBit p) 12
def rarest (S : SS) (ps first : Nat) : Nat → Option Nat
  | 0 => none
  | k + 1 => if ps.testBit ((first + k) % 12) then
      (match rarest S ps first k with
        | none => some ((first + k) % 12)
        | some q => if cH S ((first + k) % 12) 6 < cH S q 6 then some ((first + k) % 12) else some q)
      else rarest S ps first k
def single : Option Nat → Nat
  | none => 0
  | some k => 2 ^ k
def shown (S : SS) (i o : Nat) : Nat := if i = o then 0 else if sCar S i = 0 then sHeld S i else single (rarest S (nd (sHeld S i) (sHeld S o)) o 12)
/-- o is interested in i -/
def wantsB (S : SS) (i o : Nat) : Bool := hr S o && (o != i) && !(sBan S o).testBit i && (nd (shown S i o &&& wantS S) (sHeld S o) != 0)
def intr (S : SS) (i : Nat) : Nat := bs (wantsB S i) 6
def bestG (S : SS) (i left : Nat) : Nat → Option Nat
  | 0 => none
  | k + 1 => match bestG S i left k with
    | none => if left.testBit k then some k else none
    | some q => if left.testBit k && decide (sGot S i q < sGot S i k) then some k else some q
def turnF (S : SS) (left : Nat) : Nat → Option Nat
  | 0 => none
  | k + 1 => match turnF S left k with
    | some q => some q
    | none => if left.testBit ((sR S + k) % 6) then some ((sR S + k) % 6) else none
def left1 (S : SS) (i : Nat) : Nat := nd (intr S i) (single (bestG S i (intr S i) 6))
def left2 (S : SS) (i : Nat) : Nat := nd (left1 S i) (single (bestG S i (left1 S i) 6))
def chosen (S : SS) (i : Nat) : Nat := single (bestG S i (intr S i) 6) ||| single (bestG S i (left1 S i) 6) ||| single (turnF S (left2 S i) 6)
/-! blocks -/
def blk (ps : Nat) : Nat := bs (fun b => ps.testBit (b / 4)) 48
def blkP (p : Nat) : Nat := 15 * 2 ^ (4 * p)
def lowF (x : Nat) : Nat → Option Nat
  | 0 => none
  | k + 1 => match lowF x k with
    | some q => some q
    | none => if x.testBit k then some k else none
def missing (S : SS) (i : Nat) : Nat := nd (blk (nd (wantS S) (sHeld S i))) (sHad S i)
def begun (S : SS) (i asked p : Nat) : Bool := ((sHad S i ||| asked) &&& blkP p) != 0
def better (S : SS) (i asked p q : Nat) : Bool :=
  if begun S i asked p != begun S i asked q then begun S i asked p
  else if sPr S p ≠ sPr S q then decide (sPr S q < sPr S p)
  else if sSeq S i = 0 ∧ cH S p 6 ≠ cH S q 6 then decide (cH S p 6 < cH S q 6)
  else decide (p < q)
def bestP (S : SS) (i asked fresh : Nat) : Nat → Option Nat
  | 0 => none
  | p + 1 => match bestP S i asked fresh p with
    | none => if fresh &&& blkP p ≠ 0 then some p else none
    | some q => if fresh &&& blkP p ≠ 0 ∧ better S i asked p q = true then some p else some q
def askB (S : SS) (i o asked : Nat) : Option Nat :=
  if nd (missing S i &&& blk (shown S o i)) asked ≠ 0 then
    (match bestP S i asked (nd (missing S i &&& blk (shown S o i)) asked) 12 with
      | none => none
      | some p => lowF (nd (missing S i &&& blk (shown S o i)) asked &&& blkP p) 48)
  else if nd (missing S i) asked = 0 ∧ missing S i &&& blk (shown S o i) ≠ 0 then lowF (missing S i &&& blk (shown S o i)) 48
  else none
def askTo (S : SS) (i : Nat) : Nat → Nat × List (Nat × Nat)
  | 0 => (0, [])
  | o + 1 => if hr S o && (chosen S o).testBit i then
      (match askB S i o (askTo S i o).1 with
        | none => askTo S i o
        | some b => ((askTo S i o).1 ||| 2 ^ b, (askTo S i o).2 ++ [(b, o)]))
      else askTo S i o
