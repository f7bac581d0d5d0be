/-! what the reference's memory holds of a state -/
def MOK (M : Mem) : Prop := (∀ κ ∈ [5, 32, 34, 35, 36, 37, 38, 39, 40, 41, 42, 43, 44, 45, 46, 47, 48, 50, 51, 52], mE M κ 0 = true) ∧ ∀ k ∈ [2, 4, 5, 6, 7, 8, 9, 10, 11, 12, 13, 14, 15, 16, 17, 18, 20, 21, 22], mF M 5 0 k = true
/-- a piece's four blocks of a set of blocks -/
def nib (x p : Nat) : Nat := x / 2 ^ (4 * p) % 16
def b2 (b : Bool) : Nat := if b = true then 1 else 0
def MV (S : SS) (M : Mem) : Prop :=
  mI M 5 0 1 = nI (sR S) ∧ mI M 5 0 3 = nI (sN S) ∧ (∀ p, p < 12 → mI M 32 0 p = nI (sPr S p)) ∧
  (∀ i, i < 6 → mI M 34 0 i = nI (S 2 i 0) ∧ mI M 35 0 i = nI (sHeld S i) ∧ mI M 36 0 i = nI (sCar S i) ∧ mI M 37 0 i = nI (sSeq S i) ∧ mI M 38 0 i = nI (sSp S i) ∧ mI M 39 0 i = nI (sDb S i)) ∧
  (∀ i p, i < 6 → p < 12 → mI M 40 0 (12 * i + p) = nI (nib (sHad S i) p) ∧ mI M 41 0 (12 * i + p) = nI (nib (sWr S i) p)) ∧
  (∀ i b, i < 6 → b < 48 → mI M 43 0 (48 * i + b) = nI (sFr S i b)) ∧
  (∀ i o, i < 6 → o < 6 → mI M 44 0 (6 * i + o) = nI (sGot S i o) ∧ mI M 45 0 (6 * i + o) = nI (sSt S i o) ∧ mI M 46 0 (6 * i + o) = nI (b2 ((sBan S i).testBit o)))
def RepM (S : SS) (M : Mem) : Prop := MOK M ∧ MV S M
theorem RepM.e {S : SS} {M : Mem} (h : RepM S M) (κ : Nat) (hκ : κ ∈ [5, 32, 34, 35, 36, 37, 38, 39, 40, 41, 42, 43, 44, 45, 46, 47, 48, 50, 51, 52] := by decide) : mE M κ 0 = true := h.1.1 κ hκ
theorem RepM.f {S : SS} {M : Mem} (h : RepM S M) (k : Nat) (hk : k ∈ [2, 4, 5, 6, 7, 8, 9, 10, 11, 12, 13, 14, 15, 16, 17, 18, 20, 21, 22] := by decide) : mF M 5 0 k = true := h.1.2 k hk
theorem RepM.r {S : SS} {M : Mem} (h : RepM S M) : mI M 5 0 1 = nI (sR S) := h.2.1
theorem RepM.n {S : SS} {M : Mem} (h : RepM S M) : mI M 5 0 3 = nI (sN S) := h.2.2.1
theorem RepM.pr {S : SS} {M : Mem} (h : RepM S M) {p : Nat} (hp : p < 12) : mI M 32 0 p = nI (sPr S p) := h.2.2.2.1 p hp
theorem RepM.he {S : SS} {M : Mem} (h : RepM S M) {i : Nat} (hi : i < 6) : mI M 34 0 i = nI (S 2 i 0) := (h.2.2.2.2.1 i hi).1
theorem RepM.held {S : SS} {M : Mem} (h : RepM S M) {i : Nat} (hi : i < 6) : mI M 35 0 i = nI (sHeld S i) := (h.2.2.2.2.1 i hi).2.1
theorem RepM.car {S : SS} {M : Mem} (h : RepM S M) {i : Nat} (hi : i < 6) : mI M 36 0 i = nI (sCar S i) := (h.2.2.2.2.1 i hi).2.2.1
theorem RepM.seq {S : SS} {M : Mem} (h : RepM S M) {i : Nat} (hi : i < 6) : mI M 37 0 i = nI (sSeq S i) := (h.2.2.2.2.1 i hi).2.2.2.1
theorem RepM.sp {S : SS} {M : Mem} (h : RepM S M) {i : Nat} (hi : i < 6) : mI M 38 0 i = nI (sSp S i) := (h.2.2.2.2.1 i hi).2.2.2.2.1
theorem RepM.db {S : SS} {M : Mem} (h : RepM S M) {i : Nat} (hi : i < 6) : mI M 39 0 i = nI (sDb S i) := (h.2.2.2.2.1 i hi).2.2.2.2.2
theorem RepM.had {S : SS} {M : Mem} (h : RepM S M) {i p : Nat} (hi : i < 6) (hp : p < 12) : mI M 40 0 (12 * i + p) = nI (nib (sHad S i) p) := (h.2.2.2.2.2.1 i p hi hp).1
theorem RepM.wr {S : SS} {M : Mem} (h : RepM S M) {i p : Nat} (hi : i < 6) (hp : p < 12) : mI M 41 0 (12 * i + p) = nI (nib (sWr S i) p) := (h.2.2.2.2.2.1 i p hi hp).2
theorem RepM.fr {S : SS} {M : Mem} (h : RepM S M) {i b : Nat} (hi : i < 6) (hb : b < 48) : mI M 43 0 (48 * i + b) = nI (sFr S i b) := h.2.2.2.2.2.2.1 i b hi hb
theorem RepM.got {S : SS} {M : Mem} (h : RepM S M) {i o : Nat} (hi : i < 6) (ho : o < 6) : mI M 44 0 (6 * i + o) = nI (sGot S i o) := (h.2.2.2.2.2.2.2 i o hi ho).1
theorem RepM.st {S : SS} {M : Mem} (h : RepM S M) {i o : Nat} (hi : i < 6) (ho : o < 6) : mI M 45 0 (6 * i + o) = nI (sSt S i o) := (h.2.2.2.2.2.2.2 i o hi ho).2.1
theorem RepM.ban {S : SS} {M : Mem} (h : RepM S M) {i o : Nat} (hi : i < 6) (ho : o < 6) : mI M 46 0 (6 * i + o) = nI (b2 ((sBan S i).testBit o)) := (h.2.2.2.2.2.2.2 i o hi ho).2.2
theorem here_1 {S : SS} (ok : OKS S) (i : Nat) : S 2 i 0 = b2 (hr S i) := by
  have := ok.2.2.1 i
  unfold b2 hr
  by_cases h : S 2 i 0 = 1
  · rw [h]; rfl
  · have : S 2 i 0 = 0 := by omega
    rw [this]; rfl
theorem q_b2 {A B : Prop} (b : Bool) (f0 : b = false → A) (f1 : b = true → B) : (nI (b2 b) = 0 → A) ∧ (¬ nI (b2 b) = 0 → B) := by
  cases b
  · exact ⟨fun _ => f0 rfl, fun z => absurd rfl z⟩
  · exact ⟨fun z => absurd z (by decide), fun _ => f1 rfl⟩
/-- is it here? as the reference asks -/
theorem RepM.here {S : SS} {M : Mem} {A B : Prop} (h : RepM S M) (ok : OKS S) {i : Nat} (hi : i < 6) (f0 : hr S i = false → A) (f1 : hr S i = true → B) : (mI M 34 0 i = 0 → A) ∧ (¬ mI M 34 0 i = 0 → B) := by
  rw [h.he hi, here_1 ok]
  exact q_b2 _ f0 f1
theorem cH_n {S : SS} (ok : OKS S) (p : Nat) : ∀ m, sN S ≤ m → cH S p m = cH S p (sN S)
  | 0, h => by rw [show sN S = 0 by omega]
  | m + 1, h => by
    by_cases e : sN S = m + 1
    · rw [e]
    · have : hr S m = false := by
        cases hm : hr S m with
        | false => rfl
        | true => have := ok.here hm; omega
      rw [cH, this, cH_n ok p m (by omega)]; rfl
theorem p_holdersOf {S : SS} {M : Mem} {Q : Int32 → Mem → Prop} {x : Int32} (p : Nat) (hx : x = nI p) (h : RepM S M) (ok : OKS S) (hp : p < 12) (hQ : Q (nI (cH S p 6)) M) : w_X5_holdersOf M x Q := by
  subst hx
  have n6 := ok.n
  have loop : ∀ d i, i + d = sN S → l_X5_holdersOf_4 Q (d + 1) M (nI p) (nI (cH S p i)) (nI i) := by
    intro d
    induction d with
    | zero =>
      intro i hi
      have e : i = sN S := by omega
      subst e
      show b_X5_holdersOf_4 Q _ M _ _ _
      unfold b_X5_holdersOf_4
      rw [h.n]
      refine ⟨h.e 5, pk_le (sN S) (sN S) (fun _ => ?_) (fun z => absurd z (by omega))⟩
      rw [← cH_n ok p 6 n6]; exact hQ
    | succ d ih =>
      intro i hi
      show b_X5_holdersOf_4 Q (l_X5_holdersOf_4 Q (d + 1)) M _ _ _
      unfold b_X5_holdersOf_4 b_X5_holdersOf_39 b_X5_holdersOf_40
      rw [cl i (by omega), h.n]
      have nx := ih (i + 1) (by omega)
      rw [cH] at nx
      have z0 : ∀ t : Nat, (hr S i && (sHeld S i).testBit p) = decide (t = 1) → t ≤ 1 → ∀ v7 : Int32, v7 = nI (cH S p i) + nI t → ∀ v8 : Int32, v8 = nI i + 1 → l_X5_holdersOf_4 Q (d + 1) M (nI p) v7 v8 := by
        intro t ht ht1 v7 h7 v8 h8
        rw [h7, h8, nI_add, nI_1]
        rw [ht] at nx
        have : (if decide (t = 1) = true then 1 else 0) = t := by
          by_cases e : t = 1
          · subst e; rfl
          · have : t = 0 := by omega
            subst this; rfl
        rw [this] at nx
        exact nx
      refine ⟨h.e 5, pk_le (sN S) i (fun z => absurd z (by omega)) (fun _ => ⟨h.f 4, h.e 34, pk_in i 6 (by omega), h.here ok (by omega) (fun hf => z0 0 (by rw [hf]; rfl) (by omega)) (fun hf => ⟨h.f 5, h.e 35, pk_in i 6 (by omega), p_has (sHeld S i) p (h.held (by omega)) rfl (lt12 (ok.held i)) (by omega) (fun hb => t1 (z0 1 (by rw [hf, hb]; rfl) (by omega))) (fun hb => t0 (z0 0 (by rw [hf, hb]; rfl) (by omega)))⟩)⟩)⟩
  exact ⟨sN S + 1, loop (sN S) 0 (by omega)⟩
