/-! what the memory holds of a state: the class's part -/
def oI : Option Nat → Int32
  | none => -1
  | some k => nI k
theorem oI_n1 {k : Nat} (h : k < 2 ^ 31) : ¬ nI k = -1 := fun e => by
  have h1 := nI_toInt h
  rw [e] at h1
  have h2 : (-1 : Int32).toInt = -1 := by decide
  omega
def PeerOK (M : Mem) (i : Nat) : Prop := (∀ κ ∈ [0, 1, 2, 3, 20, 21, 22, 23, 24, 25, 26], mE M κ i = true) ∧ (∀ k ∈ [1, 2, 3, 7, 8, 9, 12], mF M 2 i k = true) ∧ mF M 0 i 0 = true ∧ mF M 0 i 1 = true ∧ mF M 1 i 1 = true
def HallOK (M : Mem) : Prop := (∀ κ ∈ [4, 10, 11, 12], mE M κ 0 = true) ∧ (∀ k ∈ [0, 1, 2], mF M 4 0 k = true)
/-- the blocks that one has of another one -/
def cf (S : SS) (i o : Nat) : Nat := bs (fun b => (sHad S i).testBit b && sFr S i b == o) 48
def PeerV (S : SS) (M : Mem) (i : Nat) : Prop :=
  mI M 2 i 0 = nI i ∧ mI M 2 i 4 = nI (sSp S i) ∧ mI M 2 i 5 = nI (sSeq S i) ∧ mI M 2 i 6 = nI (sCar S i) ∧ mI M 2 i 10 = nI (sBan S i) ∧ mI M 2 i 11 = nI (sDb S i) ∧
  mI M 3 i 0 = nI (sHeld S i) ∧ mL M 3 i 1 = lN (sHad S i) ∧ mL M 3 i 2 = lN (sWr S i) ∧
  (∀ o, o < 6 → mI M 24 i o = nI (sGot S i o)) ∧ (∀ o, o < 6 → mI M 25 i o = nI (sSt S i o)) ∧ (∀ o, o < 6 → mL M 23 i o = lN (cf S i o))
def RepH (S : SS) (M : Mem) : Prop := mI M 4 0 3 = nI (sN S) ∧ mI M 4 0 4 = nI (sR S) ∧ (∀ p, p < 12 → mI M 11 0 p = nI (sPr S p)) ∧ (∀ j, j < 6 → mF M 10 0 j = hr S j)
def RepC (S : SS) (M : Mem) : Prop := HallOK M ∧ RepH S M ∧ ∀ i, hr S i = true → PeerOK M i ∧ PeerV S M i
/-- the bounds of a state -/
def OKS (S : SS) : Prop := sN S ≤ 6 ∧ sR S ≤ 200 ∧ (∀ i, S 2 i 0 ≤ 1) ∧ (∀ i, hr S i = true → i < sN S) ∧ (∀ p, sPr S p ≤ 3) ∧
  (∀ i, sHeld S i < 2 ^ 12) ∧ (∀ i, sCar S i ≤ 1) ∧ (∀ i, sSeq S i ≤ 1) ∧ (∀ i, sSp S i < 2 ^ 12) ∧ (∀ i, sHad S i < 2 ^ 48) ∧ (∀ i, sWr S i < 2 ^ 48) ∧ (∀ i, sBan S i < 2 ^ 6) ∧
  (∀ i b, sFr S i b < 6) ∧ (∀ i o, sGot S i o ≤ 1000) ∧ (∀ i o, sSt S i o ≤ 100000)
theorem OKS.n {S : SS} (h : OKS S) : sN S ≤ 6 := h.1
theorem OKS.r {S : SS} (h : OKS S) : sR S ≤ 200 := h.2.1
theorem OKS.here {S : SS} (h : OKS S) {i : Nat} (hi : hr S i = true) : i < sN S := h.2.2.2.1 i hi
theorem OKS.h6 {S : SS} (h : OKS S) {i : Nat} (hi : hr S i = true) : i < 6 := Nat.lt_of_lt_of_le (h.here hi) h.1
theorem OKS.pr {S : SS} (h : OKS S) (p : Nat) : sPr S p ≤ 3 := h.2.2.2.2.1 p
theorem OKS.held {S : SS} (h : OKS S) (i : Nat) : sHeld S i < 2 ^ 12 := h.2.2.2.2.2.1 i
theorem OKS.car {S : SS} (h : OKS S) (i : Nat) : sCar S i ≤ 1 := h.2.2.2.2.2.2.1 i
theorem OKS.seq {S : SS} (h : OKS S) (i : Nat) : sSeq S i ≤ 1 := h.2.2.2.2.2.2.2.1 i
theorem OKS.sp {S : SS} (h : OKS S) (i : Nat) : sSp S i < 2 ^ 12 := h.2.2.2.2.2.2.2.2.1 i
theorem OKS.had {S : SS} (h : OKS S) (i : Nat) : sHad S i < 2 ^ 48 := h.2.2.2.2.2.2.2.2.2.1 i
theorem OKS.wr {S : SS} (h : OKS S) (i : Nat) : sWr S i < 2 ^ 48 := h.2.2.2.2.2.2.2.2.2.2.1 i
theorem OKS.ban {S : SS} (h : OKS S) (i : Nat) : sBan S i < 2 ^ 6 := h.2.2.2.2.2.2.2.2.2.2.2.1 i
theorem OKS.fr {S : SS} (h : OKS S) (i b : Nat) : sFr S i b < 6 := h.2.2.2.2.2.2.2.2.2.2.2.2.1 i b
theorem OKS.got {S : SS} (h : OKS S) (i o : Nat) : sGot S i o ≤ 1000 := h.2.2.2.2.2.2.2.2.2.2.2.2.2.1 i o
theorem OKS.st {S : SS} (h : OKS S) (i o : Nat) : sSt S i o ≤ 100000 := h.2.2.2.2.2.2.2.2.2.2.2.2.2.2 i o
theorem RepC.e {S : SS} {M : Mem} (h : RepC S M) (κ : Nat) (hκ : κ ∈ [4, 10, 11, 12] := by decide) : mE M κ 0 = true := h.1.1 κ hκ
theorem RepC.f {S : SS} {M : Mem} (h : RepC S M) (k : Nat) (hk : k ∈ [0, 1, 2] := by decide) : mF M 4 0 k = true := h.1.2 k hk
theorem RepC.n {S : SS} {M : Mem} (h : RepC S M) : mI M 4 0 3 = nI (sN S) := h.2.1.1
theorem RepC.r {S : SS} {M : Mem} (h : RepC S M) : mI M 4 0 4 = nI (sR S) := h.2.1.2.1
theorem RepC.pr {S : SS} {M : Mem} (h : RepC S M) {p : Nat} (hp : p < 12) : mI M 11 0 p = nI (sPr S p) := h.2.1.2.2.1 p hp
theorem RepC.pres {S : SS} {M : Mem} (h : RepC S M) {j : Nat} (hj : j < 6) : mF M 10 0 j = hr S j := h.2.1.2.2.2 j hj
theorem RepC.pe {S : SS} {M : Mem} (h : RepC S M) {i : Nat} (hi : hr S i = true) (κ : Nat) (hκ : κ ∈ [0, 1, 2, 3, 20, 21, 22, 23, 24, 25, 26] := by decide) : mE M κ i = true := (h.2.2 i hi).1.1 κ hκ
theorem RepC.pf {S : SS} {M : Mem} (h : RepC S M) {i : Nat} (hi : hr S i = true) (k : Nat) (hk : k ∈ [1, 2, 3, 7, 8, 9, 12] := by decide) : mF M 2 i k = true := (h.2.2 i hi).1.2.1 k hk
theorem RepC.num {S : SS} {M : Mem} (h : RepC S M) {i : Nat} (hi : hr S i = true) : mI M 2 i 0 = nI i := (h.2.2 i hi).2.1
theorem RepC.sp {S : SS} {M : Mem} (h : RepC S M) {i : Nat} (hi : hr S i = true) : mI M 2 i 4 = nI (sSp S i) := (h.2.2 i hi).2.2.1
theorem RepC.seq {S : SS} {M : Mem} (h : RepC S M) {i : Nat} (hi : hr S i = true) : mI M 2 i 5 = nI (sSeq S i) := (h.2.2 i hi).2.2.2.1
theorem RepC.car {S : SS} {M : Mem} (h : RepC S M) {i : Nat} (hi : hr S i = true) : mI M 2 i 6 = nI (sCar S i) := (h.2.2 i hi).2.2.2.2.1
theorem RepC.ban {S : SS} {M : Mem} (h : RepC S M) {i : Nat} (hi : hr S i = true) : mI M 2 i 10 = nI (sBan S i) := (h.2.2 i hi).2.2.2.2.2.1
theorem RepC.db {S : SS} {M : Mem} (h : RepC S M) {i : Nat} (hi : hr S i = true) : mI M 2 i 11 = nI (sDb S i) := (h.2.2 i hi).2.2.2.2.2.2.1
theorem RepC.held {S : SS} {M : Mem} (h : RepC S M) {i : Nat} (hi : hr S i = true) : mI M 3 i 0 = nI (sHeld S i) := (h.2.2 i hi).2.2.2.2.2.2.2.1
theorem RepC.had {S : SS} {M : Mem} (h : RepC S M) {i : Nat} (hi : hr S i = true) : mL M 3 i 1 = lN (sHad S i) := (h.2.2 i hi).2.2.2.2.2.2.2.2.1
theorem RepC.wr {S : SS} {M : Mem} (h : RepC S M) {i : Nat} (hi : hr S i = true) : mL M 3 i 2 = lN (sWr S i) := (h.2.2 i hi).2.2.2.2.2.2.2.2.2.1
theorem RepC.got {S : SS} {M : Mem} (h : RepC S M) {i : Nat} (hi : hr S i = true) {o : Nat} (ho : o < 6) : mI M 24 i o = nI (sGot S i o) := (h.2.2 i hi).2.2.2.2.2.2.2.2.2.2.1 o ho
theorem RepC.st {S : SS} {M : Mem} (h : RepC S M) {i : Nat} (hi : hr S i = true) {o : Nat} (ho : o < 6) : mI M 25 i o = nI (sSt S i o) := (h.2.2 i hi).2.2.2.2.2.2.2.2.2.2.2.1 o ho
theorem RepC.cf {S : SS} {M : Mem} (h : RepC S M) {i : Nat} (hi : hr S i = true) {o : Nat} (ho : o < 6) : mL M 23 i o = lN (cf S i o) := (h.2.2 i hi).2.2.2.2.2.2.2.2.2.2.2.2 o ho
/-! the class's questions that change nothing -/
theorem cH_le (S : SS) (p : Nat) : ∀ m, cH S p m ≤ m
  | 0 => Nat.le_refl 0
  | m + 1 => by
    have := cH_le S p m
    rw [cH]; split <;> omega
theorem p_countHolders {S : SS} {M : Mem} {Q : Int32 → Mem → Prop} {x : Int32} (p : Nat) (hx : x = nI p) (h : RepC S M) (ok : OKS S) (hp : p < 12) (hQ : Q (nI (cH S p 6)) M) : w_X4_countHolders M x Q := by
  subst hx
  have loop : ∀ d i, i + d = 6 → l_X4_countHolders_14 Q (d + 1) M (nI p) (nI (cH S p i)) 6 (nI i) := by
    intro d
    induction d with
    | zero =>
      intro i hi
      have e : i = 6 := by omega
      subst e
      show b_X4_countHolders_14 Q _ M _ _ _ _
      unfold b_X4_countHolders_14
      exact pk_le 6 6 (fun _ => hQ) (fun z => absurd z (by omega))
    | succ d ih =>
      intro i hi
      show b_X4_countHolders_14 Q (l_X4_countHolders_14 Q (d + 1)) M _ _ _ _
      unfold b_X4_countHolders_14 b_X4_countHolders_51
      rw [cl i (by omega)]
      have nx := ih (i + 1) (by omega)
      rw [cH] at nx
      refine pk_le 6 i (fun z => absurd z (by omega)) (fun _ => ⟨h.e 10, pk_in i 6 (by omega), fun hf => ?_, fun hf => ?_⟩)
      · rw [h.pres (by omega)] at hf
        refine ⟨h.pe hf 2, h.pf hf 1, h.pe hf 3, p_isIn (sHeld S i) p (by rw [h.held hf]; exact nI_l (lt12 (ok.held i))) rfl (Nat.lt_trans (ok.held i) (by decide)) (by omega) (fun hb => t1 ?_) (fun hb => t0 ?_)⟩
        · intro v hv v2 hv2
          subst hv hv2
          rw [hf, hb] at nx
          rw [nI_1, nI_1]
          exact nx
        · intro v hv
          subst hv
          rw [hf, hb] at nx
          rw [nI_1]
          exact nx
      · rw [h.pres (by omega)] at hf
        intro v hv
        subst hv
        rw [hf] at nx
        rw [nI_1]
        exact nx
  exact ⟨h.e 4, h.f 0, h.e 10, 7, loop 6 0 rfl⟩
