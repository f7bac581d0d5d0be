/-! the memory: what exists, which references are set, ints, longs: by kind, number, place -/
abbrev Mem : Type := (Nat → Nat → Bool) × (Nat → Nat → Nat → Bool) × (Nat → Nat → Nat → Int32) × (Nat → Nat → Nat → Int64)
abbrev AD : Type := Nat → Nat → Nat
def mE (M : Mem) (κ i : Nat) : Bool := M.1 κ i
def mF (M : Mem) (κ i k : Nat) : Bool := M.2.1 κ i k
def mI (M : Mem) (κ i k : Nat) : Int32 := M.2.2.1 κ i k
def mL (M : Mem) (κ i k : Nat) : Int64 := M.2.2.2 κ i k
def wI (M : Mem) (κ i k : Nat) (v : Int32) : Mem := (M.1, M.2.1, fun a b c => if a = κ ∧ b = i ∧ c = k then v else M.2.2.1 a b c, M.2.2.2)
def wL (M : Mem) (κ i k : Nat) (v : Int64) : Mem := (M.1, M.2.1, M.2.2.1, fun a b c => if a = κ ∧ b = i ∧ c = k then v else M.2.2.2 a b c)
def wF (M : Mem) (κ i k : Nat) (v : Bool) : Mem := (M.1, fun a b c => if a = κ ∧ b = i ∧ c = k then v else M.2.1 a b c, M.2.2.1, M.2.2.2)
def wN (M : Mem) (κ i : Nat) : Mem := (fun a b => if a = κ ∧ b = i then true else M.1 a b, fun a b c => if a = κ ∧ b = i then false else M.2.1 a b c, fun a b c => if a = κ ∧ b = i then 0 else M.2.2.1 a b c, fun a b c => if a = κ ∧ b = i then 0 else M.2.2.2 a b c)
def wD (M : Mem) (κ i : Nat) : Mem := (fun a b => if a = κ ∧ b = i then false else M.1 a b, M.2.1, M.2.2.1, M.2.2.2)
/-! the kinds: 0 Asks, 1 Log, 2 Peer, 3 Store, 4 Swarmhall; 10 to 12 the hall's arrays, 20 to 26 a peer's, 61 the law's cells, 62 its count of holders -/
def kN (κ : Nat) : Nat := match κ with
  | 0 => 4 | 1 => 3 | 2 => 14 | 3 => 3 | 4 => 5 | _ => 0
/-- a place's type: 0 int, 1 long, n + 2 a reference to one of kind n -/
def kT (κ k : Nat) : Nat := match κ with
  | 0 => (match k with | 0 => 22 | 1 => 23 | 3 => 1 | _ => 0)
  | 1 => (match k with | 1 => 24 | _ => 0)
  | 2 => (match k with | 1 => 5 | 2 => 3 | 3 => 2 | 7 => 25 | 8 => 26 | 9 => 27 | 12 => 28 | _ => 0)
  | 3 => (match k with | 0 => 0 | _ => 1)
  | 4 => (match k with | 0 => 12 | 1 => 13 | 2 => 14 | _ => 0)
  | 10 => 4
  | 23 => 1
  | _ => 0
def kR (κ i k : Nat) : Nat × Nat := if κ = 10 then (2, k) else (kT κ k - 2, i)
/-- of what an array is: 0 int, 1 long, 3 peers -/
def kA (κ : Nat) : Nat := match κ with
  | 10 => 3 | 23 => 1 | _ => 0
def kLen (κ : Nat) : Nat := match κ with
  | 10 => 6 | 11 => 12 | 12 => 12 | 20 => 6 | 21 => 6 | 22 => 1000 | 23 => 6 | 24 => 6 | 25 => 6 | 26 => 6
  | 61 => 29 | 62 => 12 | _ => 0
def kTy (a : Nat) : FieldType := match a with
  | 0 => .int | 1 => .long | 2 => .int | _ => .object RX2
def mV (M : Mem) (ad : AD) (κ i k : Nat) : Value := match kT κ k with
  | 0 => .int (mI M κ i k)
  | 1 => .long (mL M κ i k)
  | _ => if mF M κ i k = true then .ref (ad (kR κ i k).1 (kR κ i k).2) else .null
abbrev GE : Type := (Nat → ClassId) × (Nat → Nat → Nat) × (Nat → ClassId) × (Nat × Nat × (Nat → Int32))
/-- the script: its cell, its length, its ints -/
def sB (E : GE) : Nat := E.2.2.2.1
def sL (E : GE) : Nat := E.2.2.2.2.1
def sX (E : GE) : Nat → Int32 := E.2.2.2.2.2
def oAt (E : GE) (M : Mem) (ad : AD) (H : Heap) (κ i : Nat) : Prop :=
  if κ < 6 then t_OB (ad κ i) (E.1 κ) (kN κ) (E.2.1 κ) H (mV M ad κ i) else H[ad κ i]? = some (arrV (E.2.2.1 (kA κ)) (kLen κ) (mV M ad κ i))
/-- the heap holds the memory, at the addresses ad, all of them from base on -/
def Wd (E : GE) (base : Nat) (M : Mem) (ad : AD) (H : Heap) : Prop :=
  (∀ κ i, mE M κ i = true → base ≤ ad κ i ∧ oAt E M ad H κ i) ∧
  (∀ κ i κ' i', mE M κ i = true → mE M κ' i' = true → ad κ i = ad κ' i' → κ = κ' ∧ i = i') ∧
  (∀ κ i k, mE M κ i = true → mF M κ i k = true → mE M (kR κ i k).1 (kR κ i k).2 = true)
theorem oAt.lt {E : GE} {M : Mem} {ad : AD} {H : Heap} {κ i : Nat} (h : oAt E M ad H κ i) : ad κ i < H.size := by
  unfold oAt at h
  split at h
  · obtain ⟨cell, h1, -⟩ := h
    exact (Array.getElem?_eq_some_iff.mp h1).1
  · exact (Array.getElem?_eq_some_iff.mp h).1
theorem oAt.kept {E : GE} {M M1 : Mem} {ad ad1 : AD} {H H1 : Heap} {κ i : Nat} (h : oAt E M ad H κ i) (ha : ad1 κ i = ad κ i) (hh : H1[ad κ i]? = H[ad κ i]?) (hv : ∀ k, mV M1 ad1 κ i k = mV M ad κ i k) : oAt E M1 ad1 H1 κ i := by
  unfold oAt at h ⊢
  have hf : mV M1 ad1 κ i = mV M ad κ i := funext hv
  rw [ha, hf]
  split
  · rename_i h6
    rw [if_pos h6] at h
    exact h.kept hh
  · rename_i h6
    rw [if_neg h6] at h
    rw [hh]; exact h
theorem mV_same {M M1 : Mem} {ad : AD} {κ i k : Nat} (h1 : mI M1 κ i k = mI M κ i k) (h2 : mL M1 κ i k = mL M κ i k) (h3 : mF M1 κ i k = mF M κ i k) : mV M1 ad κ i k = mV M ad κ i k := by
  unfold mV
  rw [h1, h2, h3]
/-- one place of one cell is written anew -/
theorem Wd.put {E : GE} {base : Nat} {M M1 : Mem} {ad : AD} {H H1 : Heap} {κ i : Nat} (h : Wd E base M ad H) (he : mE M κ i = true) (hE : ∀ a b, mE M1 a b = mE M a b)
    (hv : ∀ a b, ¬ (a = κ ∧ b = i) → ∀ k, mI M1 a b k = mI M a b k ∧ mL M1 a b k = mL M a b k ∧ mF M1 a b k = mF M a b k)
    (hF : ∀ k, mF M1 κ i k = true → mE M (kR κ i k).1 (kR κ i k).2 = true) (ho : oAt E M1 ad H1 κ i) (oq : ∀ q : Nat, q ≠ ad κ i → H1[q]? = H[q]?) : Wd E base M1 ad H1 := by
  obtain ⟨h1, h2, h3⟩ := h
  refine ⟨fun a b hab => ?_, fun a b a' b' x y => ?_, fun a b k x y => ?_⟩
  · rw [hE] at hab
    refine ⟨(h1 a b hab).1, ?_⟩
    by_cases hc : a = κ ∧ b = i
    · rw [hc.1, hc.2]; exact ho
    · refine (h1 a b hab).2.kept rfl (oq _ fun e => hc (h2 a b κ i hab he e)) fun k => ?_
      obtain ⟨q1, q2, q3⟩ := hv a b hc k
      exact mV_same q1 q2 q3
  · rw [hE] at x y; exact h2 a b a' b' x y
  · rw [hE] at x ⊢
    by_cases hc : a = κ ∧ b = i
    · obtain ⟨rfl, rfl⟩ := hc; exact hF k y
    · rw [(hv a b hc k).2.2] at y; exact h3 a b k x y
/-- a cell comes, at a new address -/
theorem Wd.new {E : GE} {base : Nat} {M : Mem} {ad : AD} {H H1 : Heap} {κ i q : Nat} (h : Wd E base M ad H) (he : mE M κ i = false) (hq : q = H.size) (hb : base ≤ q) (o1 : ∀ z : Nat, z < q → H1[z]? = H[z]?)
    (ho : oAt E (wN M κ i) (fun a b => if a = κ ∧ b = i then q else ad a b) H1 κ i) : Wd E base (wN M κ i) (fun a b => if a = κ ∧ b = i then q else ad a b) H1 := by
  obtain ⟨h1, h2, h3⟩ := h
  have ev : ∀ a b, mE (wN M κ i) a b = true → ¬ (a = κ ∧ b = i) → mE M a b = true := fun a b x y => by
    simp only [mE, wN, if_neg y] at x; exact x
  refine ⟨fun a b hab => ?_, fun a b a' b' x y z => ?_, fun a b k x y => ?_⟩
  · by_cases hc : a = κ ∧ b = i
    · obtain ⟨rfl, rfl⟩ := hc
      exact ⟨by simp; exact hb, ho⟩
    · have hm := ev a b hab hc
      obtain ⟨p1, p2⟩ := h1 a b hm
      refine ⟨by simp only [if_neg hc]; exact p1, p2.kept (by simp only [if_neg hc]) (o1 _ (by rw [hq]; exact p2.lt)) fun k => ?_⟩
      have e1 : mI (wN M κ i) a b k = mI M a b k := by simp only [mI, wN, if_neg hc]
      have e2 : mL (wN M κ i) a b k = mL M a b k := by simp only [mL, wN, if_neg hc]
      have e3 : mF (wN M κ i) a b k = mF M a b k := by simp only [mF, wN, if_neg hc]
      unfold mV
      rw [e1, e2, e3]
      split
      · rfl
      · rfl
      · by_cases hf : mF M a b k = true
        · have hx := h3 a b k hm hf
          have hn : ¬ ((kR a b k).1 = κ ∧ (kR a b k).2 = i) := fun e => by rw [e.1, e.2, he] at hx; cases hx
          rw [if_pos hf, if_pos hf]; simp only [if_neg hn]
        · rw [if_neg hf, if_neg hf]
  · by_cases hc : a = κ ∧ b = i
    · by_cases hd : a' = κ ∧ b' = i
      · exact ⟨hc.1.trans hd.1.symm, hc.2.trans hd.2.symm⟩
      · simp only [if_pos hc, if_neg hd] at z
        have := (h1 a' b' (ev a' b' y hd)).2.lt
        omega
    · by_cases hd : a' = κ ∧ b' = i
      · simp only [if_neg hc, if_pos hd] at z
        have := (h1 a b (ev a b x hc)).2.lt
        omega
      · simp only [if_neg hc, if_neg hd] at z
        exact h2 a b a' b' (ev a b x hc) (ev a' b' y hd) z
  · by_cases hc : a = κ ∧ b = i
    · simp only [mF, wN, if_pos hc] at y; cases y
    · simp only [mF, wN, if_neg hc] at y
      have hx := h3 a b k (ev a b x hc) y
      simp only [mE, wN] at hx ⊢
      split
      · rfl
      · exact hx
/-- a cell is forgotten to which no reference leads -/
theorem Wd.drop {E : GE} {base : Nat} {M : Mem} {ad : AD} {H : Heap} {κ i : Nat} (h : Wd E base M ad H) (hn : ∀ a b k, mE M a b = true → mF M a b k = true → ¬ (a = κ ∧ b = i) → ¬ ((kR a b k).1 = κ ∧ (kR a b k).2 = i)) : Wd E base (wD M κ i) ad H := by
  obtain ⟨h1, h2, h3⟩ := h
  have ev : ∀ a b, mE (wD M κ i) a b = true → ¬ (a = κ ∧ b = i) ∧ mE M a b = true := fun a b x => by
    by_cases hc : a = κ ∧ b = i
    · simp only [mE, wD, if_pos hc] at x; cases x
    · simp only [mE, wD, if_neg hc] at x; exact ⟨hc, x⟩
  refine ⟨fun a b hab => ?_, fun a b a' b' x y z => h2 a b a' b' (ev a b x).2 (ev a' b' y).2 z, fun a b k x y => ?_⟩
  · obtain ⟨hc, hm⟩ := ev a b hab
    exact ⟨(h1 a b hm).1, (h1 a b hm).2.kept rfl rfl fun k => mV_same rfl rfl rfl⟩
  · obtain ⟨hc, hm⟩ := ev a b x
    have hx := h3 a b k hm y
    have := hn a b k hm y hc
    simp only [mE, wD, if_neg this]
    exact hx
