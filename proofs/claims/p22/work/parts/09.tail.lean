/-! a walk's goal at a place; the words' rows -/
def WL (p : Program) (l : Launch) (e : Env) (R : Room) (s : State) (m : MethodId) (args : Array Value) (below : List Frame) (meth : Method) (c : Code) (Q : State → Prop) (E : GE) (base nL : Nat) (M : Mem) (ad : AD) (pc : Nat) (lv : List (Nat × Value)) (st : List Value) (cells slots : Nat) : Prop :=
  ∀ (H : Heap) (locs : List Loc) (ls : Array Slot), Wd E base M ad H → va_S (fun q : Nat => base ≤ q) s.heap H locs → lv_has ls nL lv → W p l e R s m args below meth c H locs cells slots Q (F0 m pc ls st)
def AG (fr : Nat → Nat → Bool) (ad ad1 : AD) : Prop := ∀ a b, fr a b = false → ad a b = ad1 a b
theorem AG_refl {fr : Nat → Nat → Bool} {ad : AD} : AG fr ad ad := fun _ _ _ => rfl
theorem AG_eq {fr : Nat → Nat → Bool} {ad ad1 : AD} (h : ad = ad1) : AG fr ad ad1 := fun _ _ _ => by rw [h]
theorem AG_new {fr : Nat → Nat → Bool} {ad ad1 ad2 : AD} {κ i q : Nat} (h : AG fr ad ad1) (hf : fr κ i = true) (h2 : ad2 = upA ad1 κ i q) : AG fr ad ad2 := fun a b hab => by
  rw [h a b hab, h2]
  unfold upA
  rw [if_neg (fun z => by rw [z.1, z.2, hf] at hab; cases hab)]
theorem AG_call {fr fr2 : Nat → Nat → Bool} {ad ad1 ad2 : AD} (h : AG fr ad ad1) (h2 : AG fr2 ad1 ad2) (hs : ∀ a b, fr a b = false → fr2 a b = false) : AG fr ad ad2 := fun a b hab => by
  rw [h a b hab, h2 a b (hs a b hab)]
theorem upA_ne {ad ad1 : AD} {κ i q a b : Nat} (h : ad1 = upA ad κ i q) (hn : ¬ a = κ) : ad a b = ad1 a b := by
  rw [h]; unfold upA; rw [if_neg (fun z => hn z.1)]
theorem memW {w : Cond} (h : w ∈ lw_tbl) (hg : goodWord w = true) : w ∈ WSG := List.mem_filter.mpr ⟨h, hg⟩
theorem memN {w : Cond} (h : w ∈ lw_tbl) (hg : isMv w = true) : w ∈ NG := List.mem_filter.mpr ⟨h, hg⟩
theorem mE_wN {M M1 : Mem} {κ i a b : Nat} (h : M1 = wN M κ i) (he : mE M a b = true) : mE M1 a b = true := by
  rw [h]; show (if a = κ ∧ b = i then true else M.1 a b) = true
  split
  · rfl
  · exact he
theorem mE_wN1 {M M1 : Mem} {κ i : Nat} (h : M1 = wN M κ i) : mE M1 κ i = true := by
  rw [h]; show (if κ = κ ∧ i = i then true else M.1 κ i) = true
  rw [if_pos ⟨rfl, rfl⟩]
theorem sw_out {x : Int32} (h0 : ¬ x = 0) (h1 : ¬ x = 1) (h2 : ¬ x = 2) (h3 : ¬ x = 3) (h4 : ¬ x = 4) (h5 : ¬ x = 5) (h6 : ¬ x = 6) : x.toInt < 0 ∨ 6 < x.toInt := by
  have n0 := lv_neT (a := 0) h0 rfl
  have n1 := lv_neT (a := 1) h1 rfl
  have n2 := lv_neT (a := 2) h2 rfl
  have n3 := lv_neT (a := 3) h3 rfl
  have n4 := lv_neT (a := 4) h4 rfl
  have n5 := lv_neT (a := 5) h5 rfl
  have n6 := lv_neT (a := 6) h6 rfl
  omega
/-- no reference leads to the count of holders -/
theorem kR62 (a b k : Nat) : ¬ ((kR a b k).1 = 62 ∧ (kR a b k).2 = 0) := by
  unfold kR
  split
  · exact fun z => absurd z.1 (by omega)
  · intro z
    have h : kT a k ≤ 28 := by
      unfold kT
      repeat' split
      all_goals omega
    have := z.1
    simp only at this
    omega
