/-! the face: who is meant -/
def HereX (S : SS) (x : Int32) : Prop := ∃ j, j < 6 ∧ x = nI j ∧ hr S j = true
theorem not_hereX {S : SS} {x : Int32} {j : Nat} (hj : j < 6) (hx : x = nI j) (hf : hr S j = false) : ¬ HereX S x := by
  rintro ⟨k, hk, e, hh⟩
  rw [hx] at e
  have := (nI_eq (a := j) (b := k) (by omega) (by omega)).mp e
  subst this
  rw [hf] at hh; cases hh
theorem out_hereX {S : SS} {x : Int32} (h : x < 0 ∨ nI 6 ≤ x) : ¬ HereX S x := by
  rintro ⟨k, hk, e, -⟩
  subst e
  rcases h with h | h
  · exact nI_pos (n := k) (by omega) h
  · exact absurd ((nI_leI (by omega) (by omega)).mp h) (by omega)
theorem p_known {S : SS} {M : Mem} {Q : Nat → Mem → Prop} {X : Nat → Mem → Prop} {x : Int32} (h : RepC S M) (hX : ¬ HereX S x → X 1 M) (hQ : ∀ j, j < 6 → x = nI j → hr S j = true → Q j M) : w_X4_known M x Q X := by
  refine ⟨h.e 4, ?_⟩
  unfold w_X4_find b_X4_find_13
  refine ⟨fun hneg => ⟨fun _ => hX (out_hereX (Or.inl hneg)), fun r hr => (by cases hr)⟩, fun hpos => ⟨h.e 4, h.f 0, h.e 10, fun hlt => ?_, fun hge => ⟨fun _ => hX (out_hereX (Or.inr ?_)), fun r hr => (by cases hr)⟩⟩⟩
  · rcases pk_ix x (n := 6) (by decide) with z | z | ⟨j, hj, hx⟩
    · exact absurd z hpos
    · exact absurd (show x < nI 6 from hlt) (by rw [Int32.not_lt]; exact z)
    · subst hx
      rw [cl j (by omega), h.pres hj]
      refine ⟨pk_in j 6 hj, fun hf => ⟨fun e => (by cases e), fun r hr => (by cases hr; exact hQ j hj rfl hf)⟩, fun hf => ⟨fun _ => hX (not_hereX hj rfl hf), fun r hr => (by cases hr)⟩⟩
  · exact Int32.not_lt.mp hge
theorem p_isPeerM {S : SS} {M : Mem} {Q : Int32 → Mem → Prop} {x : Int32} (h : RepM S M) (ok : OKS S) (h0 : ¬ HereX S x → Q 0 M) (h1 : ∀ j, j < 6 → x = nI j → hr S j = true → Q 1 M) : w_X5_isPeer M x Q := by
  have n6 := ok.n
  refine ⟨fun hneg => h0 (out_hereX (Or.inl hneg)), fun hpos => ⟨h.e 5, ?_⟩⟩
  rw [h.n]
  rcases pk_ix x (n := 6) (by decide) with z | z | ⟨j, hj, hx⟩
  · exact absurd z hpos
  · exact ⟨fun _ => h0 (out_hereX (Or.inr z)), fun y => absurd (Int32.le_trans (nI_le (by omega) (by omega)) z) y⟩
  · subst hx
    refine pk_le (sN S) j (fun y => h0 (not_hereX hj rfl (hr_hi ok y))) (fun y => ⟨h.f 4, h.e 34, pk_in j 6 hj, ?_⟩)
    rw [cl j (by omega)]
    exact h.here ok hj (fun hf => h0 (not_hereX hj rfl hf)) (fun hf => h1 j hj rfl hf)
theorem p_checkPiece {M : Mem} {Q : Mem → Prop} {X : Nat → Mem → Prop} {x : Int32} (hX : (∀ p, p < 12 → x ≠ nI p) → X 1 M) (hQ : ∀ p, p < 12 → x = nI p → Q M) : w_X4_checkPiece M x Q X := by
  unfold w_X4_checkPiece b_X4_checkPiece_10
  refine ⟨fun hneg => hX (fun p hp e => by subst e; exact nI_pos (n := p) (by omega) hneg), fun hpos => ⟨fun hlt => ?_, fun hge => hX (fun p hp e => by subst e; exact hge ((nI_ltI (a := p) (b := 12) (by omega) (by omega)).mpr hp))⟩⟩
  rcases pk_ix x (n := 12) (by decide) with z | z | ⟨j, hj, hx⟩
  · exact absurd z hpos
  · exact absurd (show x < nI 12 from hlt) (by rw [Int32.not_lt]; exact z)
  · exact hQ j hj hx
theorem p_isPiece {M : Mem} {Q : Int32 → Mem → Prop} {x : Int32} (h0 : (∀ p, p < 12 → x ≠ nI p) → Q 0 M) (h1 : ∀ p, p < 12 → x = nI p → Q 1 M) : w_X5_isPiece M x Q := by
  refine ⟨fun hneg => h0 (fun p hp e => by subst e; exact nI_pos (n := p) (by omega) hneg), fun hpos => ?_⟩
  rcases pk_ix x (n := 12) (by decide) with z | z | ⟨j, hj, hx⟩
  · exact absurd z hpos
  · exact ⟨fun _ => h0 (fun p hp e => by subst e; exact absurd ((nI_leI (by omega) (by omega)).mp z) (by omega)), fun y => absurd z y⟩
  · subst hx
    exact pk_le 12 j (fun z => absurd z (by omega)) (fun _ => h1 j hj rfl)
/-- the reference's remark of what it would throw -/
theorem p_fits {S : SS} {M : Mem} {Q : Int32 → Mem → Prop} {x : Int32} (c : Nat) (hx : x = nI c) (hc : c ≤ 2) (h : RepM S M) (hQ : ∀ M1, M1 = wI M 5 0 0 (nI c) → RepM S M1 → Ag (fun κ _ _ => κ = 5) M M1 → mI M1 5 0 0 = nI c → Q (if c = 0 then 1 else 0) M1) : w_X5_fits M x Q := by
  subst hx
  refine ⟨h.e 5, fun M2 h2 => ?_⟩
  have g : Ag (fun κ a k => κ = 5 ∧ a = 0 ∧ k = 0) M M2 := Ag.rf.wI h2 ⟨rfl, rfl, rfl⟩
  have r := hQ M2 h2 (h.ag g (fun κ a k z => by unfold TrM; omega)) (g.mono (fun κ a k z => z.1)) (by rw [h2, mI_wI, if_pos ⟨rfl, rfl, rfl⟩])
  exact pk_eq c 0 (fun z => by rw [if_pos z] at r; exact r) (fun z => by rw [if_neg z] at r; exact r)
