/-! a call of the law: what the class answers, what the reference -/
def AnsL (S1 S : SS) (C E1 E2 : Prop) (V : Int64) (M : Mem) (w : (Int32 → Mem → Prop) → Prop) : Prop := ∀ Q : Int32 → Mem → Prop, (C → ∀ M1, Half S1 S M1 → mL M1 60 0 0 = V → Q 0 M1) → (E1 → Q 1 M) → (E2 → Q 2 M) → w Q
def AnsM (S1 S : SS) (C E1 E2 : Prop) (V : Int32) (M : Mem) (w : (Int32 → Mem → Prop) → Prop) : Prop := ∀ Q : Int32 → Mem → Prop, (C → Half S1 S M ∧ ∀ M1, Both S1 M1 → mI M1 5 0 0 = nI 0 → mL M1 60 0 0 = mL M 60 0 0 → Q V M1) → (E1 → ∀ M1, M1 = wI M 5 0 0 1 → mI M1 5 0 0 = nI 1 → Q 0 M1) → (E2 → ∀ M1, M1 = wI M 5 0 0 2 → mI M1 5 0 0 = nI 2 → Q 0 M1) → w Q
theorem bothOf {S : SS} {M : Mem} (h : Half S S M ∨ Both S M) : Both S M := by
  rcases h with h | h
  · exact ⟨h.1, h.2.2.1, h.2.2.2⟩
  · exact h
theorem repOf {S1 S : SS} {M : Mem} (h : Half S1 S M ∨ Both S M) : RepM S M := by
  rcases h with h | h
  · exact h.2.2.2
  · exact h.2.2
theorem ask_end {S1 S : SS} {M : Mem} {C E1 E2 : Prop} {V : Int32} {wL : (Int32 → Mem → Prop) → Prop} {wM : Mem → (Int32 → Mem → Prop) → Prop} {F : Int32 → Mem → Prop} {A B B2 : Mem → Prop} (hb : Both S M) (hL : AnsL S1 S C E1 E2 V.toInt64 M wL) (hM : ∀ M1, Half S1 S M1 ∨ Both S M1 → AnsM S1 S C E1 E2 V M1 (wM M1)) (x1 : C → E1 → False) (x2 : C → E2 → False) (x3 : E1 → E2 → False)
    (hF : ∀ r M1, (mE M1 5 0 = true ∧ wM M1 (fun q M2 => mE M2 5 0 = true ∧ w_X5_thrown M2 (fun t M3 => (t = r → ((r = 0 → (mE M3 60 0 = true ∧ (vp_in 0 1 ∧ ((lg_cmp (mL M3 60 0 ((0 : Int32).toNatClampNeg)) q.toInt64 = 0 → A M3) ∧ (¬ lg_cmp (mL M3 60 0 ((0 : Int32).toNatClampNeg)) q.toInt64 = 0 → B M3))))) ∧ (¬ r = 0 → A M3))) ∧ (¬ t = r → B2 M3)))) → F r M1)
    (hA : ∀ S2 M1, Both S2 M1 → A M1) : wL F := by
  refine hL F (fun c M1 hf v1 => hF 0 M1 ⟨hf.2.2.2.e 5, hM M1 (Or.inl hf) _ (fun _ => ⟨hf, fun M2 b2 t2 v2 => p_end b2 t2 rfl (by omega) (fun _ => v2.trans v1) (hA _ _ b2)⟩) (fun e => (x1 c e).elim) (fun e => (x2 c e).elim)⟩) (fun e => hF 1 M ⟨hb.2.2.e 5, hM M (Or.inr hb) _ (fun c => (x1 c e).elim) (fun _ M2 e2 t2 => p_end (hb.w5 e2) t2 rfl (by omega) (fun z => absurd z (by decide)) (hA _ _ (hb.w5 e2))) (fun e2 => (x3 e e2).elim)⟩) (fun e => hF 2 M ⟨hb.2.2.e 5, hM M (Or.inr hb) _ (fun c => (x2 c e).elim) (fun e1 => (x3 e1 e).elim) (fun _ M2 e2 t2 => p_end (hb.w5 e2) t2 rfl (by omega) (fun z => absurd z (by decide)) (hA _ _ (hb.w5 e2)))⟩)
theorem p_endB {S : SS} {M : Mem} {A B2 : Mem → Prop} {D : Mem → Int64 → Int64 → Prop} {c : Nat} {r q : Int32} (hb : Both S M) (hc : mI M 5 0 0 = nI c) (hr : r = nI c) (hc2 : c ≤ 2) (hv : c = 0 → (q = 0 ∧ mL M 60 0 0 = 0) ∨ (q = 1 ∧ mL M 60 0 0 = 1)) (hA : A M) (hD : ∀ s, D M s s) :
    mE M 5 0 = true ∧ w_X5_thrown M (fun t M3 => (t = r → ((r = 0 → (mE M3 60 0 = true ∧ (vp_in 0 1 ∧ ((q = 0 → D M3 0 (mL M3 60 0 ((0 : Int32).toNatClampNeg))) ∧ (¬ q = 0 → D M3 1 (mL M3 60 0 ((0 : Int32).toNatClampNeg))))))) ∧ (¬ r = 0 → A M3))) ∧ (¬ t = r → B2 M3)) := by
  have e5 := hb.2.2.e 5
  refine ⟨e5, e5, fun _ => ⟨fun hr0 => ⟨hb.2.1.2.2.2.2, pk_in 0 1 (by omega), ?_⟩, fun _ => hA⟩, fun z => absurd (hc.trans hr.symm) z⟩
  rw [hr] at hr0
  rcases hv ((nI_eq (a := c) (b := 0) (by omega) (by omega)).mp hr0) with ⟨rfl, z⟩ | ⟨rfl, z⟩
  · refine t0 ?_
    rw [show mL M 60 0 ((0 : Int32).toNatClampNeg) = 0 from z]
    exact hD 0
  · refine t1 ?_
    rw [show mL M 60 0 ((0 : Int32).toNatClampNeg) = 1 from z]
    exact hD 1
theorem ask_endB {S1 S : SS} {M : Mem} {C E1 E2 : Prop} {V : Int32} {W : Int64} {wL : (Int32 → Mem → Prop) → Prop} {wM : Mem → (Int32 → Mem → Prop) → Prop} {F : Int32 → Mem → Prop} {A B2 : Mem → Prop} {D : Mem → Int64 → Int64 → Prop} (hb : Both S M) (hL : AnsL S1 S C E1 E2 W M wL) (hM : ∀ M1, Half S1 S M1 ∨ Both S M1 → AnsM S1 S C E1 E2 V M1 (wM M1)) (x1 : C → E1 → False) (x2 : C → E2 → False) (x3 : E1 → E2 → False) (hV : (V = 0 ∧ W = 0) ∨ (V = 1 ∧ W = 1))
    (hF : ∀ r M1, (mE M1 5 0 = true ∧ wM M1 (fun q M2 => mE M2 5 0 = true ∧ w_X5_thrown M2 (fun t M3 => (t = r → ((r = 0 → (mE M3 60 0 = true ∧ (vp_in 0 1 ∧ ((q = 0 → D M3 0 (mL M3 60 0 ((0 : Int32).toNatClampNeg))) ∧ (¬ q = 0 → D M3 1 (mL M3 60 0 ((0 : Int32).toNatClampNeg))))))) ∧ (¬ r = 0 → A M3))) ∧ (¬ t = r → B2 M3)))) → F r M1)
    (hA : ∀ S2 M1, Both S2 M1 → A M1) (hD : ∀ S2 M1 s, Both S2 M1 → D M1 s s) : wL F := by
  refine hL F (fun c M1 hf v1 => hF 0 M1 ⟨hf.2.2.2.e 5, hM M1 (Or.inl hf) _ (fun _ => ⟨hf, fun M2 b2 t2 v2 => p_endB b2 t2 rfl (by omega) (fun _ => ?_) (hA _ _ b2) (fun s => hD _ _ s b2)⟩) (fun e => (x1 c e).elim) (fun e => (x2 c e).elim)⟩) (fun e => hF 1 M ⟨hb.2.2.e 5, hM M (Or.inr hb) _ (fun c => (x1 c e).elim) (fun _ M2 e2 t2 => p_endB (hb.w5 e2) t2 rfl (by omega) (fun z => absurd z (by decide)) (hA _ _ (hb.w5 e2)) (fun s => hD _ _ s (hb.w5 e2))) (fun e2 => (x3 e e2).elim)⟩) (fun e => hF 2 M ⟨hb.2.2.e 5, hM M (Or.inr hb) _ (fun c => (x2 c e).elim) (fun e1 => (x3 e1 e).elim) (fun _ M2 e2 t2 => p_endB (hb.w5 e2) t2 rfl (by omega) (fun z => absurd z (by decide)) (hA _ _ (hb.w5 e2)) (fun s => hD _ _ s (hb.w5 e2)))⟩)
  rw [v2, v1]; exact hV
/-! the calls, one by one -/
theorem aL_holds {S : SS} {M : Mem} {a : Int32} (hb : Both S M) : AnsL S S (HereX S a) (¬ HereX S a) False (nI (sHeld S a.toNatClampNeg)).toInt64 M (w_L_holds M a) := fun Q h1 h0 _ => pL_holds hb (fun j hj hx hh M1 b1 v1 => h1 ⟨j, hj, hx, hh⟩ M1 (Half.same b1) (by rw [hx, cl j (by omega)]; exact v1)) h0
theorem aM_holds {S : SS} {M : Mem} {a : Int32} (hb : Both S M) : AnsM S S (HereX S a) (¬ HereX S a) False (nI (sHeld S a.toNatClampNeg)) M (w_X5_holds M a) := fun Q h1 h0 _ => pM_holds hb (fun j hj hx hh M1 e b1 v1 => by
    have r := (h1 ⟨j, hj, hx, hh⟩).2 M1 b1 v1 (by rw [e]; rfl)
    rw [hx, cl j (by omega)] at r; exact r) (fun z M1 e b1 v1 => h0 z M1 e v1)
theorem aL_holdsByLog {S : SS} {M : Mem} {a : Int32} (hb : Both S M) : AnsL S S (HereX S a) (¬ HereX S a) False (nI (sHeld S a.toNatClampNeg)).toInt64 M (w_L_holdsByLog M a) := fun Q h1 h0 _ => pL_holdsByLog hb (fun j hj hx hh M1 b1 v1 => h1 ⟨j, hj, hx, hh⟩ M1 (Half.same b1) (by rw [hx, cl j (by omega)]; exact v1)) h0
theorem aM_holdsByLog {S : SS} {M : Mem} {a : Int32} (hb : Both S M) : AnsM S S (HereX S a) (¬ HereX S a) False (nI (sHeld S a.toNatClampNeg)) M (w_X5_holdsByLog M a) := fun Q h1 h0 _ => pM_holdsByLog hb (fun j hj hx hh M1 e b1 v1 => by
    have r := (h1 ⟨j, hj, hx, hh⟩).2 M1 b1 v1 (by rw [e]; rfl)
    rw [hx, cl j (by omega)] at r; exact r) (fun z M1 e b1 v1 => h0 z M1 e v1)
theorem aL_chosen {S : SS} {M : Mem} {a : Int32} (hb : Both S M) : AnsL S S (HereX S a) (¬ HereX S a) False (nI (chosen S a.toNatClampNeg)).toInt64 M (w_L_chosen M a) := fun Q h1 h0 _ => pL_chosen hb (fun j hj hx hh M1 b1 v1 => h1 ⟨j, hj, hx, hh⟩ M1 (Half.same b1) (by rw [hx, cl j (by omega)]; exact v1)) h0
theorem aM_chosen {S : SS} {M : Mem} {a : Int32} (hb : Both S M) : AnsM S S (HereX S a) (¬ HereX S a) False (nI (chosen S a.toNatClampNeg)) M (w_X5_chosen M a) := fun Q h1 h0 _ => pM_chosen hb (fun j hj hx hh M1 e b1 v1 => by
    have r := (h1 ⟨j, hj, hx, hh⟩).2 M1 b1 v1 (by rw [e]; rfl)
    rw [hx, cl j (by omega)] at r; exact r) (fun z M1 e b1 v1 => h0 z M1 e v1)
theorem aL_doubles {S : SS} {M : Mem} {a : Int32} (hb : Both S M) : AnsL S S (HereX S a) (¬ HereX S a) False (nI (sDb S a.toNatClampNeg)).toInt64 M (w_L_doubles M a) := fun Q h1 h0 _ => pL_doubles hb (fun j hj hx hh M1 b1 v1 => h1 ⟨j, hj, hx, hh⟩ M1 (Half.same b1) (by rw [hx, cl j (by omega)]; exact v1)) h0
theorem aM_doubles {S : SS} {M : Mem} {a : Int32} (hb : Both S M) : AnsM S S (HereX S a) (¬ HereX S a) False (nI (sDb S a.toNatClampNeg)) M (w_X5_doubles M a) := fun Q h1 h0 _ => pM_doubles hb (fun j hj hx hh M1 e b1 v1 => by
    have r := (h1 ⟨j, hj, hx, hh⟩).2 M1 b1 v1 (by rw [e]; rfl)
    rw [hx, cl j (by omega)] at r; exact r) (fun z M1 e b1 v1 => h0 z M1 e v1)
theorem aL_shown {S : SS} {M : Mem} {a b : Int32} (hb : Both S M) : AnsL S S (HereX S a ∧ HereX S b) (¬ HereX S a ∨ ¬ HereX S b) False (nI (shown S a.toNatClampNeg b.toNatClampNeg)).toInt64 M (w_L_shown M a b) := fun Q h1 h0 _ => pL_shown hb (fun i j hi hj hx hy hh hj2 M1 b1 v1 => h1 ⟨⟨i, hi, hx, hh⟩, ⟨j, hj, hy, hj2⟩⟩ M1 (Half.same b1) (by rw [hx, hy, cl i (by omega), cl j (by omega)]; exact v1)) h0
theorem aM_shown {S : SS} {M : Mem} {a b : Int32} (hb : Both S M) : AnsM S S (HereX S a ∧ HereX S b) (¬ HereX S a ∨ ¬ HereX S b) False (nI (shown S a.toNatClampNeg b.toNatClampNeg)) M (w_X5_shown M a b) := fun Q h1 h0 _ => pM_shown hb (fun i j hi hj hx hy hh hj2 M1 e b1 v1 => by
    have r := (h1 ⟨⟨i, hi, hx, hh⟩, ⟨j, hj, hy, hj2⟩⟩).2 M1 b1 v1 (by rw [e]; rfl)
    rw [hx, hy, cl i (by omega), cl j (by omega)] at r; exact r) (fun z M1 e b1 v1 => h0 z M1 e v1)
theorem aL_got {S : SS} {M : Mem} {a b : Int32} (hb : Both S M) : AnsL S S (HereX S a ∧ HereX S b) (¬ HereX S a ∨ ¬ HereX S b) False (nI (sGot S a.toNatClampNeg b.toNatClampNeg)).toInt64 M (w_L_got M a b) := fun Q h1 h0 _ => pL_got hb (fun i j hi hj hx hy hh hj2 M1 b1 v1 => h1 ⟨⟨i, hi, hx, hh⟩, ⟨j, hj, hy, hj2⟩⟩ M1 (Half.same b1) (by rw [hx, hy, cl i (by omega), cl j (by omega)]; exact v1)) h0
theorem aM_got {S : SS} {M : Mem} {a b : Int32} (hb : Both S M) : AnsM S S (HereX S a ∧ HereX S b) (¬ HereX S a ∨ ¬ HereX S b) False (nI (sGot S a.toNatClampNeg b.toNatClampNeg)) M (w_X5_got M a b) := fun Q h1 h0 _ => pM_got hb (fun i j hi hj hx hy hh hj2 M1 e b1 v1 => by
    have r := (h1 ⟨⟨i, hi, hx, hh⟩, ⟨j, hj, hy, hj2⟩⟩).2 M1 b1 v1 (by rw [e]; rfl)
    rw [hx, hy, cl i (by omega), cl j (by omega)] at r; exact r) (fun z M1 e b1 v1 => h0 z M1 e v1)
theorem aL_strikes {S : SS} {M : Mem} {a b : Int32} (hb : Both S M) : AnsL S S (HereX S a ∧ HereX S b) (¬ HereX S a ∨ ¬ HereX S b) False (nI (sSt S a.toNatClampNeg b.toNatClampNeg)).toInt64 M (w_L_strikes M a b) := fun Q h1 h0 _ => pL_strikes hb (fun i j hi hj hx hy hh hj2 M1 b1 v1 => h1 ⟨⟨i, hi, hx, hh⟩, ⟨j, hj, hy, hj2⟩⟩ M1 (Half.same b1) (by rw [hx, hy, cl i (by omega), cl j (by omega)]; exact v1)) h0
theorem aM_strikes {S : SS} {M : Mem} {a b : Int32} (hb : Both S M) : AnsM S S (HereX S a ∧ HereX S b) (¬ HereX S a ∨ ¬ HereX S b) False (nI (sSt S a.toNatClampNeg b.toNatClampNeg)) M (w_X5_strikes M a b) := fun Q h1 h0 _ => pM_strikes hb (fun i j hi hj hx hy hh hj2 M1 e b1 v1 => by
    have r := (h1 ⟨⟨i, hi, hx, hh⟩, ⟨j, hj, hy, hj2⟩⟩).2 M1 b1 v1 (by rw [e]; rfl)
    rw [hx, hy, cl i (by omega), cl j (by omega)] at r; exact r) (fun z M1 e b1 v1 => h0 z M1 e v1)
theorem aL_isBanned {S : SS} {M : Mem} {a b : Int32} (hb : Both S M) : AnsL S S (HereX S a ∧ HereX S b) (¬ HereX S a ∨ ¬ HereX S b) False (nI (b2 ((sBan S a.toNatClampNeg).testBit b.toNatClampNeg))).toInt64 M (w_L_isBanned M a b) := fun Q h1 h0 _ => pL_isBanned hb (fun i j hi hj hx hy hh hj2 M1 b1 v1 => h1 ⟨⟨i, hi, hx, hh⟩, ⟨j, hj, hy, hj2⟩⟩ M1 (Half.same b1) (by rw [hx, hy, cl i (by omega), cl j (by omega)]; exact v1)) h0
theorem aM_isBanned {S : SS} {M : Mem} {a b : Int32} (hb : Both S M) : AnsM S S (HereX S a ∧ HereX S b) (¬ HereX S a ∨ ¬ HereX S b) False (nI (b2 ((sBan S a.toNatClampNeg).testBit b.toNatClampNeg))) M (w_X5_isBanned M a b) := fun Q h1 h0 _ => pM_isBanned hb (fun i j hi hj hx hy hh hj2 M1 e b1 v1 => by
    have r := (h1 ⟨⟨i, hi, hx, hh⟩, ⟨j, hj, hy, hj2⟩⟩).2 M1 b1 v1 (by rw [e]; rfl)
    rw [hx, hy, cl i (by omega), cl j (by omega)] at r; exact r) (fun z M1 e b1 v1 => h0 z M1 e v1)
def PieceX (x : Int32) : Prop := ∃ p, p < 12 ∧ x = nI p
def NoPiece (x : Int32) : Prop := ∀ p, p < 12 → x ≠ nI p
theorem piece_x {x : Int32} (h : PieceX x) (h2 : NoPiece x) : False := by
  obtain ⟨p, hp, e⟩ := h
  exact h2 p hp e
theorem aL_holders {S : SS} {M : Mem} {a : Int32} (hb : Both S M) : AnsL S S (PieceX a) (NoPiece a) False (nI (cH S a.toNatClampNeg 6)).toInt64 M (w_L_holders M a) := fun Q h1 h0 _ => pL_holders hb (fun p hp hx M1 b1 v1 => h1 ⟨p, hp, hx⟩ M1 (Half.same b1) (by rw [hx, cl p (by omega)]; exact v1)) h0
theorem aM_holders {S : SS} {M : Mem} {a : Int32} (hb : Both S M) : AnsM S S (PieceX a) (NoPiece a) False (nI (cH S a.toNatClampNeg 6)) M (w_X5_holders M a) := fun Q h1 h0 _ => pM_holders hb (fun p hp hx M1 e b1 v1 => by
    have r := (h1 ⟨p, hp, hx⟩).2 M1 b1 v1 (by rw [e]; rfl)
    rw [hx, cl p (by omega)] at r; exact r) (fun z M1 e b1 v1 => h0 z M1 e v1)
theorem aL_blocks {S : SS} {M : Mem} {a b : Int32} (hb : Both S M) : AnsL S S (HereX S a ∧ PieceX b) (¬ HereX S a ∨ NoPiece b) False (nI (if (sHeld S a.toNatClampNeg).testBit b.toNatClampNeg then 15 else nib (sHad S a.toNatClampNeg) b.toNatClampNeg)).toInt64 M (w_L_blocks M a b) := fun Q h1 h0 _ => pL_blocks hb (fun i p hi hp hx hy hh M1 b1 v1 => h1 ⟨⟨i, hi, hx, hh⟩, ⟨p, hp, hy⟩⟩ M1 (Half.same b1) (by rw [hx, hy, cl i (by omega), cl p (by omega)]; exact v1)) h0
theorem aM_blocks {S : SS} {M : Mem} {a b : Int32} (hb : Both S M) : AnsM S S (HereX S a ∧ PieceX b) (¬ HereX S a ∨ NoPiece b) False (nI (if (sHeld S a.toNatClampNeg).testBit b.toNatClampNeg then 15 else nib (sHad S a.toNatClampNeg) b.toNatClampNeg)) M (w_X5_blocks M a b) := fun Q h1 h0 _ => pM_blocks hb (fun i p hi hp hx hy hh M1 e b1 v1 => by
    have r := (h1 ⟨⟨i, hi, hx, hh⟩, ⟨p, hp, hy⟩⟩).2 M1 b1 v1 (by rw [e]; rfl)
    rw [hx, hy, cl i (by omega), cl p (by omega)] at r; exact r) (fun z M1 e b1 v1 => h0 z M1 e v1)
/-! those that change something -/
theorem aL_join {S : SS} {M : Mem} {a : Int32} (v : Nat) (hv : v ≤ 1) (hy : a = nI v) (hb : Both S M) : AnsL (jS S (hvJ v)) S (sN S ≤ 5) (sN S = 6) False (nI (sN S)).toInt64 M (w_L_join M a) := fun Q h1 h0 _ => pL_join v hv hy hb h1 h0
theorem aM_join {S : SS} {M : Mem} {a : Int32} (v : Nat) (hv : v ≤ 1) (hy : a = nI v) (hr' : RepM S M) (ok : OKS S) : AnsM (jS S (hvJ v)) S (sN S ≤ 5) (sN S = 6) False (nI (sN S)) M (w_X5_join M a) := fun Q h1 h0 _ => pM_join v hv hy hr' ok h1 h0
theorem aL_leave {S : SS} {M : Mem} {a : Int32} (hb : Both S M) : AnsL (sU S 2 a.toNatClampNeg 0 0) S (HereX S a) (¬ HereX S a) False (nI (pcT (sHeld S a.toNatClampNeg) 12)).toInt64 M (w_L_leave M a) := fun Q h1 h0 _ => pL_leave hb (fun j hj hx hh M1 b1 v1 => by
    have e : a.toNatClampNeg = j := by rw [hx]; exact cl j (by omega)
    rw [e] at h1
    exact h1 ⟨j, hj, hx, hh⟩ M1 b1 v1) h0
theorem aM_leave {S : SS} {M : Mem} {a : Int32} (hr' : RepM S M) (ok : OKS S) : AnsM (sU S 2 a.toNatClampNeg 0 0) S (HereX S a) (¬ HereX S a) False (nI (pcT (sHeld S a.toNatClampNeg) 12)) M (w_X5_leave M a) := fun Q h1 h0 _ => pM_leave hr' ok (fun j hj hx hh => by
    have e : a.toNatClampNeg = j := by rw [hx]; exact cl j (by omega)
    rw [e] at h1
    exact h1 ⟨j, hj, hx, hh⟩) h0
def PrioX (x : Int32) : Prop := ∃ v, v ≤ 3 ∧ x = nI v
def NoPrio (x : Int32) : Prop := ∀ v, v ≤ 3 → x ≠ nI v
theorem aL_setPriority {S : SS} {M : Mem} {a b : Int32} (hb : Both S M) : AnsL (sU S 3 a.toNatClampNeg 0 b.toNatClampNeg) S (PieceX a ∧ PrioX b) (NoPiece a) (PieceX a ∧ NoPrio b) (nI (sPr S a.toNatClampNeg)).toInt64 M (w_L_setPriority M a b) := fun Q h1 h0 h2 => pL_setPriority hb (fun p v hp hv hx hy M1 b1 v1 => by
    have e1 : a.toNatClampNeg = p := by rw [hx]; exact cl p (by omega)
    have e2 : b.toNatClampNeg = v := by rw [hy]; exact cl v (by omega)
    rw [e1, e2] at h1
    exact h1 ⟨⟨p, hp, hx⟩, ⟨v, hv, hy⟩⟩ M1 b1 v1) h0 (fun p hp hx z => h2 ⟨⟨p, hp, hx⟩, z⟩)
theorem aM_setPriority {S : SS} {M : Mem} {a b : Int32} (hr' : RepM S M) : AnsM (sU S 3 a.toNatClampNeg 0 b.toNatClampNeg) S (PieceX a ∧ PrioX b) (NoPiece a) (PieceX a ∧ NoPrio b) (nI (sPr S a.toNatClampNeg)) M (w_X5_setPriority M a b) := fun Q h1 h0 h2 => by
  have k : ∀ p v, p < 12 → v ≤ 3 → a = nI p → b = nI v → Half (sU S 3 p 0 v) S M ∧ ∀ M1, Both (sU S 3 p 0 v) M1 → mI M1 5 0 0 = nI 0 → mL M1 60 0 0 = mL M 60 0 0 → Q (nI (sPr S p)) M1 := fun p v hp hv hx hy => by
    have e1 : a.toNatClampNeg = p := by rw [hx]; exact cl p (by omega)
    have e2 : b.toNatClampNeg = v := by rw [hy]; exact cl v (by omega)
    rw [e1, e2] at h1
    exact h1 ⟨⟨p, hp, hx⟩, ⟨v, hv, hy⟩⟩
  exact pM_setPriority hr' (fun p v hp hv hx hy _ => (k p v hp hv hx hy).2) (fun p v hp hv hx hy => (k p v hp hv hx hy).1) h0 (fun p hp hx z => h2 ⟨⟨p, hp, hx⟩, z⟩)
theorem aL_setSequence {S : SS} {M : Mem} {a b : Int32} (v : Nat) (hv : v ≤ 1) (hy : b = nI v) (hb : Both S M) : AnsL (sU S 6 a.toNatClampNeg 0 v) S (HereX S a) (¬ HereX S a) False (if sSeq S a.toNatClampNeg = v then 0 else 1) M (w_L_setSequence M a b) := fun Q h1 h0 _ => pL_setSequence v hv hy hb (fun j hj hx hh M1 b1 v1 => by
    have e : a.toNatClampNeg = j := by rw [hx]; exact cl j (by omega)
    rw [e] at h1
    exact h1 ⟨j, hj, hx, hh⟩ M1 b1 v1) h0
theorem aM_setSequence {S : SS} {M : Mem} {a b : Int32} (v : Nat) (hv : v ≤ 1) (hy : b = nI v) (hr' : RepM S M) (ok : OKS S) : AnsM (sU S 6 a.toNatClampNeg 0 v) S (HereX S a) (¬ HereX S a) False (if sSeq S a.toNatClampNeg = v then 0 else 1) M (w_X5_setSequence M a b) := fun Q h1 h0 _ => pM_setSequence v hv hy hr' ok (fun j hj hx hh => by
    have e : a.toNatClampNeg = j := by rw [hx]; exact cl j (by omega)
    rw [e] at h1
    exact ⟨(h1 ⟨j, hj, hx, hh⟩).1, fun _ => (h1 ⟨j, hj, hx, hh⟩).2⟩) h0
theorem aL_setCareful {S : SS} {M : Mem} {a b : Int32} (v : Nat) (hv : v ≤ 1) (hy : b = nI v) (hb : Both S M) : AnsL (sU S 5 a.toNatClampNeg 0 v) S (HereX S a) (¬ HereX S a) False (if sCar S a.toNatClampNeg = v then 0 else 1) M (w_L_setCareful M a b) := fun Q h1 h0 _ => pL_setCareful v hv hy hb (fun j hj hx hh M1 b1 v1 => by
    have e : a.toNatClampNeg = j := by rw [hx]; exact cl j (by omega)
    rw [e] at h1
    exact h1 ⟨j, hj, hx, hh⟩ M1 b1 v1) h0
theorem aM_setCareful {S : SS} {M : Mem} {a b : Int32} (v : Nat) (hv : v ≤ 1) (hy : b = nI v) (hr' : RepM S M) (ok : OKS S) : AnsM (sU S 5 a.toNatClampNeg 0 v) S (HereX S a) (¬ HereX S a) False (if sCar S a.toNatClampNeg = v then 0 else 1) M (w_X5_setCareful M a b) := fun Q h1 h0 _ => pM_setCareful v hv hy hr' ok (fun j hj hx hh => by
    have e : a.toNatClampNeg = j := by rw [hx]; exact cl j (by omega)
    rw [e] at h1
    exact ⟨(h1 ⟨j, hj, hx, hh⟩).1, fun _ => (h1 ⟨j, hj, hx, hh⟩).2⟩) h0
theorem aL_spoil {S : SS} {M : Mem} {a b c : Int32} (v : Nat) (hv : v ≤ 1) (hc : c = nI v) (hb : Both S M) : AnsL (sU S 7 a.toNatClampNeg 0 (spN (sSp S a.toNatClampNeg) b.toNatClampNeg v)) S (HereX S a ∧ PieceX b) (¬ HereX S a ∨ NoPiece b) False (if b2 ((sSp S a.toNatClampNeg).testBit b.toNatClampNeg) = v then 0 else 1) M (w_L_spoil M a b c) := fun Q h1 h0 _ => pL_spoil v hv hc hb (fun j p hj hp hx hy hh M1 b1 v1 => by
    have e1 : a.toNatClampNeg = j := by rw [hx]; exact cl j (by omega)
    have e2 : b.toNatClampNeg = p := by rw [hy]; exact cl p (by omega)
    rw [e1, e2] at h1
    exact h1 ⟨⟨j, hj, hx, hh⟩, ⟨p, hp, hy⟩⟩ M1 b1 v1) h0
theorem aM_spoil {S : SS} {M : Mem} {a b c : Int32} (v : Nat) (hv : v ≤ 1) (hc : c = nI v) (hr' : RepM S M) (ok : OKS S) : AnsM (sU S 7 a.toNatClampNeg 0 (spN (sSp S a.toNatClampNeg) b.toNatClampNeg v)) S (HereX S a ∧ PieceX b) (¬ HereX S a ∨ NoPiece b) False (if b2 ((sSp S a.toNatClampNeg).testBit b.toNatClampNeg) = v then 0 else 1) M (w_X5_spoil M a b c) := fun Q h1 h0 _ => pM_spoil v hv hc hr' ok (fun j p hj hp hx hy hh => by
    have e1 : a.toNatClampNeg = j := by rw [hx]; exact cl j (by omega)
    have e2 : b.toNatClampNeg = p := by rw [hy]; exact cl p (by omega)
    rw [e1, e2] at h1
    exact ⟨(h1 ⟨⟨j, hj, hx, hh⟩, ⟨p, hp, hy⟩⟩).1, fun _ => (h1 ⟨⟨j, hj, hx, hh⟩, ⟨p, hp, hy⟩⟩).2⟩) h0
def RunX (x : Int32) (P : Nat → Prop) : Prop := ∃ n, 1 ≤ n ∧ n ≤ 20 ∧ x = nI n ∧ P n
def NoRun (x : Int32) : Prop := ∀ n, 1 ≤ n → n ≤ 20 → x ≠ nI n
theorem aL_run {S : SS} {M : Mem} {a : Int32} (hb : Both S M) : AnsL (runS S a.toNatClampNeg).1 S (RunX a (fun n => sR S + n ≤ 200)) (NoRun a) (RunX a (fun n => 200 < sR S + n)) (nI (runS S a.toNatClampNeg).2).toInt64 M (w_L_run M a) := fun Q h1 h0 h2 => pL_run hb (fun n n1 n20 hx w M1 b1 v1 => by
    have e : a.toNatClampNeg = n := by rw [hx]; exact cl n (by omega)
    rw [e] at h1
    exact h1 ⟨n, n1, n20, hx, w⟩ M1 b1 v1) h0 (fun n n1 n20 hx w => h2 ⟨n, n1, n20, hx, w⟩)
theorem aM_run {S : SS} {M : Mem} {a : Int32} (hr' : RepM S M) (hg : Good S) : AnsM (runS S a.toNatClampNeg).1 S (RunX a (fun n => sR S + n ≤ 200)) (NoRun a) (RunX a (fun n => 200 < sR S + n)) (nI (runS S a.toNatClampNeg).2) M (w_X5_run M a) := fun Q h1 h0 h2 => pM_run hr' hg (fun n n1 n20 hx w => by
    have e : a.toNatClampNeg = n := by rw [hx]; exact cl n (by omega)
    rw [e] at h1
    exact h1 ⟨n, n1, n20, hx, w⟩) h0 (fun n n1 n20 hx w => h2 ⟨n, n1, n20, hx, w⟩)
theorem run_x {a : Int32} {P : Nat → Prop} (h : RunX a P) (h2 : NoRun a) : False := by
  obtain ⟨n, n1, n20, e, -⟩ := h
  exact h2 n n1 n20 e
theorem run_y {a : Int32} {P P2 : Nat → Prop} (h : RunX a P) (h2 : RunX a P2) (x : ∀ n, P n → P2 n → False) : False := by
  obtain ⟨n, n1, n20, e, w⟩ := h
  obtain ⟨m, m1, m20, e2, w2⟩ := h2
  rw [e] at e2
  have z := (nI_eq (a := n) (b := m) (by omega) (by omega)).mp e2
  subst z
  exact x n w w2
