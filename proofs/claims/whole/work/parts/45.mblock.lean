/-- what one has asked for, as the reference keeps it -/
def AskM (M : Mem) (i asked : Nat) : Prop := ∀ p, p < 12 → mI M 42 0 (12 * i + p) = nI (nib asked p)
theorem e12 (i p : Nat) : (12 : Int32) * nI i + nI p = nI (12 * i + p) := by rw [show (12 : Int32) * nI i = nI (12 * i) from pk_mul 12 i, nI_add]
theorem p_at {M : Mem} {Q : Int32 → Mem → Prop} {x y : Int32} (i p : Nat) (hx : x = nI i) (hy : y = nI p) (hQ : Q (nI (12 * i + p)) M) : w_X5_at M x y Q := by
  subst hx hy
  unfold w_X5_at
  rw [e12]; exact hQ
theorem p_pair {M : Mem} {Q : Int32 → Mem → Prop} {x y : Int32} (i o : Nat) (hx : x = nI i) (hy : y = nI o) (hQ : Q (nI (6 * i + o)) M) : w_X5_pair M x y Q := by
  subst hx hy
  unfold w_X5_pair
  rw [show (6 : Int32) * nI i = nI (6 * i) from pk_mul 6 i, nI_add]; exact hQ
theorem nib_or_z {h a p : Nat} : nI (nib h p) ||| nI (nib a p) = nI (nib (h ||| a) p) := by rw [fa_or, nib_or]
theorem p_isBetterM {S : SS} {M : Mem} {Q : Int32 → Mem → Prop} {i asked : Nat} {x y z : Int32} (p q : Nat) (hx : x = nI i) (hy : y = nI p) (hz : z = nI q) (h : RepM S M) (ok : OKS S) (hi : i < 6) (hA : AskM M i asked) (hp : p < 12) (hq : q < 12) (hQ : Q (nI (b2 (better S i asked p q))) M) : w_X5_isBetter M x y z Q := by
  subst hx hy hz
  have q0 : better S i asked p q = false → Q 0 M := fun z => by rw [z] at hQ; exact hQ
  have q1 : better S i asked p q = true → Q 1 M := fun z => by rw [z] at hQ; exact hQ
  have p1 := ok.pr p
  have p2 := ok.pr q
  have c1 := cH_le S p 6
  have c2 := cH_le S q 6
  have bg : ∀ r, r < 12 → ∀ {A B : Prop}, (begun S i asked r = false → A) → (begun S i asked r = true → B) → (nI (nib (sHad S i ||| asked) r) = 0 → A) ∧ (¬ nI (nib (sHad S i ||| asked) r) = 0 → B) := by
    intro r hr A B f0 f1
    have lt := nib_lt (sHad S i ||| asked) r
    have e : begun S i asked r = (nib (sHad S i ||| asked) r != 0) := by
      unfold begun
      rw [Bool.eq_iff_iff, bne_iff_ne, bne_iff_ne, ne_eq, ne_eq, nib_z]
    exact pk_eq (nib (sHad S i ||| asked) r) 0 (fun z => f0 (by rw [e, z]; rfl)) (fun z => f1 (by rw [e]; simp [z]))
  -- the last steps
  have last : ∀ x4 s0 : Bool, begun S i asked p = x4 → begun S i asked q = s0 → b_X5_isBetter_60 Q M (nI i) (nI p) (nI q) (nI (b2 x4)) (nI (b2 s0)) := by
    intro x4 s0 h4 h0
    unfold b_X5_isBetter_60 b_X5_isBetter_132 b_X5_isBetter_149
    rw [cl p (by omega), cl q (by omega), cl i (by omega)]
    unfold better at q0 q1
    rw [h4, h0] at q0 q1
    by_cases e : x4 = s0
    · subst e
      rw [bne_self_eq_false, if_neg (by decide)] at q0 q1
      refine ⟨fun _ => ⟨h.e 5, h.f 2, h.e 32, pk_in p 12 hp, pk_in q 12 hq, ?_⟩, fun z => absurd rfl z⟩
      rw [h.pr hp, h.pr hq]
      refine pk_eq (sPr S p) (sPr S q) (fun ep => ?_) (fun ep => ?_)
      · rw [if_neg (fun z => z ep)] at q0 q1
        refine ⟨h.f 7, h.e 37, pk_in i 6 hi, ?_⟩
        rw [h.seq hi]
        have s1 := ok.seq i
        have fin : (if sSeq S i = 0 ∧ cH S p 6 ≠ cH S q 6 then decide (cH S p 6 < cH S q 6) else decide (p < q)) = decide (p < q) → (nI q ≤ nI p → Q 0 M) ∧ (¬ nI q ≤ nI p → Q 1 M) := by
          intro hf
          rw [hf] at q0 q1
          exact pk_le q p (fun z => q0 (by simp; omega)) (fun z => q1 (by simp; omega))
        refine pk_eq (sSeq S i) 0 (fun es => ?_) (fun es => ?_)
        · refine p_holdersOf p rfl h ok hp ⟨h.e 5, p_holdersOf q rfl h ok hq ?_⟩
          by_cases ec : cH S p 6 = cH S q 6
          · rw [ec, pk_sub (Nat.le_refl _), Nat.sub_self]
            exact ⟨fun z => absurd z (by decide), fun _ => ⟨fun _ => fin (by rw [if_neg (fun z => z.2 ec)]), fun z => absurd rfl z⟩⟩
          · rw [if_pos ⟨es, ec⟩] at q0 q1
            by_cases lt : cH S p 6 < cH S q 6
            · exact ⟨fun _ => q1 (by simp [lt]), fun z => absurd (pk_sneg (by omega) lt) z⟩
            · rw [pk_sub (by omega)]
              exact ⟨fun z => absurd z (nI_pos (by omega)), fun _ => ⟨fun z => absurd z (nI_ne0 (by omega) (by omega)), fun _ => q0 (by simp [lt])⟩⟩
        · exact ⟨fun z => absurd z (by decide), fun _ => ⟨fun _ => fin (by rw [if_neg (fun z => es z.1)]), fun z => absurd rfl z⟩⟩
      · rw [if_pos ep] at q0 q1
        exact ⟨pk_in p 12 hp, pk_in q 12 hq, pk_le (sPr S p) (sPr S q) (fun z => q0 (by simp; omega)) (fun z => q1 (by simp; omega))⟩
    · have ne : (x4 != s0) = true := by cases x4 <;> cases s0 <;> simp_all
      rw [ne, if_pos rfl] at q0 q1
      have nn : ¬ nI (b2 x4) = nI (b2 s0) := by cases x4 <;> cases s0 <;> simp_all [b2] <;> decide
      refine ⟨fun z => absurd z nn, fun _ => ?_⟩
      cases x4
      · exact ⟨Or.inl rfl, q0 rfl⟩
      · exact ⟨Or.inr rfl, q1 rfl⟩
  have mid : ∀ x4 : Bool, begun S i asked p = x4 → b_X5_isBetter_29 Q M (nI i) (nI p) (nI q) (nI (b2 x4)) := by
    intro x4 h4
    unfold b_X5_isBetter_29
    refine ⟨h.e 5, h.f 10, p_at i q rfl rfl ⟨h.e 40, pk_in (12 * i + q) 72 (by omega), h.e 5, h.f 12, p_at i q rfl rfl ⟨h.e 42, pk_in (12 * i + q) 72 (by omega), ?_⟩⟩⟩
    rw [cl _ (by omega), h.had hi hq, hA q hq, nib_or_z]
    exact bg q hq (fun z => last x4 false h4 z) (fun z => last x4 true h4 z)
  unfold w_X5_isBetter
  refine ⟨h.e 5, h.f 10, p_at i p rfl rfl ⟨h.e 40, pk_in (12 * i + p) 72 (by omega), h.e 5, h.f 12, p_at i p rfl rfl ⟨h.e 42, pk_in (12 * i + p) 72 (by omega), ?_⟩⟩⟩
  rw [cl _ (by omega), h.had hi hp, hA p hp, nib_or_z]
  exact bg p hp (fun z => mid false z) (fun z => mid true z)
