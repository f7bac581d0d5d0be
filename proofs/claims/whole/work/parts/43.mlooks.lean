/-- what the reference saw at a round's beginning -/
def RoundM (S : SS) (M : Mem) : Prop := (∀ i o, i < sN S → o < sN S → mI M 47 0 (6 * i + o) = nI (if hr S i && hr S o then shown S i o else 0)) ∧ ∀ i, i < sN S → mI M 48 0 i = nI (if hr S i then chosen S i else 0)
theorem p_looks {S : SS} {M : Mem} {Q : Mem → Prop} (h : RepM S M) (ok : OKS S) (hQ : ∀ M1, Ag (fun κ a _ => (κ = 47 ∨ κ = 48) ∧ a = 0) M M1 → RoundM S M1 → Q M1) : w_X5_looks M Q := by
  have n6 := ok.n
  have loop : ∀ d i, i + d = sN S → ∀ M1, Ag (fun κ a _ => (κ = 47 ∨ κ = 48) ∧ a = 0) M M1 → (∀ a o, a < i → o < sN S → mI M1 47 0 (6 * a + o) = nI (if hr S a && hr S o then shown S a o else 0)) → (∀ a, a < i → mI M1 48 0 a = nI (if hr S a then chosen S a else 0)) → l_X5_looks_2 Q (d + 1) M1 (nI i) := by
    intro d
    induction d with
    | zero =>
      intro i hi M1 g a1 a2
      have e : i = sN S := by omega
      subst e
      have h1 := h.ag g (fun κ a k z => by unfold TrM; omega)
      show b_X5_looks_2 Q _ M1 _
      unfold b_X5_looks_2
      rw [h1.n]
      exact ⟨h1.e 5, pk_le (sN S) (sN S) (fun _ => hQ M1 g ⟨a1, a2⟩) (fun z => absurd z (by omega))⟩
    | succ d ih =>
      intro i hi M1 g a1 a2
      have h1 := h.ag g (fun κ a k z => by unfold TrM; omega)
      -- the row of what is shown
      have row : ∀ d2 o, o + d2 = sN S → ∀ M2, Ag (fun κ a _ => (κ = 47 ∨ κ = 48) ∧ a = 0) M M2 → (∀ a o2, a < i → o2 < sN S → mI M2 47 0 (6 * a + o2) = nI (if hr S a && hr S o2 then shown S a o2 else 0)) → (∀ o2, o2 < o → mI M2 47 0 (6 * i + o2) = nI (if hr S i && hr S o2 then shown S i o2 else 0)) → (∀ a, a < i + 1 → mI M2 48 0 a = nI (if hr S a then chosen S a else 0)) → l_X5_looks_36 (l_X5_looks_2 Q (d + 1)) Q (d2 + 1) M2 (nI i) (nI o) := by
        intro d2
        induction d2 with
        | zero =>
          intro o ho M2 g2 b1 b2 b3
          have e : o = sN S := by omega
          subst e
          have h2 := h.ag g2 (fun κ a k z => by unfold TrM; omega)
          show b_X5_looks_36 _ Q _ M2 _ _
          unfold b_X5_looks_36
          rw [h2.n]
          refine ⟨h2.e 5, pk_le (sN S) (sN S) (fun _ v hv => ?_) (fun z => absurd z (by omega))⟩
          rw [hv, nI_1]
          refine ih (i + 1) (by omega) M2 g2 (fun a o2 ha ho2 => ?_) b3
          by_cases e : a = i
          · subst e; exact b2 o2 ho2
          · exact b1 a o2 (by omega) ho2
        | succ d2 ih2 =>
          intro o ho M2 g2 b1 b2 b3
          have h2 := h.ag g2 (fun κ a k z => by unfold TrM; omega)
          show b_X5_looks_36 _ Q (l_X5_looks_36 (l_X5_looks_2 Q (d + 1)) Q (d2 + 1)) M2 _ _
          unfold b_X5_looks_36 b_X5_looks_80 b_X5_looks_81
          rw [h2.n]
          refine ⟨h2.e 5, pk_le (sN S) o (fun z => absurd z (by omega)) (fun _ => ⟨h2.f 17, ?_⟩)⟩
          show mE M2 5 0 = true ∧ _
          rw [show (6 : Int32) * nI i + nI o = nI (6 * i + o) from by rw [show (6 : Int32) * nI i = nI (6 * i) from pk_mul 6 i, nI_add], cl i (by omega), cl o (by omega), cl (6 * i + o) (by omega)]
          have put : ∀ x : Nat, (if hr S i && hr S o then shown S i o else 0) = x → (mE M2 47 0 = true ∧ ((vp_in (nI (6 * i + o)) 36) ∧ (∀ M_26 : Mem, M_26 = wI M2 47 0 (6 * i + o) (nI x) → (∀ v_27 : Int32, v_27 = nI o + 1 → (l_X5_looks_36 (l_X5_looks_2 Q (d + 1)) Q (d2 + 1) M_26 (nI i) v_27))))) := by
            intro x hx
            refine ⟨h2.e 47, pk_in (6 * i + o) 36 (by omega), fun M3 h3 v hv => ?_⟩
            rw [hv, nI_1]
            refine ih2 (o + 1) (by omega) M3 (g2.wI h3 ⟨Or.inl rfl, rfl⟩) (fun a o2 ha ho2 => ?_) (fun o2 ho2 => ?_) (fun a ha => ?_)
            · rw [h3, mI_wI, if_neg (by omega)]; exact b1 a o2 ha ho2
            · rw [h3, mI_wI]
              by_cases e : o2 = o
              · subst e; rw [if_pos ⟨rfl, rfl, rfl⟩, hx]
              · rw [if_neg (by omega)]; exact b2 o2 (by omega)
            · rw [h3, mI_wI, if_neg (by omega)]; exact b3 a ha
          refine ⟨h2.e 5, h2.f 4, h2.e 34, pk_in i 6 (by omega), h2.here ok (by omega) (fun hf => put 0 (by rw [hf]; rfl)) (fun hf => ⟨pk_in o 6 (by omega), h2.here ok (by omega) (fun hg => put 0 (by rw [hg]; simp)) (fun hg => p_shownBy i o rfl rfl h2 ok (by omega) (by omega) (put _ (by rw [hf, hg]; rfl)))⟩)⟩
      show b_X5_looks_2 Q (l_X5_looks_2 Q (d + 1)) M1 _
      unfold b_X5_looks_2 b_X5_looks_33
      rw [h1.n, cl i (by omega)]
      have put : ∀ x : Nat, (if hr S i then chosen S i else 0) = x → (mE M1 48 0 = true ∧ ((vp_in (nI i) 6) ∧ (∀ M_10 : Mem, M_10 = wI M1 48 0 i (nI x) → (∃ n : Nat, l_X5_looks_36 (l_X5_looks_2 Q (d + 1)) Q n M_10 (nI i) 0)))) := by
        intro x hx
        refine ⟨h1.e 48, pk_in i 6 (by omega), fun M2 h2 => ⟨sN S + 1, ?_⟩⟩
        refine row (sN S) 0 (by omega) M2 (g.wI h2 ⟨Or.inr rfl, rfl⟩) (fun a o2 ha ho2 => ?_) (fun o2 ho2 => absurd ho2 (Nat.not_lt_zero _)) (fun a ha => ?_)
        · rw [h2, mI_wI, if_neg (by omega)]; exact a1 a o2 ha ho2
        · rw [h2, mI_wI]
          by_cases e : a = i
          · subst e; rw [if_pos ⟨rfl, rfl, rfl⟩, hx]
          · rw [if_neg (by omega)]; exact a2 a (by omega)
      refine ⟨h1.e 5, pk_le (sN S) i (fun z => absurd z (by omega)) (fun _ => ⟨h1.f 18, h1.f 4, h1.e 34, pk_in i 6 (by omega), h1.here ok (by omega) (fun hf => put 0 (by rw [hf]; rfl)) (fun hf => p_choiceOf i rfl h1 ok (by omega) hf (put _ (by rw [hf]; rfl)))⟩)⟩
  exact ⟨sN S + 1, loop (sN S) 0 (by omega) M Ag.rf (fun a _ ha => absurd ha (Nat.not_lt_zero _)) (fun a ha => absurd ha (Nat.not_lt_zero _))⟩
