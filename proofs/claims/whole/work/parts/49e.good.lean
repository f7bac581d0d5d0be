/-- what holds of every state -/
def Good (S : SS) : Prop := OKS S ∧ (∀ a o, sSt S a o ≤ 12 * sR S) ∧ BanI S ∧ FrI S ∧ ∀ f i c, 4 ≤ f → sN S ≤ i → S f i c = 0
theorem comes_row {S : SS} {i : Nat} (h : hr S i = false) (f c : Nat) (hz : S f i c = 0) : (comesTo S (askL S) 6).1 f i c = 0 := by
  rcases Nat.lt_or_ge i 6 with h6 | h6
  · rw [comesTo_row _ (askL_i S) 6 h6, comesTo, if_neg (by rw [h]; decide)]
    show gz i (comesTo S (askL S) i).1 f i c = 0
    unfold gz
    split
    · rfl
    · rw [comesTo_hi _ (askL_i S) i (Nat.le_refl _)]; exact hz
  · rw [comesTo_hi _ (askL_i S) 6 h6]; exact hz
theorem ends_row {X : SS} {i : Nat} (h : sHad X i = 0) (f c : Nat) : endsTo X 6 f i c = X f i c := by
  rcases Nat.lt_or_ge i 6 with h6 | h6
  · rw [endsTo_lo 6 h6, settleTo_z (by
      show endsTo X i 9 i 0 = 0
      rw [endsTo_hi i (Nat.le_refl _)]; exact h), endsTo_hi i (Nat.le_refl _)]
  · exact endsTo_hi 6 h6
theorem comes_bi {S : SS} (hB : BanI S) : BanI (comesTo S (askL S) 6).1 := fun a o ha ho h3 => by
  have e1 : sSt (comesTo S (askL S) 6).1 a o = sSt S a o := comesTo_low (by omega) 6
  have e2 : sBan (comesTo S (askL S) 6).1 a = sBan S a := comesTo_low (by omega) 6
  rw [e1] at h3; rw [e2]; exact hB a o ha ho h3
theorem come_fr {A : SS} {i b o : Nat} (hF : FrI A) (ho : o < sN A) : FrI (comeOne A i b o) := fun a c ha hc => by
  have en : sN (comeOne A i b o) = sN A := comeOne_f (by decide)
  rw [en]
  cases hb : (sHad A i).testBit b with
  | true =>
    have e : sFr (comeOne A i b o) a c = sFr A a c := by rw [comeOne_hit hb]; unfold sFr; rw [sU_f (by decide)]
    rw [e]; exact hF a c ha hc
  | false =>
    rw [comeOne_miss hb, m11]
    split
    · exact Or.inr ho
    · exact hF a c ha hc
theorem fold_fr : ∀ (l : List (Nat × Nat × Nat)) (st : SS × Nat), FrI st.1 → (∀ q ∈ l, q.2.2 < sN st.1) → FrI (l.foldl cS st).1
  | [], _, h, _ => h
  | q :: l, st, h, hl => fold_fr l (cS st q) (come_fr h (hl q List.mem_cons_self)) (fun q2 hq2 => by
      have e : sN (cS st q).1 = sN st.1 := comeOne_f (by decide)
      rw [e]; exact hl q2 (List.mem_cons_of_mem _ hq2))
theorem alls_src {S : SS} (ok : OKS S) : ∀ m, ∀ q ∈ alls S m, q.2.2 < sN S
  | 0, q, hq => by cases hq
  | m + 1, q, hq => by
    rw [alls] at hq
    rcases List.mem_append.mp hq with z | z
    · exact alls_src ok m q z
    · unfold askL at z
      obtain ⟨y, hy, rfl⟩ := List.mem_map.mp z
      exact ok.here (askTo_mem S m 6 y hy).2.2
theorem comes_fr {S : SS} (ok : OKS S) (hF : FrI S) : FrI (comesTo S (askL S) 6).1 := by
  have e := alls_fold S 6 (Nat.le_refl _)
  have h := fold_fr (alls S 6) (mask 0 S, 0) (fun a b ha hb => by
    have e1 : sFr (mask 0 S) a b = sFr S a b := mask_r (Or.inl (by decide))
    have e2 : sN (mask 0 S) = sN S := mask_r (Or.inl (by decide))
    show sFr (mask 0 S) a b = 0 ∨ sFr (mask 0 S) a b < sN (mask 0 S)
    rw [e1, e2]; exact hF a b ha hb) (fun q hq => by
    have e2 : sN (mask 0 S) = sN S := mask_r (Or.inl (by decide))
    show _ < sN (mask 0 S)
    rw [e2]; exact alls_src ok 6 q hq)
  rw [e] at h
  have h : FrI (mask 6 (comesTo S (askL S) 6).1) := h
  rw [mask_6] at h
  exact h
theorem round_good {S : SS} (h : Good S) (h199 : sR S ≤ 199) : Good (roundS S).1 := by
  obtain ⟨ok, hst, hB, hF, hz⟩ := h
  obtain ⟨ok2, hst2⟩ := roundS_ok ok h199 hst
  have okc := comesTo_ok ok 6 (Nat.le_refl _)
  have stc : ∀ a o, sSt (comesTo S (askL S) 6).1 a o ≤ 98000 := fun a o => by
    have e1 : sSt (comesTo S (askL S) 6).1 a o = sSt S a o := comesTo_low (by omega) 6
    rw [e1]; have := hst a o; omega
  have be := endsTo_bi (comes_bi hB) okc stc 6 (Nat.le_refl _)
  have fe := endsTo_fr (comes_fr ok hF) 6
  have x : ∀ f a c, f ≠ 1 → (roundS S).1 f a c = endsTo (comesTo S (askL S) 6).1 6 f a c := fun f a c z => by rw [roundS_e]; exact sU_f z
  have n1 : sN (roundS S).1 = sN S := by
    show (roundS S).1 0 0 0 = _
    rw [x _ _ _ (by decide), endsTo_f (by decide)]; exact comesTo_low (by omega) 6
  refine ⟨ok2, hst2, fun a o ha ho h3 => ?_, fun a b ha hb => ?_, fun f i c hf hi => ?_⟩
  · have e1 : sSt (roundS S).1 a o = sSt (endsTo (comesTo S (askL S) 6).1 6) a o := x _ _ _ (by decide)
    have e2 : sBan (roundS S).1 a = sBan (endsTo (comesTo S (askL S) 6).1 6) a := x _ _ _ (by decide)
    rw [e1] at h3; rw [e2]; exact be a o ha ho h3
  · have e1 : sFr (roundS S).1 a b = sFr (endsTo (comesTo S (askL S) 6).1 6) a b := x _ _ _ (by decide)
    have e2 : sN (roundS S).1 = sN (endsTo (comesTo S (askL S) 6).1 6) := x _ _ _ (by decide)
    rw [e1, e2]; exact fe a b ha hb
  · rw [n1] at hi
    have hh := hr_hi ok hi
    rw [x _ _ _ (by omega), ends_row (by exact comes_row hh 9 0 (hz 9 i 0 (by omega) hi))]
    exact comes_row hh f c (hz f i c hf hi)
/-- so many rounds: the state behind them, and how many came -/
def runS (S : SS) : Nat → SS × Nat
  | 0 => (S, 0)
  | k + 1 => ((roundS (runS S k).1).1, (runS S k).2 + (roundS (runS S k).1).2)
theorem runS_r (S : SS) : ∀ k, sR (runS S k).1 = sR S + k
  | 0 => rfl
  | k + 1 => by
    show sR (roundS (runS S k).1).1 = _
    rw [roundS_r, runS_r S k]; rfl
theorem runS_good {S : SS} (h : Good S) : ∀ k, sR S + k ≤ 200 → Good (runS S k).1
  | 0, _ => h
  | k + 1, hk => round_good (runS_good h k (by omega)) (by rw [runS_r]; omega)
