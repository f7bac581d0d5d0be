/-! the law's rounds -/
theorem round_le (S : SS) : (roundS S).2 ≤ 36 := by
  rw [round_sum]
  refine Nat.le_trans (sm_le (g := fun _ => 6) (fun i hi => ?_)) (by decide)
  exact Nat.le_trans (sm_le (g := fun _ => 1) (fun o _ => got_1 hi o)) (by decide)
theorem runS_le (S : SS) : ∀ n, (runS S n).2 ≤ 36 * n
  | 0 => Nat.le_refl 0
  | n + 1 => by
    have := runS_le S n
    have := round_le (runS S n).1
    show (runS S n).2 + (roundS (runS S n).1).2 ≤ _
    omega
/-- what two that are here got, as the law adds it -/
def GG (S : SS) (i o : Nat) : Nat := if hr S i && hr S o then sGot S i o else 0
theorem GG_hi {S : SS} (ok : OKS S) {i o : Nat} (h : sN S ≤ i ∨ sN S ≤ o) : GG S i o = 0 := by
  unfold GG
  rcases h with h | h
  · rw [hr_hi ok h]; rfl
  · rw [hr_hi ok h, Bool.and_false]; rfl
theorem GG_sum {S : SS} (ok : OKS S) (ok1 : OKS (roundS S).1) : sm (fun i => sm (GG (roundS S).1 i) (sN S)) (sN S) = (roundS S).2 := by
  have n6 := ok.n
  have en := round_n S
  have e1 : sm (fun i => sm (GG (roundS S).1 i) (sN S)) (sN S) = sm (fun i => sm (GG (roundS S).1 i) (sN S)) 6 := (sm_ext (fun k hk => sm_z (fun o _ => GG_hi ok1 (Or.inl (by omega)))) 6 n6).symm
  rw [e1, round_sum]
  refine sm_eq (fun i hi => ?_)
  rw [← sm_ext (fun k hk => GG_hi ok1 (Or.inr (by omega))) 6 n6]
  refine sm_eq (fun o _ => ?_)
  unfold GG
  rw [round_hr, round_hr]
  cases h1 : hr S i with
  | false => rw [got_out hi (Or.inl h1)]; rfl
  | true =>
    cases h2 : hr S o with
    | false => rw [got_out hi (Or.inr h2)]; rfl
    | true => rfl
theorem cell_run {S : SS} (hh : Nat → Nat) (n j : Nat) : cell (runS S n).1 hh j = if j = 2 then sR S + n else cell S hh j := by
  have en := runS_n S n
  have ep : pS (runS S n).1 = pS S := by unfold pS; congr 1; funext i; exact runS_hr S n i
  have ec : carS (runS S n).1 = carS S := by unfold carS; congr 1; funext i; rw [sCar, runS_f (by decide)]
  have es : seqS (runS S n).1 = seqS S := by unfold seqS; congr 1; funext i; rw [sSeq, runS_f (by decide)]
  have e3 : ∀ p, sPr (runS S n).1 p = sPr S p := fun p => runS_f (by decide) n
  have e7 : ∀ i, sSp (runS S n).1 i = sSp S i := fun i => runS_f (by decide) n
  unfold cell
  rw [en, ep, ec, es, runS_r, e3, e7]
  by_cases z : j = 2
  · subst z; rfl
  · simp only [if_neg z]
section LAW2
variable {S : SS} {hh : Nat → Nat} {M : Mem} {Q : Int32 → Mem → Prop} {X : Nat → Mem → Prop} {x y : Int32} {i o p : Nat}
/-- behind the rounds: what the law asks of what was got -/
theorem pL_runs2 {n c : Nat} (hb : LB S hh M) (hn : 1 ≤ n ∧ n ≤ 3) (hc36 : c ≤ 108) (got1 : ∀ i o, i < 6 → sGot S i o ≤ 1) (gots : ∀ i, i < 6 → sGot S i i = 0) (sts : ∀ i, i < 6 → sSt S i i = 0)
    (tot : (n = 1 → sm (fun i => sm (GG S i) (sN S)) (sN S) = c) ∧ sm (fun i => sm (GG S i) (sN S)) (sN S) ≤ c) (hQ : Q 1 M) : ∀ it, it ≤ 7 → l_L_runs_127 Q X (sN S + 1) M it (nI n) (nI c) (nI 0) 1 (nI 0) := by
  have ok := hb.ok
  have hc := hb.v
  have n6 := ok.n
  have g1 : ∀ i o, GG S i o ≤ 1 := fun i o => by
    unfold GG
    split
    · rename_i h
      simp only [Bool.and_eq_true] at h
      exact got1 i o (hb.h6 h.1)
    · omega
  have s1 : ∀ i, sm (GG S i) (sN S) ≤ 6 := fun i => Nat.le_trans (sm_bd (g1 i) (sN S)) (by omega)
  have loop : ∀ d k, k + d = sN S → ∀ it, it ≤ 7 + 8 * k → l_L_runs_127 Q X (d + 1) M it (nI n) (nI c) (nI (sm (fun i => sm (GG S i) (sN S)) k)) 1 (nI k) := by
    intro d
    induction d with
    | zero =>
      intro k hk it hit
      have e : k = sN S := by omega
      subst e
      have sb := sm_bd s1 (sN S)
      show b_L_runs_127 Q X _ M _ _ _ _ _ _
      unfold b_L_runs_127
      rw [hc.n]
      refine ⟨by omega, hc.e, in0, pk_le (sN S) (sN S) (fun _ => t1 (pk_eq n 1 (fun e1 => ?_) (fun e1 => ?_))) (fun z => absurd z (by omega))⟩
      · rw [tot.1 e1]
        exact ⟨fun _ => ⟨by omega, hQ⟩, fun z => absurd rfl z⟩
      · have t2 := tot.2
        exact pk_lt c (sm (fun i => sm (GG S i) (sN S)) (sN S)) (fun z => absurd z (by omega)) (fun _ => ⟨by omega, hQ⟩)
    | succ d ih =>
      intro k hk it hit
      have k6 : k < 6 := by omega
      have nx := ih (k + 1) (by omega)
      have sb := sm_bd s1 k
      show b_L_runs_127 Q X (l_L_runs_127 Q X (d + 1)) M _ _ _ _ _ _
      have nx : ∀ it2, it2 ≤ 7 + 8 * (k + 1) → l_L_runs_127 Q X (d + 1) M it2 (nI n) (nI c) (nI (sm (fun i => sm (GG S i) (sN S)) k + sm (GG S k) (sN S))) 1 (nI (k + 1)) := nx
      generalize l_L_runs_127 Q X (d + 1) = kk at nx ⊢
      generalize sm (fun i => sm (GG S i) (sN S)) k = A at nx sb ⊢
      unfold b_L_runs_127
      rw [hc.n]
      refine ⟨by omega, hc.e, in0, pk_le (sN S) k (fun z => absurd z (by omega)) (fun _ => ⟨sN S + 1, ?_⟩)⟩
      have inner : ∀ d2 o, o + d2 = sN S → l_L_runs_138 kk Q X (d2 + 1) M (it + 1 + o) (nI n) (nI c) (nI (A + sm (GG S k) o)) 1 (nI k) (nI o) := by
        intro d2
        induction d2 with
        | zero =>
          intro o ho
          have e : o = sN S := by omega
          subst e
          show b_L_runs_138 kk Q X _ M _ _ _ _ _ _ _
          unfold b_L_runs_138
          rw [hc.n]
          refine ⟨by omega, hc.e, in0, pk_le (sN S) (sN S) (fun _ v hv => ?_) (fun z => absurd z (by omega))⟩
          rw [hv, nI_1]
          exact nx _ (by omega)
        | succ d2 ih2 =>
          intro o ho
          have o6 : o < 6 := by omega
          have nx2 := ih2 (o + 1) (by omega)
          have so := sm_bd (g1 k) o
          have nx2 : l_L_runs_138 kk Q X (d2 + 1) M (it + 1 + o + 1) (nI n) (nI c) (nI (A + (sm (GG S k) o + GG S k o))) 1 (nI k) (nI (o + 1)) := nx2
          show b_L_runs_138 kk Q X (l_L_runs_138 kk Q X (d2 + 1)) M _ _ _ _ _ _ _
          have fin : b_L_runs_250 kk (l_L_runs_138 kk Q X (d2 + 1)) Q X M (it + 1 + o) (nI n) (nI c) (nI (A + (sm (GG S k) o + GG S k o))) (nI k) (nI o) := ⟨by omega, by omega, fun v hv => by rw [hv, nI_1]; exact nx2⟩
          have no : GG S k o = 0 → b_L_runs_174 kk (l_L_runs_138 kk Q X (d2 + 1)) Q X M (it + 1 + o) (nI n) (nI c) (nI (A + sm (GG S k) o)) 1 (nI k) (nI o) := fun z => by
            refine ⟨by omega, by omega, t0 ⟨by omega, fun v hv => t1 (t0 ?_)⟩⟩
            have f := fin
            rw [z, Nat.add_zero] at f
            rw [hv, show (0 : Int32) = nI 0 from rfl, nI_add, Nat.add_zero]
            exact f
          unfold b_L_runs_138
          rw [hc.n]
          refine ⟨by omega, hc.e, in0, pk_le (sN S) o (fun z => absurd z (by omega)) (fun _ => ⟨in1, t_here hc k6 (fun hk => ⟨in1, t_here hc o6 (fun ho' => ?_) (fun ho' => no (by unfold GG; rw [ho', Bool.and_false]; rfl))⟩) (fun hk => no (by unfold GG; rw [hk]; rfl))⟩)⟩
          have eG : GG S k o = sGot S k o := by unfold GG; rw [hk, ho']; rfl
          have b1 := got1 k o k6
          refine ⟨by omega, t1 (q_got hb hk ho' rfl rfl ⟨by omega, fun v hv => t1 (t1 (q_got hb hk ho' rfl rfl (pk_lt 1 (sGot S k o) (fun z => absurd z (by omega)) (fun _ => ?_))))⟩)⟩
          have hv' : v = nI (A + (sm (GG S k) o + GG S k o)) := by rw [hv, nI_add, Nat.add_assoc, eG]
          subst hv'
          refine pk_eq k o (fun e => ?_) (fun _ => fin)
          subst e
          have gz := gots k k6
          have sz := sts k k6
          refine q_got hb hk hk rfl rfl ?_
          rw [gz]
          refine ⟨fun _ => q_strikes hb hk hk rfl rfl ?_, fun z => absurd rfl z⟩
          rw [sz]
          exact ⟨fun _ => fin, fun z => absurd rfl z⟩
      exact inner (sN S) 0 (by omega)
  intro it hit
  exact loop (sN S) 0 (by omega) it (by omega)
theorem pL_runs {n : Nat} (hb : LB S hh M) (hn : 1 ≤ n ∧ n ≤ 3) (hx : x = nI n) (h0 : 200 < sR S + n → Q 1 M) (hQ : ∀ M1, sR S + n ≤ 200 → LB (runS S n).1 hh M1 → mE M1 62 0 = mE M 62 0 → Q 1 M1) : w_L_runs M x Q X := by
  subst hx
  have ok := hb.ok
  have hc := hb.v
  have n6 := ok.n
  have r200 := ok.r
  unfold w_L_runs
  rw [hc.r, nI_add]
  refine ⟨hc.e, in2, pk_le (sR S + n) 200 (fun hle => ⟨sN S + 1, ?_⟩) (fun hgt => q_rounds hb ⟨hc.e, in2, ?_⟩)⟩
  · let g : Nat → Nat := fun o => if hr S o then pcT (chosen S o) 12 else 0
    have gb : ∀ o, g o ≤ 12 := fun o => by
      show (if _ then _ else _) ≤ 12
      split
      · exact pcT_le _ 12
      · omega
    have ghi : ∀ o, sN S ≤ o → g o = 0 := fun o ho => by show (if _ then _ else _) = 0; rw [hr_hi ok ho]; rfl
    have loop : ∀ d k, k + d = sN S → l_L_runs_32 Q X (d + 1) M k (nI n) (nI (sm g k)) (nI k) := by
      intro d
      induction d with
      | zero =>
        intro k hk
        have e : k = sN S := by omega
        subst e
        have sb := sm_bd gb (sN S)
        show b_L_runs_32 Q X _ M _ _ _ _
        unfold b_L_runs_32
        rw [hc.n]
        refine ⟨by omega, hc.e, in0, pk_le (sN S) (sN S) (fun _ => ?_) (fun z => absurd z (by omega))⟩
        refine q_run hb.g hn.1 (by omega) hle rfl (fun M9 gd9 cb9 f9 => ?_)
        have c9 := hc.fr f9
        refine ⟨c9.e, in2, in2, fun M15 e15 => ?_⟩
        rw [c9.r, nI_add, k2] at e15
        have hb1 : LB (runS S n).1 hh M15 := by
          have g15 : Ag (fun κ a k => κ = 61) M9 M15 := Ag.rf.wI e15 rfl
          exact ⟨gd9, cb9.far g15 (fun κ a k z => by unfold PF; omega), c9.put e15 (fun j _ => cell_run hh n j)⟩
        have q62 : mE M15 62 0 = mE M 62 0 := by rw [e15, mE_wI]; exact f9.1 62 (by omega)
        have c1 := hb1.v
        have en := runS_n S n
        have rl := runS_le S n
        refine q_rounds hb1 ⟨c1.e, in2, ?_⟩
        rw [c1.r]
        refine ⟨fun _ => pk_lt (runS S n).2 0 (fun z => absurd z (by omega)) (fun _ => ?_), fun z => absurd rfl z⟩
        obtain ⟨m, hm⟩ : ∃ m, n = m + 1 := ⟨n - 1, by omega⟩
        have go : b_L_runs_117 Q X M15 (sN S) (nI n) (nI (runS S n).2) 0 := by
          have okm := (runS_good hb.1 m (by omega)).ok
          have e1 : (runS S n).1 = (roundS (runS S m).1).1 := by rw [hm]; rfl
          have e2 : (runS S n).2 = (runS S m).2 + (roundS (runS S m).1).2 := by rw [hm]; rfl
          have T := GG_sum okm (by rw [← e1]; exact hb1.ok)
          rw [← e1] at T
          refine ⟨by omega, by omega, sN S + 1, ?_⟩
          have r := pL_runs2 (n := n) (c := (runS S n).2) (Q := Q) (X := X) hb1 hn (by omega) (fun i o hi => by rw [e1]; exact got_1 hi o) (fun i hi => by rw [e1]; exact got_self hi) (fun i hi => (hb1.1.2.2.2.2.1 i hi).1) ⟨fun h1 => ?_, ?_⟩ (hQ M15 hle hb1 q62) (sN S + 1) (by omega)
          · rw [en] at r; exact r
          · rw [en]
            rw [runS_n] at T
            rw [T, e2]
            have : m = 0 := by omega
            subst this
            show _ = 0 + _
            omega
          · rw [en]
            rw [runS_n] at T
            rw [T, e2]; omega
        refine pk_lt 1 n (fun _ => go) (fun h1 => pk_lt (sm g (sN S)) (runS S n).2 (fun z => ?_) (fun _ => go))
        have e1 : n = 1 := by omega
        have cm := round_came S
        have ge : sm g (sN S) = sm g 6 := (sm_ext ghi 6 n6).symm
        have e2 : (runS S n).2 = (roundS S).2 := by rw [e1]; exact Nat.zero_add _
        have cm : (roundS S).2 ≤ sm g 6 := cm
        omega
      | succ d ih =>
        intro k hk
        have k6 : k < 6 := by omega
        have nx := ih (k + 1) (by omega)
        have sb := sm_bd gb k
        show b_L_runs_32 Q X (l_L_runs_32 Q X (d + 1)) M _ _ _ _
        have nx : l_L_runs_32 Q X (d + 1) M (k + 1) (nI n) (nI (sm g k + g k)) (nI (k + 1)) := nx
        have step : ∀ s0 : Nat, s0 = g k → b_L_runs_66 (l_L_runs_32 Q X (d + 1)) Q X M k (nI n) (nI k) (nI s0) (nI (sm g k)) := fun s0 hs0 => ⟨by omega, fun v hv w hw => by
          rw [hv, hw, nI_add, nI_1, hs0]; exact nx⟩
        unfold b_L_runs_32
        rw [hc.n]
        refine ⟨by omega, hc.e, in0, pk_le (sN S) k (fun z => absurd z (by omega)) (fun _ => ⟨in1, t_here hc k6 (fun hk' => ?_) (fun hk' => step 0 ?_)⟩)⟩
        · have cl' := chosen_lt (S := S) k
          refine q_chosen hb hk' rfl (pL_count (chosen S k) rfl (by omega) (step _ ?_))
          show _ = if _ then _ else _
          rw [hk']; rfl
        · show _ = if _ then _ else _
          rw [hk']; rfl
    exact loop (sN S) 0 (by omega)
  · rw [hc.r]
    exact ⟨fun _ => h0 hgt, fun z => absurd rfl z⟩
end LAW2
