section LAW5
variable {S : SS} {hh : Nat → Nat} {M : Mem} {Q : Int32 → Mem → Prop} {X : Nat → Mem → Prop} {x y : Int32}
/-- what stands behind a step -/
def Aft (S1 : SS) (h1 : Nat → Nat) (M1 : Mem) : Prop := LB S1 h1 M1 ∧ mE M1 62 0 = false ∧ ∀ k, hr S1 k = true → ∀ p, (h1 k).testBit p = true → (sHeld S1 k).testBit p = true
def Tig (S : SS) (hh : Nat → Nat) : Prop := ∀ k, hr S k = true → hh k = sHeld S k
theorem Aft.of {S1 : SS} {h1 : Nat → Nat} {M1 : Mem} (hb : LB S1 h1 M1) (e : mE M1 62 0 = false) (ht : Tig S1 h1) : Aft S1 h1 M1 := ⟨hb, e, fun k hk p hp => by rw [ht k hk] at hp; exact hp⟩
theorem CB.w61 {M1 : Mem} {k : Nat} {v : Int32} (h : CB S M) (e : M1 = wI M 61 0 k v) : CB S M1 :=
  h.far (Ag.rf.wI (P := fun κ a k => κ = 61) e rfl) (fun κ a k z => by unfold PF; omega)
/-- joining -/
theorem pL_step150 (hb : LB S hh M) (ht : Tig S hh) (h62 : mE M 62 0 = false) (hn : sN S ≤ 5) {v : Nat} (hv : v ≤ 1) (hQ : ∀ S1 h1 M1, Aft S1 h1 M1 → Q 1 M1) : b_L_step_150 Q X M (nI v) := by
  have hc := hb.v
  have pl := pS_lt S
  refine ⟨hc.e, in1, in0, in1, fun M21 e21 => ⟨in0, ?_⟩⟩
  rw [hc.n, hc.p, i_one _ (by omega), fa_or, k1] at e21
  have n21 : mI M21 61 0 ((0 : Int32).toNatClampNeg) = nI (sN S) := by rw [e21, k0, mI_wI, if_neg (by omega)]; exact hc.2 0 (by omega)
  have go : ∀ s0 : Nat, s0 = hvJ v → b_L_step_182 Q X M21 (nI v) (nI s0) (23 + mI M21 61 0 ((0 : Int32).toNatClampNeg)) := fun s0 hs0 => by
    subst hs0
    rw [n21]
    refine ⟨by rw [e21, mE_wI]; exact hc.e, in23 (by omega), fun M26 e26 => ⟨in0, in0, fun M29 e29 => ?_⟩⟩
    rw [k23p (by omega)] at e26
    have n26 : mI M26 61 0 ((0 : Int32).toNatClampNeg) = nI (sN S) := by rw [e26, k0, mI_wI, if_neg (by omega), ← k0]; exact n21
    rw [n26, nI_1, k0] at e29
    have cb29 : CB S M29 := ((hb.2.1.w61 e21).w61 e26).w61 e29
    have cv29 : CV (jS S (hvJ v)) (fun k => if k = sN S then hvJ v else hh k) M29 := by
      refine ⟨by rw [e29, mE_wI, e26, mE_wI, e21, mE_wI]; exact hc.e, fun j hj => ?_⟩
      rw [cell_joi S hh hn j hj, e29, mI_wI]
      by_cases z0 : j = 0
      · rw [if_pos ⟨rfl, rfl, z0⟩, if_pos z0]
      · rw [if_neg (by omega), if_neg z0, e26, mI_wI]
        by_cases z1 : j = 23 + sN S
        · rw [if_pos ⟨rfl, rfl, z1⟩, if_pos z1]
        · rw [if_neg (by omega), if_neg z1, e21, mI_wI]
          by_cases z2 : j = 1
          · rw [if_pos ⟨rfl, rfl, z2⟩, if_pos z2]
          · rw [if_neg (by omega), if_neg z2]; exact hc.2 j hj
    have e62 : mE M29 62 0 = false := by rw [e29, mE_wI, e26, mE_wI, e21, mE_wI]; exact h62
    refine q_join hb.1 cb29 hv hn rfl (fun M32 g32 cb32 f32 => ?_)
    have cv := cv29.fr f32
    have hb2 : LB (jS S (hvJ v)) (fun k => if k = sN S then hvJ v else hh k) M32 := ⟨g32, cb32, cv⟩
    have hN : hr (jS S (hvJ v)) (sN S) = true := by rw [jS_hr, if_pos rfl]
    have nc : mI M32 61 0 ((0 : Int32).toNatClampNeg) - 1 = nI (sN S) := by rw [cv.n, jS_n]; exact nI_pred (sN S)
    have hv12 := hvJ_lt v
    have z := hb.1.z
    have aft : Q 1 M32 := hQ _ _ M32 (Aft.of hb2 (by rw [f32.1 62 (by omega)]; exact e62) (fun k hk => by
      rw [jS_hr] at hk
      by_cases zk : k = sN S
      · simp only [if_pos zk]; rw [zk]; exact (jS_h S (hvJ v)).symm
      · simp only [if_neg zk]
        rw [if_neg zk] at hk
        rw [ht k hk]
        exact (jS_e (Or.inr ⟨by decide, zk⟩)).symm))
    have b225 : ∀ s0 : Nat, s0 = hvJ v → b_L_step_225 Q X M32 (nI s0) (nI (sHeld (jS S (hvJ v)) (sN S))) := fun s0 hs => by
      have eh : sHeld (jS S (hvJ v)) (sN S) = hvJ v := jS_h S (hvJ v)
      have eg : sGot (jS S (hvJ v)) (sN S) (sN S) = 0 := (jS_e (Or.inl (by decide))).trans (z 12 _ _ (by decide) (Nat.le_refl _))
      have ed : sDb (jS S (hvJ v)) (sN S) = 0 := (jS_e (Or.inl (by decide))).trans (z 8 _ _ (by decide) (Nat.le_refl _))
      rw [eh, hs]
      refine ⟨fun _ => ⟨cv.e, in0, in0, ?_⟩, fun w => absurd rfl w⟩
      rw [nc]
      refine q_got hb2 hN hN rfl rfl ?_
      rw [eg]
      refine ⟨fun _ => ⟨cv.e, in0, ?_⟩, fun w => absurd rfl w⟩
      rw [nc]
      refine q_doubles hb2 hN rfl ?_
      rw [ed]
      exact ⟨fun _ => aft, fun w => absurd rfl w⟩
    refine ⟨cv.e, in0, ?_⟩
    rw [nc]
    refine ⟨fun _ => ⟨in0, q_holds hb2 hN rfl ?_⟩, fun w => absurd rfl w⟩
    exact pk_eq v 0 (fun w => b225 0 (by unfold hvJ; rw [if_pos w])) (fun w => b225 4095 (by unfold hvJ; rw [if_neg w]))
  exact pk_eq v 0 (fun w => go 0 (by unfold hvJ; rw [if_pos w])) (fun w => go 4095 (by unfold hvJ; rw [if_neg w]))
theorem pL_step108 (hb : LB S hh M) (ht : Tig S hh) (h62 : mE M 62 0 = false) {b : Nat} (hbl : b < 2 ^ 31) (hQ : ∀ S1 h1 M1, Aft S1 h1 M1 → Q 1 M1) : b_L_step_108 Q X M (nI b) := by
  have hc := hb.v
  have n6 := hb.ok.n
  have pl := pS_lt S
  refine ⟨hc.e, in0, ?_⟩
  rw [hc.n]
  refine pk_eq (sN S) 6 (fun _ => q_peers hb ⟨hc.e, in1, ?_⟩) (fun hn => ⟨in0, ?_⟩)
  · rw [hc.p]
    exact ⟨fun _ => hQ S hh M (Aft.of hb h62 ht), fun w => absurd rfl w⟩
  · have j : ∀ v : Nat, v ≤ 1 → b_L_step_150 Q X M (nI v) := fun v hv => pL_step150 hb ht h62 (by omega) hv hQ
    have e : nI b - nI b / 3 * 3 = nI (b % 3) := pk_rem (d := 3) hbl (by decide) (by decide)
    rw [e]
    exact pk_eq (sN S) 0 (fun _ => j 1 (by omega)) (fun _ => pk_eq (b % 3) 0 (fun _ => j 1 (by omega)) (fun _ => j 0 (by omega)))
theorem pL_step276 (hb : LB S hh M) (ht : Tig S hh) (h62 : mE M 62 0 = false) (hQ : ∀ S1 h1 M1, Aft S1 h1 M1 → Q 1 M1) : b_L_step_276 Q X M := by
  have hc := hb.v
  refine q_peers hb ⟨hc.e, in1, ?_⟩
  rw [hc.p]
  exact ⟨fun _ => hQ S hh M (Aft.of hb h62 ht), fun w => absurd rfl w⟩
/-- a cell written with what it holds -/
theorem LB.w61 {M1 : Mem} {k : Nat} (hb : LB S hh M) (hk : k < 29) (e : M1 = wI M 61 0 k (nI (cell S hh k))) : LB S hh M1 :=
  ⟨hb.1, hb.2.1.w61 e, hb.v.put e (fun j _ => by
    by_cases z : j = k
    · rw [if_pos z, z]
    · rw [if_neg z])⟩
theorem spN_val (x P w : Nat) : (w = 0 → nd x (2 ^ P) ||| 0 = spN x P w) ∧ (w = 1 → nd x (2 ^ P) ||| 2 ^ P = spN x P w) := by
  unfold spN
  exact ⟨fun z => by rw [if_neg (by omega), Nat.or_zero], fun z => by rw [if_pos z]⟩
theorem seq_bit (ok : OKS S) {i : Nat} (hi : i < 6) : (seqS S).testBit i = decide (sSeq S i = 1) := by
  unfold seqS
  rw [bs_bit]
  simp [hi]
  have := ok.seq i
  rcases (show sSeq S i = 0 ∨ sSeq S i = 1 by omega) with z | z <;> rw [z] <;> rfl
theorem tig_f {f i v : Nat} (ht : Tig S hh) (hf : f ≠ 2 ∧ f ≠ 4) : Tig (sU S f i 0 v) hh := fun k hk => by
  have e : ∀ g a c, g ≠ f → sU S f i 0 v g a c = S g a c := fun g a c z => sU_f z
  have hk' : hr S k = true := by
    unfold hr at hk ⊢
    rwa [e _ _ _ (by omega)] at hk
  rw [ht k hk', sHeld, sHeld, e _ _ _ (by omega)]
theorem pL_step394_0 (hb : LB S hh M) (ht : Tig S hh) (h62 : mE M 62 0 = false) {s0 : Int32} (hQ : ∀ S1 h1 M1, Aft S1 h1 M1 → Q 1 M1) : b_L_step_394 Q X M x 0 y s0 := by
  have hc := hb.v
  refine t0 ⟨hc.e, in16, hc.e, in16, fun M1 e1 => t0 ?_⟩
  rw [hc.seq, k16] at e1
  exact hQ S hh M1 (Aft.of (hb.w61 (k := 16) (by omega) e1) (by rw [e1, mE_wI]; exact h62) ht)
theorem pL_step394_1 (hb : LB S hh M) (ht : Tig S hh) (h62 : mE M 62 0 = false) {P w : Nat} (hP : hr S P = true) (hw : w ≤ 1) (hQ : ∀ S1 h1 M1, Aft S1 h1 M1 → Q 1 M1) : b_L_step_394 Q X M (nI P) 1 (nI w) (nI (sSeq S P)) := by
  have hc := hb.v
  have P6 := hb.h6 hP
  have sl := seqS_lt S
  have bq := hb.ok.seq P
  have core : ∀ v : Int32, v = nI (spN (seqS S) P w) → b_L_step_436 Q X M (nI P) 1 (nI w) (nI (sSeq S P)) v 16 := fun v hv => by
    refine ⟨hc.e, in16, fun M1 e1 => t1 ?_⟩
    rw [hv, k16] at e1
    have cv := hc.put e1 (cell_seq S hh P6 hw)
    refine q_setSequence ⟨hb.1, hb.2.1.w61 e1⟩ hw hP rfl rfl (fun M2 g2 c2 f2 => ?_)
    have fin : Q 1 M2 := hQ _ hh M2 (Aft.of ⟨g2, c2, cv.fr f2⟩ (by rw [f2.1 62 (by omega), e1, mE_wI]; exact h62) (tig_f ht (by decide)))
    refine pk_eq (sSeq S P) w (fun z => ?_) (fun z => ?_)
    · rw [if_pos z]; exact ⟨fun _ => fin, fun u => absurd rfl u⟩
    · rw [if_neg z]; exact ⟨fun _ => fin, fun u => absurd rfl u⟩
  refine t1 ⟨hc.e, in16, ?_⟩
  rw [hc.seq, i_one P (by omega), i_nd]
  obtain ⟨v0, v1⟩ := spN_val (seqS S) P w
  refine pk_eq w 0 (fun z => core _ ?_) (fun z => core _ ?_)
  · rw [show (0 : Int32) = nI 0 from rfl, fa_or, v0 z]
  · rw [fa_or, v1 (by omega)]
theorem pL_step489_0 (hb : LB S hh M) (ht : Tig S hh) (h62 : mE M 62 0 = false) {s0 : Int32} (hQ : ∀ S1 h1 M1, Aft S1 h1 M1 → Q 1 M1) : b_L_step_489 Q X M x 0 y s0 := by
  have hc := hb.v
  refine t0 ⟨hc.e, in15, hc.e, in15, fun M1 e1 => t0 ?_⟩
  rw [hc.car, k15] at e1
  exact hQ S hh M1 (Aft.of (hb.w61 (k := 15) (by omega) e1) (by rw [e1, mE_wI]; exact h62) ht)
theorem pL_step489_1 (hb : LB S hh M) (ht : Tig S hh) (h62 : mE M 62 0 = false) {P w : Nat} (hP : hr S P = true) (hw : w ≤ 1) (hQ : ∀ S1 h1 M1, Aft S1 h1 M1 → Q 1 M1) : b_L_step_489 Q X M (nI P) 1 (nI w) (nI (sCar S P)) := by
  have hc := hb.v
  have P6 := hb.h6 hP
  have sl := carS_lt S
  have bq := hb.ok.car P
  have core : ∀ v : Int32, v = nI (spN (carS S) P w) → b_L_step_531 Q X M (nI P) 1 (nI w) (nI (sCar S P)) v 15 := fun v hv => by
    refine ⟨hc.e, in15, fun M1 e1 => t1 ?_⟩
    rw [hv, k15] at e1
    have cv := hc.put e1 (cell_car S hh P6 hw)
    refine q_setCareful ⟨hb.1, hb.2.1.w61 e1⟩ hw hP rfl rfl (fun M2 g2 c2 f2 => ?_)
    have hb2 : LB (sU S 5 P 0 w) hh M2 := ⟨g2, c2, cv.fr f2⟩
    have ht2 : Tig (sU S 5 P 0 w) hh := tig_f ht (by decide)
    have hP2 : hr (sU S 5 P 0 w) P = true := by unfold hr at hP ⊢; rw [sU_f (by decide)]; exact hP
    have fin : Q 1 M2 := hQ _ hh M2 (Aft.of hb2 (by rw [f2.1 62 (by omega), e1, mE_wI]; exact h62) ht2)
    have sh : w_L_areShown M2 (nI P) (fun (r_159 : Int32) (M_157 : Mem) => ((r_159 = 0 → (Q 0 M_157)) ∧ (¬ r_159 = 0 → (b_L_step_570 Q X M_157)))) X := pL_areShown hb2 ht2 hP2 rfl (t1 fin)
    refine pk_eq (sCar S P) w (fun z => ?_) (fun z => ?_)
    · rw [if_pos z]; exact ⟨fun _ => sh, fun u => absurd rfl u⟩
    · rw [if_neg z]; exact ⟨fun _ => sh, fun u => absurd rfl u⟩
  refine t1 ⟨hc.e, in15, ?_⟩
  rw [hc.car, i_one P (by omega), i_nd]
  obtain ⟨v0, v1⟩ := spN_val (carS S) P w
  refine pk_eq w 0 (fun z => core _ ?_) (fun z => core _ ?_)
  · rw [show (0 : Int32) = nI 0 from rfl, fa_or, v0 z]
  · rw [fa_or, v1 (by omega)]
theorem pL_step597_0 (hb : LB S hh M) (ht : Tig S hh) (h62 : mE M 62 0 = false) {P : Nat} (hP : P < 6) {s0 : Int32} (hQ : ∀ S1 h1 M1, Aft S1 h1 M1 → Q 1 M1) : b_L_step_597 Q X M (nI P) x 0 y s0 := by
  have hc := hb.v
  refine t0 ⟨hc.e, in17 hP, hc.e, in17 hP, fun M1 e1 => t0 ?_⟩
  rw [hc.sp hP, k17p hP, ← cell_sp S hh hP] at e1
  exact hQ S hh M1 (Aft.of (hb.w61 (k := 17 + P) (by omega) e1) (by rw [e1, mE_wI]; exact h62) ht)
theorem pL_step597_1 (hb : LB S hh M) (ht : Tig S hh) (h62 : mE M 62 0 = false) {P p w : Nat} (hP : hr S P = true) (hp : p < 12) (hw : w ≤ 1) (hQ : ∀ S1 h1 M1, Aft S1 h1 M1 → Q 1 M1) : b_L_step_597 Q X M (nI P) (nI p) 1 (nI w) (nI (b2 ((sSp S P).testBit p))) := by
  have hc := hb.v
  have P6 := hb.h6 hP
  have sl := hb.ok.sp P
  have bq := b2_le ((sSp S P).testBit p)
  have core : ∀ v : Int32, v = nI (spN (sSp S P) p w) → b_L_step_648 Q X M (nI P) (nI p) 1 (nI w) (nI (b2 ((sSp S P).testBit p))) v (17 + nI P) := fun v hv => by
    refine ⟨hc.e, in17 P6, fun M1 e1 => t1 ?_⟩
    rw [hv, k17p P6] at e1
    have cv := hc.put e1 (cell_spo S hh P6)
    refine q_spoil ⟨hb.1, hb.2.1.w61 e1⟩ hw hP hp rfl rfl rfl (fun M2 g2 c2 f2 => ?_)
    have fin : Q 1 M2 := hQ _ hh M2 (Aft.of ⟨g2, c2, cv.fr f2⟩ (by rw [f2.1 62 (by omega), e1, mE_wI]; exact h62) (tig_f ht (by decide)))
    refine pk_eq (b2 ((sSp S P).testBit p)) w (fun z => ?_) (fun z => ?_)
    · rw [if_pos z]; exact ⟨fun _ => fin, fun u => absurd rfl u⟩
    · rw [if_neg z]; exact ⟨fun _ => fin, fun u => absurd rfl u⟩
  refine t1 ⟨hc.e, in17 P6, ?_⟩
  rw [hc.sp P6, i_one p (by omega), i_nd]
  obtain ⟨v0, v1⟩ := spN_val (sSp S P) p w
  refine pk_eq w 0 (fun z => core _ ?_) (fun z => core _ ?_)
  · rw [show (0 : Int32) = nI 0 from rfl, fa_or, v0 z]
  · rw [fa_or, v1 (by omega)]
theorem pL_step703 (hb : LB S hh M) (ht : Tig S hh) (h62 : mE M 62 0 = false) {n : Nat} (hn : 1 ≤ n ∧ n ≤ 3) (hx : x = nI n) (hQ : ∀ S1 h1 M1, Aft S1 h1 M1 → Q 1 M1) : b_L_step_703 Q X M x :=
  pL_runs hb hn hx (fun _ => ⟨Or.inr rfl, hQ S hh M (Aft.of hb h62 ht)⟩) (fun M1 _ hb1 e1 => ⟨Or.inr rfl, hQ _ hh M1 ⟨hb1, e1.trans h62, fun k hk p hp => by
    rw [runS_hr] at hk
    rw [ht k hk] at hp
    exact runS_held (hb.h6 hk) hp n⟩⟩)
theorem pL_stepLeave (hb : LB S hh M) (ht : Tig S hh) (h62 : mE M 62 0 = false) {P : Nat} (hP : hr S P = true) (hQ : ∀ S1 h1 M1, Aft S1 h1 M1 → Q 1 M1) (M86 : Mem) (e86 : M86 = wI M 61 0 1 (nI (nd (pS S) (2 ^ P)))) :
    mE M86 4 0 = true ∧ (w_X4_leave M86 (nI P) (fun (r_91 : Int32) (M_89 : Mem) => (mE M_89 61 0 = true ∧ ((vp_in (23 + nI P) 29) ∧ (w_L_count M_89 (mI M_89 61 0 ((23 + nI P).toNatClampNeg)) (fun (r_97 : Int32) (M_95 : Mem) => ((r_91 = r_97 → (mE M_95 4 0 = true ∧ (w_X4_peers M_95 (fun (r_103 : Int32) (M_101 : Mem) => (mE M_101 61 0 = true ∧ ((vp_in 1 29) ∧ ((r_103 = (mI M_101 61 0 ((1 : Int32).toNatClampNeg)) → (Q 1 M_101)) ∧ (¬ r_103 = (mI M_101 61 0 ((1 : Int32).toNatClampNeg)) → (Q 0 M_101))))))))) ∧ (¬ r_91 = r_97 → (Q 0 M_95)))))))) X) := by
  have hc := hb.v
  have P6 := hb.h6 hP
  have cv := hc.put e86 (cell_lea S hh P6)
  have hl := hb.ok.held P
  refine q_leave ⟨hb.1, hb.2.1.w61 e86⟩ hP rfl (fun M2 g2 c2 f2 => ?_)
  have hb2 : LB (sU S 2 P 0 0) hh M2 := ⟨g2, c2, cv.fr f2⟩
  have c2' := hb2.v
  have ht2 : Tig (sU S 2 P 0 0) hh := fun k hk => by
    rw [ht k (leave_hr hk).1, sHeld, sHeld, sU_f (by decide)]
  refine ⟨c2'.e, in23 P6, ?_⟩
  rw [c2'.hd P6, ht P hP]
  refine pL_count (sHeld S P) rfl (by omega) ⟨fun _ => q_peers hb2 ⟨c2'.e, in1, ?_⟩, fun u => absurd rfl u⟩
  rw [c2'.p]
  exact ⟨fun _ => hQ _ hh M2 (Aft.of hb2 (by rw [f2.1 62 (by omega), e86, mE_wI]; exact h62) ht2), fun u => absurd rfl u⟩
theorem pL_step58 (hb : LB S hh M) (ht : Tig S hh) (h62 : mE M 62 0 = false) {t a b P p w : Nat} (htl : t < 2 ^ 31) (ha : a < 2 ^ 31) (hbl : b < 2 ^ 31) (P6 : P < 6) (hp : p < 12) (hw : w ≤ 1) {x7 : Int32} (h7 : (x7 = 1 ∧ hr S P = true) ∨ (x7 = 0 ∧ hr S P = false)) (hQ : ∀ S1 h1 M1, Aft S1 h1 M1 → Q 1 M1) : b_L_step_58 Q X M (nI t) (nI a) (nI b) (nI P) (nI p) x7 (nI w) := by
  have hc := hb.v
  have pl := pS_lt S
  have ql := seqS_lt S
  have cl' := carS_lt S
  have ok := hb.ok
  have m3 : nI a - nI a / 3 * 3 = nI (a % 3) := pk_rem (d := 3) ha (by decide) (by decide)
  have m4 : nI a - nI a / 4 * 4 = nI (a % 4) := pk_rem (d := 4) ha (by decide) (by decide)
  have m5 : nI b - nI b / 5 * 5 = nI (b % 5) := pk_rem (d := 5) hbl (by decide) (by decide)
  have m6 : nI b - nI b / 6 * 6 = nI (b % 6) := pk_rem (d := 6) hbl (by decide) (by decide)
  intro v hv
  have hv : v = nI (t % 14) := hv.trans (pk_rem (d := 14) htl (by decide) (by decide))
  subst hv
  rw [m3, m4, m5, m6]
  refine pk_eq (t % 14) 0 (fun _ => pL_step108 hb ht h62 hbl hQ) (fun _ => pk_eq (t % 14) 1 (fun _ => pL_step108 hb ht h62 hbl hQ) (fun _ => pk_eq (t % 14) 2 (fun _ => ?_) (fun _ => pk_eq (t % 14) 3 (fun _ => ?_) (fun _ => pk_eq (t % 14) 4 (fun _ => ?_) (fun _ => pk_eq (t % 14) 5 (fun _ => ?_) (fun _ => pk_eq (t % 14) 6 (fun _ => ?_) (fun _ => ?_)))))))
  · rcases h7 with ⟨rfl, hP⟩ | ⟨rfl, hP⟩
    · refine t1 (pk_le (b % 6) 0 (fun _ => ⟨hc.e, in1, in1, fun M86 e86 => ?_⟩) (fun _ => pL_step276 hb ht h62 hQ))
      rw [hc.p, i_one P (by omega), i_nd, k1] at e86
      exact pL_stepLeave hb ht h62 hP hQ M86 e86
    · exact t0 (pL_step276 hb ht h62 hQ)
  · refine ⟨hc.e, in3 hp, fun v hv => ⟨in3 hp, fun M1 e1 => ?_⟩⟩
    rw [hc.pr hp] at hv
    rw [k3p hp] at e1
    subst hv
    have cv := hc.put e1 (cell_pri S hh hp)
    refine q_setPriority ⟨hb.1, hb.2.1.w61 e1⟩ hp (v := a % 4) (by omega) rfl rfl (fun M2 g2 c2 f2 => ?_)
    exact ⟨fun _ => hQ _ hh M2 (Aft.of ⟨g2, c2, cv.fr f2⟩ (by rw [f2.1 62 (by omega), e1, mE_wI]; exact h62) (tig_f ht (by decide))), fun u => absurd rfl u⟩
  · refine ⟨hc.e, in16, ?_⟩
    rcases h7 with ⟨rfl, hP⟩ | ⟨rfl, hP⟩
    · refine t_bit hc.seq (by omega) (by omega) (fun z => ?_) (fun z => ?_)
      · rw [seq_bit ok P6] at z
        have z : sSeq S P = 1 := by simpa using z
        have r := pL_step394_1 (Q := Q) (X := X) hb ht h62 hP hw hQ
        rw [z] at r; exact r
      · rw [seq_bit ok P6] at z
        have z : sSeq S P = 0 := by
          have := ok.seq P
          have : ¬ sSeq S P = 1 := by simpa using z
          omega
        have r := pL_step394_1 (Q := Q) (X := X) hb ht h62 hP hw hQ
        rw [z] at r; exact r
    · exact ⟨fun _ => pL_step394_0 hb ht h62 hQ, fun _ => pL_step394_0 hb ht h62 hQ⟩
  · refine ⟨hc.e, in15, ?_⟩
    rcases h7 with ⟨rfl, hP⟩ | ⟨rfl, hP⟩
    · refine t_bit hc.car (by omega) (by omega) (fun z => ?_) (fun z => ?_)
      · rw [car_bit ok P6] at z
        have z : sCar S P = 1 := by
          have := ok.car P
          have : sCar S P ≠ 0 := by simpa using z
          omega
        have r := pL_step489_1 (Q := Q) (X := X) hb ht h62 hP hw hQ
        rw [z] at r; exact r
      · rw [car_bit ok P6] at z
        have z : sCar S P = 0 := by simpa using z
        have r := pL_step489_1 (Q := Q) (X := X) hb ht h62 hP hw hQ
        rw [z] at r; exact r
    · exact ⟨fun _ => pL_step489_0 hb ht h62 hQ, fun _ => pL_step489_0 hb ht h62 hQ⟩
  · refine ⟨hc.e, in17 P6, ?_⟩
    have sl := ok.sp P
    rcases h7 with ⟨rfl, hP⟩ | ⟨rfl, hP⟩
    · refine t_bit (hc.sp P6) (by omega) (by omega) (fun z => ?_) (fun z => ?_)
      · have r := pL_step597_1 (Q := Q) (X := X) hb ht h62 hP hp hw hQ
        rw [z] at r; exact r
      · have r := pL_step597_1 (Q := Q) (X := X) hb ht h62 hP hp hw hQ
        rw [z] at r; exact r
    · exact ⟨fun _ => pL_step597_0 hb ht h62 P6 hQ, fun _ => pL_step597_0 hb ht h62 P6 hQ⟩
  · refine pk_eq (b % 5) 0 (fun _ => pL_step703 hb ht h62 (n := 1 + a % 3) (by omega) ?_ hQ) (fun _ => pL_step703 hb ht h62 (n := 1) (by omega) rfl hQ)
    rw [show (1 : Int32) = nI 1 from rfl, nI_add]
theorem pL_step (hb : LB S hh M) (ht : Tig S hh) (h62 : mE M 62 0 = false) {t a b : Nat} (htl : t < 2 ^ 31) (ha : a < 2 ^ 31) (hbl : b < 2 ^ 31) (hQ : ∀ S1 h1 M1, Aft S1 h1 M1 → Q 1 M1) : w_L_step M (nI t) (nI a) (nI b) Q X := by
  have hc := hb.v
  have n6 := hb.ok.n
  have b15 : ∀ P, P < 6 → b_L_step_15 Q X M (nI t) (nI a) (nI b) (nI P) := fun P P6 => by
    intro v hv
    have hv : v = nI (b % 12) := hv.trans (pk_rem (d := 12) hbl (by decide) (by decide))
    subst hv
    have e : nI b / 12 - nI b / 12 / 2 * 2 = nI (b / 12 % 2) := by
      rw [show nI b / 12 = nI (b / 12) from pk_div (d := 12) hbl (by decide) (by decide)]
      exact pk_rem (d := 2) (by omega) (by decide) (by decide)
    have b41 : ∀ x7 : Int32, ((x7 = 1 ∧ hr S P = true) ∨ (x7 = 0 ∧ hr S P = false)) → b_L_step_41 Q X M (nI t) (nI a) (nI b) (nI P) (nI (b % 12)) x7 := fun x7 h7 => by
      unfold b_L_step_41
      rw [e]
      exact pk_eq (b / 12 % 2) 0 (fun _ => pL_step58 hb ht h62 (w := 1) htl ha hbl P6 (by omega) (by omega) h7 hQ) (fun _ => pL_step58 hb ht h62 (w := 0) htl ha hbl P6 (by omega) (by omega) h7 hQ)
    exact ⟨hc.e, in1, t_here hc P6 (fun z => b41 1 (Or.inl ⟨rfl, z⟩)) (fun z => b41 0 (Or.inr ⟨rfl, z⟩))⟩
  refine ⟨hc.e, in0, ?_⟩
  rw [hc.n]
  refine pk_eq (sN S) 0 (fun _ => b15 0 (by omega)) (fun z => ⟨in0, nI_ne0 (by omega) (by omega), ?_⟩)
  rw [show nI a - nI a / nI (sN S) * nI (sN S) = nI (a % sN S) from pk_rem ha (by omega) (by omega)]
  have := Nat.mod_lt a (show 0 < sN S by omega)
  exact b15 _ (by omega)
end LAW5
