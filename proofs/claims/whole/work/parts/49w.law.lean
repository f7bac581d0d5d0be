theorem two_x {C D : Prop} (h : C ∧ D) (h2 : ¬ C ∨ ¬ D) : False := by
  rcases h2 with z | z
  · exact z h.1
  · exact z h.2
theorem herep_x {C : Prop} {b : Int32} (h : C ∧ PieceX b) (h2 : ¬ C ∨ NoPiece b) : False := by
  rcases h2 with z | z
  · exact z h.1
  · exact piece_x h.2 z
theorem prio_x {x : Int32} (h : PrioX x) (h2 : NoPrio x) : False := by
  obtain ⟨p, hp, e⟩ := h
  exact h2 p hp e
theorem if_VW (x v : Nat) : ((if x = v then (0 : Int32) else 1) = 0 ∧ (if x = v then (0 : Int64) else 1) = 0) ∨ ((if x = v then (0 : Int32) else 1) = 1 ∧ (if x = v then (0 : Int64) else 1) = 1) := by
  by_cases z : x = v
  · left; exact ⟨if_pos z, if_pos z⟩
  · right; exact ⟨if_neg z, if_neg z⟩
theorem b2_VW (b : Bool) : (nI (b2 b) = 0 ∧ (nI (b2 b)).toInt64 = 0) ∨ (nI (b2 b) = 1 ∧ (nI (b2 b)).toInt64 = 1) := by
  cases b
  · left; exact ⟨rfl, by decide⟩
  · right; exact ⟨rfl, by decide⟩
set_option maxHeartbeats 2000000 in
/-- one call of the law -/
theorem law_b {L : Nat} {xs : Nat → Int32} {Q : Int32 → Mem → Prop} {k23 : Mem → Nat → Int32 → Prop} {S : SS} {M : Mem} {it : Nat} (hL : L ≤ 2048) (hit : 4 * it ≤ L) (hb : Both S M) (hq : Q 1 M) (nx : 4 * it + 4 ≤ L → ∀ S2 M1, Both S2 M1 → k23 M1 (it + 1) (nI (4 * it + 4))) : b_L_law_23 L xs Q k23 M it (nI (4 * it)) := by
  refine ⟨by omega, fun _ => hq, fun h => ?_⟩
  have hl : 4 * it + 4 ≤ L := by
    rw [Int32.lt_iff_toInt_lt] at h
    have e1 : (Int32.ofNat L - 4).toInt = (L : Int) - 4 := pk_sub_toInt (a := L) (b := 4) (by omega) (by omega)
    have e2 : (nI (4 * it)).toInt = ((4 * it : Nat) : Int) := nI_toInt (by omega)
    rw [e1, e2] at h
    omega
  have t5 : it < 512 := by omega
  have go : ∀ S2 M1, Both S2 M1 → b_L_law_1318 k23 L xs Q M1 it (nI (4 * it)) := fun S2 M1 b => ⟨t5, fun v hv => by
    rw [hv, show nI (4 * it) + 4 = nI (4 * it + 4) from nI_add (4 * it) 4]
    exact nx hl S2 M1 b⟩
  have A : ∀ S2 M1, Both S2 M1 → (it < 512 ∧ b_L_law_1318 k23 L xs Q M1 it (nI (4 * it))) := fun S2 M1 b => ⟨t5, go S2 M1 b⟩
  have D : ∀ S2 M1 (s : Int64), Both S2 M1 → (it < 512 ∧ ((lg_cmp s s = 0 → (it < 512 ∧ b_L_law_1318 k23 L xs Q M1 it (nI (4 * it)))) ∧ (¬ lg_cmp s s = 0 → Q 0 M1))) := fun S2 M1 s b => ⟨t5, p_cmp rfl (A S2 M1 b)⟩
  have x1 : vp_in (nI (4 * it) + 1) L := pk_in (4 * it + 1) L (by omega) (nI_1 _)
  have x2 : vp_in (nI (4 * it) + 2) L := pk_in (4 * it + 2) L (by omega) (nI_add (4 * it) 2)
  have x3 : vp_in (nI (4 * it) + 3) L := pk_in (4 * it + 3) L (by omega) (nI_add (4 * it) 3)
  refine ⟨pk_in (4 * it) L (by omega), t5, fun v _ => ?_⟩
  refine ⟨fun _ => ⟨x1, fun z => ⟨t5, ask_end hb (aL_join 0 (by omega) rfl hb) (fun M1 y => aM_join 0 (by omega) rfl (repOf y) hb.1.1) (fun c e => by omega) (fun _ e => e.elim) (fun _ e => e.elim) (fun r M1 w => ⟨x1, fun _ => ⟨t5, w⟩, fun y => absurd z y⟩) A⟩, fun z => ⟨t5, ask_end hb (aL_join 1 (by omega) rfl hb) (fun M1 y => aM_join 1 (by omega) rfl (repOf y) hb.1.1) (fun c e => by omega) (fun _ e => e.elim) (fun _ e => e.elim) (fun r M1 w => ⟨x1, fun y => absurd y z, fun _ => ⟨t5, w⟩⟩) A⟩⟩, fun _ => ?_⟩
  refine ⟨fun _ => ⟨x1, ask_end hb (aL_leave hb) (fun M1 y => aM_leave (repOf y) hb.1.1) (fun c e => e c) (fun _ e => e.elim) (fun _ e => e.elim) (fun r M1 w => ⟨x1, w⟩) A⟩, fun _ => ?_⟩
  refine ⟨fun _ => ⟨x1, x2, ask_end hb (aL_setPriority hb) (fun M1 y => aM_setPriority (repOf y)) (fun c e => piece_x c.1 e) (fun c e => prio_x c.2 e.2) (fun e1 e2 => piece_x e2.1 e1) (fun r M1 w => ⟨x1, x2, w⟩) A⟩, fun _ => ?_⟩
  refine ⟨fun _ => ⟨x1, x2, fun z => ⟨t5, ask_endB hb (aL_setSequence 0 (by omega) rfl hb) (fun M1 y => aM_setSequence 0 (by omega) rfl (repOf y) hb.1.1) (fun c e => e c) (fun _ e => e.elim) (fun _ e => e.elim) (if_VW _ _) (fun r M1 w => ⟨x1, x2, fun _ => ⟨t5, w⟩, fun y => absurd z y⟩) A D⟩, fun z => ⟨t5, ask_endB hb (aL_setSequence 1 (by omega) rfl hb) (fun M1 y => aM_setSequence 1 (by omega) rfl (repOf y) hb.1.1) (fun c e => e c) (fun _ e => e.elim) (fun _ e => e.elim) (if_VW _ _) (fun r M1 w => ⟨x1, x2, fun y => absurd y z, fun _ => ⟨t5, w⟩⟩) A D⟩⟩, fun _ => ?_⟩
  refine ⟨fun _ => ⟨x1, x2, fun z => ⟨t5, ask_endB hb (aL_setCareful 0 (by omega) rfl hb) (fun M1 y => aM_setCareful 0 (by omega) rfl (repOf y) hb.1.1) (fun c e => e c) (fun _ e => e.elim) (fun _ e => e.elim) (if_VW _ _) (fun r M1 w => ⟨x1, x2, fun _ => ⟨t5, w⟩, fun y => absurd z y⟩) A D⟩, fun z => ⟨t5, ask_endB hb (aL_setCareful 1 (by omega) rfl hb) (fun M1 y => aM_setCareful 1 (by omega) rfl (repOf y) hb.1.1) (fun c e => e c) (fun _ e => e.elim) (fun _ e => e.elim) (if_VW _ _) (fun r M1 w => ⟨x1, x2, fun y => absurd y z, fun _ => ⟨t5, w⟩⟩) A D⟩⟩, fun _ => ?_⟩
  refine ⟨fun _ => ⟨x1, x2, x3, fun z => ⟨t5, ask_endB hb (aL_spoil 0 (by omega) rfl hb) (fun M1 y => aM_spoil 0 (by omega) rfl (repOf y) hb.1.1) herep_x (fun _ e => e.elim) (fun _ e => e.elim) (if_VW _ _) (fun r M1 w => ⟨x1, x2, x3, fun _ => ⟨t5, w⟩, fun y => absurd z y⟩) A D⟩, fun z => ⟨t5, ask_endB hb (aL_spoil 1 (by omega) rfl hb) (fun M1 y => aM_spoil 1 (by omega) rfl (repOf y) hb.1.1) herep_x (fun _ e => e.elim) (fun _ e => e.elim) (if_VW _ _) (fun r M1 w => ⟨x1, x2, x3, fun y => absurd y z, fun _ => ⟨t5, w⟩⟩) A D⟩⟩, fun _ => ?_⟩
  refine ⟨fun _ => ⟨x1, ask_end hb (aL_run hb) (fun M1 y => aM_run (repOf y) hb.1) run_x (fun c e => run_y c e (fun n p q => by omega)) (fun e1 e2 => run_x e2 e1) (fun r M1 w => ⟨x1, w⟩) A⟩, fun _ => ?_⟩
  refine ⟨fun _ => ⟨hb.2.1.1.e 4, p_roundsC hb ⟨hb.2.2.e 5, p_roundsM hb (fun M1 b1 => ⟨fun _ => go _ _ b1, fun z => absurd rfl z⟩)⟩⟩, fun _ => ?_⟩
  refine ⟨fun _ => ⟨hb.2.1.1.e 4, p_peersC hb ⟨hb.2.2.e 5, p_peersM hb (fun M1 b1 => ⟨fun _ => go _ _ b1, fun z => absurd rfl z⟩)⟩⟩, fun _ => ?_⟩
  refine ⟨fun _ => ⟨x1, ask_end hb (aL_holds hb) (fun M1 y => aM_holds (bothOf y)) (fun c e => e c) (fun _ e => e.elim) (fun _ e => e.elim) (fun r M1 w => ⟨x1, w⟩) A⟩, fun _ => ?_⟩
  refine ⟨fun _ => ⟨x1, ask_end hb (aL_holdsByLog hb) (fun M1 y => aM_holdsByLog (bothOf y)) (fun c e => e c) (fun _ e => e.elim) (fun _ e => e.elim) (fun r M1 w => ⟨x1, w⟩) A⟩, fun _ => ?_⟩
  refine ⟨fun _ => ⟨x1, x2, ask_end hb (aL_blocks hb) (fun M1 y => aM_blocks (bothOf y)) herep_x (fun _ e => e.elim) (fun _ e => e.elim) (fun r M1 w => ⟨x1, x2, w⟩) A⟩, fun _ => ?_⟩
  refine ⟨fun _ => ⟨x1, ask_end hb (aL_holders hb) (fun M1 y => aM_holders (bothOf y)) piece_x (fun _ e => e.elim) (fun _ e => e.elim) (fun r M1 w => ⟨x1, w⟩) A⟩, fun _ => ?_⟩
  refine ⟨fun _ => ⟨x1, x2, ask_end hb (aL_shown hb) (fun M1 y => aM_shown (bothOf y)) two_x (fun _ e => e.elim) (fun _ e => e.elim) (fun r M1 w => ⟨x1, x2, w⟩) A⟩, fun _ => ?_⟩
  refine ⟨fun _ => ⟨x1, ask_end hb (aL_chosen hb) (fun M1 y => aM_chosen (bothOf y)) (fun c e => e c) (fun _ e => e.elim) (fun _ e => e.elim) (fun r M1 w => ⟨x1, w⟩) A⟩, fun _ => ?_⟩
  refine ⟨fun _ => ⟨x1, x2, ask_end hb (aL_got hb) (fun M1 y => aM_got (bothOf y)) two_x (fun _ e => e.elim) (fun _ e => e.elim) (fun r M1 w => ⟨x1, x2, w⟩) A⟩, fun _ => ?_⟩
  refine ⟨fun _ => ⟨x1, ask_end hb (aL_doubles hb) (fun M1 y => aM_doubles (bothOf y)) (fun c e => e c) (fun _ e => e.elim) (fun _ e => e.elim) (fun r M1 w => ⟨x1, w⟩) A⟩, fun _ => ?_⟩
  refine ⟨fun _ => ⟨x1, x2, ask_end hb (aL_strikes hb) (fun M1 y => aM_strikes (bothOf y)) two_x (fun _ e => e.elim) (fun _ e => e.elim) (fun r M1 w => ⟨x1, x2, w⟩) A⟩, fun _ => ?_⟩
  refine ⟨fun _ => ⟨x1, x2, ask_endB hb (aL_isBanned hb) (fun M1 y => aM_isBanned (bothOf y)) two_x (fun _ e => e.elim) (fun _ e => e.elim) (b2_VW _) (fun r M1 w => ⟨x1, x2, w⟩) A D⟩, fun _ => ?_⟩
  exact go S M hb
theorem law_l {L : Nat} {xs : Nat → Int32} {Q : Int32 → Mem → Prop} (hL : L ≤ 2048) (hq : ∀ M, Q 1 M) : ∀ d it S M, 4 * it ≤ L → it + d = 513 → Both S M → l_L_law_23 L xs Q d M it (nI (4 * it)) := by
  intro d
  induction d with
  | zero => intro it S M h1 h2 _; omega
  | succ d ih =>
    intro it S M h1 h2 hb
    show b_L_law_23 L xs Q (l_L_law_23 L xs Q d) M it (nI (4 * it))
    exact law_b hL h1 hb (hq M) (fun h4 S2 M1 b => ih (it + 1) S2 M1 (by omega) (by omega) b)
theorem pure_law (L : Nat) (xs : Nat → Int32) (hL : L ≤ 2048) : w_L_law L xs M00 (fun r _ => r = 1) := by
  refine ⟨rfl, fun M3 e3 => ?_⟩
  subst e3
  refine p_X4_init (fun M7 g7 f7 => ⟨?_, fun M13 e13 => ?_⟩)
  · rw [g7.1]
    unfold hallM
    simp [mE_N, mE_wI, mE_wF, m00_e]
  · refine p_X5_init (by rw [e13, mE_N, if_pos ⟨rfl, rfl⟩]) (fun κ hκ => ?_) (fun M17 g17 f17 => ⟨?_, fun M23 e23 => ⟨513, law_l hL (fun _ => rfl) 513 0 S00 M23 (by omega) (by omega) (both_0 g7 f7 e13 g17 f17 e23)⟩⟩)
    · rw [e13, mE_N, if_neg (by omega), g7.1]
      have q : ∀ x : Nat, x < 30 → ¬ (κ = x ∧ True) := fun x hx y => by omega
      unfold hallM
      simp only [mE_N, mE_wI, mE_wF, m00_e, if_neg (q 4 (by omega)), if_neg (q 10 (by omega)), if_neg (q 11 (by omega)), if_neg (q 12 (by omega))]
    · rw [g17.1]
      have e60 : mE (modM M13) 60 0 = mE M13 60 0 := by
        unfold modM
        simp [mE_N, mE_wF]
      rw [e60, e13, mE_N, if_neg (by omega), g7.1]
      unfold hallM
      simp [mE_N, mE_wI, mE_wF, m00_e]
