theorem pM_blocks {S : SS} {M : Mem} {Q : Int32 → Mem → Prop} {a b : Int32} (hb : Both S M) (h1 : ∀ i p, i < 6 → p < 12 → a = nI i → b = nI p → hr S i = true → ∀ M1, M1 = wI M 5 0 0 0 → Both S M1 → mI M1 5 0 0 = nI 0 → Q (nI (if (sHeld S i).testBit p then 15 else nib (sHad S i) p)) M1) (h0 : (¬ HereX S a ∨ ∀ p, p < 12 → b ≠ nI p) → ∀ M1, M1 = wI M 5 0 0 1 → Both S M1 → mI M1 5 0 0 = nI 1 → Q 0 M1) : w_X5_blocks M a b Q := by
  have h := hb.2.2
  have ok := hb.1.1
  have no : (¬ HereX S a ∨ ∀ p, p < 12 → b ≠ nI p) → b_X5_blocks_20 Q M a b := fun z => ⟨h.e 5, p_fits 1 rfl (by omega) h (fun M1 e r1 g1 v1 => t0 (h0 z M1 e (hb.w5 e) v1))⟩
  refine ⟨h.e 5, p_isPeerM h ok (fun z => t0 (no (Or.inl z))) (fun i hi hx hh => t1 (p_isPiece (fun z => t0 (no (Or.inr z))) (fun p hp hy => t1 ⟨h.e 5, p_fits 0 rfl (by omega) h (fun M1 e r1 g1 v1 => t1 ?_)⟩)))⟩
  have r := h1 i p hi hp hx hy hh M1 e (hb.w5 e) v1
  subst hx
  rw [cl i (by omega), r1.held hi]
  refine ⟨r1.e 5, r1.f 5, r1.e 35, pk_in i 6 hi, p_has (sHeld S i) p rfl hy (lt12 (ok.held i)) (by omega) (fun z => t1 (by rw [if_pos z] at r; exact r)) (fun z => t0 ⟨r1.e 5, r1.f 10, p_at i p rfl hy ⟨r1.e 40, pk_in (12 * i + p) 72 (by omega), ?_⟩⟩)⟩
  rw [cl _ (by omega), r1.had hi hp]
  rw [if_neg (by rw [z]; decide)] at r
  exact r
theorem p_roundsC {S : SS} {M : Mem} {Q : Int32 → Mem → Prop} (hb : Both S M) (hQ : Q (nI (sR S)) M) : w_X4_rounds M Q := by
  refine ⟨hb.2.1.1.e 4, ?_⟩
  rw [hb.2.1.1.r]; exact hQ
theorem p_roundsM {S : SS} {M : Mem} {Q : Int32 → Mem → Prop} (hb : Both S M) (hQ : ∀ M1, Both S M1 → Q (nI (sR S)) M1) : w_X5_rounds M Q := by
  refine ⟨hb.2.2.e 5, fun M1 e => ?_⟩
  have b1 := hb.w5 e
  rw [b1.2.2.r]; exact hQ M1 b1
def hereS (S : SS) : Nat := bs (hr S) 6
theorem p_peersC {S : SS} {M : Mem} {Q : Int32 → Mem → Prop} (hb : Both S M) (hQ : Q (nI (hereS S)) M) : w_X4_peers M Q := by
  have h := hb.2.1.1
  have loop : ∀ d i, i + d = 6 → l_X4_peers_4 Q (d + 1) M (nI (bs (hr S) i)) (nI i) := by
    intro d
    induction d with
    | zero =>
      intro i hi
      have e : i = 6 := by omega
      subst e
      show b_X4_peers_4 Q _ M _ _
      unfold b_X4_peers_4
      exact ⟨h.e 4, h.f 0, h.e 10, pk_le 6 6 (fun _ => hQ) (fun z => absurd z (by omega))⟩
    | succ d ih =>
      intro i hi
      have nx := ih (i + 1) (by omega)
      show b_X4_peers_4 Q (l_X4_peers_4 Q (d + 1)) M _ _
      unfold b_X4_peers_4 b_X4_peers_28
      rw [cl i (by omega), h.pres (by omega)]
      refine ⟨h.e 4, h.f 0, h.e 10, pk_le 6 i (fun z => absurd z (by omega)) (fun _ => ⟨pk_in i 6 (by omega), fun hf v hv w hw => ?_, fun hf w hw => ?_⟩)⟩
      · rw [bs_s1 hf] at nx
        rw [hv, hw, nI_1, i_one i (by omega), fa_or]; exact nx
      · rw [bs_s0 hf] at nx
        rw [hw, nI_1]; exact nx
  exact ⟨7, loop 6 0 rfl⟩
theorem p_peersM {S : SS} {M : Mem} {Q : Int32 → Mem → Prop} (hb : Both S M) (hQ : ∀ M1, Both S M1 → Q (nI (hereS S)) M1) : w_X5_peers M Q := by
  refine ⟨hb.2.2.e 5, fun M1 e => ⟨sN S + 1, ?_⟩⟩
  have b1 := hb.w5 e
  have h := b1.2.2
  have ok := hb.1.1
  have n6 := ok.n
  have loop : ∀ d i, i + d = sN S → l_X5_peers_9 Q (d + 1) M1 (nI (bs (hr S) i)) (nI i) := by
    intro d
    induction d with
    | zero =>
      intro i hi
      have e : i = sN S := by omega
      subst e
      show b_X5_peers_9 Q _ M1 _ _
      unfold b_X5_peers_9
      rw [h.n]
      refine ⟨h.e 5, pk_le (sN S) (sN S) (fun _ => ?_) (fun z => absurd z (by omega))⟩
      rw [← bs_n (fun k hk => hr_hi ok hk) 6 n6]; exact hQ M1 b1
    | succ d ih =>
      intro i hi
      have nx := ih (i + 1) (by omega)
      show b_X5_peers_9 Q (l_X5_peers_9 Q (d + 1)) M1 _ _
      unfold b_X5_peers_9 b_X5_peers_34
      rw [h.n, cl i (by omega)]
      refine ⟨h.e 5, pk_le (sN S) i (fun z => absurd z (by omega)) (fun _ => ⟨h.f 4, h.e 34, pk_in i 6 (by omega), h.here ok (by omega) (fun hf v hv w hw => ?_) (fun hf v hv w hw => ?_)⟩)⟩
      · rw [bs_s0 hf] at nx
        rw [hv, hw, nI_1, show (0 : Int32) = nI 0 from rfl, fa_or, Nat.or_zero]; exact nx
      · rw [bs_s1 hf] at nx
        rw [hv, hw, nI_1, i_one i (by omega), fa_or]; exact nx
  exact loop (sN S) 0 (by omega)
