theorem p_arePeers {S : SS} {M : Mem} {Q : Int32 → Mem → Prop} {a b : Int32} (hb : Both S M) (h1 : ∀ i j, i < 6 → j < 6 → a = nI i → b = nI j → hr S i = true → hr S j = true → ∀ M1, M1 = wI M 5 0 0 0 → Both S M1 → mI M1 5 0 0 = nI 0 → Q 1 M1) (h0 : (¬ HereX S a ∨ ¬ HereX S b) → ∀ M1, M1 = wI M 5 0 0 1 → Both S M1 → mI M1 5 0 0 = nI 1 → Q 0 M1) : w_X5_arePeers M a b Q := by
  have h := hb.2.2
  have ok := hb.1.1
  have no : (¬ HereX S a ∨ ¬ HereX S b) → b_X5_arePeers_21 Q M := fun z => ⟨h.e 5, p_fits 1 rfl (by omega) h (fun M1 e r1 g1 v1 => ⟨Or.inl rfl, h0 z M1 e (hb.w5 e) v1⟩)⟩
  refine ⟨h.e 5, p_isPeerM h ok (fun z => t0 (no (Or.inl z))) (fun i hi hx hh => t1 ⟨h.e 5, p_isPeerM h ok (fun z => t0 (no (Or.inr z))) (fun j hj hy hj2 => t1 ⟨h.e 5, p_fits 0 rfl (by omega) h (fun M1 e r1 g1 v1 => ⟨Or.inr rfl, h1 i j hi hj hx hy hh hj2 M1 e (hb.w5 e) v1⟩)⟩)⟩)⟩
theorem pL_shown {S : SS} {M : Mem} {Q : Int32 → Mem → Prop} {a b : Int32} (hb : Both S M) (h1 : ∀ i j, i < 6 → j < 6 → a = nI i → b = nI j → hr S i = true → hr S j = true → ∀ M1, Both S M1 → mL M1 60 0 0 = (nI (shown S i j)).toInt64 → Q 0 M1) (h0 : (¬ HereX S a ∨ ¬ HereX S b) → Q 1 M) : w_L_shown M a b Q := by
  have h := hb.2.1.1
  exact ⟨h.e 4, h.e 4, p_known h (fun z => ⟨rfl, h0 (Or.inl z)⟩) (fun i hi hx hh => ⟨h.e 4, p_known h (fun z => ⟨rfl, h0 (Or.inr z)⟩) (fun j hj hy hj2 => ⟨h.e 4, p_findShown h hb.1.1 hh hj2 (p_put hb (fun M1 _ b1 v1 => h1 i j hi hj hx hy hh hj2 M1 b1 v1))⟩)⟩)⟩
theorem pM_shown {S : SS} {M : Mem} {Q : Int32 → Mem → Prop} {a b : Int32} (hb : Both S M) (h1 : ∀ i j, i < 6 → j < 6 → a = nI i → b = nI j → hr S i = true → hr S j = true → ∀ M1, M1 = wI M 5 0 0 0 → Both S M1 → mI M1 5 0 0 = nI 0 → Q (nI (shown S i j)) M1) (h0 : (¬ HereX S a ∨ ¬ HereX S b) → ∀ M1, M1 = wI M 5 0 0 1 → Both S M1 → mI M1 5 0 0 = nI 1 → Q 0 M1) : w_X5_shown M a b Q := by
  refine ⟨hb.2.2.e 5, p_arePeers hb (fun i j hi hj hx hy hh hj2 M1 e b1 v1 => t1 ⟨b1.2.2.e 5, p_shownBy i j hx hy b1.2.2 b1.1.1 hi hj (h1 i j hi hj hx hy hh hj2 M1 e b1 v1)⟩) (fun z M1 e b1 v1 => t0 (h0 z M1 e b1 v1))⟩
theorem pL_got {S : SS} {M : Mem} {Q : Int32 → Mem → Prop} {a b : Int32} (hb : Both S M) (h1 : ∀ i j, i < 6 → j < 6 → a = nI i → b = nI j → hr S i = true → hr S j = true → ∀ M1, Both S M1 → mL M1 60 0 0 = (nI (sGot S i j)).toInt64 → Q 0 M1) (h0 : (¬ HereX S a ∨ ¬ HereX S b) → Q 1 M) : w_L_got M a b Q := by
  have h := hb.2.1.1
  refine ⟨h.e 4, h.e 4, p_known h (fun z => ⟨rfl, h0 (Or.inl z)⟩) (fun i hi hx hh => ⟨h.pe hh 2, h.pf hh 8, h.e 4, p_known h (fun z => ⟨rfl, h0 (Or.inr z)⟩) (fun j hj hy hj2 => ⟨h.pe hj2 2, h.pe hh 24, ?_⟩)⟩)⟩
  rw [h.num hj2, cl j (by omega), h.got hh hj]
  exact ⟨pk_in j 6 hj, p_put hb (fun M1 _ b1 v1 => h1 i j hi hj hx hy hh hj2 M1 b1 v1)⟩
theorem pM_got {S : SS} {M : Mem} {Q : Int32 → Mem → Prop} {a b : Int32} (hb : Both S M) (h1 : ∀ i j, i < 6 → j < 6 → a = nI i → b = nI j → hr S i = true → hr S j = true → ∀ M1, M1 = wI M 5 0 0 0 → Both S M1 → mI M1 5 0 0 = nI 0 → Q (nI (sGot S i j)) M1) (h0 : (¬ HereX S a ∨ ¬ HereX S b) → ∀ M1, M1 = wI M 5 0 0 1 → Both S M1 → mI M1 5 0 0 = nI 1 → Q 0 M1) : w_X5_got M a b Q := by
  refine ⟨hb.2.2.e 5, p_arePeers hb (fun i j hi hj hx hy hh hj2 M1 e b1 v1 => t1 ⟨b1.2.2.e 5, b1.2.2.f 14, p_pair i j hx hy ⟨b1.2.2.e 44, pk_in (6 * i + j) 36 (by omega), ?_⟩⟩) (fun z M1 e b1 v1 => t0 (h0 z M1 e b1 v1))⟩
  rw [cl _ (by omega), b1.2.2.got hi hj]
  exact h1 i j hi hj hx hy hh hj2 M1 e b1 v1
theorem pL_strikes {S : SS} {M : Mem} {Q : Int32 → Mem → Prop} {a b : Int32} (hb : Both S M) (h1 : ∀ i j, i < 6 → j < 6 → a = nI i → b = nI j → hr S i = true → hr S j = true → ∀ M1, Both S M1 → mL M1 60 0 0 = (nI (sSt S i j)).toInt64 → Q 0 M1) (h0 : (¬ HereX S a ∨ ¬ HereX S b) → Q 1 M) : w_L_strikes M a b Q := by
  have h := hb.2.1.1
  refine ⟨h.e 4, h.e 4, p_known h (fun z => ⟨rfl, h0 (Or.inl z)⟩) (fun i hi hx hh => ⟨h.pe hh 2, h.pf hh 9, h.e 4, p_known h (fun z => ⟨rfl, h0 (Or.inr z)⟩) (fun j hj hy hj2 => ⟨h.pe hj2 2, h.pe hh 25, ?_⟩)⟩)⟩
  rw [h.num hj2, cl j (by omega), h.st hh hj]
  exact ⟨pk_in j 6 hj, p_put hb (fun M1 _ b1 v1 => h1 i j hi hj hx hy hh hj2 M1 b1 v1)⟩
theorem pM_strikes {S : SS} {M : Mem} {Q : Int32 → Mem → Prop} {a b : Int32} (hb : Both S M) (h1 : ∀ i j, i < 6 → j < 6 → a = nI i → b = nI j → hr S i = true → hr S j = true → ∀ M1, M1 = wI M 5 0 0 0 → Both S M1 → mI M1 5 0 0 = nI 0 → Q (nI (sSt S i j)) M1) (h0 : (¬ HereX S a ∨ ¬ HereX S b) → ∀ M1, M1 = wI M 5 0 0 1 → Both S M1 → mI M1 5 0 0 = nI 1 → Q 0 M1) : w_X5_strikes M a b Q := by
  refine ⟨hb.2.2.e 5, p_arePeers hb (fun i j hi hj hx hy hh hj2 M1 e b1 v1 => t1 ⟨b1.2.2.e 5, b1.2.2.f 15, p_pair i j hx hy ⟨b1.2.2.e 45, pk_in (6 * i + j) 36 (by omega), ?_⟩⟩) (fun z M1 e b1 v1 => t0 (h0 z M1 e b1 v1))⟩
  rw [cl _ (by omega), b1.2.2.st hi hj]
  exact h1 i j hi hj hx hy hh hj2 M1 e b1 v1
theorem pL_isBanned {S : SS} {M : Mem} {Q : Int32 → Mem → Prop} {a b : Int32} (hb : Both S M) (h1 : ∀ i j, i < 6 → j < 6 → a = nI i → b = nI j → hr S i = true → hr S j = true → ∀ M1, Both S M1 → mL M1 60 0 0 = (nI (b2 ((sBan S i).testBit j))).toInt64 → Q 0 M1) (h0 : (¬ HereX S a ∨ ¬ HereX S b) → Q 1 M) : w_L_isBanned M a b Q := by
  have h := hb.2.1.1
  have bl : ∀ i, sBan S i < 2 ^ 31 := fun i => Nat.lt_trans (hb.1.1.ban i) (by decide)
  refine ⟨h.e 4, h.e 4, p_known h (fun z => ⟨rfl, h0 (Or.inl z)⟩) (fun i hi hx hh => ⟨h.pe hh 2, h.e 4, p_known h (fun z => ⟨rfl, h0 (Or.inr z)⟩) (fun j hj hy hj2 => ⟨h.pe hj2 2, ?_⟩)⟩)⟩
  have put : ∀ v : Bool, (sBan S i).testBit j = v → ∀ s : Int64, s = (nI (b2 v)).toInt64 → b_L_isBanned_16 Q M s 0 := fun v hv s hs =>
    ⟨hb.2.1.2.2.2.2, pk_in 0 1 (by omega), fun M1 e1 => h1 i j hi hj hx hy hh hj2 M1 (hb.w60 e1) (by rw [e1, mL_wL, hv, hs]; exact if_pos ⟨rfl, rfl, rfl⟩)⟩
  refine p_isIn (sBan S i) j (by rw [h.ban hh]; exact nI_l (bl i)) (h.num hj2) (Nat.lt_trans (hb.1.1.ban i) (by decide)) (by omega) (fun z => ⟨Or.inr rfl, t1 (put true z 1 (by decide))⟩) (fun z => ⟨Or.inl rfl, t0 (put false z 0 (by decide))⟩)
theorem pM_isBanned {S : SS} {M : Mem} {Q : Int32 → Mem → Prop} {a b : Int32} (hb : Both S M) (h1 : ∀ i j, i < 6 → j < 6 → a = nI i → b = nI j → hr S i = true → hr S j = true → ∀ M1, M1 = wI M 5 0 0 0 → Both S M1 → mI M1 5 0 0 = nI 0 → Q (nI (b2 ((sBan S i).testBit j))) M1) (h0 : (¬ HereX S a ∨ ¬ HereX S b) → ∀ M1, M1 = wI M 5 0 0 1 → Both S M1 → mI M1 5 0 0 = nI 1 → Q 0 M1) : w_X5_isBanned M a b Q := by
  refine ⟨hb.2.2.e 5, p_arePeers hb (fun i j hi hj hx hy hh hj2 M1 e b1 v1 => t1 ⟨b1.2.2.e 5, b1.2.2.f 16, p_pair i j hx hy ⟨b1.2.2.e 46, pk_in (6 * i + j) 36 (by omega), ?_⟩⟩) (fun z M1 e b1 v1 => t0 (h0 z M1 e b1 v1))⟩
  have r := h1 i j hi hj hx hy hh hj2 M1 e b1 v1
  rw [cl _ (by omega), b1.2.2.ban hi hj]
  exact q_b2 _ (fun z => by rw [z] at r; exact r) (fun z => by rw [z] at r; exact r)
theorem pL_blocks {S : SS} {M : Mem} {Q : Int32 → Mem → Prop} {a b : Int32} (hb : Both S M) (h1 : ∀ i p, i < 6 → p < 12 → a = nI i → b = nI p → hr S i = true → ∀ M1, Both S M1 → mL M1 60 0 0 = (nI (if (sHeld S i).testBit p then 15 else nib (sHad S i) p)).toInt64 → Q 0 M1) (h0 : (¬ HereX S a ∨ ∀ p, p < 12 → b ≠ nI p) → Q 1 M) : w_L_blocks M a b Q := by
  have h := hb.2.1.1
  have ok := hb.1.1
  refine ⟨h.e 4, h.e 4, p_known h (fun z => ⟨rfl, h0 (Or.inl z)⟩) (fun i hi hx hh => ⟨h.pe hh 2, h.pf hh 1, p_checkPiece (fun z => ⟨rfl, h0 (Or.inr z)⟩) (fun p hp hy => ⟨h.pe hh 3, ?_⟩)⟩)⟩
  refine p_isIn (sHeld S i) p (by rw [h.held hh]; exact nI_l (lt12 (ok.held i))) hy (Nat.lt_trans (ok.held i) (by decide)) (by omega) (fun z => t1 (p_put hb (fun M1 _ b1 v1 => h1 i p hi hp hx hy hh M1 b1 (by rw [v1, if_pos z]; rfl)))) (fun z => t0 ⟨h.pe hh 3, ?_⟩)
  have e : (((mL M 3 i 1) >>> ((b * 4).toInt64 &&& 63)).toInt32) &&& 15 = nI (nib (sHad S i) p) := by
    rw [h.had hh, hy, show nI p * 4 = nI (p * 4) from pk_mul p 4, l_shr (lt48 (ok.had i)) (by omega)]
    have hl : (lN (sHad S i / 2 ^ (p * 4))).toInt32 = nI (sHad S i / 2 ^ (p * 4)) := by
      apply Int32.toBitVec_inj.mp
      rw [Int64.toBitVec_toInt32, BitVec.signExtend_eq_setWidth_of_le _ (by decide), lN_bv, BitVec.setWidth_ofNat_of_le (by decide)]
      rfl
    rw [hl]
    have hm : nI (sHad S i / 2 ^ (p * 4)) &&& nI 15 = nI (sHad S i / 2 ^ (p * 4) % 16) := by simpa using fa_mask (sHad S i / 2 ^ (p * 4)) 4
    unfold nib
    rw [Nat.mul_comm 4 p]
    exact hm
  rw [e]
  exact p_put hb (fun M1 _ b1 v1 => h1 i p hi hp hx hy hh M1 b1 (by rw [v1, if_neg (by rw [z]; decide)]))
