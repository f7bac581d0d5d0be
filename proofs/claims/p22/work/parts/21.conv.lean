/-! the machine's words for sets -/
theorem q_lcmp (x y : Int64) : lg_cmp x y = 0 ↔ x = y := by
  unfold lg_cmp
  by_cases h : x = y
  · subst h
    have : ¬ x > x := by rw [gt_iff_lt, Int64.lt_iff_toInt_lt]; omega
    simp [this]
  · simp only [h, if_false, iff_false]
    split <;> decide
theorem q_divbit (a k : Nat) : a / 2 ^ k % 2 = (if a.testBit k then 1 else 0) := by
  rw [Nat.testBit_eq_decide_div_mod_eq]
  have : a / 2 ^ k % 2 < 2 := Nat.mod_lt _ (by omega)
  by_cases h : a / 2 ^ k % 2 = 1
  · simp [h]
  · have h0 : a / 2 ^ k % 2 = 0 := by omega
    simp [h0]
theorem i_cnt : ∀ k, k < 31 → ((nI k &&& 31).toBitVec.smod 32).toNat = k := by decide +kernel
theorem i_and31 : ∀ k, k < 32 → nI k &&& 31 = nI k := by decide +kernel
theorem i_shr {a k : Nat} (ha : a < 2 ^ 31) (hk : k < 31) : nI a >>> (nI k &&& 31) = nI (a / 2 ^ k) := pk_shrN ha _ k (i_cnt k hk)
theorem i_and1 (a : Nat) : nI a &&& 1 = nI (a % 2) := by
  have h : nI a &&& nI 1 = nI (a % 2) := by simpa using fa_mask a 1
  exact h
theorem i_has {a k : Nat} (ha : a < 2 ^ 31) (hk : k < 31) : (nI a >>> (nI k &&& 31)) &&& 1 = nI (if a.testBit k then 1 else 0) := by
  rw [i_shr ha hk, i_and1, q_divbit]
theorem i_one (k : Nat) (hk : k < 31) : (1 : Int32) <<< (nI k &&& 31) = nI (2 ^ k) := by
  have h := pk_shlN (n := 1) (nI k &&& 31) k (i_cnt k hk) (by
    have : 2 ^ k < 2 ^ 32 := Nat.pow_lt_pow_right (by omega) (by omega)
    omega)
  rw [Nat.one_mul] at h
  exact h
theorem i_nd (a h : Nat) : nI a &&& (nI h ^^^ (-1)) = nI (nd a h) := by
  apply Int32.toBitVec_inj.mp
  apply BitVec.eq_of_getLsbD_eq
  intro i hi
  show (BitVec.ofNat 32 a &&& (BitVec.ofNat 32 h ^^^ (-1 : Int32).toBitVec)).getLsbD i = (BitVec.ofNat 32 (nd a h)).getLsbD i
  rw [show (-1 : Int32).toBitVec = BitVec.allOnes 32 by decide +kernel]
  simp only [BitVec.getLsbD_and, BitVec.getLsbD_xor, BitVec.getLsbD_ofNat, BitVec.getLsbD_allOnes, hi, decide_true, Bool.true_and, nd_bit]
  cases a.testBit i <;> cases h.testBit i <;> rfl
theorem l_or (a b : Nat) : lN a ||| lN b = lN (a ||| b) := by
  apply Int64.toBitVec_inj.mp
  apply BitVec.eq_of_getLsbD_eq
  intro i hi
  show (BitVec.ofNat 64 a ||| BitVec.ofNat 64 b).getLsbD i = (BitVec.ofNat 64 (a ||| b)).getLsbD i
  simp only [BitVec.getLsbD_or, BitVec.getLsbD_ofNat, hi, decide_true, Bool.true_and, Nat.testBit_or]
theorem l_and (a b : Nat) : lN a &&& lN b = lN (a &&& b) := by
  apply Int64.toBitVec_inj.mp
  apply BitVec.eq_of_getLsbD_eq
  intro i hi
  show (BitVec.ofNat 64 a &&& BitVec.ofNat 64 b).getLsbD i = (BitVec.ofNat 64 (a &&& b)).getLsbD i
  simp only [BitVec.getLsbD_and, BitVec.getLsbD_ofNat, hi, decide_true, Bool.true_and, Nat.testBit_and]
theorem l_nd (a h : Nat) : lN a &&& (lN h ^^^ (-1)) = lN (nd a h) := by
  apply Int64.toBitVec_inj.mp
  apply BitVec.eq_of_getLsbD_eq
  intro i hi
  show (BitVec.ofNat 64 a &&& (BitVec.ofNat 64 h ^^^ (-1 : Int64).toBitVec)).getLsbD i = (BitVec.ofNat 64 (nd a h)).getLsbD i
  rw [show (-1 : Int64).toBitVec = BitVec.allOnes 64 by decide +kernel]
  simp only [BitVec.getLsbD_and, BitVec.getLsbD_xor, BitVec.getLsbD_ofNat, BitVec.getLsbD_allOnes, hi, decide_true, Bool.true_and, nd_bit]
  cases a.testBit i <;> cases h.testBit i <;> rfl
theorem l_cnt : ∀ k, k < 64 → (((nI k).toInt64 &&& 63).toBitVec.smod 64).toNat = k := by decide +kernel
theorem l_shr {a k : Nat} (ha : a < 2 ^ 62) (hk : k < 64) : lN a >>> ((nI k).toInt64 &&& 63) = lN (a / 2 ^ k) := pf_shr (l_cnt k hk) ha
theorem l_and1 (a : Nat) : lN a &&& 1 = lN (a % 2) := by
  show lN a &&& lN 1 = _
  rw [l_and, Nat.and_one_is_mod]
theorem l_has {a k : Nat} (ha : a < 2 ^ 62) (hk : k < 64) : (lN a >>> ((nI k).toInt64 &&& 63)) &&& 1 = lN (if a.testBit k then 1 else 0) := by
  rw [l_shr ha hk, l_and1, q_divbit]
theorem l_shl (n : Nat) {k : Nat} (hk : k < 64) : lN n <<< ((nI k).toInt64 &&& 63) = lN (n * 2 ^ k) := wb_shl n hk
theorem l_one {k : Nat} (hk : k < 64) : (1 : Int64) <<< ((nI k).toInt64 &&& 63) = lN (2 ^ k) := by
  have := l_shl 1 hk
  rw [Nat.one_mul] at this
  exact this
theorem l_eq0 {a : Nat} (ha : a < 2 ^ 63) : lN a = 0 ↔ a = 0 := pk_lEQ ha (by decide)
theorem lt48 {a : Nat} (h : a < 2 ^ 48) : a < 2 ^ 62 := Nat.lt_trans h (by omega)
theorem lt12 {a : Nat} (h : a < 4096) : a < 2 ^ 31 := by omega
/-- the class's test of a set -/
theorem p_isIn {M : Mem} {Q : Int32 → Mem → Prop} {x : Int64} {y : Int32} (a k : Nat) (hx : x = lN a) (hy : y = nI k) (ha : a < 2 ^ 62) (hk : k < 64) (h1 : a.testBit k = true → Q 1 M) (h0 : a.testBit k = false → Q 0 M) : w_X4_isIn M x y Q := by
  subst hx hy
  unfold w_X4_isIn
  rw [l_has ha hk, q_lcmp]
  cases hb : a.testBit k
  · exact ⟨fun _ => h0 hb, fun h => absurd (by rfl) h⟩
  · exact ⟨fun h => absurd ((l_eq0 (by decide)).mp h) (by decide), fun _ => h1 hb⟩
/-- 0 or 1 as the code tests it -/
theorem t1 {A B : Prop} (h : B) : (((1 : Int32) = 0 → A) ∧ (¬ (1 : Int32) = 0 → B)) := ⟨fun z => absurd z (by decide), fun _ => h⟩
theorem t0 {A B : Prop} (h : A) : (((0 : Int32) = 0 → A) ∧ (¬ (0 : Int32) = 0 → B)) := ⟨fun _ => h, fun z => absurd rfl z⟩
theorem cl (n : Nat) (h : n < 2 ^ 31) : (nI n).toNatClampNeg = n := nI_clamp h
