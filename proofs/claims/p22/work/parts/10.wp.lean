/-! weakest preconditions of the methods over the memory: laid by wip/whole/gen.py out of the listing -/
def b_J7_fill_53178_11_5 (Q : Mem → Prop) (k5 : Mem → Int32 → Int32 → Int32 → Prop) (M : Mem) (x1 : Int32) (x2 : Int32) (x3 : Int32) : Prop :=
  ((x3 ≤ x2 → (Q M)) ∧ (¬ x3 ≤ x2 → (mE M 11 0 = true ∧ ((vp_in x2 12) ∧ (∀ M_5 : Mem, M_5 = wI M 11 0 x2.toNatClampNeg x1 → (∀ v_6 : Int32, v_6 = x2 + 1 → (k5 M_5 x1 v_6 x3)))))))
def l_J7_fill_53178_11_5 (Q : Mem → Prop) (n : Nat) : Mem → Int32 → Int32 → Int32 → Prop :=
  Nat.rec (motive := fun _ => Mem → Int32 → Int32 → Int32 → Prop) (fun _ _ _ _ => False) (fun _ k => b_J7_fill_53178_11_5 Q k) n
def w_J7_fill_53178_11 (M : Mem) (a1 : Int32) (Q : Mem → Prop) : Prop :=
  (mE M 11 0 = true ∧ (∃ n : Nat, l_J7_fill_53178_11_5 Q n M a1 0 12))
def w_X4_init (M : Mem) (Q : Mem → Prop) : Prop :=
  (mE M 10 0 = false ∧ (∀ M_3 : Mem, M_3 = wN M 10 0 → (mE M_3 4 0 = true ∧ (∀ M_7 : Mem, M_7 = wF M_3 4 0 0 true → (mE M_7 11 0 = false ∧ (∀ M_10 : Mem, M_10 = wN M_7 11 0 → (∀ M_15 : Mem, M_15 = wF M_10 4 0 1 true → (mE M_15 12 0 = false ∧ (∀ M_18 : Mem, M_18 = wN M_15 12 0 → (∀ M_24 : Mem, M_24 = wF M_18 4 0 2 true → (∀ M_25 : Mem, M_25 = wI M_24 4 0 3 0 → (∀ M_26 : Mem, M_26 = wI M_25 4 0 4 0 → (mF M_26 4 0 1 = true ∧ (w_J7_fill_53178_11 M_26 1 (fun (M_29 : Mem) => (Q M_29))))))))))))))))
def b_X4_peers_28 (k4 : Mem → Int32 → Int32 → Prop) (Q : Int32 → Mem → Prop) (M : Mem) (x1 : Int32) (x2 : Int32) : Prop :=
  (∀ v_8 : Int32, v_8 = x2 + 1 → (k4 M x1 v_8))
def b_X4_peers_4 (Q : Int32 → Mem → Prop) (k4 : Mem → Int32 → Int32 → Prop) (M : Mem) (x1 : Int32) (x2 : Int32) : Prop :=
  (mE M 4 0 = true ∧ (mF M 4 0 0 = true ∧ (mE M 10 0 = true ∧ (((6 : Int32) ≤ x2 → (Q x1 M)) ∧ (¬ (6 : Int32) ≤ x2 → ((vp_in x2 6) ∧ ((mF M 10 0 x2.toNatClampNeg = true → (∀ v_7 : Int32, v_7 = (x1 ||| (1 <<< (x2 &&& 31))) → (b_X4_peers_28 k4 Q M v_7 x2))) ∧ (mF M 10 0 x2.toNatClampNeg = false → (b_X4_peers_28 k4 Q M x1 x2)))))))))
def l_X4_peers_4 (Q : Int32 → Mem → Prop) (n : Nat) : Mem → Int32 → Int32 → Prop :=
  Nat.rec (motive := fun _ => Mem → Int32 → Int32 → Prop) (fun _ _ _ => False) (fun _ k => b_X4_peers_4 Q k) n
def w_X4_peers (M : Mem) (Q : Int32 → Mem → Prop) : Prop :=
  (∃ n : Nat, l_X4_peers_4 Q n M 0 0)
def w_X4_rounds (M : Mem) (Q : Int32 → Mem → Prop) : Prop :=
  (mE M 4 0 = true ∧ (Q (mI M 4 0 4) M))
def b_X4_checkPiece_10 (Q : Mem → Prop) (X : Nat → Mem → Prop) (M : Mem) : Prop :=
  (X 1 M)
def w_X4_checkPiece (M : Mem) (a0 : Int32) (Q : Mem → Prop) (X : Nat → Mem → Prop) : Prop :=
  ((a0 < 0 → (b_X4_checkPiece_10 Q X M)) ∧ (¬ a0 < 0 → ((a0 < 12 → (Q M)) ∧ (¬ a0 < 12 → (b_X4_checkPiece_10 Q X M)))))
def w_X4_isIn (M : Mem) (a0 : Int64) (a2 : Int32) (Q : Int32 → Mem → Prop) : Prop :=
  (((lg_cmp ((a0 >>> (a2.toInt64 &&& 63)) &&& 1) 0) = 0 → (Q 0 M)) ∧ (¬ (lg_cmp ((a0 >>> (a2.toInt64 &&& 63)) &&& 1) 0) = 0 → (Q 1 M)))
def b_X4_countHolders_51 (k14 : Mem → Int32 → Int32 → Int32 → Int32 → Prop) (Q : Int32 → Mem → Prop) (M : Mem) (x1 : Int32) (x2 : Int32) (x4 : Int32) (x5 : Int32) : Prop :=
  (∀ v_16 : Int32, v_16 = x5 + 1 → (k14 M x1 x2 x4 v_16))
def b_X4_countHolders_14 (Q : Int32 → Mem → Prop) (k14 : Mem → Int32 → Int32 → Int32 → Int32 → Prop) (M : Mem) (x1 : Int32) (x2 : Int32) (x4 : Int32) (x5 : Int32) : Prop :=
  ((x4 ≤ x5 → (Q x2 M)) ∧ (¬ x4 ≤ x5 → (mE M 10 0 = true ∧ ((vp_in x5 6) ∧ ((mF M 10 0 x5.toNatClampNeg = true → (mE M 2 x5.toNatClampNeg = true ∧ (mF M 2 x5.toNatClampNeg 1 = true ∧ (mE M 3 x5.toNatClampNeg = true ∧ (w_X4_isIn M ((mI M 3 x5.toNatClampNeg 0).toInt64) x1 (fun (r_14 : Int32) (M_12 : Mem) => ((r_14 = 0 → (b_X4_countHolders_51 k14 Q M_12 x1 x2 x4 x5)) ∧ (¬ r_14 = 0 → (∀ v_17 : Int32, v_17 = x2 + 1 → (b_X4_countHolders_51 k14 Q M_12 x1 v_17 x4 x5)))))))))) ∧ (mF M 10 0 x5.toNatClampNeg = false → (b_X4_countHolders_51 k14 Q M x1 x2 x4 x5)))))))
def l_X4_countHolders_14 (Q : Int32 → Mem → Prop) (n : Nat) : Mem → Int32 → Int32 → Int32 → Int32 → Prop :=
  Nat.rec (motive := fun _ => Mem → Int32 → Int32 → Int32 → Int32 → Prop) (fun _ _ _ _ _ => False) (fun _ k => b_X4_countHolders_14 Q k) n
def w_X4_countHolders (M : Mem) (a1 : Int32) (Q : Int32 → Mem → Prop) : Prop :=
  (mE M 4 0 = true ∧ (mF M 4 0 0 = true ∧ (mE M 10 0 = true ∧ (∃ n : Nat, l_X4_countHolders_14 Q n M a1 0 6 0))))
def w_X4_holders (M : Mem) (a1 : Int32) (Q : Int32 → Mem → Prop) (X : Nat → Mem → Prop) : Prop :=
  (w_X4_checkPiece M a1 (fun (M_2 : Mem) => (mE M_2 4 0 = true ∧ (w_X4_countHolders M_2 a1 (fun (r_9 : Int32) (M_7 : Mem) => (Q r_9 M_7))))) X)
def w_L_draw (L : Nat) (xs : Nat → Int32) (M : Mem) (a1 : Int32) (Q : Int32 → Mem → Prop) : Prop :=
  (((Int32.ofNat L) ≤ a1 → (Q ((104729 * (a1 + 2)) - (104729 * (a1 + 2)) / 65521 * 65521) M)) ∧ (¬ (Int32.ofNat L) ≤ a1 → ((vp_in a1 L) ∧ (Q ((xs a1.toNatClampNeg) &&& 2147483647) M))))
def w_X0_init (M : Mem) (t : Nat) (Q : Mem → Prop) : Prop :=
  (mE M 20 t = false ∧ (∀ M_3 : Mem, M_3 = wN M 20 t → (mE M_3 0 t = true ∧ (∀ M_7 : Mem, M_7 = wF M_3 0 t 0 true → (mE M_7 21 t = false ∧ (∀ M_10 : Mem, M_10 = wN M_7 21 t → (∀ M_15 : Mem, M_15 = wF M_10 0 t 1 true → (∀ M_16 : Mem, M_16 = wI M_15 0 t 2 0 → (∀ M_17 : Mem, M_17 = wL M_16 0 t 3 0 → (Q M_17))))))))))
def w_X3_init (M : Mem) (t : Nat) (a1 : Int32) (Q : Mem → Prop) : Prop :=
  (mE M 3 t = true ∧ (∀ M_2 : Mem, M_2 = wL M 3 t 1 0 → (∀ M_3 : Mem, M_3 = wL M_2 3 t 2 0 → (∀ M_4 : Mem, M_4 = wI M_3 3 t 0 a1 → (Q M_4)))))
def w_X1_init (M : Mem) (t : Nat) (a1 : Int32) (Q : Mem → Prop) : Prop :=
  (mE M 22 t = false ∧ (∀ M_3 : Mem, M_3 = wN M 22 t → (mE M_3 1 t = true ∧ (∀ M_7 : Mem, M_7 = wF M_3 1 t 1 true → (∀ M_8 : Mem, M_8 = wI M_7 1 t 2 0 → (∀ M_9 : Mem, M_9 = wI M_8 1 t 0 a1 → (Q M_9)))))))
def w_X2_init (M : Mem) (t : Nat) (a1 : Int32) (a2 : Int32) (Q : Mem → Prop) : Prop :=
  (mE M 0 t = false ∧ (∀ M_3 : Mem, M_3 = wN M 0 t → (w_X0_init M_3 t (fun (M_7 : Mem) => (mE M_7 2 t = true ∧ (mE M_7 0 t = true ∧ (∀ M_12 : Mem, M_12 = wF M_7 2 t 3 true → (∀ M_14 : Mem, M_14 = wI M_12 2 t 4 0 → (∀ M_15 : Mem, M_15 = wI M_14 2 t 5 0 → (∀ M_16 : Mem, M_16 = wI M_15 2 t 6 0 → (mE M_16 23 t = false ∧ (∀ M_19 : Mem, M_19 = wN M_16 23 t → (∀ M_24 : Mem, M_24 = wF M_19 2 t 7 true → (mE M_24 24 t = false ∧ (∀ M_27 : Mem, M_27 = wN M_24 24 t → (∀ M_33 : Mem, M_33 = wF M_27 2 t 8 true → (mE M_33 25 t = false ∧ (∀ M_36 : Mem, M_36 = wN M_33 25 t → (∀ M_43 : Mem, M_43 = wF M_36 2 t 9 true → (∀ M_44 : Mem, M_44 = wI M_43 2 t 10 0 → (∀ M_45 : Mem, M_45 = wI M_44 2 t 11 0 → (mE M_45 26 t = false ∧ (∀ M_48 : Mem, M_48 = wN M_45 26 t → (∀ M_56 : Mem, M_56 = wF M_48 2 t 12 true → (∀ M_57 : Mem, M_57 = wI M_56 2 t 13 0 → (∀ M_58 : Mem, M_58 = wI M_57 2 t 0 a1 → (mE M_58 3 t = false ∧ (∀ M_61 : Mem, M_61 = wN M_58 3 t → (w_X3_init M_61 t a2 (fun (M_71 : Mem) => (mE M_71 2 t = true ∧ (mE M_71 3 t = true ∧ (∀ M_75 : Mem, M_75 = wF M_71 2 t 1 true → (mE M_75 1 t = false ∧ (∀ M_79 : Mem, M_79 = wN M_75 1 t → (w_X1_init M_79 t a2 (fun (M_85 : Mem) => (mE M_85 2 t = true ∧ (mE M_85 1 t = true ∧ (∀ M_90 : Mem, M_90 = wF M_85 2 t 2 true → (Q M_90)))))))))))))))))))))))))))))))))))))))))
def b_X4_join_48 (Q : Int32 → Mem → Prop) (X : Nat → Mem → Prop) (M : Mem) (x2 : Int32) (s0 : Int32) (s1 : Int32) (s2 : Nat) (s3 : Nat) (s4 : Int32) : Prop :=
  (mE M 2 s2 = true ∧ (w_X2_init M s2 s1 s0 (fun (M_16 : Mem) => (mE M_16 10 0 = true ∧ ((vp_in s4 6) ∧ ((s3 = s4.toNatClampNeg) ∧ (mE M_16 2 s3 = true ∧ (∀ M_22 : Mem, M_22 = wF M_16 10 0 s4.toNatClampNeg true → (mE M_22 4 0 = true ∧ (∀ M_26 : Mem, M_26 = wI M_22 4 0 3 ((mI M_22 4 0 3) + 1) → (Q x2 M_26)))))))))))
def w_X4_join (M : Mem) (a1 : Int32) (Q : Int32 → Mem → Prop) (X : Nat → Mem → Prop) : Prop :=
  (mE M 4 0 = true ∧ (mF M 4 0 0 = true ∧ (mE M 10 0 = true ∧ (((mI M 4 0 3) < 6 → (∀ v_5 : Int32, v_5 = (mI M 4 0 3) → (mE M 2 v_5.toNatClampNeg = false ∧ (∀ M_8 : Mem, M_8 = wN M 2 v_5.toNatClampNeg → ((a1 = 0 → (b_X4_join_48 Q X M_8 v_5 0 v_5 v_5.toNatClampNeg v_5.toNatClampNeg v_5)) ∧ (¬ a1 = 0 → (b_X4_join_48 Q X M_8 v_5 4095 v_5 v_5.toNatClampNeg v_5.toNatClampNeg v_5))))))) ∧ (¬ (mI M 4 0 3) < 6 → (X 0 M))))))
def b_X4_find_13 (Q : Option Nat → Mem → Prop) (M : Mem) : Prop :=
  (Q none M)
def w_X4_find (M : Mem) (a1 : Int32) (Q : Option Nat → Mem → Prop) : Prop :=
  ((a1 < 0 → (b_X4_find_13 Q M)) ∧ (¬ a1 < 0 → (mE M 4 0 = true ∧ (mF M 4 0 0 = true ∧ (mE M 10 0 = true ∧ ((a1 < 6 → ((vp_in a1 6) ∧ ((mF M 10 0 a1.toNatClampNeg = true → (Q (some a1.toNatClampNeg) M)) ∧ (mF M 10 0 a1.toNatClampNeg = false → (Q none M))))) ∧ (¬ a1 < 6 → (b_X4_find_13 Q M))))))))
def w_X4_known (M : Mem) (a1 : Int32) (Q : Nat → Mem → Prop) (X : Nat → Mem → Prop) : Prop :=
  (mE M 4 0 = true ∧ (w_X4_find M a1 (fun (z : Option Nat) (M_3 : Mem) => ((z = none → (X 1 M_3)) ∧ (∀ r_5 : Nat, z = some r_5 → (Q r_5 M_3))))))
def w_X4_holds (M : Mem) (a1 : Int32) (Q : Int32 → Mem → Prop) (X : Nat → Mem → Prop) : Prop :=
  (mE M 4 0 = true ∧ (w_X4_known M a1 (fun (r_5 : Nat) (M_3 : Mem) => (mE M_3 2 r_5 = true ∧ (mF M_3 2 r_5 1 = true ∧ (mE M_3 3 r_5 = true ∧ (Q (mI M_3 3 r_5 0) M_3))))) X))
def w_X4_got (M : Mem) (a1 : Int32) (a2 : Int32) (Q : Int32 → Mem → Prop) (X : Nat → Mem → Prop) : Prop :=
  (mE M 4 0 = true ∧ (w_X4_known M a1 (fun (r_5 : Nat) (M_3 : Mem) => (mE M_3 2 r_5 = true ∧ (mF M_3 2 r_5 8 = true ∧ (mE M_3 4 0 = true ∧ (w_X4_known M_3 a2 (fun (r_12 : Nat) (M_10 : Mem) => (mE M_10 2 r_12 = true ∧ (mE M_10 24 r_5 = true ∧ ((vp_in (mI M_10 2 r_12 0) 6) ∧ (Q (mI M_10 24 r_5 ((mI M_10 2 r_12 0).toNatClampNeg)) M_10))))) X))))) X))
def w_X4_doubles (M : Mem) (a1 : Int32) (Q : Int32 → Mem → Prop) (X : Nat → Mem → Prop) : Prop :=
  (mE M 4 0 = true ∧ (w_X4_known M a1 (fun (r_5 : Nat) (M_3 : Mem) => (mE M_3 2 r_5 = true ∧ (Q (mI M_3 2 r_5 11) M_3))) X))
def w_J6_bitCount_0f7a4 (M : Mem) (a0 : Int32) (Q : Int32 → Mem → Prop) : Prop :=
  (∀ v_1 : Int32, v_1 = (a0 - (((a0.toUInt32 >>> ((1 : Int32).toUInt32 &&& Int32.toUInt32 31)).toInt32) &&& 1431655765)) → (∀ v_2 : Int32, v_2 = ((v_1 &&& 858993459) + (((v_1.toUInt32 >>> ((2 : Int32).toUInt32 &&& Int32.toUInt32 31)).toInt32) &&& 858993459)) → (∀ v_3 : Int32, v_3 = ((v_2 + ((v_2.toUInt32 >>> ((4 : Int32).toUInt32 &&& Int32.toUInt32 31)).toInt32)) &&& 252645135) → (∀ v_4 : Int32, v_4 = (v_3 + ((v_3.toUInt32 >>> ((8 : Int32).toUInt32 &&& Int32.toUInt32 31)).toInt32)) → (∀ v_5 : Int32, v_5 = (v_4 + ((v_4.toUInt32 >>> ((16 : Int32).toUInt32 &&& Int32.toUInt32 31)).toInt32)) → (Q (v_5 &&& 63) M))))))
def w_X4_leave (M : Mem) (a1 : Int32) (Q : Int32 → Mem → Prop) (X : Nat → Mem → Prop) : Prop :=
  (mE M 4 0 = true ∧ (w_X4_known M a1 (fun (r_5 : Nat) (M_3 : Mem) => (mE M_3 4 0 = true ∧ (mF M_3 4 0 0 = true ∧ (mE M_3 2 r_5 = true ∧ (mE M_3 10 0 = true ∧ ((vp_in (mI M_3 2 r_5 0) 6) ∧ (∀ M_11 : Mem, M_11 = wF M_3 10 0 ((mI M_3 2 r_5 0).toNatClampNeg) false → (mF M_11 2 r_5 1 = true ∧ (mE M_11 3 r_5 = true ∧ (w_J6_bitCount_0f7a4 M_11 (mI M_11 3 r_5 0) (fun (r_17 : Int32) (M_15 : Mem) => (Q r_17 M_15)))))))))))) X))
def b_L_count_4 (Q : Int32 → Mem → Prop) (k4 : Mem → Int32 → Int32 → Int32 → Prop) (M : Mem) (x0 : Int32) (x1 : Int32) (x2 : Int32) : Prop :=
  (((12 : Int32) ≤ x2 → (Q x1 M)) ∧ (¬ (12 : Int32) ≤ x2 → (∀ v_2 : Int32, v_2 = (x1 + ((x0 >>> (x2 &&& 31)) &&& 1)) → (∀ v_3 : Int32, v_3 = x2 + 1 → (k4 M x0 v_2 v_3)))))
def l_L_count_4 (Q : Int32 → Mem → Prop) (n : Nat) : Mem → Int32 → Int32 → Int32 → Prop :=
  Nat.rec (motive := fun _ => Mem → Int32 → Int32 → Int32 → Prop) (fun _ _ _ _ => False) (fun _ k => b_L_count_4 Q k) n
def w_L_count (M : Mem) (a0 : Int32) (Q : Int32 → Mem → Prop) : Prop :=
  (∃ n : Nat, l_L_count_4 Q n M a0 0 0)
def b_X4_setPriority_13 (Q : Int32 → Mem → Prop) (X : Nat → Mem → Prop) (M : Mem) : Prop :=
  (X 2 M)
def w_X4_setPriority (M : Mem) (a1 : Int32) (a2 : Int32) (Q : Int32 → Mem → Prop) (X : Nat → Mem → Prop) : Prop :=
  (w_X4_checkPiece M a1 (fun (M_2 : Mem) => ((a2 < 0 → (b_X4_setPriority_13 Q X M_2)) ∧ (¬ a2 < 0 → ((a2 ≤ 3 → (mE M_2 4 0 = true ∧ (mF M_2 4 0 1 = true ∧ (mE M_2 11 0 = true ∧ ((vp_in a1 12) ∧ (∀ v_11 : Int32, v_11 = (mI M_2 11 0 a1.toNatClampNeg) → ((vp_in a1 12) ∧ (∀ M_13 : Mem, M_13 = wI M_2 11 0 a1.toNatClampNeg a2 → (Q v_11 M_13))))))))) ∧ (¬ a2 ≤ 3 → (b_X4_setPriority_13 Q X M_2)))))) X)
def b_X4_setSequence_19 (Q : Int32 → Mem → Prop) (X : Nat → Mem → Prop) (M : Mem) (x2 : Int32) (x3 : Nat) (s0 : Int32) : Prop :=
  (mE M 2 x3 = true ∧ ((x2 = 0 ∨ x2 = 1) ∧ (∀ M_9 : Mem, M_9 = wI M 2 x3 5 x2 → ((s0 = 0 ∨ s0 = 1) ∧ (Q s0 M_9)))))
def w_X4_setSequence (M : Mem) (a1 : Int32) (a2 : Int32) (Q : Int32 → Mem → Prop) (X : Nat → Mem → Prop) : Prop :=
  (mE M 4 0 = true ∧ (w_X4_known M a1 (fun (r_5 : Nat) (M_3 : Mem) => (mE M_3 2 r_5 = true ∧ (((mI M_3 2 r_5 5) = a2 → (b_X4_setSequence_19 Q X M_3 a2 r_5 0)) ∧ (¬ (mI M_3 2 r_5 5) = a2 → (b_X4_setSequence_19 Q X M_3 a2 r_5 1))))) X))
def b_X4_setCareful_19 (Q : Int32 → Mem → Prop) (X : Nat → Mem → Prop) (M : Mem) (x2 : Int32) (x3 : Nat) (s0 : Int32) : Prop :=
  (mE M 2 x3 = true ∧ ((x2 = 0 ∨ x2 = 1) ∧ (∀ M_9 : Mem, M_9 = wI M 2 x3 6 x2 → ((s0 = 0 ∨ s0 = 1) ∧ (Q s0 M_9)))))
def w_X4_setCareful (M : Mem) (a1 : Int32) (a2 : Int32) (Q : Int32 → Mem → Prop) (X : Nat → Mem → Prop) : Prop :=
  (mE M 4 0 = true ∧ (w_X4_known M a1 (fun (r_5 : Nat) (M_3 : Mem) => (mE M_3 2 r_5 = true ∧ (((mI M_3 2 r_5 6) = a2 → (b_X4_setCareful_19 Q X M_3 a2 r_5 0)) ∧ (¬ (mI M_3 2 r_5 6) = a2 → (b_X4_setCareful_19 Q X M_3 a2 r_5 1))))) X))
def b_X4_findRarest_61 (k8 : Mem → Int32 → Int32 → Int32 → Int32 → Int32 → Prop) (Q : Int32 → Mem → Prop) (M : Mem) (x1 : Int32) (x2 : Int32) (x3 : Int32) (x4 : Int32) (x5 : Int32) : Prop :=
  (∀ v_8 : Int32, v_8 = x5 + 1 → (k8 M x1 x2 x3 x4 v_8))
def b_X4_findRarest_54 (k8 : Mem → Int32 → Int32 → Int32 → Int32 → Int32 → Prop) (Q : Int32 → Mem → Prop) (M : Mem) (x1 : Int32) (x2 : Int32) (x5 : Int32) (x6 : Int32) (x7 : Int32) : Prop :=
  (b_X4_findRarest_61 k8 Q M x1 x2 x6 x7 x5)
def b_X4_findRarest_8 (Q : Int32 → Mem → Prop) (k8 : Mem → Int32 → Int32 → Int32 → Int32 → Int32 → Prop) (M : Mem) (x1 : Int32) (x2 : Int32) (x3 : Int32) (x4 : Int32) (x5 : Int32) : Prop :=
  (((12 : Int32) ≤ x5 → (Q x3 M)) ∧ (¬ (12 : Int32) ≤ x5 → (∀ v_2 : Int32, v_2 = ((x2 + x5) - (x2 + x5) / 12 * 12) → (w_X4_isIn M x1.toInt64 v_2 (fun (r_6 : Int32) (M_4 : Mem) => ((r_6 = 0 → (b_X4_findRarest_61 k8 Q M_4 x1 x2 x3 x4 x5)) ∧ (¬ r_6 = 0 → (mE M_4 4 0 = true ∧ (w_X4_countHolders M_4 v_2 (fun (r_13 : Int32) (M_11 : Mem) => ((x3 = (-1) → (b_X4_findRarest_54 k8 Q M_11 x1 x2 x5 v_2 r_13)) ∧ (¬ x3 = (-1) → ((x4 ≤ r_13 → (b_X4_findRarest_61 k8 Q M_11 x1 x2 x3 x4 x5)) ∧ (¬ x4 ≤ r_13 → (b_X4_findRarest_54 k8 Q M_11 x1 x2 x5 v_2 r_13)))))))))))))))
def l_X4_findRarest_8 (Q : Int32 → Mem → Prop) (n : Nat) : Mem → Int32 → Int32 → Int32 → Int32 → Int32 → Prop :=
  Nat.rec (motive := fun _ => Mem → Int32 → Int32 → Int32 → Int32 → Int32 → Prop) (fun _ _ _ _ _ _ => False) (fun _ k => b_X4_findRarest_8 Q k) n
def w_X4_findRarest (M : Mem) (a1 : Int32) (a2 : Int32) (Q : Int32 → Mem → Prop) : Prop :=
  (∃ n : Nat, l_X4_findRarest_8 Q n M a1 a2 (-1) 0 0)
def w_X4_findShown (M : Mem) (a1 : Nat) (a2 : Nat) (Q : Int32 → Mem → Prop) : Prop :=
  (mE M 2 a1 = true ∧ (mE M 2 a2 = true ∧ ((a1 = a2 → (Q 0 M)) ∧ (¬ a1 = a2 → (((mI M 2 a1 6) = 0 → (mF M 2 a1 1 = true ∧ (mE M 3 a1 = true ∧ (Q (mI M 3 a1 0) M)))) ∧ (¬ (mI M 2 a1 6) = 0 → (mF M 2 a1 1 = true ∧ (mE M 3 a1 = true ∧ (mF M 2 a2 1 = true ∧ (mE M 3 a2 = true ∧ (mE M 4 0 = true ∧ (w_X4_findRarest M ((mI M 3 a1 0) &&& ((mI M 3 a2 0) ^^^ (-1))) (mI M 2 a2 0) (fun (r_13 : Int32) (M_11 : Mem) => ((r_13 = (-1) → (Q 0 M_11)) ∧ (¬ r_13 = (-1) → (Q (1 <<< (r_13 &&& 31)) M_11))))))))))))))))
def w_X4_shown (M : Mem) (a1 : Int32) (a2 : Int32) (Q : Int32 → Mem → Prop) (X : Nat → Mem → Prop) : Prop :=
  (mE M 4 0 = true ∧ (w_X4_known M a1 (fun (r_5 : Nat) (M_3 : Mem) => (mE M_3 4 0 = true ∧ (w_X4_known M_3 a2 (fun (r_10 : Nat) (M_8 : Mem) => (mE M_8 4 0 = true ∧ (w_X4_findShown M_8 r_5 r_10 (fun (r_15 : Int32) (M_13 : Mem) => (Q r_15 M_13))))) X))) X))
def b_L_areShown_169 (k18 : Mem → Nat → Int32 → Int32 → Int32 → Prop) (Q : Int32 → Mem → Prop) (X : Nat → Mem → Prop) (M : Mem) (it : Nat) (x2 : Int32) (x4 : Int32) (s0 : Int32) : Prop :=
  (it < 8 ∧ (∀ v_22 : Int32, v_22 = x4 + 1 → (k18 M (it + 1) x2 s0 v_22)))
def b_L_areShown_164 (k18 : Mem → Nat → Int32 → Int32 → Int32 → Prop) (Q : Int32 → Mem → Prop) (X : Nat → Mem → Prop) (M : Mem) (it : Nat) (x2 : Int32) (x4 : Int32) : Prop :=
  (it < 8 ∧ (b_L_areShown_169 k18 Q X M it x2 x4 1))
def b_L_areShown_168 (k18 : Mem → Nat → Int32 → Int32 → Int32 → Prop) (Q : Int32 → Mem → Prop) (X : Nat → Mem → Prop) (M : Mem) (it : Nat) (x2 : Int32) (x4 : Int32) : Prop :=
  (it < 8 ∧ (b_L_areShown_169 k18 Q X M it x2 x4 0))
def b_L_areShown_108 (k18 : Mem → Nat → Int32 → Int32 → Int32 → Prop) (Q : Int32 → Mem → Prop) (X : Nat → Mem → Prop) (M : Mem) (it : Nat) (x2 : Int32) (x4 : Int32) (x5 : Int32) (x6 : Int32) (x7 : Int32) (s0 : Int32) : Prop :=
  (it < 8 ∧ ((x5 = 0 → (b_L_areShown_164 k18 Q X M it x2 x4)) ∧ (¬ x5 = 0 → ((s0 = 0 → (mE M 61 0 = true ∧ ((vp_in (23 + x2) 29) ∧ ((x6 = (mI M 61 0 ((23 + x2).toNatClampNeg)) → (b_L_areShown_164 k18 Q X M it x2 x4)) ∧ (¬ x6 = (mI M 61 0 ((23 + x2).toNatClampNeg)) → (b_L_areShown_168 k18 Q X M it x2 x4)))))) ∧ (¬ s0 = 0 → (((x6 &&& (x7 ^^^ (-1))) = 0 → (((x6 &&& (x6 - 1)) = 0 → ((x6 = 0 → ((x7 = 0 → (b_L_areShown_164 k18 Q X M it x2 x4)) ∧ (¬ x7 = 0 → (b_L_areShown_168 k18 Q X M it x2 x4)))) ∧ (¬ x6 = 0 → (b_L_areShown_164 k18 Q X M it x2 x4)))) ∧ (¬ (x6 &&& (x6 - 1)) = 0 → (b_L_areShown_168 k18 Q X M it x2 x4)))) ∧ (¬ (x6 &&& (x7 ^^^ (-1))) = 0 → (b_L_areShown_168 k18 Q X M it x2 x4))))))))
def b_L_areShown_71 (k18 : Mem → Nat → Int32 → Int32 → Int32 → Prop) (Q : Int32 → Mem → Prop) (X : Nat → Mem → Prop) (M : Mem) (it : Nat) (x2 : Int32) (x4 : Int32) (x5 : Int32) (s0 : Int32) : Prop :=
  (it < 8 ∧ (mE M 61 0 = true ∧ ((vp_in (23 + x2) 29) ∧ ((vp_in (23 + x4) 29) ∧ (∀ v_18 : Int32, v_18 = ((mI M 61 0 ((23 + x2).toNatClampNeg)) &&& ((mI M 61 0 ((23 + x4).toNatClampNeg)) ^^^ (-1))) → ((vp_in 15 29) ∧ (((((mI M 61 0 ((15 : Int32).toNatClampNeg)) >>> (x2 &&& 31)) &&& 1) = 1 → (b_L_areShown_108 k18 Q X M it x2 x4 x5 s0 v_18 1)) ∧ (¬ (((mI M 61 0 ((15 : Int32).toNatClampNeg)) >>> (x2 &&& 31)) &&& 1) = 1 → (b_L_areShown_108 k18 Q X M it x2 x4 x5 s0 v_18 0)))))))))
def b_L_areShown_53 (k18 : Mem → Nat → Int32 → Int32 → Int32 → Prop) (Q : Int32 → Mem → Prop) (X : Nat → Mem → Prop) (M : Mem) (it : Nat) (x2 : Int32) (x4 : Int32) (s0 : Int32) : Prop :=
  (it < 8 ∧ ((s0 = 0 → (b_L_areShown_71 k18 Q X M it x2 x4 s0 0)) ∧ (¬ s0 = 0 → (mE M 4 0 = true ∧ (w_X4_shown M x2 x4 (fun (r_35 : Int32) (M_33 : Mem) => (b_L_areShown_71 k18 Q X M_33 it x2 x4 s0 r_35)) X)))))
def b_L_areShown_52 (k18 : Mem → Nat → Int32 → Int32 → Int32 → Prop) (Q : Int32 → Mem → Prop) (X : Nat → Mem → Prop) (M : Mem) (it : Nat) (x2 : Int32) (x4 : Int32) : Prop :=
  (it < 8 ∧ (b_L_areShown_53 k18 Q X M it x2 x4 0))
def b_L_areShown_18 (Q : Int32 → Mem → Prop) (X : Nat → Mem → Prop) (k18 : Mem → Nat → Int32 → Int32 → Int32 → Prop) (M : Mem) (it : Nat) (x2 : Int32) (x3 : Int32) (x4 : Int32) : Prop :=
  (it ≤ 8 ∧ (mE M 61 0 = true ∧ ((vp_in 0 29) ∧ (((mI M 61 0 ((0 : Int32).toNatClampNeg)) ≤ x4 → ((x3 = 0 ∨ x3 = 1) ∧ (Q x3 M))) ∧ (¬ (mI M 61 0 ((0 : Int32).toNatClampNeg)) ≤ x4 → ((x3 = 0 → ((x3 = 0 ∨ x3 = 1) ∧ (Q x3 M))) ∧ (¬ x3 = 0 → ((x4 = x2 → (b_L_areShown_52 k18 Q X M it x2 x4)) ∧ (¬ x4 = x2 → ((vp_in 1 29) ∧ (((((mI M 61 0 ((1 : Int32).toNatClampNeg)) >>> (x4 &&& 31)) &&& 1) = 1 → (b_L_areShown_53 k18 Q X M it x2 x4 1)) ∧ (¬ (((mI M 61 0 ((1 : Int32).toNatClampNeg)) >>> (x4 &&& 31)) &&& 1) = 1 → (b_L_areShown_52 k18 Q X M it x2 x4)))))))))))))
def l_L_areShown_18 (Q : Int32 → Mem → Prop) (X : Nat → Mem → Prop) (n : Nat) : Mem → Nat → Int32 → Int32 → Int32 → Prop :=
  Nat.rec (motive := fun _ => Mem → Nat → Int32 → Int32 → Int32 → Prop) (fun _ _ _ _ _ => False) (fun _ k => b_L_areShown_18 Q X k) n
def b_L_areShown_14 (Q : Int32 → Mem → Prop) (X : Nat → Mem → Prop) (M : Mem) (it : Nat) (x2 : Int32) (s0 : Int32) : Prop :=
  (it < 8 ∧ (∃ n : Nat, l_L_areShown_18 Q X n M (it + 1) x2 s0 0))
def w_L_areShown (M : Mem) (a2 : Int32) (Q : Int32 → Mem → Prop) (X : Nat → Mem → Prop) : Prop :=
  (mE M 4 0 = true ∧ (w_X4_shown M a2 a2 (fun (r_5 : Int32) (M_3 : Mem) => ((r_5 = 0 → (b_L_areShown_14 Q X M_3 0 a2 1)) ∧ (¬ r_5 = 0 → (b_L_areShown_14 Q X M_3 0 a2 0)))) X))
def b_X4_spoil_30 (Q : Int32 → Mem → Prop) (X : Nat → Mem → Prop) (M : Mem) (x2 : Int32) (x4 : Nat) (s0 : Int32) : Prop :=
  ((s0 = 0 → ((s0 = 0 ∨ s0 = 1) ∧ (Q s0 M))) ∧ (¬ s0 = 0 → (mE M 2 x4 = true ∧ (∀ M_19 : Mem, M_19 = wI M 2 x4 4 ((mI M 2 x4 4) ^^^ (1 <<< (x2 &&& 31))) → ((s0 = 0 ∨ s0 = 1) ∧ (Q s0 M_19))))))
def w_X4_spoil (M : Mem) (a1 : Int32) (a2 : Int32) (a3 : Int32) (Q : Int32 → Mem → Prop) (X : Nat → Mem → Prop) : Prop :=
  (mE M 4 0 = true ∧ (w_X4_known M a1 (fun (r_5 : Nat) (M_3 : Mem) => (w_X4_checkPiece M_3 a2 (fun (M_7 : Mem) => (mE M_7 2 r_5 = true ∧ (w_X4_isIn M_7 ((mI M_7 2 r_5 4).toInt64) a2 (fun (r_14 : Int32) (M_12 : Mem) => ((r_14 = a3 → (b_X4_spoil_30 Q X M_12 a2 r_5 0)) ∧ (¬ r_14 = a3 → (b_X4_spoil_30 Q X M_12 a2 r_5 1))))))) X)) X))
def b_X4_wantedPieces_28 (k4 : Mem → Int32 → Int32 → Prop) (Q : Int32 → Mem → Prop) (M : Mem) (x1 : Int32) (x2 : Int32) : Prop :=
  (∀ v_7 : Int32, v_7 = x2 + 1 → (k4 M x1 v_7))
def b_X4_wantedPieces_4 (Q : Int32 → Mem → Prop) (k4 : Mem → Int32 → Int32 → Prop) (M : Mem) (x1 : Int32) (x2 : Int32) : Prop :=
  (mE M 4 0 = true ∧ (mF M 4 0 1 = true ∧ (mE M 11 0 = true ∧ (((12 : Int32) ≤ x2 → (Q x1 M)) ∧ (¬ (12 : Int32) ≤ x2 → ((vp_in x2 12) ∧ (((mI M 11 0 x2.toNatClampNeg) ≤ 0 → (b_X4_wantedPieces_28 k4 Q M x1 x2)) ∧ (¬ (mI M 11 0 x2.toNatClampNeg) ≤ 0 → (∀ v_8 : Int32, v_8 = (x1 ||| (1 <<< (x2 &&& 31))) → (b_X4_wantedPieces_28 k4 Q M v_8 x2))))))))))
def l_X4_wantedPieces_4 (Q : Int32 → Mem → Prop) (n : Nat) : Mem → Int32 → Int32 → Prop :=
  Nat.rec (motive := fun _ => Mem → Int32 → Int32 → Prop) (fun _ _ _ => False) (fun _ k => b_X4_wantedPieces_4 Q k) n
def w_X4_wantedPieces (M : Mem) (Q : Int32 → Mem → Prop) : Prop :=
  (∃ n : Nat, l_X4_wantedPieces_4 Q n M 0 0)
def b_X4_findInterested_95 (k21 : Mem → Nat → Int32 → Int32 → Int32 → Int32 → Prop) (Q : Int32 → Mem → Prop) (M : Mem) (x1 : Nat) (x2 : Int32) (x3 : Int32) (x5 : Int32) (x6 : Int32) : Prop :=
  (∀ v_16 : Int32, v_16 = x6 + 1 → (k21 M x1 x2 x3 x5 v_16))
def b_X4_findInterested_21 (Q : Int32 → Mem → Prop) (k21 : Mem → Nat → Int32 → Int32 → Int32 → Int32 → Prop) (M : Mem) (x1 : Nat) (x2 : Int32) (x3 : Int32) (x5 : Int32) (x6 : Int32) : Prop :=
  ((x5 ≤ x6 → (Q x3 M)) ∧ (¬ x5 ≤ x6 → (mE M 10 0 = true ∧ ((vp_in x6 6) ∧ ((mF M 10 0 x6.toNatClampNeg = true → (mE M 2 x6.toNatClampNeg = true ∧ (mE M 2 x1 = true ∧ ((x6.toNatClampNeg = x1 → (b_X4_findInterested_95 k21 Q M x1 x2 x3 x5 x6)) ∧ (¬ x6.toNatClampNeg = x1 → (w_X4_isIn M ((mI M 2 x6.toNatClampNeg 10).toInt64) (mI M 2 x1 0) (fun (r_20 : Int32) (M_18 : Mem) => ((r_20 = 0 → (mE M_18 4 0 = true ∧ (w_X4_findShown M_18 x1 x6.toNatClampNeg (fun (r_26 : Int32) (M_24 : Mem) => (mE M_24 2 x6.toNatClampNeg = true ∧ (mF M_24 2 x6.toNatClampNeg 1 = true ∧ (mE M_24 3 x6.toNatClampNeg = true ∧ ((((r_26 &&& x2) &&& ((mI M_24 3 x6.toNatClampNeg 0) ^^^ (-1))) = 0 → (b_X4_findInterested_95 k21 Q M_24 x1 x2 x3 x5 x6)) ∧ (¬ ((r_26 &&& x2) &&& ((mI M_24 3 x6.toNatClampNeg 0) ^^^ (-1))) = 0 → (∀ v_31 : Int32, v_31 = (x3 ||| (1 <<< ((mI M_24 2 x6.toNatClampNeg 0) &&& 31))) → (b_X4_findInterested_95 k21 Q M_24 x1 x2 v_31 x5 x6))))))))))) ∧ (¬ r_20 = 0 → (b_X4_findInterested_95 k21 Q M_18 x1 x2 x3 x5 x6)))))))))) ∧ (mF M 10 0 x6.toNatClampNeg = false → (b_X4_findInterested_95 k21 Q M x1 x2 x3 x5 x6)))))))
def l_X4_findInterested_21 (Q : Int32 → Mem → Prop) (n : Nat) : Mem → Nat → Int32 → Int32 → Int32 → Int32 → Prop :=
  Nat.rec (motive := fun _ => Mem → Nat → Int32 → Int32 → Int32 → Int32 → Prop) (fun _ _ _ _ _ _ => False) (fun _ k => b_X4_findInterested_21 Q k) n
def w_X4_findInterested (M : Mem) (a1 : Nat) (Q : Int32 → Mem → Prop) : Prop :=
  (mE M 4 0 = true ∧ (w_X4_wantedPieces M (fun (r_5 : Int32) (M_3 : Mem) => (mE M_3 4 0 = true ∧ (mF M_3 4 0 0 = true ∧ (mE M_3 10 0 = true ∧ (∃ n : Nat, l_X4_findInterested_21 Q n M_3 a1 r_5 0 6 0)))))))
def b_X4_findBestGiver_54 (k7 : Mem → Nat → Int32 → Int32 → Int32 → Int32 → Prop) (Q : Int32 → Mem → Prop) (M : Mem) (x0 : Nat) (x1 : Int32) (x2 : Int32) (x3 : Int32) (x4 : Int32) : Prop :=
  (∀ v_10 : Int32, v_10 = x4 + 1 → (k7 M x0 x1 x2 x3 v_10))
def b_X4_findBestGiver_43 (k7 : Mem → Nat → Int32 → Int32 → Int32 → Int32 → Prop) (Q : Int32 → Mem → Prop) (M : Mem) (x0 : Nat) (x1 : Int32) (x4 : Int32) : Prop :=
  (mE M 2 x0 = true ∧ (mF M 2 x0 8 = true ∧ (mE M 24 x0 = true ∧ ((vp_in x4 6) ∧ (∀ v_16 : Int32, v_16 = (mI M 24 x0 x4.toNatClampNeg) → (b_X4_findBestGiver_54 k7 Q M x0 x1 x4 v_16 x4))))))
def b_X4_findBestGiver_7 (Q : Int32 → Mem → Prop) (k7 : Mem → Nat → Int32 → Int32 → Int32 → Int32 → Prop) (M : Mem) (x0 : Nat) (x1 : Int32) (x2 : Int32) (x3 : Int32) (x4 : Int32) : Prop :=
  (mE M 2 x0 = true ∧ (mF M 2 x0 8 = true ∧ (mE M 24 x0 = true ∧ (((6 : Int32) ≤ x4 → (Q x2 M)) ∧ (¬ (6 : Int32) ≤ x4 → (w_X4_isIn M x1.toInt64 x4 (fun (r_8 : Int32) (M_6 : Mem) => ((r_8 = 0 → (b_X4_findBestGiver_54 k7 Q M_6 x0 x1 x2 x3 x4)) ∧ (¬ r_8 = 0 → ((x2 = (-1) → (b_X4_findBestGiver_43 k7 Q M_6 x0 x1 x4)) ∧ (¬ x2 = (-1) → (mE M_6 2 x0 = true ∧ (mF M_6 2 x0 8 = true ∧ (mE M_6 24 x0 = true ∧ ((vp_in x4 6) ∧ (((mI M_6 24 x0 x4.toNatClampNeg) ≤ x3 → (b_X4_findBestGiver_54 k7 Q M_6 x0 x1 x2 x3 x4)) ∧ (¬ (mI M_6 24 x0 x4.toNatClampNeg) ≤ x3 → (b_X4_findBestGiver_43 k7 Q M_6 x0 x1 x4))))))))))))))))))
def l_X4_findBestGiver_7 (Q : Int32 → Mem → Prop) (n : Nat) : Mem → Nat → Int32 → Int32 → Int32 → Int32 → Prop :=
  Nat.rec (motive := fun _ => Mem → Nat → Int32 → Int32 → Int32 → Int32 → Prop) (fun _ _ _ _ _ _ => False) (fun _ k => b_X4_findBestGiver_7 Q k) n
def w_X4_findBestGiver (M : Mem) (a0 : Nat) (a1 : Int32) (Q : Int32 → Mem → Prop) : Prop :=
  (∃ n : Nat, l_X4_findBestGiver_7 Q n M a0 a1 (-1) 0 0)
def w_X4_single (M : Mem) (a0 : Int32) (Q : Int32 → Mem → Prop) : Prop :=
  ((a0 = (-1) → (Q 0 M)) ∧ (¬ a0 = (-1) → (Q (1 <<< (a0 &&& 31)) M)))
def b_X4_findNextInTurn_2 (Q : Int32 → Mem → Prop) (k2 : Mem → Int32 → Int32 → Prop) (M : Mem) (x1 : Int32) (x2 : Int32) : Prop :=
  (((6 : Int32) ≤ x2 → (Q (-1) M)) ∧ (¬ (6 : Int32) ≤ x2 → (mE M 4 0 = true ∧ (∀ v_3 : Int32, v_3 = (((mI M 4 0 4) + x2) - ((mI M 4 0 4) + x2) / 6 * 6) → (w_X4_isIn M x1.toInt64 v_3 (fun (r_7 : Int32) (M_5 : Mem) => ((r_7 = 0 → (∀ v_9 : Int32, v_9 = x2 + 1 → (k2 M_5 x1 v_9))) ∧ (¬ r_7 = 0 → (Q v_3 M_5)))))))))
def l_X4_findNextInTurn_2 (Q : Int32 → Mem → Prop) (n : Nat) : Mem → Int32 → Int32 → Prop :=
  Nat.rec (motive := fun _ => Mem → Int32 → Int32 → Prop) (fun _ _ _ => False) (fun _ k => b_X4_findNextInTurn_2 Q k) n
def w_X4_findNextInTurn (M : Mem) (a1 : Int32) (Q : Int32 → Mem → Prop) : Prop :=
  (∃ n : Nat, l_X4_findNextInTurn_2 Q n M a1 0)
def b_X4_findChosen_11 (Q : Int32 → Mem → Prop) (k11 : Mem → Nat → Int32 → Int32 → Int32 → Prop) (M : Mem) (x1 : Nat) (x2 : Int32) (x3 : Int32) (x4 : Int32) : Prop :=
  (((2 : Int32) ≤ x4 → (mE M 4 0 = true ∧ (w_X4_findNextInTurn M x2 (fun (r_11 : Int32) (M_9 : Mem) => (w_X4_single M_9 r_11 (fun (r_15 : Int32) (M_13 : Mem) => (Q (x3 ||| r_15) M_13))))))) ∧ (¬ (2 : Int32) ≤ x4 → (w_X4_findBestGiver M x1 x2 (fun (r_19 : Int32) (M_17 : Mem) => (w_X4_single M_17 r_19 (fun (r_23 : Int32) (M_21 : Mem) => (∀ v_24 : Int32, v_24 = (x3 ||| r_23) → (w_X4_single M_21 r_19 (fun (r_28 : Int32) (M_26 : Mem) => (∀ v_29 : Int32, v_29 = (x2 &&& (r_28 ^^^ (-1))) → (∀ v_30 : Int32, v_30 = x4 + 1 → (k11 M_26 x1 v_29 v_24 v_30))))))))))))
def l_X4_findChosen_11 (Q : Int32 → Mem → Prop) (n : Nat) : Mem → Nat → Int32 → Int32 → Int32 → Prop :=
  Nat.rec (motive := fun _ => Mem → Nat → Int32 → Int32 → Int32 → Prop) (fun _ _ _ _ _ => False) (fun _ k => b_X4_findChosen_11 Q k) n
def w_X4_findChosen (M : Mem) (a1 : Nat) (Q : Int32 → Mem → Prop) : Prop :=
  (mE M 4 0 = true ∧ (w_X4_findInterested M a1 (fun (r_5 : Int32) (M_3 : Mem) => (∃ n : Nat, l_X4_findChosen_11 Q n M_3 a1 r_5 0 0))))
def w_X4_chosen (M : Mem) (a1 : Int32) (Q : Int32 → Mem → Prop) (X : Nat → Mem → Prop) : Prop :=
  (mE M 4 0 = true ∧ (w_X4_known M a1 (fun (r_5 : Nat) (M_3 : Mem) => (mE M_3 4 0 = true ∧ (w_X4_findChosen M_3 r_5 (fun (r_10 : Int32) (M_8 : Mem) => (Q r_10 M_8))))) X))
def w_X0_clear (M : Mem) (t : Nat) (Q : Mem → Prop) : Prop :=
  (mE M 0 t = true ∧ (∀ M_2 : Mem, M_2 = wI M 0 t 2 0 → (∀ M_3 : Mem, M_3 = wL M_2 0 t 3 0 → (Q M_3))))
def b_X4_beginShowing_45 (k11 : Mem → Nat → Int32 → Int32 → Prop) (Q : Mem → Prop) (M : Mem) (x1 : Nat) (x3 : Int32) (x4 : Int32) : Prop :=
  (∀ v_19 : Int32, v_19 = x4 + 1 → (k11 M x1 x3 v_19))
def b_X4_beginShowing_11 (Q : Mem → Prop) (k11 : Mem → Nat → Int32 → Int32 → Prop) (M : Mem) (x1 : Nat) (x3 : Int32) (x4 : Int32) : Prop :=
  ((x3 ≤ x4 → (Q M)) ∧ (¬ x3 ≤ x4 → (mE M 10 0 = true ∧ ((vp_in x4 6) ∧ ((mF M 10 0 x4.toNatClampNeg = true → (mE M 2 x1 = true ∧ (mF M 2 x1 12 = true ∧ (mE M 2 x4.toNatClampNeg = true ∧ (mE M 4 0 = true ∧ (w_X4_findShown M x1 x4.toNatClampNeg (fun (r_15 : Int32) (M_13 : Mem) => (mE M_13 26 x1 = true ∧ ((vp_in (mI M 2 x4.toNatClampNeg 0) 6) ∧ (∀ M_18 : Mem, M_18 = wI M_13 26 x1 ((mI M 2 x4.toNatClampNeg 0).toNatClampNeg) r_15 → (b_X4_beginShowing_45 k11 Q M_18 x1 x3 x4))))))))))) ∧ (mF M 10 0 x4.toNatClampNeg = false → (b_X4_beginShowing_45 k11 Q M x1 x3 x4)))))))
def l_X4_beginShowing_11 (Q : Mem → Prop) (n : Nat) : Mem → Nat → Int32 → Int32 → Prop :=
  Nat.rec (motive := fun _ => Mem → Nat → Int32 → Int32 → Prop) (fun _ _ _ _ => False) (fun _ k => b_X4_beginShowing_11 Q k) n
def w_X4_beginShowing (M : Mem) (a1 : Nat) (Q : Mem → Prop) : Prop :=
  (mE M 4 0 = true ∧ (mF M 4 0 0 = true ∧ (mE M 10 0 = true ∧ (∃ n : Nat, l_X4_beginShowing_11 Q n M a1 6 0))))
def b_X4_begin_78 (k38 : Mem → Int32 → Int32 → Prop) (Q : Mem → Prop) (M : Mem) (x2 : Int32) (x3 : Int32) : Prop :=
  (∀ v_30 : Int32, v_30 = x3 + 1 → (k38 M x2 v_30))
def b_X4_begin_38 (Q : Mem → Prop) (k38 : Mem → Int32 → Int32 → Prop) (M : Mem) (x2 : Int32) (x3 : Int32) : Prop :=
  ((x2 ≤ x3 → (Q M)) ∧ (¬ x2 ≤ x3 → (mE M 10 0 = true ∧ ((vp_in x3 6) ∧ ((mF M 10 0 x3.toNatClampNeg = true → (mE M 2 x3.toNatClampNeg = true ∧ (mF M 2 x3.toNatClampNeg 3 = true ∧ (mE M 0 x3.toNatClampNeg = true ∧ (w_X0_clear M x3.toNatClampNeg (fun (M_15 : Mem) => (mE M_15 4 0 = true ∧ (w_X4_findChosen M_15 x3.toNatClampNeg (fun (r_22 : Int32) (M_20 : Mem) => (mE M_20 2 x3.toNatClampNeg = true ∧ (∀ M_24 : Mem, M_24 = wI M_20 2 x3.toNatClampNeg 13 r_22 → (mE M_24 4 0 = true ∧ (w_X4_beginShowing M_24 x3.toNatClampNeg (fun (M_27 : Mem) => (b_X4_begin_78 k38 Q M_27 x2 x3))))))))))))))) ∧ (mF M 10 0 x3.toNatClampNeg = false → (b_X4_begin_78 k38 Q M x2 x3)))))))
def l_X4_begin_38 (Q : Mem → Prop) (n : Nat) : Mem → Int32 → Int32 → Prop :=
  Nat.rec (motive := fun _ => Mem → Int32 → Int32 → Prop) (fun _ _ _ => False) (fun _ k => b_X4_begin_38 Q k) n
def b_X4_begin_2 (Q : Mem → Prop) (k2 : Mem → Int32 → Prop) (M : Mem) (x1 : Int32) : Prop :=
  (mE M 4 0 = true ∧ (mF M 4 0 2 = true ∧ (mE M 12 0 = true ∧ (((12 : Int32) ≤ x1 → (mF M 4 0 0 = true ∧ (mE M 10 0 = true ∧ (∃ n : Nat, l_X4_begin_38 Q n M 6 0)))) ∧ (¬ (12 : Int32) ≤ x1 → (w_X4_countHolders M x1 (fun (r_34 : Int32) (M_32 : Mem) => (mE M_32 12 0 = true ∧ ((vp_in x1 12) ∧ (∀ M_37 : Mem, M_37 = wI M_32 12 0 x1.toNatClampNeg r_34 → (∀ v_38 : Int32, v_38 = x1 + 1 → (k2 M_37 v_38))))))))))))
def l_X4_begin_2 (Q : Mem → Prop) (n : Nat) : Mem → Int32 → Prop :=
  Nat.rec (motive := fun _ => Mem → Int32 → Prop) (fun _ _ => False) (fun _ k => b_X4_begin_2 Q k) n
def w_X4_begin (M : Mem) (Q : Mem → Prop) : Prop :=
  (∃ n : Nat, l_X4_begin_2 Q n M 0)
def w_X4_blocksOfPiece (M : Mem) (a0 : Int32) (Q : Int64 → Mem → Prop) : Prop :=
  (Q (15 <<< ((a0 * 4).toInt64 &&& 63)) M)
def b_X4_blocksOf_26 (k4 : Mem → Int32 → Int64 → Int32 → Prop) (Q : Int64 → Mem → Prop) (M : Mem) (x0 : Int32) (x1 : Int64) (x3 : Int32) : Prop :=
  (∀ v_7 : Int32, v_7 = x3 + 1 → (k4 M x0 x1 v_7))
def b_X4_blocksOf_4 (Q : Int64 → Mem → Prop) (k4 : Mem → Int32 → Int64 → Int32 → Prop) (M : Mem) (x0 : Int32) (x1 : Int64) (x3 : Int32) : Prop :=
  (((12 : Int32) ≤ x3 → (Q x1 M)) ∧ (¬ (12 : Int32) ≤ x3 → (w_X4_isIn M x0.toInt64 x3 (fun (r_5 : Int32) (M_3 : Mem) => ((r_5 = 0 → (b_X4_blocksOf_26 k4 Q M_3 x0 x1 x3)) ∧ (¬ r_5 = 0 → (w_X4_blocksOfPiece M_3 x3 (fun (r_11 : Int64) (M_9 : Mem) => (∀ v_12 : Int64, v_12 = (x1 ||| r_11) → (b_X4_blocksOf_26 k4 Q M_9 x0 v_12 x3))))))))))
def l_X4_blocksOf_4 (Q : Int64 → Mem → Prop) (n : Nat) : Mem → Int32 → Int64 → Int32 → Prop :=
  Nat.rec (motive := fun _ => Mem → Int32 → Int64 → Int32 → Prop) (fun _ _ _ _ => False) (fun _ k => b_X4_blocksOf_4 Q k) n
def w_X4_blocksOf (M : Mem) (a0 : Int32) (Q : Int64 → Mem → Prop) : Prop :=
  (∃ n : Nat, l_X4_blocksOf_4 Q n M a0 0 0)
def w_X4_isBegun (M : Mem) (a0 : Nat) (a1 : Int32) (Q : Int32 → Mem → Prop) : Prop :=
  (mE M 2 a0 = true ∧ (mF M 2 a0 1 = true ∧ (mE M 3 a0 = true ∧ (mF M 2 a0 3 = true ∧ (mE M 0 a0 = true ∧ (w_X4_blocksOfPiece M a1 (fun (r_9 : Int64) (M_7 : Mem) => (((lg_cmp (((mL M 3 a0 1) ||| (mL M 0 a0 3)) &&& r_9) 0) = 0 → (Q 0 M_7)) ∧ (¬ (lg_cmp (((mL M 3 a0 1) ||| (mL M 0 a0 3)) &&& r_9) 0) = 0 → (Q 1 M_7))))))))))
def b_X4_isBetter_99 (Q : Int32 → Mem → Prop) (M : Mem) (x2 : Int32) (x3 : Int32) : Prop :=
  ((x3 ≤ x2 → (Q 0 M)) ∧ (¬ x3 ≤ x2 → (Q 1 M)))
def w_X4_isBetter (M : Mem) (a1 : Nat) (a2 : Int32) (a3 : Int32) (Q : Int32 → Mem → Prop) : Prop :=
  (w_X4_isBegun M a1 a2 (fun (r_4 : Int32) (M_2 : Mem) => (w_X4_isBegun M_2 a1 a3 (fun (r_8 : Int32) (M_6 : Mem) => ((r_4 = r_8 → (mE M_6 4 0 = true ∧ (mF M_6 4 0 1 = true ∧ (mE M_6 11 0 = true ∧ ((vp_in a2 12) ∧ ((vp_in a3 12) ∧ (((mI M_6 11 0 a2.toNatClampNeg) = (mI M_6 11 0 a3.toNatClampNeg) → (mE M_6 2 a1 = true ∧ (((mI M_6 2 a1 5) = 0 → (mF M_6 4 0 2 = true ∧ (mE M_6 12 0 = true ∧ ((vp_in a2 12) ∧ ((vp_in a3 12) ∧ (((mI M_6 12 0 a2.toNatClampNeg) = (mI M_6 12 0 a3.toNatClampNeg) → (b_X4_isBetter_99 Q M_6 a2 a3)) ∧ (¬ (mI M_6 12 0 a2.toNatClampNeg) = (mI M_6 12 0 a3.toNatClampNeg) → ((vp_in a2 12) ∧ ((vp_in a3 12) ∧ (((mI M_6 12 0 a3.toNatClampNeg) ≤ (mI M_6 12 0 a2.toNatClampNeg) → (Q 0 M_6)) ∧ (¬ (mI M_6 12 0 a3.toNatClampNeg) ≤ (mI M_6 12 0 a2.toNatClampNeg) → (Q 1 M_6)))))))))))) ∧ (¬ (mI M_6 2 a1 5) = 0 → (b_X4_isBetter_99 Q M_6 a2 a3))))) ∧ (¬ (mI M_6 11 0 a2.toNatClampNeg) = (mI M_6 11 0 a3.toNatClampNeg) → ((vp_in a2 12) ∧ ((vp_in a3 12) ∧ (((mI M_6 11 0 a2.toNatClampNeg) ≤ (mI M_6 11 0 a3.toNatClampNeg) → (Q 0 M_6)) ∧ (¬ (mI M_6 11 0 a2.toNatClampNeg) ≤ (mI M_6 11 0 a3.toNatClampNeg) → (Q 1 M_6))))))))))))) ∧ (¬ r_4 = r_8 → ((r_4 = 0 ∨ r_4 = 1) ∧ (Q r_4 M_6))))))))
def b_X4_findBestPiece_47 (k6 : Mem → Nat → Int64 → Int32 → Int32 → Prop) (Q : Int32 → Mem → Prop) (M : Mem) (x1 : Nat) (x2 : Int64) (x4 : Int32) (x5 : Int32) : Prop :=
  (∀ v_7 : Int32, v_7 = x5 + 1 → (k6 M x1 x2 x4 v_7))
def b_X4_findBestPiece_43 (k6 : Mem → Nat → Int64 → Int32 → Int32 → Prop) (Q : Int32 → Mem → Prop) (M : Mem) (x1 : Nat) (x2 : Int64) (x5 : Int32) : Prop :=
  (b_X4_findBestPiece_47 k6 Q M x1 x2 x5 x5)
def b_X4_findBestPiece_6 (Q : Int32 → Mem → Prop) (k6 : Mem → Nat → Int64 → Int32 → Int32 → Prop) (M : Mem) (x1 : Nat) (x2 : Int64) (x4 : Int32) (x5 : Int32) : Prop :=
  (((12 : Int32) ≤ x5 → (Q x4 M)) ∧ (¬ (12 : Int32) ≤ x5 → (w_X4_blocksOfPiece M x5 (fun (r_5 : Int64) (M_3 : Mem) => (((lg_cmp (x2 &&& r_5) 0) = 0 → (b_X4_findBestPiece_47 k6 Q M_3 x1 x2 x4 x5)) ∧ (¬ (lg_cmp (x2 &&& r_5) 0) = 0 → ((x4 = (-1) → (b_X4_findBestPiece_43 k6 Q M_3 x1 x2 x5)) ∧ (¬ x4 = (-1) → (mE M_3 4 0 = true ∧ (w_X4_isBetter M_3 x1 x5 x4 (fun (r_13 : Int32) (M_11 : Mem) => ((r_13 = 0 → (b_X4_findBestPiece_47 k6 Q M_11 x1 x2 x4 x5)) ∧ (¬ r_13 = 0 → (b_X4_findBestPiece_43 k6 Q M_11 x1 x2 x5))))))))))))))
def l_X4_findBestPiece_6 (Q : Int32 → Mem → Prop) (n : Nat) : Mem → Nat → Int64 → Int32 → Int32 → Prop :=
  Nat.rec (motive := fun _ => Mem → Nat → Int64 → Int32 → Int32 → Prop) (fun _ _ _ _ _ => False) (fun _ k => b_X4_findBestPiece_6 Q k) n
def w_X4_findBestPiece (M : Mem) (a1 : Nat) (a2 : Int64) (Q : Int32 → Mem → Prop) : Prop :=
  (∃ n : Nat, l_X4_findBestPiece_6 Q n M a1 a2 (-1) 0)
def b_X4_findLowest_2 (Q : Int32 → Mem → Prop) (k2 : Mem → Int64 → Int32 → Prop) (M : Mem) (x0 : Int64) (x2 : Int32) : Prop :=
  (((48 : Int32) ≤ x2 → (Q (-1) M)) ∧ (¬ (48 : Int32) ≤ x2 → (w_X4_isIn M x0 x2 (fun (r_5 : Int32) (M_3 : Mem) => ((r_5 = 0 → (∀ v_7 : Int32, v_7 = x2 + 1 → (k2 M_3 x0 v_7))) ∧ (¬ r_5 = 0 → (Q x2 M_3)))))))
def l_X4_findLowest_2 (Q : Int32 → Mem → Prop) (n : Nat) : Mem → Int64 → Int32 → Prop :=
  Nat.rec (motive := fun _ => Mem → Int64 → Int32 → Prop) (fun _ _ _ => False) (fun _ k => b_X4_findLowest_2 Q k) n
def w_X4_findLowest (M : Mem) (a0 : Int64) (Q : Int32 → Mem → Prop) : Prop :=
  (∃ n : Nat, l_X4_findLowest_2 Q n M a0 0)
def w_X0_add (M : Mem) (t : Nat) (a1 : Int32) (a2 : Int32) (Q : Mem → Prop) : Prop :=
  ((a1 = (-1) → (Q M)) ∧ (¬ a1 = (-1) → (mE M 0 t = true ∧ (mF M 0 t 0 = true ∧ (mE M 20 t = true ∧ (((6 : Int32) ≤ (mI M 0 t 2) → (Q M)) ∧ (¬ (6 : Int32) ≤ (mI M 0 t 2) → ((vp_in (mI M 0 t 2) 6) ∧ (∀ M_7 : Mem, M_7 = wI M 20 t ((mI M 0 t 2).toNatClampNeg) a1 → (mF M_7 0 t 1 = true ∧ (mE M_7 21 t = true ∧ ((vp_in (mI M_7 0 t 2) 6) ∧ (∀ M_11 : Mem, M_11 = wI M_7 21 t ((mI M_7 0 t 2).toNatClampNeg) a2 → (∀ M_12 : Mem, M_12 = wI M_11 0 t 2 ((mI M_11 0 t 2) + 1) → (∀ M_13 : Mem, M_13 = wL M_12 0 t 3 ((mL M_12 0 t 3) ||| (1 <<< (a1.toInt64 &&& 63))) → (Q M_13))))))))))))))))
def w_X4_askOne (M : Mem) (a1 : Nat) (a2 : Nat) (a3 : Int64) (Q : Mem → Prop) : Prop :=
  (mE M 2 a2 = true ∧ (mF M 2 a2 12 = true ∧ (mE M 2 a1 = true ∧ (mE M 26 a2 = true ∧ ((vp_in (mI M 2 a1 0) 6) ∧ (w_X4_blocksOf M (mI M 26 a2 ((mI M 2 a1 0).toNatClampNeg)) (fun (r_9 : Int64) (M_7 : Mem) => (∀ v_10 : Int64, v_10 = (a3 &&& r_9) → (mE M_7 2 a1 = true ∧ (mF M_7 2 a1 3 = true ∧ (mE M_7 0 a1 = true ∧ (∀ v_14 : Int64, v_14 = (v_10 &&& ((mL M_7 0 a1 3) ^^^ (-1))) → (((lg_cmp v_14 0) = 0 → (((lg_cmp (a3 &&& ((mL M_7 0 a1 3) ^^^ (-1))) 0) = 0 → (((lg_cmp v_10 0) = 0 → (Q M_7)) ∧ (¬ (lg_cmp v_10 0) = 0 → (w_X4_findLowest M_7 v_10 (fun (r_21 : Int32) (M_19 : Mem) => (mE M_19 2 a2 = true ∧ (mE M_19 0 a1 = true ∧ (w_X0_add M_19 a1 r_21 (mI M_19 2 a2 0) (fun (M_25 : Mem) => (Q M_25)))))))))) ∧ (¬ (lg_cmp (a3 &&& ((mL M_7 0 a1 3) ^^^ (-1))) 0) = 0 → (Q M_7)))) ∧ (¬ (lg_cmp v_14 0) = 0 → (mE M_7 4 0 = true ∧ (w_X4_findBestPiece M_7 a1 v_14 (fun (r_32 : Int32) (M_30 : Mem) => (mE M_30 2 a1 = true ∧ (mF M_30 2 a1 3 = true ∧ (w_X4_blocksOfPiece M_30 r_32 (fun (r_38 : Int64) (M_36 : Mem) => (w_X4_findLowest M_36 (v_14 &&& r_38) (fun (r_42 : Int32) (M_40 : Mem) => (mE M_40 2 a2 = true ∧ (mE M_40 0 a1 = true ∧ (w_X0_add M_40 a1 r_42 (mI M_40 2 a2 0) (fun (M_46 : Mem) => (Q M_46))))))))))))))))))))))))))))
def b_X4_askOthers_84 (k41 : Mem → Nat → Int64 → Int32 → Int32 → Prop) (Q : Mem → Prop) (M : Mem) (x1 : Nat) (x3 : Int64) (x6 : Int32) (x7 : Int32) : Prop :=
  (∀ v_26 : Int32, v_26 = x7 + 1 → (k41 M x1 x3 x6 v_26))
def b_X4_askOthers_41 (Q : Mem → Prop) (k41 : Mem → Nat → Int64 → Int32 → Int32 → Prop) (M : Mem) (x1 : Nat) (x3 : Int64) (x6 : Int32) (x7 : Int32) : Prop :=
  ((x6 ≤ x7 → (Q M)) ∧ (¬ x6 ≤ x7 → (mE M 10 0 = true ∧ ((vp_in x7 6) ∧ ((mF M 10 0 x7.toNatClampNeg = true → (mE M 2 x7.toNatClampNeg = true ∧ (mE M 2 x1 = true ∧ (w_X4_isIn M ((mI M 2 x7.toNatClampNeg 13).toInt64) (mI M 2 x1 0) (fun (r_24 : Int32) (M_22 : Mem) => ((r_24 = 0 → (b_X4_askOthers_84 k41 Q M_22 x1 x3 x6 x7)) ∧ (¬ r_24 = 0 → (mE M_22 4 0 = true ∧ (w_X4_askOne M_22 x1 x7.toNatClampNeg x3 (fun (M_29 : Mem) => (b_X4_askOthers_84 k41 Q M_29 x1 x3 x6 x7))))))))))) ∧ (mF M 10 0 x7.toNatClampNeg = false → (b_X4_askOthers_84 k41 Q M x1 x3 x6 x7)))))))
def l_X4_askOthers_41 (Q : Mem → Prop) (n : Nat) : Mem → Nat → Int64 → Int32 → Int32 → Prop :=
  Nat.rec (motive := fun _ => Mem → Nat → Int64 → Int32 → Int32 → Prop) (fun _ _ _ _ _ => False) (fun _ k => b_X4_askOthers_41 Q k) n
def w_X4_askOthers (M : Mem) (a1 : Nat) (a2 : Int32) (Q : Mem → Prop) : Prop :=
  (mE M 2 a1 = true ∧ (mF M 2 a1 1 = true ∧ (mE M 3 a1 = true ∧ (w_X4_blocksOf M (a2 &&& ((mI M 3 a1 0) ^^^ (-1))) (fun (r_7 : Int64) (M_5 : Mem) => (mE M_5 2 a1 = true ∧ (mF M_5 2 a1 1 = true ∧ (mE M_5 3 a1 = true ∧ (∀ v_11 : Int64, v_11 = (r_7 &&& ((mL M_5 3 a1 1) ^^^ (-1))) → (mE M_5 4 0 = true ∧ (mF M_5 4 0 0 = true ∧ (mE M_5 10 0 = true ∧ (∃ n : Nat, l_X4_askOthers_41 Q n M_5 a1 v_11 6 0)))))))))))))
def b_X4_askAll_40 (k16 : Mem → Int32 → Int32 → Int32 → Prop) (Q : Mem → Prop) (M : Mem) (x1 : Int32) (x3 : Int32) (x4 : Int32) : Prop :=
  (∀ v_18 : Int32, v_18 = x4 + 1 → (k16 M x1 x3 v_18))
def b_X4_askAll_16 (Q : Mem → Prop) (k16 : Mem → Int32 → Int32 → Int32 → Prop) (M : Mem) (x1 : Int32) (x3 : Int32) (x4 : Int32) : Prop :=
  ((x3 ≤ x4 → (Q M)) ∧ (¬ x3 ≤ x4 → (mE M 10 0 = true ∧ ((vp_in x4 6) ∧ ((mF M 10 0 x4.toNatClampNeg = true → (mE M 4 0 = true ∧ (w_X4_askOthers M x4.toNatClampNeg x1 (fun (M_15 : Mem) => (b_X4_askAll_40 k16 Q M_15 x1 x3 x4))))) ∧ (mF M 10 0 x4.toNatClampNeg = false → (b_X4_askAll_40 k16 Q M x1 x3 x4)))))))
def l_X4_askAll_16 (Q : Mem → Prop) (n : Nat) : Mem → Int32 → Int32 → Int32 → Prop :=
  Nat.rec (motive := fun _ => Mem → Int32 → Int32 → Int32 → Prop) (fun _ _ _ _ => False) (fun _ k => b_X4_askAll_16 Q k) n
def w_X4_askAll (M : Mem) (Q : Mem → Prop) : Prop :=
  (mE M 4 0 = true ∧ (w_X4_wantedPieces M (fun (r_5 : Int32) (M_3 : Mem) => (mE M_3 4 0 = true ∧ (mF M_3 4 0 0 = true ∧ (mE M_3 10 0 = true ∧ (∃ n : Nat, l_X4_askAll_16 Q n M_3 r_5 6 0)))))))
def b_X1_add_32 (Q : Mem → Prop) (M : Mem) (x0 : Nat) (x2 : Int32) (s0 : Int32) (s1 : Int32) (s2 : Int32) (s3 : Nat) : Prop :=
  (mE M 22 s3 = true ∧ ((vp_in s2 1000) ∧ (∀ M_8 : Mem, M_8 = wI M 22 s3 s2.toNatClampNeg (((s1 + s0) * 48) + x2) → (mE M_8 1 x0 = true ∧ (∀ M_10 : Mem, M_10 = wI M_8 1 x0 2 ((mI M_8 1 x0 2) + 1) → (Q M_10))))))
def w_X1_add (M : Mem) (t : Nat) (a1 : Int32) (a2 : Int32) (a3 : Int32) (Q : Mem → Prop) : Prop :=
  (mE M 1 t = true ∧ (mF M 1 t 1 = true ∧ (mE M 22 t = true ∧ (((1000 : Int32) ≤ (mI M 1 t 2) → (Q M)) ∧ (¬ (1000 : Int32) ≤ (mI M 1 t 2) → ((a3 = 0 → (b_X1_add_32 Q M t a2 0 (a1 * 2) (mI M 1 t 2) t)) ∧ (¬ a3 = 0 → (b_X1_add_32 Q M t a2 1 (a1 * 2) (mI M 1 t 2) t))))))))
def w_X3_take (M : Mem) (t : Nat) (a1 : Int32) (a2 : Int32) (Q : Int32 → Mem → Prop) : Prop :=
  (mE M 3 t = true ∧ (w_X4_isIn M (mL M 3 t 1) a1 (fun (r_5 : Int32) (M_3 : Mem) => ((r_5 = 0 → (mE M_3 3 t = true ∧ (∀ M_8 : Mem, M_8 = wL M_3 3 t 1 ((mL M_3 3 t 1) ||| (1 <<< (a1.toInt64 &&& 63))) → ((a2 = 0 → (Q 1 M_8)) ∧ (¬ a2 = 0 → (∀ M_10 : Mem, M_10 = wL M_8 3 t 2 ((mL M_8 3 t 2) ||| (1 <<< (a1.toInt64 &&& 63))) → (Q 1 M_10))))))) ∧ (¬ r_5 = 0 → (Q 0 M_3))))))
def w_X4_comeOne (M : Mem) (a1 : Nat) (a2 : Nat) (a3 : Int32) (Q : Int32 → Mem → Prop) : Prop :=
  (mE M 2 a2 = true ∧ (w_X4_isIn M ((mI M 2 a2 4).toInt64) (a3 / 4) (fun (r_5 : Int32) (M_3 : Mem) => (mE M_3 2 a1 = true ∧ (mF M_3 2 a1 2 = true ∧ (mE M_3 4 0 = true ∧ (mE M_3 1 a1 = true ∧ (w_X1_add M_3 a1 (mI M_3 4 0 4) a3 r_5 (fun (M_11 : Mem) => (mE M_11 2 a1 = true ∧ (mF M_11 2 a1 1 = true ∧ (mE M_11 3 a1 = true ∧ (w_X3_take M_11 a1 a3 r_5 (fun (r_20 : Int32) (M_18 : Mem) => ((r_20 = 0 → (mE M_18 2 a1 = true ∧ (∀ M_35 : Mem, M_35 = wI M_18 2 a1 11 ((mI M_18 2 a1 11) + 1) → (Q 0 M_35)))) ∧ (¬ r_20 = 0 → (mE M_18 2 a1 = true ∧ (mF M_18 2 a1 7 = true ∧ (mE M_18 2 a2 = true ∧ (mE M_18 23 a1 = true ∧ ((vp_in (mI M_18 2 a2 0) 6) ∧ ((vp_in (mI M_18 2 a2 0) 6) ∧ (∀ M_28 : Mem, M_28 = wL M_18 23 a1 ((mI M_18 2 a2 0).toNatClampNeg) ((mL M_18 23 a1 ((mI M_18 2 a2 0).toNatClampNeg)) ||| (1 <<< (a3.toInt64 &&& 63))) → (mF M_28 2 a1 8 = true ∧ (mE M_28 24 a1 = true ∧ ((vp_in (mI M_28 2 a2 0) 6) ∧ ((vp_in (mI M_28 2 a2 0) 6) ∧ (∀ M_33 : Mem, M_33 = wI M_28 24 a1 ((mI M_28 2 a2 0).toNatClampNeg) ((mI M_28 24 a1 ((mI M_28 2 a2 0).toNatClampNeg)) + 1) → (Q 1 M_33)))))))))))))))))))))))))))))
def b_J7_fill_53178_24_5 (Q : Mem → Prop) (k5 : Mem → Nat → Int32 → Int32 → Int32 → Prop) (M : Mem) (x0 : Nat) (x1 : Int32) (x2 : Int32) (x3 : Int32) : Prop :=
  ((x3 ≤ x2 → (Q M)) ∧ (¬ x3 ≤ x2 → (mE M 24 x0 = true ∧ ((vp_in x2 6) ∧ (∀ M_5 : Mem, M_5 = wI M 24 x0 x2.toNatClampNeg x1 → (∀ v_6 : Int32, v_6 = x2 + 1 → (k5 M_5 x0 x1 v_6 x3)))))))
def l_J7_fill_53178_24_5 (Q : Mem → Prop) (n : Nat) : Mem → Nat → Int32 → Int32 → Int32 → Prop :=
  Nat.rec (motive := fun _ => Mem → Nat → Int32 → Int32 → Int32 → Prop) (fun _ _ _ _ _ => False) (fun _ k => b_J7_fill_53178_24_5 Q k) n
def w_J7_fill_53178_24 (M : Mem) (a0 : Nat) (a1 : Int32) (Q : Mem → Prop) : Prop :=
  (mE M 24 a0 = true ∧ (∃ n : Nat, l_J7_fill_53178_24_5 Q n M a0 a1 0 6))
def b_X4_comeTo_65 (k12 : Mem → Nat → Int32 → Int32 → Prop) (Q : Int32 → Mem → Prop) (M : Mem) (x1 : Nat) (x2 : Int32) (x3 : Int32) : Prop :=
  (∀ v_19 : Int32, v_19 = x3 + 1 → (k12 M x1 x2 v_19))
def b_X4_comeTo_12 (Q : Int32 → Mem → Prop) (k12 : Mem → Nat → Int32 → Int32 → Prop) (M : Mem) (x1 : Nat) (x2 : Int32) (x3 : Int32) : Prop :=
  (mE M 2 x1 = true ∧ (mF M 2 x1 3 = true ∧ (mE M 0 x1 = true ∧ (((mI M 0 x1 2) ≤ x3 → (Q x2 M)) ∧ (¬ (mI M 0 x1 2) ≤ x3 → (mF M 0 x1 1 = true ∧ (mE M 21 x1 = true ∧ ((vp_in x3 6) ∧ (mE M 4 0 = true ∧ (w_X4_find M (mI M 21 x1 x3.toNatClampNeg) (fun (z : Option Nat) (M_16 : Mem) => ((z = none → (b_X4_comeTo_65 k12 Q M_16 x1 x2 x3)) ∧ (∀ r_18 : Nat, z = some r_18 → (mE M_16 2 x1 = true ∧ (mF M_16 2 x1 3 = true ∧ (mE M_16 0 x1 = true ∧ (mF M_16 0 x1 0 = true ∧ (mE M_16 20 x1 = true ∧ ((vp_in x3 6) ∧ (mE M_16 4 0 = true ∧ (w_X4_comeOne M_16 x1 r_18 (mI M_16 20 x1 x3.toNatClampNeg) (fun (r_30 : Int32) (M_28 : Mem) => ((r_30 = 0 → (b_X4_comeTo_65 k12 Q M_28 x1 x2 x3)) ∧ (¬ r_30 = 0 → (∀ v_32 : Int32, v_32 = x2 + 1 → (b_X4_comeTo_65 k12 Q M_28 x1 v_32 x3))))))))))))))))))))))))))
def l_X4_comeTo_12 (Q : Int32 → Mem → Prop) (n : Nat) : Mem → Nat → Int32 → Int32 → Prop :=
  Nat.rec (motive := fun _ => Mem → Nat → Int32 → Int32 → Prop) (fun _ _ _ _ => False) (fun _ k => b_X4_comeTo_12 Q k) n
def w_X4_comeTo (M : Mem) (a1 : Nat) (Q : Int32 → Mem → Prop) : Prop :=
  (mE M 2 a1 = true ∧ (mF M 2 a1 8 = true ∧ (w_J7_fill_53178_24 M a1 0 (fun (M_4 : Mem) => (∃ n : Nat, l_X4_comeTo_12 Q n M_4 a1 0 0)))))
def b_X4_comeAll_39 (k13 : Mem → Int32 → Int32 → Int32 → Prop) (Q : Int32 → Mem → Prop) (M : Mem) (x1 : Int32) (x3 : Int32) (x4 : Int32) : Prop :=
  (∀ v_14 : Int32, v_14 = x4 + 1 → (k13 M x1 x3 v_14))
def b_X4_comeAll_13 (Q : Int32 → Mem → Prop) (k13 : Mem → Int32 → Int32 → Int32 → Prop) (M : Mem) (x1 : Int32) (x3 : Int32) (x4 : Int32) : Prop :=
  ((x3 ≤ x4 → (Q x1 M)) ∧ (¬ x3 ≤ x4 → (mE M 10 0 = true ∧ ((vp_in x4 6) ∧ ((mF M 10 0 x4.toNatClampNeg = true → (mE M 4 0 = true ∧ (w_X4_comeTo M x4.toNatClampNeg (fun (r_12 : Int32) (M_10 : Mem) => (∀ v_13 : Int32, v_13 = (x1 + r_12) → (b_X4_comeAll_39 k13 Q M_10 v_13 x3 x4)))))) ∧ (mF M 10 0 x4.toNatClampNeg = false → (b_X4_comeAll_39 k13 Q M x1 x3 x4)))))))
def l_X4_comeAll_13 (Q : Int32 → Mem → Prop) (n : Nat) : Mem → Int32 → Int32 → Int32 → Prop :=
  Nat.rec (motive := fun _ => Mem → Int32 → Int32 → Int32 → Prop) (fun _ _ _ _ => False) (fun _ k => b_X4_comeAll_13 Q k) n
def w_X4_comeAll (M : Mem) (Q : Int32 → Mem → Prop) : Prop :=
  (mE M 4 0 = true ∧ (mF M 4 0 0 = true ∧ (mE M 10 0 = true ∧ (∃ n : Nat, l_X4_comeAll_13 Q n M 0 6 0))))
def w_X3_isComplete (M : Mem) (t : Nat) (a1 : Int32) (Q : Int32 → Mem → Prop) : Prop :=
  (mE M 3 t = true ∧ (w_X4_blocksOfPiece M a1 (fun (r_5 : Int64) (M_3 : Mem) => (((lg_cmp (((mL M 3 t 1) ^^^ (-1)) &&& r_5) 0) = 0 → (Q 1 M_3)) ∧ (¬ (lg_cmp (((mL M 3 t 1) ^^^ (-1)) &&& r_5) 0) = 0 → (Q 0 M_3))))))
def w_X3_isSound (M : Mem) (t : Nat) (a1 : Int32) (Q : Int32 → Mem → Prop) : Prop :=
  (mE M 3 t = true ∧ (w_X4_blocksOfPiece M a1 (fun (r_5 : Int64) (M_3 : Mem) => (((lg_cmp ((mL M 3 t 2) &&& r_5) 0) = 0 → (Q 1 M_3)) ∧ (¬ (lg_cmp ((mL M 3 t 2) &&& r_5) 0) = 0 → (Q 0 M_3))))))
def b_X2_blame_78 (k8 : Mem → Nat → Int64 → Int32 → Prop) (Q : Mem → Prop) (M : Mem) (x0 : Nat) (x2 : Int64) (x4 : Int32) : Prop :=
  (∀ v_12 : Int32, v_12 = x4 + 1 → (k8 M x0 x2 v_12))
def b_X2_blame_65 (k8 : Mem → Nat → Int64 → Int32 → Prop) (Q : Mem → Prop) (M : Mem) (x0 : Nat) (x2 : Int64) (x4 : Int32) : Prop :=
  (mE M 2 x0 = true ∧ (∀ M_20 : Mem, M_20 = wI M 2 x0 10 ((mI M 2 x0 10) ||| (1 <<< (x4 &&& 31))) → (b_X2_blame_78 k8 Q M_20 x0 x2 x4)))
def b_X2_blame_8 (Q : Mem → Prop) (k8 : Mem → Nat → Int64 → Int32 → Prop) (M : Mem) (x0 : Nat) (x2 : Int64) (x4 : Int32) : Prop :=
  (mE M 2 x0 = true ∧ (mF M 2 x0 7 = true ∧ (mE M 23 x0 = true ∧ (((6 : Int32) ≤ x4 → (Q M)) ∧ (¬ (6 : Int32) ≤ x4 → ((vp_in x4 6) ∧ (∀ v_10 : Int64, v_10 = ((mL M 23 x0 x4.toNatClampNeg) &&& x2) → (((lg_cmp v_10 0) = 0 → (b_X2_blame_78 k8 Q M x0 x2 x4)) ∧ (¬ (lg_cmp v_10 0) = 0 → (mF M 2 x0 9 = true ∧ (mE M 25 x0 = true ∧ ((vp_in x4 6) ∧ ((vp_in x4 6) ∧ (∀ M_17 : Mem, M_17 = wI M 25 x0 x4.toNatClampNeg ((mI M 25 x0 x4.toNatClampNeg) + 1) → (((lg_cmp v_10 x2) = 0 → (b_X2_blame_65 k8 Q M_17 x0 x2 x4)) ∧ (¬ (lg_cmp v_10 x2) = 0 → ((vp_in x4 6) ∧ (((mI M_17 25 x0 x4.toNatClampNeg) < 3 → (b_X2_blame_78 k8 Q M_17 x0 x2 x4)) ∧ (¬ (mI M_17 25 x0 x4.toNatClampNeg) < 3 → (b_X2_blame_65 k8 Q M_17 x0 x2 x4))))))))))))))))))))
def l_X2_blame_8 (Q : Mem → Prop) (n : Nat) : Mem → Nat → Int64 → Int32 → Prop :=
  Nat.rec (motive := fun _ => Mem → Nat → Int64 → Int32 → Prop) (fun _ _ _ _ => False) (fun _ k => b_X2_blame_8 Q k) n
def w_X2_blame (M : Mem) (t : Nat) (a1 : Int32) (Q : Mem → Prop) : Prop :=
  (w_X4_blocksOfPiece M a1 (fun (r_4 : Int64) (M_2 : Mem) => (∃ n : Nat, l_X2_blame_8 Q n M_2 t r_4 0)))
def b_X2_forgetSenders_2 (Q : Mem → Prop) (k2 : Mem → Nat → Int32 → Int32 → Prop) (M : Mem) (x0 : Nat) (x1 : Int32) (x2 : Int32) : Prop :=
  (mE M 2 x0 = true ∧ (mF M 2 x0 7 = true ∧ (mE M 23 x0 = true ∧ (((6 : Int32) ≤ x2 → (Q M)) ∧ (¬ (6 : Int32) ≤ x2 → ((vp_in x2 6) ∧ (w_X4_blocksOfPiece M x1 (fun (r_9 : Int64) (M_7 : Mem) => (mE M_7 23 x0 = true ∧ ((vp_in x2 6) ∧ (∀ M_12 : Mem, M_12 = wL M_7 23 x0 x2.toNatClampNeg ((mL M 23 x0 x2.toNatClampNeg) &&& (r_9 ^^^ (-1))) → (∀ v_13 : Int32, v_13 = x2 + 1 → (k2 M_12 x0 x1 v_13)))))))))))))
def l_X2_forgetSenders_2 (Q : Mem → Prop) (n : Nat) : Mem → Nat → Int32 → Int32 → Prop :=
  Nat.rec (motive := fun _ => Mem → Nat → Int32 → Int32 → Prop) (fun _ _ _ _ => False) (fun _ k => b_X2_forgetSenders_2 Q k) n
def w_X2_forgetSenders (M : Mem) (t : Nat) (a1 : Int32) (Q : Mem → Prop) : Prop :=
  (∃ n : Nat, l_X2_forgetSenders_2 Q n M t a1 0)
def b_X3_endPieces_70 (k2 : Mem → Nat → Int32 → Prop) (Q : Mem → Prop) (M : Mem) (x0 : Nat) (x1 : Int32) : Prop :=
  (∀ v_8 : Int32, v_8 = x1 + 1 → (k2 M x0 v_8))
def b_X3_endPieces_36 (k2 : Mem → Nat → Int32 → Prop) (Q : Mem → Prop) (M : Mem) (x0 : Nat) (x1 : Int32) : Prop :=
  (mE M 3 x0 = true ∧ (w_X4_blocksOfPiece M x1 (fun (r_19 : Int64) (M_17 : Mem) => (mE M_17 3 x0 = true ∧ (∀ M_21 : Mem, M_21 = wL M_17 3 x0 1 ((mL M 3 x0 1) &&& (r_19 ^^^ (-1))) → (w_X4_blocksOfPiece M_21 x1 (fun (r_25 : Int64) (M_23 : Mem) => (mE M_23 3 x0 = true ∧ (∀ M_27 : Mem, M_27 = wL M_23 3 x0 2 ((mL M_21 3 x0 2) &&& (r_25 ^^^ (-1))) → (b_X3_endPieces_70 k2 Q M_27 x0 x1))))))))))
def b_X3_endPieces_2 (Q : Mem → Prop) (k2 : Mem → Nat → Int32 → Prop) (M : Mem) (x0 : Nat) (x1 : Int32) : Prop :=
  (((12 : Int32) ≤ x1 → (Q M)) ∧ (¬ (12 : Int32) ≤ x1 → (mE M 3 x0 = true ∧ (w_X3_isComplete M x0 x1 (fun (r_6 : Int32) (M_4 : Mem) => ((r_6 = 0 → (b_X3_endPieces_70 k2 Q M_4 x0 x1)) ∧ (¬ r_6 = 0 → (mE M_4 3 x0 = true ∧ (w_X3_isSound M_4 x0 x1 (fun (r_13 : Int32) (M_11 : Mem) => ((r_13 = 0 → (b_X3_endPieces_36 k2 Q M_11 x0 x1)) ∧ (¬ r_13 = 0 → (mE M_11 3 x0 = true ∧ (∀ M_29 : Mem, M_29 = wI M_11 3 x0 0 ((mI M_11 3 x0 0) ||| (1 <<< (x1 &&& 31))) → (b_X3_endPieces_36 k2 Q M_29 x0 x1)))))))))))))))
def l_X3_endPieces_2 (Q : Mem → Prop) (n : Nat) : Mem → Nat → Int32 → Prop :=
  Nat.rec (motive := fun _ => Mem → Nat → Int32 → Prop) (fun _ _ _ => False) (fun _ k => b_X3_endPieces_2 Q k) n
def w_X3_endPieces (M : Mem) (t : Nat) (Q : Mem → Prop) : Prop :=
  (∃ n : Nat, l_X3_endPieces_2 Q n M t 0)
def b_X4_settle_40 (k2 : Mem → Nat → Int32 → Prop) (Q : Mem → Prop) (M : Mem) (x0 : Nat) (x1 : Int32) : Prop :=
  (∀ v_17 : Int32, v_17 = x1 + 1 → (k2 M x0 v_17))
def b_X4_settle_35 (k2 : Mem → Nat → Int32 → Prop) (Q : Mem → Prop) (M : Mem) (x0 : Nat) (x1 : Int32) : Prop :=
  (mE M 2 x0 = true ∧ (w_X2_forgetSenders M x0 x1 (fun (M_28 : Mem) => (b_X4_settle_40 k2 Q M_28 x0 x1))))
def b_X4_settle_2 (Q : Mem → Prop) (k2 : Mem → Nat → Int32 → Prop) (M : Mem) (x0 : Nat) (x1 : Int32) : Prop :=
  (((12 : Int32) ≤ x1 → (mE M 2 x0 = true ∧ (mF M 2 x0 1 = true ∧ (mE M 3 x0 = true ∧ (w_X3_endPieces M x0 (fun (M_6 : Mem) => (Q M_6))))))) ∧ (¬ (12 : Int32) ≤ x1 → (mE M 2 x0 = true ∧ (mF M 2 x0 1 = true ∧ (mE M 3 x0 = true ∧ (w_X3_isComplete M x0 x1 (fun (r_15 : Int32) (M_13 : Mem) => ((r_15 = 0 → (b_X4_settle_40 k2 Q M_13 x0 x1)) ∧ (¬ r_15 = 0 → (mE M_13 2 x0 = true ∧ (mF M_13 2 x0 1 = true ∧ (mE M_13 3 x0 = true ∧ (w_X3_isSound M_13 x0 x1 (fun (r_24 : Int32) (M_22 : Mem) => ((r_24 = 0 → (mE M_22 2 x0 = true ∧ (w_X2_blame M_22 x0 x1 (fun (M_33 : Mem) => (b_X4_settle_35 k2 Q M_33 x0 x1))))) ∧ (¬ r_24 = 0 → (b_X4_settle_35 k2 Q M_22 x0 x1)))))))))))))))))
def l_X4_settle_2 (Q : Mem → Prop) (n : Nat) : Mem → Nat → Int32 → Prop :=
  Nat.rec (motive := fun _ => Mem → Nat → Int32 → Prop) (fun _ _ _ => False) (fun _ k => b_X4_settle_2 Q k) n
def w_X4_settle (M : Mem) (a0 : Nat) (Q : Mem → Prop) : Prop :=
  (∃ n : Nat, l_X4_settle_2 Q n M a0 0)
def b_X4_settleAll_30 (k10 : Mem → Int32 → Int32 → Prop) (Q : Mem → Prop) (M : Mem) (x2 : Int32) (x3 : Int32) : Prop :=
  (∀ v_12 : Int32, v_12 = x3 + 1 → (k10 M x2 v_12))
def b_X4_settleAll_10 (Q : Mem → Prop) (k10 : Mem → Int32 → Int32 → Prop) (M : Mem) (x2 : Int32) (x3 : Int32) : Prop :=
  ((x2 ≤ x3 → (Q M)) ∧ (¬ x2 ≤ x3 → (mE M 10 0 = true ∧ ((vp_in x3 6) ∧ ((mF M 10 0 x3.toNatClampNeg = true → (w_X4_settle M x3.toNatClampNeg (fun (M_9 : Mem) => (b_X4_settleAll_30 k10 Q M_9 x2 x3)))) ∧ (mF M 10 0 x3.toNatClampNeg = false → (b_X4_settleAll_30 k10 Q M x2 x3)))))))
def l_X4_settleAll_10 (Q : Mem → Prop) (n : Nat) : Mem → Int32 → Int32 → Prop :=
  Nat.rec (motive := fun _ => Mem → Int32 → Int32 → Prop) (fun _ _ _ => False) (fun _ k => b_X4_settleAll_10 Q k) n
def w_X4_settleAll (M : Mem) (Q : Mem → Prop) : Prop :=
  (mE M 4 0 = true ∧ (mF M 4 0 0 = true ∧ (mE M 10 0 = true ∧ (∃ n : Nat, l_X4_settleAll_10 Q n M 6 0))))
def b_X4_run_11 (Q : Int32 → Mem → Prop) (X : Nat → Mem → Prop) (M : Mem) : Prop :=
  (X 2 M)
def b_X4_run_47 (Q : Int32 → Mem → Prop) (X : Nat → Mem → Prop) (k47 : Mem → Int32 → Int32 → Int32 → Prop) (M : Mem) (x1 : Int32) (x2 : Int32) (x3 : Int32) : Prop :=
  ((x1 ≤ x3 → (Q x2 M)) ∧ (¬ x1 ≤ x3 → (mE M 4 0 = true ∧ (w_X4_begin M (fun (M_8 : Mem) => (mE M_8 4 0 = true ∧ (w_X4_askAll M_8 (fun (M_13 : Mem) => (mE M_13 4 0 = true ∧ (w_X4_comeAll M_13 (fun (r_20 : Int32) (M_18 : Mem) => (∀ v_21 : Int32, v_21 = (x2 + r_20) → (mE M_18 4 0 = true ∧ (w_X4_settleAll M_18 (fun (M_24 : Mem) => (mE M_24 4 0 = true ∧ (∀ M_28 : Mem, M_28 = wI M_24 4 0 4 ((mI M_24 4 0 4) + 1) → (∀ v_29 : Int32, v_29 = x3 + 1 → (k47 M_28 x1 v_21 v_29)))))))))))))))))))
def l_X4_run_47 (Q : Int32 → Mem → Prop) (X : Nat → Mem → Prop) (n : Nat) : Mem → Int32 → Int32 → Int32 → Prop :=
  Nat.rec (motive := fun _ => Mem → Int32 → Int32 → Int32 → Prop) (fun _ _ _ _ => False) (fun _ k => b_X4_run_47 Q X k) n
def w_X4_run (M : Mem) (a1 : Int32) (Q : Int32 → Mem → Prop) (X : Nat → Mem → Prop) : Prop :=
  ((a1 < 1 → (b_X4_run_11 Q X M)) ∧ (¬ a1 < 1 → ((a1 ≤ 20 → (mE M 4 0 = true ∧ ((((mI M 4 0 4) + a1) ≤ 200 → (∃ n : Nat, l_X4_run_47 Q X n M a1 0 0)) ∧ (¬ ((mI M 4 0 4) + a1) ≤ 200 → (X 0 M))))) ∧ (¬ a1 ≤ 20 → (b_X4_run_11 Q X M)))))
def w_X4_strikes (M : Mem) (a1 : Int32) (a2 : Int32) (Q : Int32 → Mem → Prop) (X : Nat → Mem → Prop) : Prop :=
  (mE M 4 0 = true ∧ (w_X4_known M a1 (fun (r_5 : Nat) (M_3 : Mem) => (mE M_3 2 r_5 = true ∧ (mF M_3 2 r_5 9 = true ∧ (mE M_3 4 0 = true ∧ (w_X4_known M_3 a2 (fun (r_12 : Nat) (M_10 : Mem) => (mE M_10 2 r_12 = true ∧ (mE M_10 25 r_5 = true ∧ ((vp_in (mI M_10 2 r_12 0) 6) ∧ (Q (mI M_10 25 r_5 ((mI M_10 2 r_12 0).toNatClampNeg)) M_10))))) X))))) X))
def b_L_runs_296 (Q : Int32 → Mem → Prop) (X : Nat → Mem → Prop) (M : Mem) (it : Nat) : Prop :=
  (it < 64 ∧ (Q 1 M))
def b_L_runs_255 (k127 : Mem → Nat → Int32 → Int32 → Int32 → Int32 → Int32 → Prop) (k138 : Mem → Nat → Int32 → Int32 → Int32 → Int32 → Int32 → Int32 → Prop) (Q : Int32 → Mem → Prop) (X : Nat → Mem → Prop) (M : Mem) (it : Nat) (x2 : Int32) (x4 : Int32) (x5 : Int32) (x7 : Int32) (x8 : Int32) (s0 : Int32) : Prop :=
  (it < 64 ∧ (∀ v_40 : Int32, v_40 = x8 + 1 → (k138 M (it + 1) x2 x4 x5 s0 x7 v_40)))
def b_L_runs_254 (k127 : Mem → Nat → Int32 → Int32 → Int32 → Int32 → Int32 → Prop) (k138 : Mem → Nat → Int32 → Int32 → Int32 → Int32 → Int32 → Int32 → Prop) (Q : Int32 → Mem → Prop) (X : Nat → Mem → Prop) (M : Mem) (it : Nat) (x2 : Int32) (x4 : Int32) (x5 : Int32) (x7 : Int32) (x8 : Int32) : Prop :=
  (it < 64 ∧ (b_L_runs_255 k127 k138 Q X M it x2 x4 x5 x7 x8 0))
def b_L_runs_250 (k127 : Mem → Nat → Int32 → Int32 → Int32 → Int32 → Int32 → Prop) (k138 : Mem → Nat → Int32 → Int32 → Int32 → Int32 → Int32 → Int32 → Prop) (Q : Int32 → Mem → Prop) (X : Nat → Mem → Prop) (M : Mem) (it : Nat) (x2 : Int32) (x4 : Int32) (x5 : Int32) (x7 : Int32) (x8 : Int32) : Prop :=
  (it < 64 ∧ (b_L_runs_255 k127 k138 Q X M it x2 x4 x5 x7 x8 1))
def b_L_runs_196 (k127 : Mem → Nat → Int32 → Int32 → Int32 → Int32 → Int32 → Prop) (k138 : Mem → Nat → Int32 → Int32 → Int32 → Int32 → Int32 → Int32 → Prop) (Q : Int32 → Mem → Prop) (X : Nat → Mem → Prop) (M : Mem) (it : Nat) (x2 : Int32) (x4 : Int32) (x6 : Int32) (x7 : Int32) (x8 : Int32) (x9 : Int32) (s0 : Int32) (s1 : Int32) : Prop :=
  (it < 64 ∧ (∀ v_38 : Int32, v_38 = (s1 + s0) → ((x6 = 0 → (b_L_runs_254 k127 k138 Q X M it x2 x4 v_38 x7 x8)) ∧ (¬ x6 = 0 → ((x9 = 0 → (b_L_runs_250 k127 k138 Q X M it x2 x4 v_38 x7 x8)) ∧ (¬ x9 = 0 → (mE M 4 0 = true ∧ (w_X4_got M x7 x8 (fun (r_46 : Int32) (M_44 : Mem) => (((1 : Int32) < r_46 → (b_L_runs_254 k127 k138 Q X M_44 it x2 x4 v_38 x7 x8)) ∧ (¬ (1 : Int32) < r_46 → ((x7 = x8 → (mE M_44 4 0 = true ∧ (w_X4_got M_44 x7 x8 (fun (r_53 : Int32) (M_51 : Mem) => ((r_53 = 0 → (mE M_51 4 0 = true ∧ (w_X4_strikes M_51 x7 x8 (fun (r_59 : Int32) (M_57 : Mem) => ((r_59 = 0 → (b_L_runs_250 k127 k138 Q X M_57 it x2 x4 v_38 x7 x8)) ∧ (¬ r_59 = 0 → (b_L_runs_254 k127 k138 Q X M_57 it x2 x4 v_38 x7 x8)))) X))) ∧ (¬ r_53 = 0 → (b_L_runs_254 k127 k138 Q X M_51 it x2 x4 v_38 x7 x8)))) X))) ∧ (¬ x7 = x8 → (b_L_runs_250 k127 k138 Q X M_44 it x2 x4 v_38 x7 x8)))))) X))))))))
def b_L_runs_175 (k127 : Mem → Nat → Int32 → Int32 → Int32 → Int32 → Int32 → Prop) (k138 : Mem → Nat → Int32 → Int32 → Int32 → Int32 → Int32 → Int32 → Prop) (Q : Int32 → Mem → Prop) (X : Nat → Mem → Prop) (M : Mem) (it : Nat) (x2 : Int32) (x4 : Int32) (x5 : Int32) (x6 : Int32) (x7 : Int32) (x8 : Int32) (s0 : Int32) : Prop :=
  (it < 64 ∧ ((s0 = 0 → (b_L_runs_196 k127 k138 Q X M it x2 x4 x6 x7 x8 s0 0 x5)) ∧ (¬ s0 = 0 → (mE M 4 0 = true ∧ (w_X4_got M x7 x8 (fun (r_65 : Int32) (M_63 : Mem) => (b_L_runs_196 k127 k138 Q X M_63 it x2 x4 x6 x7 x8 s0 r_65 x5)) X)))))
def b_L_runs_174 (k127 : Mem → Nat → Int32 → Int32 → Int32 → Int32 → Int32 → Prop) (k138 : Mem → Nat → Int32 → Int32 → Int32 → Int32 → Int32 → Int32 → Prop) (Q : Int32 → Mem → Prop) (X : Nat → Mem → Prop) (M : Mem) (it : Nat) (x2 : Int32) (x4 : Int32) (x5 : Int32) (x6 : Int32) (x7 : Int32) (x8 : Int32) : Prop :=
  (it < 64 ∧ (b_L_runs_175 k127 k138 Q X M it x2 x4 x5 x6 x7 x8 0))
def b_L_runs_138 (k127 : Mem → Nat → Int32 → Int32 → Int32 → Int32 → Int32 → Prop) (Q : Int32 → Mem → Prop) (X : Nat → Mem → Prop) (k138 : Mem → Nat → Int32 → Int32 → Int32 → Int32 → Int32 → Int32 → Prop) (M : Mem) (it : Nat) (x2 : Int32) (x4 : Int32) (x5 : Int32) (x6 : Int32) (x7 : Int32) (x8 : Int32) : Prop :=
  (it ≤ 64 ∧ (mE M 61 0 = true ∧ ((vp_in 0 29) ∧ (((mI M 61 0 ((0 : Int32).toNatClampNeg)) ≤ x8 → (∀ v_34 : Int32, v_34 = x7 + 1 → (k127 M (it + 1) x2 x4 x5 x6 v_34))) ∧ (¬ (mI M 61 0 ((0 : Int32).toNatClampNeg)) ≤ x8 → ((vp_in 1 29) ∧ (((((mI M 61 0 ((1 : Int32).toNatClampNeg)) >>> (x7 &&& 31)) &&& 1) = 1 → ((vp_in 1 29) ∧ (((((mI M 61 0 ((1 : Int32).toNatClampNeg)) >>> (x8 &&& 31)) &&& 1) = 1 → (b_L_runs_175 k127 k138 Q X M it x2 x4 x5 x6 x7 x8 1)) ∧ (¬ (((mI M 61 0 ((1 : Int32).toNatClampNeg)) >>> (x8 &&& 31)) &&& 1) = 1 → (b_L_runs_174 k127 k138 Q X M it x2 x4 x5 x6 x7 x8))))) ∧ (¬ (((mI M 61 0 ((1 : Int32).toNatClampNeg)) >>> (x7 &&& 31)) &&& 1) = 1 → (b_L_runs_174 k127 k138 Q X M it x2 x4 x5 x6 x7 x8)))))))))
def l_L_runs_138 (k127 : Mem → Nat → Int32 → Int32 → Int32 → Int32 → Int32 → Prop) (Q : Int32 → Mem → Prop) (X : Nat → Mem → Prop) (n : Nat) : Mem → Nat → Int32 → Int32 → Int32 → Int32 → Int32 → Int32 → Prop :=
  Nat.rec (motive := fun _ => Mem → Nat → Int32 → Int32 → Int32 → Int32 → Int32 → Int32 → Prop) (fun _ _ _ _ _ _ _ _ => False) (fun _ k => b_L_runs_138 k127 Q X k) n
def b_L_runs_127 (Q : Int32 → Mem → Prop) (X : Nat → Mem → Prop) (k127 : Mem → Nat → Int32 → Int32 → Int32 → Int32 → Int32 → Prop) (M : Mem) (it : Nat) (x2 : Int32) (x4 : Int32) (x5 : Int32) (x6 : Int32) (x7 : Int32) : Prop :=
  (it ≤ 64 ∧ (mE M 61 0 = true ∧ ((vp_in 0 29) ∧ (((mI M 61 0 ((0 : Int32).toNatClampNeg)) ≤ x7 → ((x6 = 0 → (Q 0 M)) ∧ (¬ x6 = 0 → ((x2 = 1 → ((x5 = x4 → (b_L_runs_296 Q X M it)) ∧ (¬ x5 = x4 → (Q 0 M)))) ∧ (¬ x2 = 1 → ((x4 < x5 → (Q 0 M)) ∧ (¬ x4 < x5 → (b_L_runs_296 Q X M it)))))))) ∧ (¬ (mI M 61 0 ((0 : Int32).toNatClampNeg)) ≤ x7 → (∃ n : Nat, l_L_runs_138 k127 Q X n M (it + 1) x2 x4 x5 x6 x7 0))))))
def l_L_runs_127 (Q : Int32 → Mem → Prop) (X : Nat → Mem → Prop) (n : Nat) : Mem → Nat → Int32 → Int32 → Int32 → Int32 → Int32 → Prop :=
  Nat.rec (motive := fun _ => Mem → Nat → Int32 → Int32 → Int32 → Int32 → Int32 → Prop) (fun _ _ _ _ _ _ _ => False) (fun _ k => b_L_runs_127 Q X k) n
def b_L_runs_122 (Q : Int32 → Mem → Prop) (X : Nat → Mem → Prop) (M : Mem) (it : Nat) (x2 : Int32) (x4 : Int32) (x5 : Int32) (s0 : Int32) : Prop :=
  (it < 64 ∧ (∃ n : Nat, l_L_runs_127 Q X n M (it + 1) x2 x4 x5 s0 0))
def b_L_runs_121 (Q : Int32 → Mem → Prop) (X : Nat → Mem → Prop) (M : Mem) (it : Nat) (x2 : Int32) (x4 : Int32) (x5 : Int32) : Prop :=
  (it < 64 ∧ (b_L_runs_122 Q X M it x2 x4 x5 0))
def b_L_runs_117 (Q : Int32 → Mem → Prop) (X : Nat → Mem → Prop) (M : Mem) (it : Nat) (x2 : Int32) (x4 : Int32) (x5 : Int32) : Prop :=
  (it < 64 ∧ (b_L_runs_122 Q X M it x2 x4 x5 1))
def b_L_runs_66 (k32 : Mem → Nat → Int32 → Int32 → Int32 → Prop) (Q : Int32 → Mem → Prop) (X : Nat → Mem → Prop) (M : Mem) (it : Nat) (x2 : Int32) (x4 : Int32) (s0 : Int32) (s1 : Int32) : Prop :=
  (it < 64 ∧ (∀ v_73 : Int32, v_73 = (s1 + s0) → (∀ v_74 : Int32, v_74 = x4 + 1 → (k32 M (it + 1) x2 v_73 v_74))))
def b_L_runs_32 (Q : Int32 → Mem → Prop) (X : Nat → Mem → Prop) (k32 : Mem → Nat → Int32 → Int32 → Int32 → Prop) (M : Mem) (it : Nat) (x2 : Int32) (x3 : Int32) (x4 : Int32) : Prop :=
  (it ≤ 64 ∧ (mE M 61 0 = true ∧ ((vp_in 0 29) ∧ (((mI M 61 0 ((0 : Int32).toNatClampNeg)) ≤ x4 → (mE M 4 0 = true ∧ (w_X4_run M x2 (fun (r_11 : Int32) (M_9 : Mem) => (mE M_9 61 0 = true ∧ ((vp_in 2 29) ∧ ((vp_in 2 29) ∧ (∀ M_15 : Mem, M_15 = wI M_9 61 0 ((2 : Int32).toNatClampNeg) ((mI M_9 61 0 ((2 : Int32).toNatClampNeg)) + x2) → (mE M_15 4 0 = true ∧ (w_X4_rounds M_15 (fun (r_20 : Int32) (M_18 : Mem) => (mE M_18 61 0 = true ∧ ((vp_in 2 29) ∧ ((r_20 = (mI M_18 61 0 ((2 : Int32).toNatClampNeg)) → ((r_11 < 0 → (b_L_runs_121 Q X M_18 it x2 r_11 0)) ∧ (¬ r_11 < 0 → (((1 : Int32) < x2 → (b_L_runs_117 Q X M_18 it x2 r_11 0)) ∧ (¬ (1 : Int32) < x2 → ((x3 < r_11 → (b_L_runs_121 Q X M_18 it x2 r_11 0)) ∧ (¬ x3 < r_11 → (b_L_runs_117 Q X M_18 it x2 r_11 0)))))))) ∧ (¬ r_20 = (mI M_18 61 0 ((2 : Int32).toNatClampNeg)) → (b_L_runs_121 Q X M_18 it x2 r_11 0))))))))))))) X))) ∧ (¬ (mI M 61 0 ((0 : Int32).toNatClampNeg)) ≤ x4 → ((vp_in 1 29) ∧ (((((mI M 61 0 ((1 : Int32).toNatClampNeg)) >>> (x4 &&& 31)) &&& 1) = 1 → (mE M 4 0 = true ∧ (w_X4_chosen M x4 (fun (r_79 : Int32) (M_77 : Mem) => (w_L_count M_77 r_79 (fun (r_83 : Int32) (M_81 : Mem) => (b_L_runs_66 k32 Q X M_81 it x2 x4 r_83 x3)))) X))) ∧ (¬ (((mI M 61 0 ((1 : Int32).toNatClampNeg)) >>> (x4 &&& 31)) &&& 1) = 1 → (b_L_runs_66 k32 Q X M it x2 x4 0 x3)))))))))
def l_L_runs_32 (Q : Int32 → Mem → Prop) (X : Nat → Mem → Prop) (n : Nat) : Mem → Nat → Int32 → Int32 → Int32 → Prop :=
  Nat.rec (motive := fun _ => Mem → Nat → Int32 → Int32 → Int32 → Prop) (fun _ _ _ _ _ => False) (fun _ k => b_L_runs_32 Q X k) n
def w_L_runs (M : Mem) (a2 : Int32) (Q : Int32 → Mem → Prop) (X : Nat → Mem → Prop) : Prop :=
  (mE M 61 0 = true ∧ ((vp_in 2 29) ∧ ((((mI M 61 0 ((2 : Int32).toNatClampNeg)) + a2) ≤ 200 → (∃ n : Nat, l_L_runs_32 Q X n M 0 a2 0 0)) ∧ (¬ ((mI M 61 0 ((2 : Int32).toNatClampNeg)) + a2) ≤ 200 → (mE M 4 0 = true ∧ (w_X4_rounds M (fun (r_88 : Int32) (M_86 : Mem) => (mE M_86 61 0 = true ∧ ((vp_in 2 29) ∧ ((r_88 = (mI M_86 61 0 ((2 : Int32).toNatClampNeg)) → (Q 1 M_86)) ∧ (¬ r_88 = (mI M_86 61 0 ((2 : Int32).toNatClampNeg)) → (Q 0 M_86))))))))))))
def b_L_step_225 (Q : Int32 → Mem → Prop) (X : Nat → Mem → Prop) (M : Mem) (s0 : Int32) (s1 : Int32) : Prop :=
  ((s1 = s0 → (mE M 61 0 = true ∧ ((vp_in 0 29) ∧ ((vp_in 0 29) ∧ (mE M 4 0 = true ∧ (w_X4_got M ((mI M 61 0 ((0 : Int32).toNatClampNeg)) - 1) ((mI M 61 0 ((0 : Int32).toNatClampNeg)) - 1) (fun (r_54 : Int32) (M_52 : Mem) => ((r_54 = 0 → (mE M_52 61 0 = true ∧ ((vp_in 0 29) ∧ (mE M_52 4 0 = true ∧ (w_X4_doubles M_52 ((mI M_52 61 0 ((0 : Int32).toNatClampNeg)) - 1) (fun (r_62 : Int32) (M_60 : Mem) => ((r_62 = 0 → (Q 1 M_60)) ∧ (¬ r_62 = 0 → (Q 0 M_60)))) X))))) ∧ (¬ r_54 = 0 → (Q 0 M_52)))) X)))))) ∧ (¬ s1 = s0 → (Q 0 M)))
def b_L_step_182 (Q : Int32 → Mem → Prop) (X : Nat → Mem → Prop) (M : Mem) (x9 : Int32) (s0 : Int32) (s1 : Int32) : Prop :=
  (mE M 61 0 = true ∧ ((vp_in s1 29) ∧ (∀ M_26 : Mem, M_26 = wI M 61 0 s1.toNatClampNeg s0 → ((vp_in 0 29) ∧ ((vp_in 0 29) ∧ (∀ M_29 : Mem, M_29 = wI M_26 61 0 ((0 : Int32).toNatClampNeg) ((mI M_26 61 0 ((0 : Int32).toNatClampNeg)) + 1) → (mE M_29 4 0 = true ∧ (w_X4_join M_29 x9 (fun (r_34 : Int32) (M_32 : Mem) => (mE M_32 61 0 = true ∧ ((vp_in 0 29) ∧ ((r_34 = ((mI M_32 61 0 ((0 : Int32).toNatClampNeg)) - 1) → ((vp_in 0 29) ∧ (mE M_32 4 0 = true ∧ (w_X4_holds M_32 ((mI M_32 61 0 ((0 : Int32).toNatClampNeg)) - 1) (fun (r_44 : Int32) (M_42 : Mem) => ((x9 = 0 → (b_L_step_225 Q X M_42 0 r_44)) ∧ (¬ x9 = 0 → (b_L_step_225 Q X M_42 4095 r_44)))) X)))) ∧ (¬ r_34 = ((mI M_32 61 0 ((0 : Int32).toNatClampNeg)) - 1) → (Q 0 M_32)))))) X))))))))
def b_L_step_150 (Q : Int32 → Mem → Prop) (X : Nat → Mem → Prop) (M : Mem) (s0 : Int32) : Prop :=
  (mE M 61 0 = true ∧ ((vp_in 1 29) ∧ ((vp_in 0 29) ∧ ((vp_in 1 29) ∧ (∀ M_21 : Mem, M_21 = wI M 61 0 ((1 : Int32).toNatClampNeg) ((mI M 61 0 ((1 : Int32).toNatClampNeg)) ||| (1 <<< ((mI M 61 0 ((0 : Int32).toNatClampNeg)) &&& 31))) → ((vp_in 0 29) ∧ ((s0 = 0 → (b_L_step_182 Q X M_21 s0 0 (23 + (mI M_21 61 0 ((0 : Int32).toNatClampNeg))))) ∧ (¬ s0 = 0 → (b_L_step_182 Q X M_21 s0 4095 (23 + (mI M_21 61 0 ((0 : Int32).toNatClampNeg))))))))))))
def b_L_step_145 (Q : Int32 → Mem → Prop) (X : Nat → Mem → Prop) (M : Mem) : Prop :=
  (b_L_step_150 Q X M 1)
def b_L_step_108 (Q : Int32 → Mem → Prop) (X : Nat → Mem → Prop) (M : Mem) (x4 : Int32) : Prop :=
  (mE M 61 0 = true ∧ ((vp_in 0 29) ∧ (((mI M 61 0 ((0 : Int32).toNatClampNeg)) = 6 → (mE M 4 0 = true ∧ (w_X4_peers M (fun (r_69 : Int32) (M_67 : Mem) => (mE M_67 61 0 = true ∧ ((vp_in 1 29) ∧ ((r_69 = (mI M_67 61 0 ((1 : Int32).toNatClampNeg)) → (Q 1 M_67)) ∧ (¬ r_69 = (mI M_67 61 0 ((1 : Int32).toNatClampNeg)) → (Q 0 M_67))))))))) ∧ (¬ (mI M 61 0 ((0 : Int32).toNatClampNeg)) = 6 → ((vp_in 0 29) ∧ (((mI M 61 0 ((0 : Int32).toNatClampNeg)) = 0 → (b_L_step_145 Q X M)) ∧ (¬ (mI M 61 0 ((0 : Int32).toNatClampNeg)) = 0 → (((x4 - x4 / 3 * 3) = 0 → (b_L_step_145 Q X M)) ∧ (¬ (x4 - x4 / 3 * 3) = 0 → (b_L_step_150 Q X M 0))))))))))
def b_L_step_276 (Q : Int32 → Mem → Prop) (X : Nat → Mem → Prop) (M : Mem) : Prop :=
  (mE M 4 0 = true ∧ (w_X4_peers M (fun (r_78 : Int32) (M_76 : Mem) => (mE M_76 61 0 = true ∧ ((vp_in 1 29) ∧ ((r_78 = (mI M_76 61 0 ((1 : Int32).toNatClampNeg)) → (Q 1 M_76)) ∧ (¬ r_78 = (mI M_76 61 0 ((1 : Int32).toNatClampNeg)) → (Q 0 M_76))))))))
def b_L_step_465 (Q : Int32 → Mem → Prop) (X : Nat → Mem → Prop) (M : Mem) : Prop :=
  (Q 1 M)
def b_L_step_462 (Q : Int32 → Mem → Prop) (X : Nat → Mem → Prop) (M : Mem) (s0 : Int32) (s1 : Int32) : Prop :=
  ((s1 = s0 → (b_L_step_465 Q X M)) ∧ (¬ s1 = s0 → (Q 0 M)))
def b_L_step_436 (Q : Int32 → Mem → Prop) (X : Nat → Mem → Prop) (M : Mem) (x5 : Int32) (x7 : Int32) (x8 : Int32) (x11 : Int32) (s0 : Int32) (s1 : Int32) : Prop :=
  (mE M 61 0 = true ∧ ((vp_in s1 29) ∧ (∀ M_127 : Mem, M_127 = wI M 61 0 s1.toNatClampNeg s0 → ((x7 = 0 → (b_L_step_465 Q X M_127)) ∧ (¬ x7 = 0 → (mE M_127 4 0 = true ∧ (w_X4_setSequence M_127 x5 x8 (fun (r_133 : Int32) (M_131 : Mem) => ((x11 = x8 → (b_L_step_462 Q X M_131 0 r_133)) ∧ (¬ x11 = x8 → (b_L_step_462 Q X M_131 1 r_133)))) X)))))))
def b_L_step_435 (Q : Int32 → Mem → Prop) (X : Nat → Mem → Prop) (M : Mem) (x5 : Int32) (x7 : Int32) (x8 : Int32) (x11 : Int32) (s0 : Int32) (s1 : Int32) (s2 : Int32) : Prop :=
  (b_L_step_436 Q X M x5 x7 x8 x11 (s1 ||| s0) s2)
def b_L_step_394 (Q : Int32 → Mem → Prop) (X : Nat → Mem → Prop) (M : Mem) (x5 : Int32) (x7 : Int32) (x8 : Int32) (s0 : Int32) : Prop :=
  ((x7 = 0 → (mE M 61 0 = true ∧ ((vp_in 16 29) ∧ (b_L_step_436 Q X M x5 x7 x8 s0 (mI M 61 0 ((16 : Int32).toNatClampNeg)) 16)))) ∧ (¬ x7 = 0 → (mE M 61 0 = true ∧ ((vp_in 16 29) ∧ ((x8 = 0 → (b_L_step_435 Q X M x5 x7 x8 s0 0 ((mI M 61 0 ((16 : Int32).toNatClampNeg)) &&& ((1 <<< (x5 &&& 31)) ^^^ (-1))) 16)) ∧ (¬ x8 = 0 → (b_L_step_435 Q X M x5 x7 x8 s0 (1 <<< (x5 &&& 31)) ((mI M 61 0 ((16 : Int32).toNatClampNeg)) &&& ((1 <<< (x5 &&& 31)) ^^^ (-1))) 16)))))))
def b_L_step_570 (Q : Int32 → Mem → Prop) (X : Nat → Mem → Prop) (M : Mem) : Prop :=
  (Q 1 M)
def b_L_step_557 (Q : Int32 → Mem → Prop) (X : Nat → Mem → Prop) (M : Mem) (x5 : Int32) (s0 : Int32) (s1 : Int32) : Prop :=
  ((s1 = s0 → (w_L_areShown M x5 (fun (r_159 : Int32) (M_157 : Mem) => ((r_159 = 0 → (Q 0 M_157)) ∧ (¬ r_159 = 0 → (b_L_step_570 Q X M_157)))) X)) ∧ (¬ s1 = s0 → (Q 0 M)))
def b_L_step_531 (Q : Int32 → Mem → Prop) (X : Nat → Mem → Prop) (M : Mem) (x5 : Int32) (x7 : Int32) (x8 : Int32) (x12 : Int32) (s0 : Int32) (s1 : Int32) : Prop :=
  (mE M 61 0 = true ∧ ((vp_in s1 29) ∧ (∀ M_147 : Mem, M_147 = wI M 61 0 s1.toNatClampNeg s0 → ((x7 = 0 → (b_L_step_570 Q X M_147)) ∧ (¬ x7 = 0 → (mE M_147 4 0 = true ∧ (w_X4_setCareful M_147 x5 x8 (fun (r_153 : Int32) (M_151 : Mem) => ((x12 = x8 → (b_L_step_557 Q X M_151 x5 0 r_153)) ∧ (¬ x12 = x8 → (b_L_step_557 Q X M_151 x5 1 r_153)))) X)))))))
def b_L_step_530 (Q : Int32 → Mem → Prop) (X : Nat → Mem → Prop) (M : Mem) (x5 : Int32) (x7 : Int32) (x8 : Int32) (x12 : Int32) (s0 : Int32) (s1 : Int32) (s2 : Int32) : Prop :=
  (b_L_step_531 Q X M x5 x7 x8 x12 (s1 ||| s0) s2)
def b_L_step_489 (Q : Int32 → Mem → Prop) (X : Nat → Mem → Prop) (M : Mem) (x5 : Int32) (x7 : Int32) (x8 : Int32) (s0 : Int32) : Prop :=
  ((x7 = 0 → (mE M 61 0 = true ∧ ((vp_in 15 29) ∧ (b_L_step_531 Q X M x5 x7 x8 s0 (mI M 61 0 ((15 : Int32).toNatClampNeg)) 15)))) ∧ (¬ x7 = 0 → (mE M 61 0 = true ∧ ((vp_in 15 29) ∧ ((x8 = 0 → (b_L_step_530 Q X M x5 x7 x8 s0 0 ((mI M 61 0 ((15 : Int32).toNatClampNeg)) &&& ((1 <<< (x5 &&& 31)) ^^^ (-1))) 15)) ∧ (¬ x8 = 0 → (b_L_step_530 Q X M x5 x7 x8 s0 (1 <<< (x5 &&& 31)) ((mI M 61 0 ((15 : Int32).toNatClampNeg)) &&& ((1 <<< (x5 &&& 31)) ^^^ (-1))) 15)))))))
def b_L_step_679 (Q : Int32 → Mem → Prop) (X : Nat → Mem → Prop) (M : Mem) : Prop :=
  (Q 1 M)
def b_L_step_676 (Q : Int32 → Mem → Prop) (X : Nat → Mem → Prop) (M : Mem) (s0 : Int32) (s1 : Int32) : Prop :=
  ((s1 = s0 → (b_L_step_679 Q X M)) ∧ (¬ s1 = s0 → (Q 0 M)))
def b_L_step_648 (Q : Int32 → Mem → Prop) (X : Nat → Mem → Prop) (M : Mem) (x5 : Int32) (x6 : Int32) (x7 : Int32) (x8 : Int32) (x13 : Int32) (s0 : Int32) (s1 : Int32) : Prop :=
  (mE M 61 0 = true ∧ ((vp_in s1 29) ∧ (∀ M_172 : Mem, M_172 = wI M 61 0 s1.toNatClampNeg s0 → ((x7 = 0 → (b_L_step_679 Q X M_172)) ∧ (¬ x7 = 0 → (mE M_172 4 0 = true ∧ (w_X4_spoil M_172 x5 x6 x8 (fun (r_178 : Int32) (M_176 : Mem) => ((x13 = x8 → (b_L_step_676 Q X M_176 0 r_178)) ∧ (¬ x13 = x8 → (b_L_step_676 Q X M_176 1 r_178)))) X)))))))
def b_L_step_647 (Q : Int32 → Mem → Prop) (X : Nat → Mem → Prop) (M : Mem) (x5 : Int32) (x6 : Int32) (x7 : Int32) (x8 : Int32) (x13 : Int32) (s0 : Int32) (s1 : Int32) (s2 : Int32) : Prop :=
  (b_L_step_648 Q X M x5 x6 x7 x8 x13 (s1 ||| s0) s2)
def b_L_step_597 (Q : Int32 → Mem → Prop) (X : Nat → Mem → Prop) (M : Mem) (x5 : Int32) (x6 : Int32) (x7 : Int32) (x8 : Int32) (s0 : Int32) : Prop :=
  ((x7 = 0 → (mE M 61 0 = true ∧ ((vp_in (17 + x5) 29) ∧ (b_L_step_648 Q X M x5 x6 x7 x8 s0 (mI M 61 0 ((17 + x5).toNatClampNeg)) (17 + x5))))) ∧ (¬ x7 = 0 → (mE M 61 0 = true ∧ ((vp_in (17 + x5) 29) ∧ ((x8 = 0 → (b_L_step_647 Q X M x5 x6 x7 x8 s0 0 ((mI M 61 0 ((17 + x5).toNatClampNeg)) &&& ((1 <<< (x6 &&& 31)) ^^^ (-1))) (17 + x5))) ∧ (¬ x8 = 0 → (b_L_step_647 Q X M x5 x6 x7 x8 s0 (1 <<< (x6 &&& 31)) ((mI M 61 0 ((17 + x5).toNatClampNeg)) &&& ((1 <<< (x6 &&& 31)) ^^^ (-1))) (17 + x5))))))))
def b_L_step_703 (Q : Int32 → Mem → Prop) (X : Nat → Mem → Prop) (M : Mem) (s0 : Int32) : Prop :=
  (w_L_runs M s0 (fun (r_187 : Int32) (M_185 : Mem) => ((r_187 = 0 ∨ r_187 = 1) ∧ (Q r_187 M_185))) X)
def b_L_step_58 (Q : Int32 → Mem → Prop) (X : Nat → Mem → Prop) (M : Mem) (x2 : Int32) (x3 : Int32) (x4 : Int32) (x5 : Int32) (x6 : Int32) (x7 : Int32) (s0 : Int32) : Prop :=
  (∀ v_11 : Int32, v_11 = (x2 - x2 / 14 * 14) → ((v_11 = 0 → (b_L_step_108 Q X M x4)) ∧ (¬ v_11 = 0 → ((v_11 = 1 → (b_L_step_108 Q X M x4)) ∧ (¬ v_11 = 1 → ((v_11 = 2 → ((x7 = 0 → (b_L_step_276 Q X M)) ∧ (¬ x7 = 0 → (((x4 - x4 / 6 * 6) ≤ 0 → (mE M 61 0 = true ∧ ((vp_in 1 29) ∧ ((vp_in 1 29) ∧ (∀ M_86 : Mem, M_86 = wI M 61 0 ((1 : Int32).toNatClampNeg) ((mI M 61 0 ((1 : Int32).toNatClampNeg)) &&& ((1 <<< (x5 &&& 31)) ^^^ (-1))) → (mE M_86 4 0 = true ∧ (w_X4_leave M_86 x5 (fun (r_91 : Int32) (M_89 : Mem) => (mE M_89 61 0 = true ∧ ((vp_in (23 + x5) 29) ∧ (w_L_count M_89 (mI M_89 61 0 ((23 + x5).toNatClampNeg)) (fun (r_97 : Int32) (M_95 : Mem) => ((r_91 = r_97 → (mE M_95 4 0 = true ∧ (w_X4_peers M_95 (fun (r_103 : Int32) (M_101 : Mem) => (mE M_101 61 0 = true ∧ ((vp_in 1 29) ∧ ((r_103 = (mI M_101 61 0 ((1 : Int32).toNatClampNeg)) → (Q 1 M_101)) ∧ (¬ r_103 = (mI M_101 61 0 ((1 : Int32).toNatClampNeg)) → (Q 0 M_101))))))))) ∧ (¬ r_91 = r_97 → (Q 0 M_95)))))))) X))))))) ∧ (¬ (x4 - x4 / 6 * 6) ≤ 0 → (b_L_step_276 Q X M)))))) ∧ (¬ v_11 = 2 → ((v_11 = 3 → (mE M 61 0 = true ∧ ((vp_in (3 + x6) 29) ∧ (∀ v_109 : Int32, v_109 = (mI M 61 0 ((3 + x6).toNatClampNeg)) → ((vp_in (3 + x6) 29) ∧ (∀ M_111 : Mem, M_111 = wI M 61 0 ((3 + x6).toNatClampNeg) (x3 - x3 / 4 * 4) → (mE M_111 4 0 = true ∧ (w_X4_setPriority M_111 x6 (x3 - x3 / 4 * 4) (fun (r_116 : Int32) (M_114 : Mem) => ((r_116 = v_109 → (Q 1 M_114)) ∧ (¬ r_116 = v_109 → (Q 0 M_114)))) X)))))))) ∧ (¬ v_11 = 3 → ((v_11 = 4 → (mE M 61 0 = true ∧ ((vp_in 16 29) ∧ (((((mI M 61 0 ((16 : Int32).toNatClampNeg)) >>> (x5 &&& 31)) &&& 1) = 1 → (b_L_step_394 Q X M x5 x7 s0 1)) ∧ (¬ (((mI M 61 0 ((16 : Int32).toNatClampNeg)) >>> (x5 &&& 31)) &&& 1) = 1 → (b_L_step_394 Q X M x5 x7 s0 0)))))) ∧ (¬ v_11 = 4 → ((v_11 = 5 → (mE M 61 0 = true ∧ ((vp_in 15 29) ∧ (((((mI M 61 0 ((15 : Int32).toNatClampNeg)) >>> (x5 &&& 31)) &&& 1) = 1 → (b_L_step_489 Q X M x5 x7 s0 1)) ∧ (¬ (((mI M 61 0 ((15 : Int32).toNatClampNeg)) >>> (x5 &&& 31)) &&& 1) = 1 → (b_L_step_489 Q X M x5 x7 s0 0)))))) ∧ (¬ v_11 = 5 → ((v_11 = 6 → (mE M 61 0 = true ∧ ((vp_in (17 + x5) 29) ∧ (((((mI M 61 0 ((17 + x5).toNatClampNeg)) >>> (x6 &&& 31)) &&& 1) = 1 → (b_L_step_597 Q X M x5 x6 x7 s0 1)) ∧ (¬ (((mI M 61 0 ((17 + x5).toNatClampNeg)) >>> (x6 &&& 31)) &&& 1) = 1 → (b_L_step_597 Q X M x5 x6 x7 s0 0)))))) ∧ (¬ v_11 = 6 → (((x4 - x4 / 5 * 5) = 0 → (b_L_step_703 Q X M (1 + (x3 - x3 / 3 * 3)))) ∧ (¬ (x4 - x4 / 5 * 5) = 0 → (b_L_step_703 Q X M 1))))))))))))))))))
def b_L_step_41 (Q : Int32 → Mem → Prop) (X : Nat → Mem → Prop) (M : Mem) (x2 : Int32) (x3 : Int32) (x4 : Int32) (x5 : Int32) (x6 : Int32) (s0 : Int32) : Prop :=
  ((((x4 / 12) - (x4 / 12) / 2 * 2) = 0 → (b_L_step_58 Q X M x2 x3 x4 x5 x6 s0 1)) ∧ (¬ ((x4 / 12) - (x4 / 12) / 2 * 2) = 0 → (b_L_step_58 Q X M x2 x3 x4 x5 x6 s0 0)))
def b_L_step_15 (Q : Int32 → Mem → Prop) (X : Nat → Mem → Prop) (M : Mem) (x2 : Int32) (x3 : Int32) (x4 : Int32) (s0 : Int32) : Prop :=
  (∀ v_6 : Int32, v_6 = (x4 - x4 / 12 * 12) → (mE M 61 0 = true ∧ ((vp_in 1 29) ∧ (((((mI M 61 0 ((1 : Int32).toNatClampNeg)) >>> (s0 &&& 31)) &&& 1) = 1 → (b_L_step_41 Q X M x2 x3 x4 s0 v_6 1)) ∧ (¬ (((mI M 61 0 ((1 : Int32).toNatClampNeg)) >>> (s0 &&& 31)) &&& 1) = 1 → (b_L_step_41 Q X M x2 x3 x4 s0 v_6 0))))))
def w_L_step (M : Mem) (a2 : Int32) (a3 : Int32) (a4 : Int32) (Q : Int32 → Mem → Prop) (X : Nat → Mem → Prop) : Prop :=
  (mE M 61 0 = true ∧ ((vp_in 0 29) ∧ (((mI M 61 0 ((0 : Int32).toNatClampNeg)) = 0 → (b_L_step_15 Q X M a2 a3 a4 0)) ∧ (¬ (mI M 61 0 ((0 : Int32).toNatClampNeg)) = 0 → ((vp_in 0 29) ∧ ((¬ (mI M 61 0 ((0 : Int32).toNatClampNeg)) = 0) ∧ (b_L_step_15 Q X M a2 a3 a4 (a3 - a3 / (mI M 61 0 ((0 : Int32).toNatClampNeg)) * (mI M 61 0 ((0 : Int32).toNatClampNeg))))))))))
def b_X1_replayHeld_73 (k16 : Mem → Nat → Int32 → Int32 → Prop) (Q : Int32 → Mem → Prop) (M : Mem) (x0 : Nat) (x2 : Int32) (x3 : Int32) (s0 : Int32) (s1 : Int32) : Prop :=
  (mE M 3 6 = true ∧ (w_X3_take M 6 s1 s0 (fun (r_29 : Int32) (M_27 : Mem) => (∀ v_30 : Int32, v_30 = x3 + 1 → (k16 M_27 x0 x2 v_30)))))
def b_X1_replayHeld_51 (k16 : Mem → Nat → Int32 → Int32 → Prop) (Q : Int32 → Mem → Prop) (M : Mem) (x0 : Nat) (x2 : Int32) (x3 : Int32) (x4 : Int32) : Prop :=
  ((((x4 / 48) - (x4 / 48) / 2 * 2) = 1 → (b_X1_replayHeld_73 k16 Q M x0 x2 x3 1 (x4 - x4 / 48 * 48))) ∧ (¬ ((x4 / 48) - (x4 / 48) / 2 * 2) = 1 → (b_X1_replayHeld_73 k16 Q M x0 x2 x3 0 (x4 - x4 / 48 * 48))))
def b_X1_replayHeld_16 (Q : Int32 → Mem → Prop) (k16 : Mem → Nat → Int32 → Int32 → Prop) (M : Mem) (x0 : Nat) (x2 : Int32) (x3 : Int32) : Prop :=
  (mE M 1 x0 = true ∧ (((mI M 1 x0 2) ≤ x3 → (mE M 3 6 = true ∧ (w_X3_endPieces M 6 (fun (M_15 : Mem) => (mE M_15 3 6 = true ∧ ((∀ a b k : Nat, mE M_15 a b = true → mF M_15 a b k = true → ¬ (a = 3 ∧ b = 6) → ¬ ((kR a b k).1 = 3 ∧ (kR a b k).2 = 6)) ∧ (Q (mI M_15 3 6 0) (wD M_15 3 6)))))))) ∧ (¬ (mI M 1 x0 2) ≤ x3 → (mF M 1 x0 1 = true ∧ (mE M 22 x0 = true ∧ ((vp_in x3 1000) ∧ (∀ v_22 : Int32, v_22 = (mI M 22 x0 x3.toNatClampNeg) → (((v_22 / 96) = x2 → (b_X1_replayHeld_51 k16 Q M x0 x2 x3 v_22)) ∧ (¬ (v_22 / 96) = x2 → (mE M 3 6 = true ∧ (w_X3_endPieces M 6 (fun (M_33 : Mem) => (∀ v_36 : Int32, v_36 = (v_22 / 96) → (b_X1_replayHeld_51 k16 Q M_33 x0 v_36 x3 v_22))))))))))))))
def l_X1_replayHeld_16 (Q : Int32 → Mem → Prop) (n : Nat) : Mem → Nat → Int32 → Int32 → Prop :=
  Nat.rec (motive := fun _ => Mem → Nat → Int32 → Int32 → Prop) (fun _ _ _ _ => False) (fun _ k => b_X1_replayHeld_16 Q k) n
def w_X1_replayHeld (M : Mem) (t : Nat) (Q : Int32 → Mem → Prop) : Prop :=
  (mE M 3 6 = false ∧ (∀ M_3 : Mem, M_3 = wN M 3 6 → (mE M_3 1 t = true ∧ (w_X3_init M_3 6 (mI M_3 1 t 0) (fun (M_8 : Mem) => (∃ n : Nat, l_X1_replayHeld_16 Q n M_8 t 0 0))))))
def w_X4_holdsByLog (M : Mem) (a1 : Int32) (Q : Int32 → Mem → Prop) (X : Nat → Mem → Prop) : Prop :=
  (mE M 4 0 = true ∧ (w_X4_known M a1 (fun (r_5 : Nat) (M_3 : Mem) => (mE M_3 2 r_5 = true ∧ (mF M_3 2 r_5 2 = true ∧ (mE M_3 1 r_5 = true ∧ (w_X1_replayHeld M_3 r_5 (fun (r_12 : Int32) (M_10 : Mem) => (Q r_12 M_10))))))) X))
def w_X4_blocks (M : Mem) (a1 : Int32) (a2 : Int32) (Q : Int32 → Mem → Prop) (X : Nat → Mem → Prop) : Prop :=
  (mE M 4 0 = true ∧ (w_X4_known M a1 (fun (r_5 : Nat) (M_3 : Mem) => (mE M_3 2 r_5 = true ∧ (mF M_3 2 r_5 1 = true ∧ (w_X4_checkPiece M_3 a2 (fun (M_9 : Mem) => (mE M_9 3 r_5 = true ∧ (w_X4_isIn M_9 ((mI M_9 3 r_5 0).toInt64) a2 (fun (r_16 : Int32) (M_14 : Mem) => ((r_16 = 0 → (mE M_14 3 r_5 = true ∧ (Q ((((mL M_14 3 r_5 1) >>> ((a2 * 4).toInt64 &&& 63)).toInt32) &&& 15) M_14))) ∧ (¬ r_16 = 0 → (Q 15 M_14))))))) X)))) X))
def b_L_areHeld_286 (k257 : Mem → Nat → Int32 → Int32 → Prop) (Q : Int32 → Mem → Prop) (X : Nat → Mem → Prop) (M : Mem) (it : Nat) (x4 : Int32) (s0 : Int32) : Prop :=
  (it < 128 ∧ (∀ v_32 : Int32, v_32 = x4 + 1 → (k257 M (it + 1) s0 v_32)))
def b_L_areHeld_257 (Q : Int32 → Mem → Prop) (X : Nat → Mem → Prop) (k257 : Mem → Nat → Int32 → Int32 → Prop) (M : Mem) (it : Nat) (x2 : Int32) (x4 : Int32) : Prop :=
  (it ≤ 128 ∧ (((12 : Int32) ≤ x4 → ((x2 = 0 ∨ x2 = 1) ∧ (Q x2 (wD M 62 0)))) ∧ (¬ (12 : Int32) ≤ x4 → ((x2 = 0 → ((x2 = 0 ∨ x2 = 1) ∧ (Q x2 (wD M 62 0)))) ∧ (¬ x2 = 0 → (mE M 4 0 = true ∧ (w_X4_holders M x4 (fun (r_28 : Int32) (M_26 : Mem) => (mE M_26 62 0 = true ∧ ((vp_in x4 12) ∧ ((r_28 = (mI M_26 62 0 x4.toNatClampNeg) → (b_L_areHeld_286 k257 Q X M_26 it x4 1)) ∧ (¬ r_28 = (mI M_26 62 0 x4.toNatClampNeg) → (b_L_areHeld_286 k257 Q X M_26 it x4 0)))))) X)))))))
def l_L_areHeld_257 (Q : Int32 → Mem → Prop) (X : Nat → Mem → Prop) (n : Nat) : Mem → Nat → Int32 → Int32 → Prop :=
  Nat.rec (motive := fun _ => Mem → Nat → Int32 → Int32 → Prop) (fun _ _ _ _ => False) (fun _ k => b_L_areHeld_257 Q X k) n
def b_L_areHeld_254 (Q : Int32 → Mem → Prop) (X : Nat → Mem → Prop) (M : Mem) (it : Nat) (x2 : Int32) : Prop :=
  (it < 128 ∧ (∃ n : Nat, l_L_areHeld_257 Q X n M (it + 1) x2 0))
def b_L_areHeld_247 (k209 : Mem → Nat → Int32 → Int32 → Prop) (Q : Int32 → Mem → Prop) (X : Nat → Mem → Prop) (M : Mem) (it : Nat) (x4 : Int32) (s0 : Int32) : Prop :=
  (it < 128 ∧ (∀ v_36 : Int32, v_36 = x4 + 1 → (k209 M (it + 1) s0 v_36)))
def b_L_areHeld_242 (k209 : Mem → Nat → Int32 → Int32 → Prop) (Q : Int32 → Mem → Prop) (X : Nat → Mem → Prop) (M : Mem) (it : Nat) (x4 : Int32) : Prop :=
  (it < 128 ∧ (b_L_areHeld_247 k209 Q X M it x4 1))
def b_L_areHeld_209 (Q : Int32 → Mem → Prop) (X : Nat → Mem → Prop) (k209 : Mem → Nat → Int32 → Int32 → Prop) (M : Mem) (it : Nat) (x2 : Int32) (x4 : Int32) : Prop :=
  (it ≤ 128 ∧ (mE M 61 0 = true ∧ ((vp_in 0 29) ∧ (((mI M 61 0 ((0 : Int32).toNatClampNeg)) ≤ x4 → (b_L_areHeld_254 Q X M it x2)) ∧ (¬ (mI M 61 0 ((0 : Int32).toNatClampNeg)) ≤ x4 → ((x2 = 0 → (b_L_areHeld_254 Q X M it x2)) ∧ (¬ x2 = 0 → ((vp_in 1 29) ∧ (((((mI M 61 0 ((1 : Int32).toNatClampNeg)) >>> (x4 &&& 31)) &&& 1) = 0 → (b_L_areHeld_242 k209 Q X M it x4)) ∧ (¬ (((mI M 61 0 ((1 : Int32).toNatClampNeg)) >>> (x4 &&& 31)) &&& 1) = 0 → (w_L_areShown M x4 (fun (r_40 : Int32) (M_38 : Mem) => ((r_40 = 0 → (b_L_areHeld_247 k209 Q X M_38 it x4 0)) ∧ (¬ r_40 = 0 → (b_L_areHeld_242 k209 Q X M_38 it x4)))) X)))))))))))
def l_L_areHeld_209 (Q : Int32 → Mem → Prop) (X : Nat → Mem → Prop) (n : Nat) : Mem → Nat → Int32 → Int32 → Prop :=
  Nat.rec (motive := fun _ => Mem → Nat → Int32 → Int32 → Prop) (fun _ _ _ _ => False) (fun _ k => b_L_areHeld_209 Q X k) n
def b_L_areHeld_206 (Q : Int32 → Mem → Prop) (X : Nat → Mem → Prop) (M : Mem) (it : Nat) (x2 : Int32) : Prop :=
  (it < 128 ∧ (∃ n : Nat, l_L_areHeld_209 Q X n M (it + 1) x2 0))
def b_L_areHeld_200 (k24 : Mem → Nat → Int32 → Int32 → Prop) (Q : Int32 → Mem → Prop) (X : Nat → Mem → Prop) (M : Mem) (it : Nat) (x2 : Int32) (x4 : Int32) : Prop :=
  (it < 128 ∧ (∀ v_45 : Int32, v_45 = x4 + 1 → (k24 M (it + 1) x2 v_45)))
def b_L_areHeld_193 (k24 : Mem → Nat → Int32 → Int32 → Prop) (k100 : Mem → Nat → Int32 → Int32 → Int32 → Int32 → Prop) (Q : Int32 → Mem → Prop) (X : Nat → Mem → Prop) (M : Mem) (it : Nat) (x4 : Int32) (x5 : Int32) (x6 : Int32) (s0 : Int32) : Prop :=
  (it < 128 ∧ (∀ v_73 : Int32, v_73 = x6 + 1 → (k100 M (it + 1) s0 x4 x5 v_73)))
def b_L_areHeld_192 (k24 : Mem → Nat → Int32 → Int32 → Prop) (k100 : Mem → Nat → Int32 → Int32 → Int32 → Int32 → Prop) (Q : Int32 → Mem → Prop) (X : Nat → Mem → Prop) (M : Mem) (it : Nat) (x4 : Int32) (x5 : Int32) (x6 : Int32) : Prop :=
  (it < 128 ∧ (b_L_areHeld_193 k24 k100 Q X M it x4 x5 x6 0))
def b_L_areHeld_154 (k24 : Mem → Nat → Int32 → Int32 → Prop) (k100 : Mem → Nat → Int32 → Int32 → Int32 → Int32 → Prop) (Q : Int32 → Mem → Prop) (X : Nat → Mem → Prop) (M : Mem) (it : Nat) (x4 : Int32) (x5 : Int32) (x6 : Int32) (x7 : Int32) (x8 : Int32) (s0 : Int32) (s1 : Int32) (s2 : Int32) : Prop :=
  (it < 128 ∧ (mE M 62 0 = true ∧ ((vp_in s2 12) ∧ (∀ M_70 : Mem, M_70 = wI M 62 0 s2.toNatClampNeg (s1 + s0) → ((x7 = 0 → ((x8 < 0 → (b_L_areHeld_192 k24 k100 Q X M_70 it x4 x5 x6)) ∧ (¬ x8 < 0 → (((15 : Int32) ≤ x8 → (b_L_areHeld_192 k24 k100 Q X M_70 it x4 x5 x6)) ∧ (¬ (15 : Int32) ≤ x8 → (b_L_areHeld_193 k24 k100 Q X M_70 it x4 x5 x6 1)))))) ∧ (¬ x7 = 0 → ((x8 = 15 → (b_L_areHeld_193 k24 k100 Q X M_70 it x4 x5 x6 1)) ∧ (¬ x8 = 15 → (b_L_areHeld_193 k24 k100 Q X M_70 it x4 x5 x6 0)))))))))
def b_L_areHeld_127 (k24 : Mem → Nat → Int32 → Int32 → Prop) (k100 : Mem → Nat → Int32 → Int32 → Int32 → Int32 → Prop) (Q : Int32 → Mem → Prop) (X : Nat → Mem → Prop) (M : Mem) (it : Nat) (x4 : Int32) (x5 : Int32) (x6 : Int32) (s0 : Int32) : Prop :=
  (it < 128 ∧ (mE M 4 0 = true ∧ (w_X4_blocks M x4 x6 (fun (r_64 : Int32) (M_62 : Mem) => (mE M_62 62 0 = true ∧ ((vp_in x6 12) ∧ ((s0 = 0 → (b_L_areHeld_154 k24 k100 Q X M_62 it x4 x5 x6 s0 r_64 0 (mI M_62 62 0 x6.toNatClampNeg) x6)) ∧ (¬ s0 = 0 → (b_L_areHeld_154 k24 k100 Q X M_62 it x4 x5 x6 s0 r_64 1 (mI M_62 62 0 x6.toNatClampNeg) x6)))))) X)))
def b_L_areHeld_100 (k24 : Mem → Nat → Int32 → Int32 → Prop) (Q : Int32 → Mem → Prop) (X : Nat → Mem → Prop) (k100 : Mem → Nat → Int32 → Int32 → Int32 → Int32 → Prop) (M : Mem) (it : Nat) (x2 : Int32) (x4 : Int32) (x5 : Int32) (x6 : Int32) : Prop :=
  (it ≤ 128 ∧ (((12 : Int32) ≤ x6 → (b_L_areHeld_200 k24 Q X M it x2 x4)) ∧ (¬ (12 : Int32) ≤ x6 → ((x2 = 0 → (b_L_areHeld_200 k24 Q X M it x2 x4)) ∧ (¬ x2 = 0 → ((((x5 >>> (x6 &&& 31)) &&& 1) = 1 → (b_L_areHeld_127 k24 k100 Q X M it x4 x5 x6 1)) ∧ (¬ ((x5 >>> (x6 &&& 31)) &&& 1) = 1 → (b_L_areHeld_127 k24 k100 Q X M it x4 x5 x6 0))))))))
def l_L_areHeld_100 (k24 : Mem → Nat → Int32 → Int32 → Prop) (Q : Int32 → Mem → Prop) (X : Nat → Mem → Prop) (n : Nat) : Mem → Nat → Int32 → Int32 → Int32 → Int32 → Prop :=
  Nat.rec (motive := fun _ => Mem → Nat → Int32 → Int32 → Int32 → Int32 → Prop) (fun _ _ _ _ _ _ => False) (fun _ k => b_L_areHeld_100 k24 Q X k) n
def b_L_areHeld_87 (k24 : Mem → Nat → Int32 → Int32 → Prop) (Q : Int32 → Mem → Prop) (X : Nat → Mem → Prop) (M : Mem) (it : Nat) (x4 : Int32) (x5 : Int32) (s0 : Int32) : Prop :=
  (it < 128 ∧ (mE M 61 0 = true ∧ ((vp_in (23 + x4) 29) ∧ (∀ M_56 : Mem, M_56 = wI M 61 0 ((23 + x4).toNatClampNeg) x5 → (∃ n : Nat, l_L_areHeld_100 k24 Q X n M_56 (it + 1) s0 x4 x5 0)))))
def b_L_areHeld_86 (k24 : Mem → Nat → Int32 → Int32 → Prop) (Q : Int32 → Mem → Prop) (X : Nat → Mem → Prop) (M : Mem) (it : Nat) (x4 : Int32) (x5 : Int32) : Prop :=
  (it < 128 ∧ (b_L_areHeld_87 k24 Q X M it x4 x5 0))
def b_L_areHeld_24 (Q : Int32 → Mem → Prop) (X : Nat → Mem → Prop) (k24 : Mem → Nat → Int32 → Int32 → Prop) (M : Mem) (it : Nat) (x2 : Int32) (x4 : Int32) : Prop :=
  (it ≤ 128 ∧ (mE M 61 0 = true ∧ ((vp_in 0 29) ∧ (((mI M 61 0 ((0 : Int32).toNatClampNeg)) ≤ x4 → (b_L_areHeld_206 Q X M it x2)) ∧ (¬ (mI M 61 0 ((0 : Int32).toNatClampNeg)) ≤ x4 → ((x2 = 0 → (b_L_areHeld_206 Q X M it x2)) ∧ (¬ x2 = 0 → ((vp_in 1 29) ∧ (((((mI M 61 0 ((1 : Int32).toNatClampNeg)) >>> (x4 &&& 31)) &&& 1) = 1 → (mE M 4 0 = true ∧ (w_X4_holds M x4 (fun (r_50 : Int32) (M_48 : Mem) => (mE M_48 61 0 = true ∧ ((vp_in (23 + x4) 29) ∧ ((((mI M_48 61 0 ((23 + x4).toNatClampNeg)) &&& (r_50 ^^^ (-1))) = 0 → (mE M_48 4 0 = true ∧ (w_X4_holdsByLog M_48 x4 (fun (r_80 : Int32) (M_78 : Mem) => ((r_80 = r_50 → (b_L_areHeld_87 k24 Q X M_78 it x4 r_50 1)) ∧ (¬ r_80 = r_50 → (b_L_areHeld_86 k24 Q X M_78 it x4 r_50)))) X))) ∧ (¬ ((mI M_48 61 0 ((23 + x4).toNatClampNeg)) &&& (r_50 ^^^ (-1))) = 0 → (b_L_areHeld_86 k24 Q X M_48 it x4 r_50)))))) X))) ∧ (¬ (((mI M 61 0 ((1 : Int32).toNatClampNeg)) >>> (x4 &&& 31)) &&& 1) = 1 → (b_L_areHeld_200 k24 Q X M it x2 x4)))))))))))
def l_L_areHeld_24 (Q : Int32 → Mem → Prop) (X : Nat → Mem → Prop) (n : Nat) : Mem → Nat → Int32 → Int32 → Prop :=
  Nat.rec (motive := fun _ => Mem → Nat → Int32 → Int32 → Prop) (fun _ _ _ _ => False) (fun _ k => b_L_areHeld_24 Q X k) n
def b_L_areHeld_15 (Q : Int32 → Mem → Prop) (X : Nat → Mem → Prop) (M : Mem) (it : Nat) (s0 : Int32) : Prop :=
  (it < 128 ∧ (mE M 62 0 = false ∧ (∀ M_11 : Mem, M_11 = wN M 62 0 → (∃ n : Nat, l_L_areHeld_24 Q X n M_11 (it + 1) s0 0))))
def w_L_areHeld (M : Mem) (Q : Int32 → Mem → Prop) (X : Nat → Mem → Prop) : Prop :=
  (mE M 4 0 = true ∧ (w_X4_peers M (fun (r_5 : Int32) (M_3 : Mem) => (mE M_3 61 0 = true ∧ ((vp_in 1 29) ∧ ((r_5 = (mI M_3 61 0 ((1 : Int32).toNatClampNeg)) → (b_L_areHeld_15 Q X M_3 0 1)) ∧ (¬ r_5 = (mI M_3 61 0 ((1 : Int32).toNatClampNeg)) → (b_L_areHeld_15 Q X M_3 0 0))))))))
def w_X4_isBanned (M : Mem) (a1 : Int32) (a2 : Int32) (Q : Int32 → Mem → Prop) (X : Nat → Mem → Prop) : Prop :=
  (mE M 4 0 = true ∧ (w_X4_known M a1 (fun (r_5 : Nat) (M_3 : Mem) => (mE M_3 2 r_5 = true ∧ (mE M_3 4 0 = true ∧ (w_X4_known M_3 a2 (fun (r_11 : Nat) (M_9 : Mem) => (mE M_9 2 r_11 = true ∧ (w_X4_isIn M_9 ((mI M_3 2 r_5 10).toInt64) (mI M_9 2 r_11 0) (fun (r_16 : Int32) (M_14 : Mem) => ((r_16 = 0 ∨ r_16 = 1) ∧ (Q r_16 M_14)))))) X)))) X))
def b_L_wanted_26 (k4 : Mem → Int32 → Int32 → Prop) (Q : Int32 → Mem → Prop) (M : Mem) (x2 : Int32) (s0 : Int32) (s1 : Int32) : Prop :=
  (∀ v_5 : Int32, v_5 = (s1 ||| s0) → (∀ v_6 : Int32, v_6 = x2 + 1 → (k4 M v_5 v_6)))
def b_L_wanted_4 (Q : Int32 → Mem → Prop) (k4 : Mem → Int32 → Int32 → Prop) (M : Mem) (x1 : Int32) (x2 : Int32) : Prop :=
  (((12 : Int32) ≤ x2 → (Q x1 M)) ∧ (¬ (12 : Int32) ≤ x2 → (mE M 61 0 = true ∧ ((vp_in (3 + x2) 29) ∧ (((mI M 61 0 ((3 + x2).toNatClampNeg)) ≤ 0 → (b_L_wanted_26 k4 Q M x2 0 x1)) ∧ (¬ (mI M 61 0 ((3 + x2).toNatClampNeg)) ≤ 0 → (b_L_wanted_26 k4 Q M x2 (1 <<< (x2 &&& 31)) x1)))))))
def l_L_wanted_4 (Q : Int32 → Mem → Prop) (n : Nat) : Mem → Int32 → Int32 → Prop :=
  Nat.rec (motive := fun _ => Mem → Int32 → Int32 → Prop) (fun _ _ _ => False) (fun _ k => b_L_wanted_4 Q k) n
def w_L_wanted (M : Mem) (Q : Int32 → Mem → Prop) : Prop :=
  (∃ n : Nat, l_L_wanted_4 Q n M 0 0)
def b_L_areChosen_273 (k161 : Mem → Nat → Int32 → Int32 → Int32 → Int32 → Int32 → Prop) (Q : Int32 → Mem → Prop) (X : Nat → Mem → Prop) (M : Mem) (it : Nat) (x2 : Int32) (x3 : Int32) (x4 : Int32) (x7 : Int32) (s0 : Int32) : Prop :=
  (it < 64 ∧ (∀ v_25 : Int32, v_25 = x7 + 1 → (k161 M (it + 1) x2 x3 x4 s0 v_25)))
def b_L_areChosen_268 (k161 : Mem → Nat → Int32 → Int32 → Int32 → Int32 → Int32 → Prop) (Q : Int32 → Mem → Prop) (X : Nat → Mem → Prop) (M : Mem) (it : Nat) (x2 : Int32) (x3 : Int32) (x4 : Int32) (x7 : Int32) : Prop :=
  (it < 64 ∧ (b_L_areChosen_273 k161 Q X M it x2 x3 x4 x7 1))
def b_L_areChosen_242 (k161 : Mem → Nat → Int32 → Int32 → Int32 → Int32 → Int32 → Prop) (Q : Int32 → Mem → Prop) (X : Nat → Mem → Prop) (M : Mem) (it : Nat) (x2 : Int32) (x3 : Int32) (x4 : Int32) (x7 : Int32) (x8 : Int32) : Prop :=
  (it < 64 ∧ ((((x3 >>> (x7 &&& 31)) &&& 1) = 0 → (b_L_areChosen_268 k161 Q X M it x2 x3 x4 x7)) ∧ (¬ ((x3 >>> (x7 &&& 31)) &&& 1) = 0 → ((((x4 >>> (x7 &&& 31)) &&& 1) = 1 → (b_L_areChosen_268 k161 Q X M it x2 x3 x4 x7)) ∧ (¬ ((x4 >>> (x7 &&& 31)) &&& 1) = 1 → ((x8 < 2 → (b_L_areChosen_273 k161 Q X M it x2 x3 x4 x7 0)) ∧ (¬ x8 < 2 → (b_L_areChosen_268 k161 Q X M it x2 x3 x4 x7))))))))
def b_L_areChosen_233 (k161 : Mem → Nat → Int32 → Int32 → Int32 → Int32 → Int32 → Prop) (k180 : Mem → Nat → Int32 → Int32 → Int32 → Int32 → Int32 → Int32 → Prop) (Q : Int32 → Mem → Prop) (X : Nat → Mem → Prop) (M : Mem) (it : Nat) (x2 : Int32) (x3 : Int32) (x4 : Int32) (x7 : Int32) (x9 : Int32) (s0 : Int32) (s1 : Int32) : Prop :=
  (it < 64 ∧ (∀ v_30 : Int32, v_30 = (s1 + s0) → (∀ v_31 : Int32, v_31 = x9 + 1 → (k180 M (it + 1) x2 x3 x4 x7 v_30 v_31))))
def b_L_areChosen_232 (k161 : Mem → Nat → Int32 → Int32 → Int32 → Int32 → Int32 → Prop) (k180 : Mem → Nat → Int32 → Int32 → Int32 → Int32 → Int32 → Int32 → Prop) (Q : Int32 → Mem → Prop) (X : Nat → Mem → Prop) (M : Mem) (it : Nat) (x2 : Int32) (x3 : Int32) (x4 : Int32) (x7 : Int32) (x9 : Int32) (s0 : Int32) : Prop :=
  (it < 64 ∧ (b_L_areChosen_233 k161 k180 Q X M it x2 x3 x4 x7 x9 0 s0))
def b_L_areChosen_180 (k161 : Mem → Nat → Int32 → Int32 → Int32 → Int32 → Int32 → Prop) (Q : Int32 → Mem → Prop) (X : Nat → Mem → Prop) (k180 : Mem → Nat → Int32 → Int32 → Int32 → Int32 → Int32 → Int32 → Prop) (M : Mem) (it : Nat) (x2 : Int32) (x3 : Int32) (x4 : Int32) (x7 : Int32) (x8 : Int32) (x9 : Int32) : Prop :=
  (it ≤ 64 ∧ (mE M 61 0 = true ∧ ((vp_in 0 29) ∧ (((mI M 61 0 ((0 : Int32).toNatClampNeg)) ≤ x9 → (b_L_areChosen_242 k161 Q X M it x2 x3 x4 x7 x8)) ∧ (¬ (mI M 61 0 ((0 : Int32).toNatClampNeg)) ≤ x9 → ((((x3 >>> (x7 &&& 31)) &&& 1) = 1 → ((((x4 >>> (x9 &&& 31)) &&& 1) = 1 → (mE M 4 0 = true ∧ (w_X4_got M x2 x9 (fun (r_36 : Int32) (M_34 : Mem) => (mE M_34 4 0 = true ∧ (w_X4_got M_34 x2 x7 (fun (r_41 : Int32) (M_39 : Mem) => ((r_36 < r_41 → (b_L_areChosen_232 k161 k180 Q X M_39 it x2 x3 x4 x7 x9 x8)) ∧ (¬ r_36 < r_41 → (b_L_areChosen_233 k161 k180 Q X M_39 it x2 x3 x4 x7 x9 1 x8)))) X))) X))) ∧ (¬ ((x4 >>> (x9 &&& 31)) &&& 1) = 1 → (b_L_areChosen_232 k161 k180 Q X M it x2 x3 x4 x7 x9 x8)))) ∧ (¬ ((x3 >>> (x7 &&& 31)) &&& 1) = 1 → (b_L_areChosen_242 k161 Q X M it x2 x3 x4 x7 x8))))))))
def l_L_areChosen_180 (k161 : Mem → Nat → Int32 → Int32 → Int32 → Int32 → Int32 → Prop) (Q : Int32 → Mem → Prop) (X : Nat → Mem → Prop) (n : Nat) : Mem → Nat → Int32 → Int32 → Int32 → Int32 → Int32 → Int32 → Prop :=
  Nat.rec (motive := fun _ => Mem → Nat → Int32 → Int32 → Int32 → Int32 → Int32 → Int32 → Prop) (fun _ _ _ _ _ _ _ _ => False) (fun _ k => b_L_areChosen_180 k161 Q X k) n
def b_L_areChosen_161 (Q : Int32 → Mem → Prop) (X : Nat → Mem → Prop) (k161 : Mem → Nat → Int32 → Int32 → Int32 → Int32 → Int32 → Prop) (M : Mem) (it : Nat) (x2 : Int32) (x3 : Int32) (x4 : Int32) (x6 : Int32) (x7 : Int32) : Prop :=
  (it ≤ 64 ∧ (mE M 61 0 = true ∧ ((vp_in 0 29) ∧ (((mI M 61 0 ((0 : Int32).toNatClampNeg)) ≤ x7 → ((x6 = 0 ∨ x6 = 1) ∧ (Q x6 M))) ∧ (¬ (mI M 61 0 ((0 : Int32).toNatClampNeg)) ≤ x7 → ((x6 = 0 → ((x6 = 0 ∨ x6 = 1) ∧ (Q x6 M))) ∧ (¬ x6 = 0 → (∃ n : Nat, l_L_areChosen_180 k161 Q X n M (it + 1) x2 x3 x4 x7 0 0))))))))
def l_L_areChosen_161 (Q : Int32 → Mem → Prop) (X : Nat → Mem → Prop) (n : Nat) : Mem → Nat → Int32 → Int32 → Int32 → Int32 → Int32 → Prop :=
  Nat.rec (motive := fun _ => Mem → Nat → Int32 → Int32 → Int32 → Int32 → Int32 → Prop) (fun _ _ _ _ _ _ _ => False) (fun _ k => b_L_areChosen_161 Q X k) n
def b_L_areChosen_156 (Q : Int32 → Mem → Prop) (X : Nat → Mem → Prop) (M : Mem) (it : Nat) (x2 : Int32) (x3 : Int32) (x4 : Int32) (s0 : Int32) : Prop :=
  (it < 64 ∧ (∃ n : Nat, l_L_areChosen_161 Q X n M (it + 1) x2 x3 x4 s0 0))
def b_L_areChosen_155 (Q : Int32 → Mem → Prop) (X : Nat → Mem → Prop) (M : Mem) (it : Nat) (x2 : Int32) (x3 : Int32) (x4 : Int32) : Prop :=
  (it < 64 ∧ (b_L_areChosen_156 Q X M it x2 x3 x4 0))
def b_L_areChosen_130 (Q : Int32 → Mem → Prop) (X : Nat → Mem → Prop) (M : Mem) (it : Nat) (x2 : Int32) (x3 : Int32) (x4 : Int32) (s0 : Int32) : Prop :=
  (it < 64 ∧ (((x4 &&& (x3 ^^^ (-1))) = 0 → (w_L_count M x4 (fun (r_46 : Int32) (M_44 : Mem) => ((r_46 = s0 → (b_L_areChosen_156 Q X M_44 it x2 x3 x4 1)) ∧ (¬ r_46 = s0 → (b_L_areChosen_155 Q X M_44 it x2 x3 x4)))))) ∧ (¬ (x4 &&& (x3 ^^^ (-1))) = 0 → (b_L_areChosen_155 Q X M it x2 x3 x4))))
def b_L_areChosen_99 (k5 : Mem → Nat → Int32 → Int32 → Int32 → Prop) (Q : Int32 → Mem → Prop) (X : Nat → Mem → Prop) (M : Mem) (it : Nat) (x2 : Int32) (x4 : Int32) (s0 : Int32) (s1 : Int32) : Prop :=
  (it < 64 ∧ (∀ v_55 : Int32, v_55 = (s1 ||| s0) → (∀ v_56 : Int32, v_56 = x4 + 1 → (k5 M (it + 1) x2 v_55 v_56))))
def b_L_areChosen_83 (k5 : Mem → Nat → Int32 → Int32 → Int32 → Prop) (Q : Int32 → Mem → Prop) (X : Nat → Mem → Prop) (M : Mem) (it : Nat) (x2 : Int32) (x3 : Int32) (x4 : Int32) (s0 : Int32) : Prop :=
  (it < 64 ∧ ((s0 = 0 → (b_L_areChosen_99 k5 Q X M it x2 x4 0 x3)) ∧ (¬ s0 = 0 → (b_L_areChosen_99 k5 Q X M it x2 x4 (1 <<< (x4 &&& 31)) x3))))
def b_L_areChosen_82 (k5 : Mem → Nat → Int32 → Int32 → Int32 → Prop) (Q : Int32 → Mem → Prop) (X : Nat → Mem → Prop) (M : Mem) (it : Nat) (x2 : Int32) (x3 : Int32) (x4 : Int32) : Prop :=
  (it < 64 ∧ (b_L_areChosen_83 k5 Q X M it x2 x3 x4 0))
def b_L_areChosen_36 (k5 : Mem → Nat → Int32 → Int32 → Int32 → Prop) (Q : Int32 → Mem → Prop) (X : Nat → Mem → Prop) (M : Mem) (it : Nat) (x2 : Int32) (x3 : Int32) (x4 : Int32) (s0 : Int32) : Prop :=
  (it < 64 ∧ ((s0 = 0 → (b_L_areChosen_82 k5 Q X M it x2 x3 x4)) ∧ (¬ s0 = 0 → (mE M 4 0 = true ∧ (w_X4_isBanned M x4 x2 (fun (r_61 : Int32) (M_59 : Mem) => ((r_61 = 0 → (mE M_59 4 0 = true ∧ (w_X4_shown M_59 x2 x4 (fun (r_67 : Int32) (M_65 : Mem) => (w_L_wanted M_65 (fun (r_71 : Int32) (M_69 : Mem) => (mE M_69 61 0 = true ∧ ((vp_in (23 + x4) 29) ∧ ((((r_67 &&& r_71) &&& ((mI M_69 61 0 ((23 + x4).toNatClampNeg)) ^^^ (-1))) = 0 → (b_L_areChosen_82 k5 Q X M_69 it x2 x3 x4)) ∧ (¬ ((r_67 &&& r_71) &&& ((mI M_69 61 0 ((23 + x4).toNatClampNeg)) ^^^ (-1))) = 0 → (b_L_areChosen_83 k5 Q X M_69 it x2 x3 x4 1)))))))) X))) ∧ (¬ r_61 = 0 → (b_L_areChosen_82 k5 Q X M_59 it x2 x3 x4)))) X)))))
def b_L_areChosen_35 (k5 : Mem → Nat → Int32 → Int32 → Int32 → Prop) (Q : Int32 → Mem → Prop) (X : Nat → Mem → Prop) (M : Mem) (it : Nat) (x2 : Int32) (x3 : Int32) (x4 : Int32) : Prop :=
  (it < 64 ∧ (b_L_areChosen_36 k5 Q X M it x2 x3 x4 0))
def b_L_areChosen_5 (Q : Int32 → Mem → Prop) (X : Nat → Mem → Prop) (k5 : Mem → Nat → Int32 → Int32 → Int32 → Prop) (M : Mem) (it : Nat) (x2 : Int32) (x3 : Int32) (x4 : Int32) : Prop :=
  (it ≤ 64 ∧ (mE M 61 0 = true ∧ ((vp_in 0 29) ∧ (((mI M 61 0 ((0 : Int32).toNatClampNeg)) ≤ x4 → (mE M 4 0 = true ∧ (w_X4_chosen M x2 (fun (r_8 : Int32) (M_6 : Mem) => (w_L_count M_6 x3 (fun (r_12 : Int32) (M_10 : Mem) => (((3 : Int32) ≤ r_12 → (b_L_areChosen_130 Q X M_10 it x2 x3 r_8 3)) ∧ (¬ (3 : Int32) ≤ r_12 → (w_L_count M_10 x3 (fun (r_51 : Int32) (M_49 : Mem) => (b_L_areChosen_130 Q X M_49 it x2 x3 r_8 r_51)))))))) X))) ∧ (¬ (mI M 61 0 ((0 : Int32).toNatClampNeg)) ≤ x4 → ((x4 = x2 → (b_L_areChosen_35 k5 Q X M it x2 x3 x4)) ∧ (¬ x4 = x2 → ((vp_in 1 29) ∧ (((((mI M 61 0 ((1 : Int32).toNatClampNeg)) >>> (x4 &&& 31)) &&& 1) = 1 → (b_L_areChosen_36 k5 Q X M it x2 x3 x4 1)) ∧ (¬ (((mI M 61 0 ((1 : Int32).toNatClampNeg)) >>> (x4 &&& 31)) &&& 1) = 1 → (b_L_areChosen_35 k5 Q X M it x2 x3 x4)))))))))))
def l_L_areChosen_5 (Q : Int32 → Mem → Prop) (X : Nat → Mem → Prop) (n : Nat) : Mem → Nat → Int32 → Int32 → Int32 → Prop :=
  Nat.rec (motive := fun _ => Mem → Nat → Int32 → Int32 → Int32 → Prop) (fun _ _ _ _ _ => False) (fun _ k => b_L_areChosen_5 Q X k) n
def w_L_areChosen (M : Mem) (a2 : Int32) (Q : Int32 → Mem → Prop) (X : Nat → Mem → Prop) : Prop :=
  (∃ n : Nat, l_L_areChosen_5 Q X n M 0 a2 0 0)
def b_L_areBans_90 (Q : Int32 → Mem → Prop) (X : Nat → Mem → Prop) (M : Mem) : Prop :=
  (Q 1 M)
def b_L_areBans_81 (Q : Int32 → Mem → Prop) (X : Nat → Mem → Prop) (M : Mem) (x2 : Int32) : Prop :=
  (w_L_areChosen M x2 (fun (r_26 : Int32) (M_24 : Mem) => ((r_26 = 0 → (Q 0 M_24)) ∧ (¬ r_26 = 0 → (b_L_areBans_90 Q X M_24)))) X)
def b_L_areBans_62 (Q : Int32 → Mem → Prop) (X : Nat → Mem → Prop) (M : Mem) (x2 : Int32) (x3 : Int32) : Prop :=
  (mE M 4 0 = true ∧ (w_X4_isBanned M x2 x3 (fun (r_21 : Int32) (M_19 : Mem) => ((r_21 = 0 → (mE M_19 4 0 = true ∧ (w_X4_strikes M_19 x2 x3 (fun (r_32 : Int32) (M_30 : Mem) => (((3 : Int32) ≤ r_32 → (Q 0 M_30)) ∧ (¬ (3 : Int32) ≤ r_32 → (b_L_areBans_81 Q X M_30 x2)))) X))) ∧ (¬ r_21 = 0 → (b_L_areBans_81 Q X M_19 x2)))) X))
def b_L_areBans_27 (Q : Int32 → Mem → Prop) (X : Nat → Mem → Prop) (M : Mem) (x2 : Int32) (x3 : Int32) (s0 : Int32) : Prop :=
  ((s0 = 0 → (b_L_areBans_90 Q X M)) ∧ (¬ s0 = 0 → (mE M 4 0 = true ∧ (w_X4_strikes M x2 x3 (fun (r_9 : Int32) (M_7 : Mem) => ((r_9 < 0 → (Q 0 M_7)) ∧ (¬ r_9 < 0 → (mE M_7 4 0 = true ∧ (w_X4_isBanned M_7 x2 x3 (fun (r_15 : Int32) (M_13 : Mem) => ((r_15 = 0 → (b_L_areBans_62 Q X M_13 x2 x3)) ∧ (¬ r_15 = 0 → (mE M_13 4 0 = true ∧ (w_X4_strikes M_13 x2 x3 (fun (r_38 : Int32) (M_36 : Mem) => ((r_38 < 1 → (Q 0 M_36)) ∧ (¬ r_38 < 1 → (b_L_areBans_62 Q X M_36 x2 x3)))) X))))) X))))) X))))
def b_L_areBans_26 (Q : Int32 → Mem → Prop) (X : Nat → Mem → Prop) (M : Mem) (x2 : Int32) (x3 : Int32) : Prop :=
  (b_L_areBans_27 Q X M x2 x3 0)
def w_L_areBans (M : Mem) (a2 : Int32) (a3 : Int32) (Q : Int32 → Mem → Prop) (X : Nat → Mem → Prop) : Prop :=
  (mE M 61 0 = true ∧ ((vp_in 1 29) ∧ (((((mI M 61 0 ((1 : Int32).toNatClampNeg)) >>> (a2 &&& 31)) &&& 1) = 1 → ((vp_in 1 29) ∧ (((((mI M 61 0 ((1 : Int32).toNatClampNeg)) >>> (a3 &&& 31)) &&& 1) = 1 → (b_L_areBans_27 Q X M a2 a3 1)) ∧ (¬ (((mI M 61 0 ((1 : Int32).toNatClampNeg)) >>> (a3 &&& 31)) &&& 1) = 1 → (b_L_areBans_26 Q X M a2 a3))))) ∧ (¬ (((mI M 61 0 ((1 : Int32).toNatClampNeg)) >>> (a2 &&& 31)) &&& 1) = 1 → (b_L_areBans_26 Q X M a2 a3)))))
def b_L_law_179 (k85 : Mem → Nat → Int32 → Int32 → Int32 → Prop) (L : Nat) (xs : Nat → Int32) (Q : Int32 → Mem → Prop) (X : Nat → Mem → Prop) (M : Mem) (it : Nat) (x4 : Int32) (x5 : Int32) (s0 : Int32) : Prop :=
  (it < 128 ∧ (∀ v_44 : Int32, v_44 = x5 + 1 → (k85 M (it + 1) s0 x4 v_44)))
def b_L_law_178 (k85 : Mem → Nat → Int32 → Int32 → Int32 → Prop) (L : Nat) (xs : Nat → Int32) (Q : Int32 → Mem → Prop) (X : Nat → Mem → Prop) (M : Mem) (it : Nat) (x4 : Int32) (x5 : Int32) : Prop :=
  (it < 128 ∧ (b_L_law_179 k85 L xs Q X M it x4 x5 0))
def b_L_law_174 (k85 : Mem → Nat → Int32 → Int32 → Int32 → Prop) (L : Nat) (xs : Nat → Int32) (Q : Int32 → Mem → Prop) (X : Nat → Mem → Prop) (M : Mem) (it : Nat) (x4 : Int32) (x5 : Int32) : Prop :=
  (it < 128 ∧ (b_L_law_179 k85 L xs Q X M it x4 x5 1))
def b_L_law_85 (L : Nat) (xs : Nat → Int32) (Q : Int32 → Mem → Prop) (X : Nat → Mem → Prop) (k85 : Mem → Nat → Int32 → Int32 → Int32 → Prop) (M : Mem) (it : Nat) (x3 : Int32) (x4 : Int32) (x5 : Int32) : Prop :=
  (it ≤ 128 ∧ ((x4 ≤ x5 → (Q x3 M)) ∧ (¬ x4 ≤ x5 → ((x3 = 0 → (Q x3 M)) ∧ (¬ x3 = 0 → (w_L_draw L xs M ((3 * x5) + 1) (fun (r_29 : Int32) (M_27 : Mem) => (w_L_draw L xs M_27 ((3 * x5) + 2) (fun (r_33 : Int32) (M_31 : Mem) => (w_L_draw L xs M_31 (3 * x5) (fun (r_37 : Int32) (M_35 : Mem) => (w_L_step M_35 r_37 r_29 r_33 (fun (r_41 : Int32) (M_39 : Mem) => ((r_41 = 0 → (b_L_law_178 k85 L xs Q X M_39 it x4 x5)) ∧ (¬ r_41 = 0 → (w_L_areHeld M_39 (fun (r_48 : Int32) (M_46 : Mem) => ((r_48 = 0 → (b_L_law_178 k85 L xs Q X M_46 it x4 x5)) ∧ (¬ r_48 = 0 → (mE M_46 61 0 = true ∧ ((vp_in 0 29) ∧ (((mI M_46 61 0 ((0 : Int32).toNatClampNeg)) = 0 → (b_L_law_174 k85 L xs Q X M_46 it x4 x5)) ∧ (¬ (mI M_46 61 0 ((0 : Int32).toNatClampNeg)) = 0 → ((vp_in 0 29) ∧ ((¬ (mI M_46 61 0 ((0 : Int32).toNatClampNeg)) = 0) ∧ ((vp_in 0 29) ∧ ((¬ (mI M_46 61 0 ((0 : Int32).toNatClampNeg)) = 0) ∧ (w_L_areBans M_46 (r_29 - r_29 / (mI M_46 61 0 ((0 : Int32).toNatClampNeg)) * (mI M_46 61 0 ((0 : Int32).toNatClampNeg))) (r_33 - r_33 / (mI M_46 61 0 ((0 : Int32).toNatClampNeg)) * (mI M_46 61 0 ((0 : Int32).toNatClampNeg))) (fun (r_61 : Int32) (M_59 : Mem) => ((r_61 = 0 → (b_L_law_178 k85 L xs Q X M_59 it x4 x5)) ∧ (¬ r_61 = 0 → (b_L_law_174 k85 L xs Q X M_59 it x4 x5)))) X)))))))))))) X)))) X))))))))))))
def l_L_law_85 (L : Nat) (xs : Nat → Int32) (Q : Int32 → Mem → Prop) (X : Nat → Mem → Prop) (n : Nat) : Mem → Nat → Int32 → Int32 → Int32 → Prop :=
  Nat.rec (motive := fun _ => Mem → Nat → Int32 → Int32 → Int32 → Prop) (fun _ _ _ _ _ => False) (fun _ k => b_L_law_85 L xs Q X k) n
def b_L_law_80 (L : Nat) (xs : Nat → Int32) (Q : Int32 → Mem → Prop) (X : Nat → Mem → Prop) (M : Mem) (it : Nat) (x3 : Int32) (s0 : Int32) : Prop :=
  (it < 128 ∧ (∃ n : Nat, l_L_law_85 L xs Q X n M (it + 1) x3 s0 0))
def b_L_law_61 (L : Nat) (xs : Nat → Int32) (Q : Int32 → Mem → Prop) (X : Nat → Mem → Prop) (M : Mem) (it : Nat) (s0 : Int32) : Prop :=
  (it < 128 ∧ ((((Int32.ofNat L) / 3) ≤ 60 → (b_L_law_80 L xs Q X M it s0 ((Int32.ofNat L) / 3))) ∧ (¬ ((Int32.ofNat L) / 3) ≤ 60 → (b_L_law_80 L xs Q X M it s0 60))))
def b_L_law_60 (L : Nat) (xs : Nat → Int32) (Q : Int32 → Mem → Prop) (X : Nat → Mem → Prop) (M : Mem) (it : Nat) : Prop :=
  (it < 128 ∧ (b_L_law_61 L xs Q X M it 0))
def b_L_law_15 (L : Nat) (xs : Nat → Int32) (Q : Int32 → Mem → Prop) (X : Nat → Mem → Prop) (k15 : Mem → Nat → Int32 → Prop) (M : Mem) (it : Nat) (x3 : Int32) : Prop :=
  (it ≤ 128 ∧ (((12 : Int32) ≤ x3 → (mE M 4 0 = true ∧ (w_X4_peers M (fun (r_21 : Int32) (M_19 : Mem) => ((r_21 = 0 → (mE M_19 4 0 = true ∧ (w_X4_rounds M_19 (fun (r_67 : Int32) (M_65 : Mem) => ((r_67 = 0 → (mE M_65 4 0 = true ∧ (w_X4_holders M_65 11 (fun (r_73 : Int32) (M_71 : Mem) => ((r_73 = 0 → (b_L_law_61 L xs Q X M_71 it 1)) ∧ (¬ r_73 = 0 → (b_L_law_60 L xs Q X M_71 it)))) X))) ∧ (¬ r_67 = 0 → (b_L_law_60 L xs Q X M_65 it))))))) ∧ (¬ r_21 = 0 → (b_L_law_60 L xs Q X M_19 it))))))) ∧ (¬ (12 : Int32) ≤ x3 → (mE M 61 0 = true ∧ ((vp_in (3 + x3) 29) ∧ (∀ M_77 : Mem, M_77 = wI M 61 0 ((3 + x3).toNatClampNeg) 1 → (∀ v_78 : Int32, v_78 = x3 + 1 → (k15 M_77 (it + 1) v_78))))))))
def l_L_law_15 (L : Nat) (xs : Nat → Int32) (Q : Int32 → Mem → Prop) (X : Nat → Mem → Prop) (n : Nat) : Mem → Nat → Int32 → Prop :=
  Nat.rec (motive := fun _ => Mem → Nat → Int32 → Prop) (fun _ _ _ => False) (fun _ k => b_L_law_15 L xs Q X k) n
def w_L_law (L : Nat) (xs : Nat → Int32) (M : Mem) (Q : Int32 → Mem → Prop) (X : Nat → Mem → Prop) : Prop :=
  (mE M 4 0 = false ∧ (∀ M_3 : Mem, M_3 = wN M 4 0 → (w_X4_init M_3 (fun (M_7 : Mem) => (mE M_7 61 0 = false ∧ (∀ M_13 : Mem, M_13 = wN M_7 61 0 → (∃ n : Nat, l_L_law_15 L xs Q X n M_13 0 0)))))))
