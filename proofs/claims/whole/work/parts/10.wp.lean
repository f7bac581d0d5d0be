/-! weakest preconditions of the methods over the memory: laid by wip/whole/gen.py out of the listing -/
def b_J7_fill_53178_11_5 (Q : Mem → Prop) (k5 : Mem → Int32 → Int32 → Int32 → Prop) (M : Mem) (x1 : Int32) (x2 : Int32) (x3 : Int32) : Prop :=
  ((x3 ≤ x2 → (Q M)) ∧ (¬ x3 ≤ x2 → (mE M 11 0 = true ∧ ((vp_in x2 12) ∧ (∀ M_5 : Mem, M_5 = wI M 11 0 x2.toNatClampNeg x1 → (∀ v_6 : Int32, v_6 = x2 + 1 → (k5 M_5 x1 v_6 x3)))))))
def l_J7_fill_53178_11_5 (Q : Mem → Prop) (n : Nat) : Mem → Int32 → Int32 → Int32 → Prop :=
  Nat.rec (motive := fun _ => Mem → Int32 → Int32 → Int32 → Prop) (fun _ _ _ _ => False) (fun _ k => b_J7_fill_53178_11_5 Q k) n
def w_J7_fill_53178_11 (M : Mem) (a1 : Int32) (Q : Mem → Prop) : Prop :=
  (mE M 11 0 = true ∧ (∃ n : Nat, l_J7_fill_53178_11_5 Q n M a1 0 12))
def w_X4_init (M : Mem) (Q : Mem → Prop) : Prop :=
  (mE M 10 0 = false ∧ (∀ M_3 : Mem, M_3 = wN M 10 0 → (mE M_3 4 0 = true ∧ (∀ M_7 : Mem, M_7 = wF M_3 4 0 0 true → (mE M_7 11 0 = false ∧ (∀ M_10 : Mem, M_10 = wN M_7 11 0 → (∀ M_15 : Mem, M_15 = wF M_10 4 0 1 true → (mE M_15 12 0 = false ∧ (∀ M_18 : Mem, M_18 = wN M_15 12 0 → (∀ M_24 : Mem, M_24 = wF M_18 4 0 2 true → (∀ M_25 : Mem, M_25 = wI M_24 4 0 3 0 → (∀ M_26 : Mem, M_26 = wI M_25 4 0 4 0 → (mF M_26 4 0 1 = true ∧ (w_J7_fill_53178_11 M_26 1 (fun (M_29 : Mem) => (Q M_29))))))))))))))))
def b_X5_init_159 (Q : Mem → Prop) (k159 : Mem → Int32 → Prop) (M : Mem) (x1 : Int32) : Prop :=
  (((12 : Int32) ≤ x1 → (Q M)) ∧ (¬ (12 : Int32) ≤ x1 → (mE M 5 0 = true ∧ (mF M 5 0 2 = true ∧ (mE M 32 0 = true ∧ ((vp_in x1 12) ∧ (∀ M_310 : Mem, M_310 = wI M 32 0 x1.toNatClampNeg 1 → (∀ v_311 : Int32, v_311 = x1 + 1 → (k159 M_310 v_311)))))))))
def l_X5_init_159 (Q : Mem → Prop) (n : Nat) : Mem → Int32 → Prop :=
  Nat.rec (motive := fun _ => Mem → Int32 → Prop) (fun _ _ => False) (fun _ k => b_X5_init_159 Q k) n
def w_X5_init (M : Mem) (Q : Mem → Prop) : Prop :=
  (mE M 32 0 = false ∧ (∀ M_3 : Mem, M_3 = wN M 32 0 → (mE M_3 5 0 = true ∧ (∀ M_7 : Mem, M_7 = wF M_3 5 0 2 true → (mE M_7 34 0 = false ∧ (∀ M_10 : Mem, M_10 = wN M_7 34 0 → (∀ M_15 : Mem, M_15 = wF M_10 5 0 4 true → (mE M_15 35 0 = false ∧ (∀ M_18 : Mem, M_18 = wN M_15 35 0 → (∀ M_24 : Mem, M_24 = wF M_18 5 0 5 true → (mE M_24 36 0 = false ∧ (∀ M_27 : Mem, M_27 = wN M_24 36 0 → (∀ M_34 : Mem, M_34 = wF M_27 5 0 6 true → (mE M_34 37 0 = false ∧ (∀ M_37 : Mem, M_37 = wN M_34 37 0 → (∀ M_45 : Mem, M_45 = wF M_37 5 0 7 true → (mE M_45 38 0 = false ∧ (∀ M_48 : Mem, M_48 = wN M_45 38 0 → (∀ M_57 : Mem, M_57 = wF M_48 5 0 8 true → (mE M_57 39 0 = false ∧ (∀ M_60 : Mem, M_60 = wN M_57 39 0 → (∀ M_70 : Mem, M_70 = wF M_60 5 0 9 true → (mE M_70 40 0 = false ∧ (∀ M_73 : Mem, M_73 = wN M_70 40 0 → (∀ M_84 : Mem, M_84 = wF M_73 5 0 10 true → (mE M_84 41 0 = false ∧ (∀ M_87 : Mem, M_87 = wN M_84 41 0 → (∀ M_99 : Mem, M_99 = wF M_87 5 0 11 true → (mE M_99 42 0 = false ∧ (∀ M_102 : Mem, M_102 = wN M_99 42 0 → (∀ M_115 : Mem, M_115 = wF M_102 5 0 12 true → (mE M_115 43 0 = false ∧ (∀ M_118 : Mem, M_118 = wN M_115 43 0 → (∀ M_132 : Mem, M_132 = wF M_118 5 0 13 true → (mE M_132 44 0 = false ∧ (∀ M_135 : Mem, M_135 = wN M_132 44 0 → (∀ M_150 : Mem, M_150 = wF M_135 5 0 14 true → (mE M_150 45 0 = false ∧ (∀ M_153 : Mem, M_153 = wN M_150 45 0 → (∀ M_169 : Mem, M_169 = wF M_153 5 0 15 true → (mE M_169 46 0 = false ∧ (∀ M_172 : Mem, M_172 = wN M_169 46 0 → (∀ M_189 : Mem, M_189 = wF M_172 5 0 16 true → (mE M_189 47 0 = false ∧ (∀ M_192 : Mem, M_192 = wN M_189 47 0 → (∀ M_210 : Mem, M_210 = wF M_192 5 0 17 true → (mE M_210 48 0 = false ∧ (∀ M_213 : Mem, M_213 = wN M_210 48 0 → (∀ M_232 : Mem, M_232 = wF M_213 5 0 18 true → (mE M_232 50 0 = false ∧ (∀ M_235 : Mem, M_235 = wN M_232 50 0 → (∀ M_255 : Mem, M_255 = wF M_235 5 0 20 true → (mE M_255 51 0 = false ∧ (∀ M_258 : Mem, M_258 = wN M_255 51 0 → (∀ M_279 : Mem, M_279 = wF M_258 5 0 21 true → (mE M_279 52 0 = false ∧ (∀ M_282 : Mem, M_282 = wN M_279 52 0 → (∀ M_304 : Mem, M_304 = wF M_282 5 0 22 true → (∃ n : Nat, l_X5_init_159 Q n M_304 0)))))))))))))))))))))))))))))))))))))))))))))))))))))))))))
def w_X0_init (M : Mem) (t : Nat) (Q : Mem → Prop) : Prop :=
  (mE M 20 t = false ∧ (∀ M_3 : Mem, M_3 = wN M 20 t → (mE M_3 0 t = true ∧ (∀ M_7 : Mem, M_7 = wF M_3 0 t 0 true → (mE M_7 21 t = false ∧ (∀ M_10 : Mem, M_10 = wN M_7 21 t → (∀ M_15 : Mem, M_15 = wF M_10 0 t 1 true → (∀ M_16 : Mem, M_16 = wI M_15 0 t 2 0 → (∀ M_17 : Mem, M_17 = wL M_16 0 t 3 0 → (Q M_17))))))))))
def w_X3_init (M : Mem) (t : Nat) (a1 : Int32) (Q : Mem → Prop) : Prop :=
  (mE M 3 t = true ∧ (∀ M_2 : Mem, M_2 = wL M 3 t 1 0 → (∀ M_3 : Mem, M_3 = wL M_2 3 t 2 0 → (∀ M_4 : Mem, M_4 = wI M_3 3 t 0 a1 → (Q M_4)))))
def w_X1_init (M : Mem) (t : Nat) (a1 : Int32) (Q : Mem → Prop) : Prop :=
  (mE M 22 t = false ∧ (∀ M_3 : Mem, M_3 = wN M 22 t → (mE M_3 1 t = true ∧ (∀ M_7 : Mem, M_7 = wF M_3 1 t 1 true → (∀ M_8 : Mem, M_8 = wI M_7 1 t 2 0 → (∀ M_9 : Mem, M_9 = wI M_8 1 t 0 a1 → (Q M_9)))))))
def w_X2_init (M : Mem) (t : Nat) (a1 : Int32) (a2 : Int32) (Q : Mem → Prop) : Prop :=
  (mE M 0 t = false ∧ (∀ M_3 : Mem, M_3 = wN M 0 t → (w_X0_init M_3 t (fun (M_7 : Mem) => (mE M_7 2 t = true ∧ (mE M_7 0 t = true ∧ (∀ M_12 : Mem, M_12 = wF M_7 2 t 3 true → (∀ M_14 : Mem, M_14 = wI M_12 2 t 4 0 → (∀ M_15 : Mem, M_15 = wI M_14 2 t 5 0 → (∀ M_16 : Mem, M_16 = wI M_15 2 t 6 0 → (mE M_16 23 t = false ∧ (∀ M_19 : Mem, M_19 = wN M_16 23 t → (∀ M_24 : Mem, M_24 = wF M_19 2 t 7 true → (mE M_24 24 t = false ∧ (∀ M_27 : Mem, M_27 = wN M_24 24 t → (∀ M_33 : Mem, M_33 = wF M_27 2 t 8 true → (mE M_33 25 t = false ∧ (∀ M_36 : Mem, M_36 = wN M_33 25 t → (∀ M_43 : Mem, M_43 = wF M_36 2 t 9 true → (∀ M_44 : Mem, M_44 = wI M_43 2 t 10 0 → (∀ M_45 : Mem, M_45 = wI M_44 2 t 11 0 → (mE M_45 26 t = false ∧ (∀ M_48 : Mem, M_48 = wN M_45 26 t → (∀ M_56 : Mem, M_56 = wF M_48 2 t 12 true → (∀ M_57 : Mem, M_57 = wI M_56 2 t 13 0 → (∀ M_58 : Mem, M_58 = wI M_57 2 t 0 a1 → (mE M_58 3 t = false ∧ (∀ M_61 : Mem, M_61 = wN M_58 3 t → (w_X3_init M_61 t a2 (fun (M_71 : Mem) => (mE M_71 2 t = true ∧ (mE M_71 3 t = true ∧ (∀ M_75 : Mem, M_75 = wF M_71 2 t 1 true → (mE M_75 1 t = false ∧ (∀ M_79 : Mem, M_79 = wN M_75 1 t → (w_X1_init M_79 t a2 (fun (M_85 : Mem) => (mE M_85 2 t = true ∧ (mE M_85 1 t = true ∧ (∀ M_90 : Mem, M_90 = wF M_85 2 t 2 true → (Q M_90)))))))))))))))))))))))))))))))))))))))))
def b_X4_join_48 (Q : Int32 → Mem → Prop) (X : Nat → Mem → Prop) (M : Mem) (x2 : Int32) (s0 : Int32) (s1 : Int32) (s2 : Nat) (s3 : Nat) (s4 : Int32) : Prop :=
  (mE M 2 s2 = true ∧ (w_X2_init M s2 s1 s0 (fun (M_16 : Mem) => (mE M_16 10 0 = true ∧ ((vp_in s4 6) ∧ ((s3 = s4.toNatClampNeg) ∧ (mE M_16 2 s3 = true ∧ (∀ M_22 : Mem, M_22 = wF M_16 10 0 s4.toNatClampNeg true → (mE M_22 4 0 = true ∧ (∀ M_26 : Mem, M_26 = wI M_22 4 0 3 ((mI M_22 4 0 3) + 1) → (Q x2 M_26)))))))))))
def w_X4_join (M : Mem) (a1 : Int32) (Q : Int32 → Mem → Prop) (X : Nat → Mem → Prop) : Prop :=
  (mE M 4 0 = true ∧ (mF M 4 0 0 = true ∧ (mE M 10 0 = true ∧ (((mI M 4 0 3) < 6 → (∀ v_5 : Int32, v_5 = (mI M 4 0 3) → (mE M 2 v_5.toNatClampNeg = false ∧ (∀ M_8 : Mem, M_8 = wN M 2 v_5.toNatClampNeg → ((a1 = 0 → (b_X4_join_48 Q X M_8 v_5 0 v_5 v_5.toNatClampNeg v_5.toNatClampNeg v_5)) ∧ (¬ a1 = 0 → (b_X4_join_48 Q X M_8 v_5 4095 v_5 v_5.toNatClampNeg v_5.toNatClampNeg v_5))))))) ∧ (¬ (mI M 4 0 3) < 6 → (X 0 M))))))
def w_L_join (M : Mem) (a1 : Int32) (Q : Int32 → Mem → Prop) : Prop :=
  (mE M 4 0 = true ∧ (w_X4_join M a1 (fun (r_5 : Int32) (M_3 : Mem) => (mE M_3 60 0 = true ∧ ((vp_in 0 1) ∧ (∀ M_10 : Mem, M_10 = wL M_3 60 0 ((0 : Int32).toNatClampNeg) r_5.toInt64 → (Q 0 M_10))))) (fun (k : Nat) (M_2 : Mem) => (k = 0 ∧ (Q 1 M_2)))))
def w_X5_fits (M : Mem) (a1 : Int32) (Q : Int32 → Mem → Prop) : Prop :=
  (mE M 5 0 = true ∧ (∀ M_2 : Mem, M_2 = wI M 5 0 0 a1 → ((a1 = 0 → (Q 1 M_2)) ∧ (¬ a1 = 0 → (Q 0 M_2)))))
def b_X5_join_52 (Q : Int32 → Mem → Prop) (M : Mem) (s0 : Int32) (s1 : Int32) : Prop :=
  (mE M 35 0 = true ∧ ((vp_in s1 6) ∧ (∀ M_18 : Mem, M_18 = wI M 35 0 s1.toNatClampNeg s0 → (mE M_18 5 0 = true ∧ (∀ M_20 : Mem, M_20 = wI M_18 5 0 3 ((mI M_18 5 0 3) + 1) → (Q ((mI M_20 5 0 3) - 1) M_20))))))
def b_X5_join_15 (Q : Int32 → Mem → Prop) (M : Mem) (x1 : Int32) (s0 : Int32) : Prop :=
  (mE M 5 0 = true ∧ (w_X5_fits M s0 (fun (r_7 : Int32) (M_5 : Mem) => ((r_7 = 0 → (Q 0 M_5)) ∧ (¬ r_7 = 0 → (mE M_5 5 0 = true ∧ (mF M_5 5 0 4 = true ∧ (mE M_5 34 0 = true ∧ ((vp_in (mI M_5 5 0 3) 6) ∧ (∀ M_13 : Mem, M_13 = wI M_5 34 0 ((mI M_5 5 0 3).toNatClampNeg) 1 → (mF M_13 5 0 5 = true ∧ ((x1 = 0 → (b_X5_join_52 Q M_13 0 (mI M_13 5 0 3))) ∧ (¬ x1 = 0 → (b_X5_join_52 Q M_13 4095 (mI M_13 5 0 3)))))))))))))))
def w_X5_join (M : Mem) (a1 : Int32) (Q : Int32 → Mem → Prop) : Prop :=
  (mE M 5 0 = true ∧ (((mI M 5 0 3) = 6 → (b_X5_join_15 Q M a1 1)) ∧ (¬ (mI M 5 0 3) = 6 → (b_X5_join_15 Q M a1 0))))
def w_X5_thrown (M : Mem) (Q : Int32 → Mem → Prop) : Prop :=
  (mE M 5 0 = true ∧ (Q (mI M 5 0 0) M))
def b_X4_find_13 (Q : Option Nat → Mem → Prop) (M : Mem) : Prop :=
  (Q none M)
def w_X4_find (M : Mem) (a1 : Int32) (Q : Option Nat → Mem → Prop) : Prop :=
  ((a1 < 0 → (b_X4_find_13 Q M)) ∧ (¬ a1 < 0 → (mE M 4 0 = true ∧ (mF M 4 0 0 = true ∧ (mE M 10 0 = true ∧ ((a1 < 6 → ((vp_in a1 6) ∧ ((mF M 10 0 a1.toNatClampNeg = true → (Q (some a1.toNatClampNeg) M)) ∧ (mF M 10 0 a1.toNatClampNeg = false → (Q none M))))) ∧ (¬ a1 < 6 → (b_X4_find_13 Q M))))))))
def w_X4_known (M : Mem) (a1 : Int32) (Q : Nat → Mem → Prop) (X : Nat → Mem → Prop) : Prop :=
  (mE M 4 0 = true ∧ (w_X4_find M a1 (fun (z : Option Nat) (M_3 : Mem) => ((z = none → (X 1 M_3)) ∧ (∀ r_5 : Nat, z = some r_5 → (Q r_5 M_3))))))
def w_J6_bitCount_0f7a4 (M : Mem) (a0 : Int32) (Q : Int32 → Mem → Prop) : Prop :=
  (∀ v_1 : Int32, v_1 = (a0 - (((a0.toUInt32 >>> ((1 : Int32).toUInt32 &&& Int32.toUInt32 31)).toInt32) &&& 1431655765)) → (∀ v_2 : Int32, v_2 = ((v_1 &&& 858993459) + (((v_1.toUInt32 >>> ((2 : Int32).toUInt32 &&& Int32.toUInt32 31)).toInt32) &&& 858993459)) → (∀ v_3 : Int32, v_3 = ((v_2 + ((v_2.toUInt32 >>> ((4 : Int32).toUInt32 &&& Int32.toUInt32 31)).toInt32)) &&& 252645135) → (∀ v_4 : Int32, v_4 = (v_3 + ((v_3.toUInt32 >>> ((8 : Int32).toUInt32 &&& Int32.toUInt32 31)).toInt32)) → (∀ v_5 : Int32, v_5 = (v_4 + ((v_4.toUInt32 >>> ((16 : Int32).toUInt32 &&& Int32.toUInt32 31)).toInt32)) → (Q (v_5 &&& 63) M))))))
def w_X4_leave (M : Mem) (a1 : Int32) (Q : Int32 → Mem → Prop) (X : Nat → Mem → Prop) : Prop :=
  (mE M 4 0 = true ∧ (w_X4_known M a1 (fun (r_5 : Nat) (M_3 : Mem) => (mE M_3 4 0 = true ∧ (mF M_3 4 0 0 = true ∧ (mE M_3 2 r_5 = true ∧ (mE M_3 10 0 = true ∧ ((vp_in (mI M_3 2 r_5 0) 6) ∧ (∀ M_11 : Mem, M_11 = wF M_3 10 0 ((mI M_3 2 r_5 0).toNatClampNeg) false → (mF M_11 2 r_5 1 = true ∧ (mE M_11 3 r_5 = true ∧ (w_J6_bitCount_0f7a4 M_11 (mI M_11 3 r_5 0) (fun (r_17 : Int32) (M_15 : Mem) => (Q r_17 M_15)))))))))))) X))
def w_L_leave (M : Mem) (a1 : Int32) (Q : Int32 → Mem → Prop) : Prop :=
  (mE M 4 0 = true ∧ (w_X4_leave M a1 (fun (r_5 : Int32) (M_3 : Mem) => (mE M_3 60 0 = true ∧ ((vp_in 0 1) ∧ (∀ M_8 : Mem, M_8 = wL M_3 60 0 ((0 : Int32).toNatClampNeg) r_5.toInt64 → (Q 0 M_8))))) (fun (k : Nat) (M_2 : Mem) => (k = 1 ∧ (Q 1 M_2)))))
def w_X5_isPeer (M : Mem) (a1 : Int32) (Q : Int32 → Mem → Prop) : Prop :=
  ((a1 < 0 → (Q 0 M)) ∧ (¬ a1 < 0 → (mE M 5 0 = true ∧ (((mI M 5 0 3) ≤ a1 → (Q 0 M)) ∧ (¬ (mI M 5 0 3) ≤ a1 → (mF M 5 0 4 = true ∧ (mE M 34 0 = true ∧ ((vp_in a1 6) ∧ (((mI M 34 0 a1.toNatClampNeg) = 0 → (Q 0 M)) ∧ (¬ (mI M 34 0 a1.toNatClampNeg) = 0 → (Q 1 M)))))))))))
def b_X5_count_4 (Q : Int32 → Mem → Prop) (k4 : Mem → Int32 → Int32 → Int32 → Prop) (M : Mem) (x0 : Int32) (x1 : Int32) (x2 : Int32) : Prop :=
  (((12 : Int32) ≤ x2 → (Q x1 M)) ∧ (¬ (12 : Int32) ≤ x2 → (∀ v_2 : Int32, v_2 = (x1 + ((x0 >>> (x2 &&& 31)) &&& 1)) → (∀ v_3 : Int32, v_3 = x2 + 1 → (k4 M x0 v_2 v_3)))))
def l_X5_count_4 (Q : Int32 → Mem → Prop) (n : Nat) : Mem → Int32 → Int32 → Int32 → Prop :=
  Nat.rec (motive := fun _ => Mem → Int32 → Int32 → Int32 → Prop) (fun _ _ _ _ => False) (fun _ k => b_X5_count_4 Q k) n
def w_X5_count (M : Mem) (a0 : Int32) (Q : Int32 → Mem → Prop) : Prop :=
  (∃ n : Nat, l_X5_count_4 Q n M a0 0 0)
def b_X5_leave_14 (Q : Int32 → Mem → Prop) (M : Mem) (x1 : Int32) (s0 : Int32) : Prop :=
  (mE M 5 0 = true ∧ (w_X5_fits M s0 (fun (r_11 : Int32) (M_9 : Mem) => ((r_11 = 0 → (Q 0 M_9)) ∧ (¬ r_11 = 0 → (mE M_9 5 0 = true ∧ (mF M_9 5 0 4 = true ∧ (mE M_9 34 0 = true ∧ ((vp_in x1 6) ∧ (∀ M_17 : Mem, M_17 = wI M_9 34 0 x1.toNatClampNeg 0 → (mF M_17 5 0 5 = true ∧ (mE M_17 35 0 = true ∧ ((vp_in x1 6) ∧ (w_X5_count M_17 (mI M_17 35 0 x1.toNatClampNeg) (fun (r_24 : Int32) (M_22 : Mem) => (Q r_24 M_22))))))))))))))))
def w_X5_leave (M : Mem) (a1 : Int32) (Q : Int32 → Mem → Prop) : Prop :=
  (mE M 5 0 = true ∧ (w_X5_isPeer M a1 (fun (r_5 : Int32) (M_3 : Mem) => ((r_5 = 0 → (b_X5_leave_14 Q M_3 a1 1)) ∧ (¬ r_5 = 0 → (b_X5_leave_14 Q M_3 a1 0))))))
def b_X4_checkPiece_10 (Q : Mem → Prop) (X : Nat → Mem → Prop) (M : Mem) : Prop :=
  (X 1 M)
def w_X4_checkPiece (M : Mem) (a0 : Int32) (Q : Mem → Prop) (X : Nat → Mem → Prop) : Prop :=
  ((a0 < 0 → (b_X4_checkPiece_10 Q X M)) ∧ (¬ a0 < 0 → ((a0 < 12 → (Q M)) ∧ (¬ a0 < 12 → (b_X4_checkPiece_10 Q X M)))))
def b_X4_setPriority_13 (Q : Int32 → Mem → Prop) (X : Nat → Mem → Prop) (M : Mem) : Prop :=
  (X 2 M)
def w_X4_setPriority (M : Mem) (a1 : Int32) (a2 : Int32) (Q : Int32 → Mem → Prop) (X : Nat → Mem → Prop) : Prop :=
  (w_X4_checkPiece M a1 (fun (M_2 : Mem) => ((a2 < 0 → (b_X4_setPriority_13 Q X M_2)) ∧ (¬ a2 < 0 → ((a2 ≤ 3 → (mE M_2 4 0 = true ∧ (mF M_2 4 0 1 = true ∧ (mE M_2 11 0 = true ∧ ((vp_in a1 12) ∧ (∀ v_11 : Int32, v_11 = (mI M_2 11 0 a1.toNatClampNeg) → ((vp_in a1 12) ∧ (∀ M_13 : Mem, M_13 = wI M_2 11 0 a1.toNatClampNeg a2 → (Q v_11 M_13))))))))) ∧ (¬ a2 ≤ 3 → (b_X4_setPriority_13 Q X M_2)))))) X)
def w_L_setPriority (M : Mem) (a1 : Int32) (a2 : Int32) (Q : Int32 → Mem → Prop) : Prop :=
  (mE M 4 0 = true ∧ (w_X4_setPriority M a1 a2 (fun (r_5 : Int32) (M_3 : Mem) => (mE M_3 60 0 = true ∧ ((vp_in 0 1) ∧ (∀ M_8 : Mem, M_8 = wL M_3 60 0 ((0 : Int32).toNatClampNeg) r_5.toInt64 → (Q 0 M_8))))) (fun (k : Nat) (M_2 : Mem) => (k = 1 ∧ (Q 1 M_2)) ∨ (k = 2 ∧ (Q 2 M_2)))))
def w_X5_isPiece (M : Mem) (a0 : Int32) (Q : Int32 → Mem → Prop) : Prop :=
  ((a0 < 0 → (Q 0 M)) ∧ (¬ a0 < 0 → (((12 : Int32) ≤ a0 → (Q 0 M)) ∧ (¬ (12 : Int32) ≤ a0 → (Q 1 M)))))
def b_X5_setPriority_26 (Q : Int32 → Mem → Prop) (M : Mem) (x1 : Int32) (x2 : Int32) (s0 : Int32) : Prop :=
  (mE M 5 0 = true ∧ (w_X5_fits M s0 (fun (r_11 : Int32) (M_9 : Mem) => ((r_11 = 0 → (Q 0 M_9)) ∧ (¬ r_11 = 0 → (mE M_9 5 0 = true ∧ (mF M_9 5 0 2 = true ∧ (mE M_9 32 0 = true ∧ ((vp_in x1 12) ∧ (∀ v_17 : Int32, v_17 = (mI M_9 32 0 x1.toNatClampNeg) → ((vp_in x1 12) ∧ (∀ M_19 : Mem, M_19 = wI M_9 32 0 x1.toNatClampNeg x2 → (Q v_17 M_19)))))))))))))
def b_X5_setPriority_21 (Q : Int32 → Mem → Prop) (M : Mem) (x1 : Int32) (x2 : Int32) : Prop :=
  (b_X5_setPriority_26 Q M x1 x2 2)
def w_X5_setPriority (M : Mem) (a1 : Int32) (a2 : Int32) (Q : Int32 → Mem → Prop) : Prop :=
  (w_X5_isPiece M a1 (fun (r_4 : Int32) (M_2 : Mem) => ((r_4 = 0 → (b_X5_setPriority_26 Q M_2 a1 a2 1)) ∧ (¬ r_4 = 0 → ((a2 < 0 → (b_X5_setPriority_21 Q M_2 a1 a2)) ∧ (¬ a2 < 0 → ((a2 ≤ 3 → (b_X5_setPriority_26 Q M_2 a1 a2 0)) ∧ (¬ a2 ≤ 3 → (b_X5_setPriority_21 Q M_2 a1 a2)))))))))
def b_X4_setSequence_19 (Q : Int32 → Mem → Prop) (X : Nat → Mem → Prop) (M : Mem) (x2 : Int32) (x3 : Nat) (s0 : Int32) : Prop :=
  (mE M 2 x3 = true ∧ ((x2 = 0 ∨ x2 = 1) ∧ (∀ M_9 : Mem, M_9 = wI M 2 x3 5 x2 → ((s0 = 0 ∨ s0 = 1) ∧ (Q s0 M_9)))))
def w_X4_setSequence (M : Mem) (a1 : Int32) (a2 : Int32) (Q : Int32 → Mem → Prop) (X : Nat → Mem → Prop) : Prop :=
  (mE M 4 0 = true ∧ (w_X4_known M a1 (fun (r_5 : Nat) (M_3 : Mem) => (mE M_3 2 r_5 = true ∧ (((mI M_3 2 r_5 5) = a2 → (b_X4_setSequence_19 Q X M_3 a2 r_5 0)) ∧ (¬ (mI M_3 2 r_5 5) = a2 → (b_X4_setSequence_19 Q X M_3 a2 r_5 1))))) X))
def b_L_setSequence_16 (Q : Int32 → Mem → Prop) (M : Mem) (s0 : Int64) (s1 : Int32) : Prop :=
  (mE M 60 0 = true ∧ ((vp_in s1 1) ∧ (∀ M_9 : Mem, M_9 = wL M 60 0 s1.toNatClampNeg s0 → (Q 0 M_9))))
def w_L_setSequence (M : Mem) (a1 : Int32) (a2 : Int32) (Q : Int32 → Mem → Prop) : Prop :=
  (mE M 4 0 = true ∧ (w_X4_setSequence M a1 a2 (fun (r_5 : Int32) (M_3 : Mem) => ((r_5 = 0 → (b_L_setSequence_16 Q M_3 0 0)) ∧ (¬ r_5 = 0 → (b_L_setSequence_16 Q M_3 1 0)))) (fun (k : Nat) (M_2 : Mem) => (k = 1 ∧ (Q 1 M_2)))))
def b_X5_setSequence_14 (Q : Int32 → Mem → Prop) (M : Mem) (x1 : Int32) (x2 : Int32) (s0 : Int32) : Prop :=
  (mE M 5 0 = true ∧ (w_X5_fits M s0 (fun (r_11 : Int32) (M_9 : Mem) => ((r_11 = 0 → (Q 0 M_9)) ∧ (¬ r_11 = 0 → (mE M_9 5 0 = true ∧ (mF M_9 5 0 7 = true ∧ (mE M_9 37 0 = true ∧ ((vp_in x1 6) ∧ (∀ v_17 : Int32, v_17 = (mI M_9 37 0 x1.toNatClampNeg) → ((vp_in x1 6) ∧ ((x2 = 0 ∨ x2 = 1) ∧ (∀ M_19 : Mem, M_19 = wI M_9 37 0 x1.toNatClampNeg x2 → ((v_17 = x2 → (Q 0 M_19)) ∧ (¬ v_17 = x2 → (Q 1 M_19))))))))))))))))
def w_X5_setSequence (M : Mem) (a1 : Int32) (a2 : Int32) (Q : Int32 → Mem → Prop) : Prop :=
  (mE M 5 0 = true ∧ (w_X5_isPeer M a1 (fun (r_5 : Int32) (M_3 : Mem) => ((r_5 = 0 → (b_X5_setSequence_14 Q M_3 a1 a2 1)) ∧ (¬ r_5 = 0 → (b_X5_setSequence_14 Q M_3 a1 a2 0))))))
def b_X4_setCareful_19 (Q : Int32 → Mem → Prop) (X : Nat → Mem → Prop) (M : Mem) (x2 : Int32) (x3 : Nat) (s0 : Int32) : Prop :=
  (mE M 2 x3 = true ∧ ((x2 = 0 ∨ x2 = 1) ∧ (∀ M_9 : Mem, M_9 = wI M 2 x3 6 x2 → ((s0 = 0 ∨ s0 = 1) ∧ (Q s0 M_9)))))
def w_X4_setCareful (M : Mem) (a1 : Int32) (a2 : Int32) (Q : Int32 → Mem → Prop) (X : Nat → Mem → Prop) : Prop :=
  (mE M 4 0 = true ∧ (w_X4_known M a1 (fun (r_5 : Nat) (M_3 : Mem) => (mE M_3 2 r_5 = true ∧ (((mI M_3 2 r_5 6) = a2 → (b_X4_setCareful_19 Q X M_3 a2 r_5 0)) ∧ (¬ (mI M_3 2 r_5 6) = a2 → (b_X4_setCareful_19 Q X M_3 a2 r_5 1))))) X))
def b_L_setCareful_16 (Q : Int32 → Mem → Prop) (M : Mem) (s0 : Int64) (s1 : Int32) : Prop :=
  (mE M 60 0 = true ∧ ((vp_in s1 1) ∧ (∀ M_9 : Mem, M_9 = wL M 60 0 s1.toNatClampNeg s0 → (Q 0 M_9))))
def w_L_setCareful (M : Mem) (a1 : Int32) (a2 : Int32) (Q : Int32 → Mem → Prop) : Prop :=
  (mE M 4 0 = true ∧ (w_X4_setCareful M a1 a2 (fun (r_5 : Int32) (M_3 : Mem) => ((r_5 = 0 → (b_L_setCareful_16 Q M_3 0 0)) ∧ (¬ r_5 = 0 → (b_L_setCareful_16 Q M_3 1 0)))) (fun (k : Nat) (M_2 : Mem) => (k = 1 ∧ (Q 1 M_2)))))
def b_X5_setCareful_14 (Q : Int32 → Mem → Prop) (M : Mem) (x1 : Int32) (x2 : Int32) (s0 : Int32) : Prop :=
  (mE M 5 0 = true ∧ (w_X5_fits M s0 (fun (r_11 : Int32) (M_9 : Mem) => ((r_11 = 0 → (Q 0 M_9)) ∧ (¬ r_11 = 0 → (mE M_9 5 0 = true ∧ (mF M_9 5 0 6 = true ∧ (mE M_9 36 0 = true ∧ ((vp_in x1 6) ∧ (∀ v_17 : Int32, v_17 = (mI M_9 36 0 x1.toNatClampNeg) → ((vp_in x1 6) ∧ ((x2 = 0 ∨ x2 = 1) ∧ (∀ M_19 : Mem, M_19 = wI M_9 36 0 x1.toNatClampNeg x2 → ((v_17 = x2 → (Q 0 M_19)) ∧ (¬ v_17 = x2 → (Q 1 M_19))))))))))))))))
def w_X5_setCareful (M : Mem) (a1 : Int32) (a2 : Int32) (Q : Int32 → Mem → Prop) : Prop :=
  (mE M 5 0 = true ∧ (w_X5_isPeer M a1 (fun (r_5 : Int32) (M_3 : Mem) => ((r_5 = 0 → (b_X5_setCareful_14 Q M_3 a1 a2 1)) ∧ (¬ r_5 = 0 → (b_X5_setCareful_14 Q M_3 a1 a2 0))))))
def w_X4_isIn (M : Mem) (a0 : Int64) (a2 : Int32) (Q : Int32 → Mem → Prop) : Prop :=
  (((lg_cmp ((a0 >>> (a2.toInt64 &&& 63)) &&& 1) 0) = 0 → (Q 0 M)) ∧ (¬ (lg_cmp ((a0 >>> (a2.toInt64 &&& 63)) &&& 1) 0) = 0 → (Q 1 M)))
def b_X4_spoil_30 (Q : Int32 → Mem → Prop) (X : Nat → Mem → Prop) (M : Mem) (x2 : Int32) (x4 : Nat) (s0 : Int32) : Prop :=
  ((s0 = 0 → ((s0 = 0 ∨ s0 = 1) ∧ (Q s0 M))) ∧ (¬ s0 = 0 → (mE M 2 x4 = true ∧ (∀ M_19 : Mem, M_19 = wI M 2 x4 4 ((mI M 2 x4 4) ^^^ (1 <<< (x2 &&& 31))) → ((s0 = 0 ∨ s0 = 1) ∧ (Q s0 M_19))))))
def w_X4_spoil (M : Mem) (a1 : Int32) (a2 : Int32) (a3 : Int32) (Q : Int32 → Mem → Prop) (X : Nat → Mem → Prop) : Prop :=
  (mE M 4 0 = true ∧ (w_X4_known M a1 (fun (r_5 : Nat) (M_3 : Mem) => (w_X4_checkPiece M_3 a2 (fun (M_7 : Mem) => (mE M_7 2 r_5 = true ∧ (w_X4_isIn M_7 ((mI M_7 2 r_5 4).toInt64) a2 (fun (r_14 : Int32) (M_12 : Mem) => ((r_14 = a3 → (b_X4_spoil_30 Q X M_12 a2 r_5 0)) ∧ (¬ r_14 = a3 → (b_X4_spoil_30 Q X M_12 a2 r_5 1))))))) X)) X))
def b_L_spoil_18 (Q : Int32 → Mem → Prop) (M : Mem) (s0 : Int64) (s1 : Int32) : Prop :=
  (mE M 60 0 = true ∧ ((vp_in s1 1) ∧ (∀ M_9 : Mem, M_9 = wL M 60 0 s1.toNatClampNeg s0 → (Q 0 M_9))))
def w_L_spoil (M : Mem) (a1 : Int32) (a2 : Int32) (a3 : Int32) (Q : Int32 → Mem → Prop) : Prop :=
  (mE M 4 0 = true ∧ (w_X4_spoil M a1 a2 a3 (fun (r_5 : Int32) (M_3 : Mem) => ((r_5 = 0 → (b_L_spoil_18 Q M_3 0 0)) ∧ (¬ r_5 = 0 → (b_L_spoil_18 Q M_3 1 0)))) (fun (k : Nat) (M_2 : Mem) => (k = 1 ∧ (Q 1 M_2)))))
def w_X5_has (M : Mem) (a0 : Int32) (a1 : Int32) (Q : Int32 → Mem → Prop) : Prop :=
  ((((a0 >>> (a1 &&& 31)) &&& 1) = 1 → (Q 1 M)) ∧ (¬ ((a0 >>> (a1 &&& 31)) &&& 1) = 1 → (Q 0 M)))
def b_X5_spoil_69 (Q : Int32 → Mem → Prop) (M : Mem) (x3 : Int32) (x4 : Int32) (s0 : Int32) (s1 : Int32) (s2 : Int32) : Prop :=
  (mE M 38 0 = true ∧ ((vp_in s2 6) ∧ (∀ M_28 : Mem, M_28 = wI M 38 0 s2.toNatClampNeg (s1 ||| s0) → ((x4 = x3 → (Q 0 M_28)) ∧ (¬ x4 = x3 → (Q 1 M_28))))))
def b_X5_spoil_21 (Q : Int32 → Mem → Prop) (M : Mem) (x1 : Int32) (x2 : Int32) (x3 : Int32) (s0 : Int32) : Prop :=
  (mE M 5 0 = true ∧ (w_X5_fits M s0 (fun (r_11 : Int32) (M_9 : Mem) => ((r_11 = 0 → (Q 0 M_9)) ∧ (¬ r_11 = 0 → (mE M_9 5 0 = true ∧ (mF M_9 5 0 8 = true ∧ (mE M_9 38 0 = true ∧ ((vp_in x1 6) ∧ (w_X5_has M_9 (mI M_9 38 0 x1.toNatClampNeg) x2 (fun (r_20 : Int32) (M_18 : Mem) => (mE M_18 5 0 = true ∧ (mF M_18 5 0 8 = true ∧ (mE M_18 38 0 = true ∧ ((vp_in x1 6) ∧ ((x3 = 0 → (b_X5_spoil_69 Q M_18 x3 r_20 0 ((mI M_18 38 0 x1.toNatClampNeg) &&& ((1 <<< (x2 &&& 31)) ^^^ (-1))) x1)) ∧ (¬ x3 = 0 → (b_X5_spoil_69 Q M_18 x3 r_20 (1 <<< (x2 &&& 31)) ((mI M_18 38 0 x1.toNatClampNeg) &&& ((1 <<< (x2 &&& 31)) ^^^ (-1))) x1))))))))))))))))))
def b_X5_spoil_20 (Q : Int32 → Mem → Prop) (M : Mem) (x1 : Int32) (x2 : Int32) (x3 : Int32) : Prop :=
  (b_X5_spoil_21 Q M x1 x2 x3 1)
def w_X5_spoil (M : Mem) (a1 : Int32) (a2 : Int32) (a3 : Int32) (Q : Int32 → Mem → Prop) : Prop :=
  (mE M 5 0 = true ∧ (w_X5_isPeer M a1 (fun (r_5 : Int32) (M_3 : Mem) => ((r_5 = 0 → (b_X5_spoil_20 Q M_3 a1 a2 a3)) ∧ (¬ r_5 = 0 → (w_X5_isPiece M_3 a2 (fun (r_33 : Int32) (M_31 : Mem) => ((r_33 = 0 → (b_X5_spoil_20 Q M_31 a1 a2 a3)) ∧ (¬ r_33 = 0 → (b_X5_spoil_21 Q M_31 a1 a2 a3 0))))))))))
def b_X4_countHolders_51 (k14 : Mem → Int32 → Int32 → Int32 → Int32 → Prop) (Q : Int32 → Mem → Prop) (M : Mem) (x1 : Int32) (x2 : Int32) (x4 : Int32) (x5 : Int32) : Prop :=
  (∀ v_16 : Int32, v_16 = x5 + 1 → (k14 M x1 x2 x4 v_16))
def b_X4_countHolders_14 (Q : Int32 → Mem → Prop) (k14 : Mem → Int32 → Int32 → Int32 → Int32 → Prop) (M : Mem) (x1 : Int32) (x2 : Int32) (x4 : Int32) (x5 : Int32) : Prop :=
  ((x4 ≤ x5 → (Q x2 M)) ∧ (¬ x4 ≤ x5 → (mE M 10 0 = true ∧ ((vp_in x5 6) ∧ ((mF M 10 0 x5.toNatClampNeg = true → (mE M 2 x5.toNatClampNeg = true ∧ (mF M 2 x5.toNatClampNeg 1 = true ∧ (mE M 3 x5.toNatClampNeg = true ∧ (w_X4_isIn M ((mI M 3 x5.toNatClampNeg 0).toInt64) x1 (fun (r_14 : Int32) (M_12 : Mem) => ((r_14 = 0 → (b_X4_countHolders_51 k14 Q M_12 x1 x2 x4 x5)) ∧ (¬ r_14 = 0 → (∀ v_17 : Int32, v_17 = x2 + 1 → (b_X4_countHolders_51 k14 Q M_12 x1 v_17 x4 x5)))))))))) ∧ (mF M 10 0 x5.toNatClampNeg = false → (b_X4_countHolders_51 k14 Q M x1 x2 x4 x5)))))))
def l_X4_countHolders_14 (Q : Int32 → Mem → Prop) (n : Nat) : Mem → Int32 → Int32 → Int32 → Int32 → Prop :=
  Nat.rec (motive := fun _ => Mem → Int32 → Int32 → Int32 → Int32 → Prop) (fun _ _ _ _ _ => False) (fun _ k => b_X4_countHolders_14 Q k) n
def w_X4_countHolders (M : Mem) (a1 : Int32) (Q : Int32 → Mem → Prop) : Prop :=
  (mE M 4 0 = true ∧ (mF M 4 0 0 = true ∧ (mE M 10 0 = true ∧ (∃ n : Nat, l_X4_countHolders_14 Q n M a1 0 6 0))))
def w_X0_clear (M : Mem) (t : Nat) (Q : Mem → Prop) : Prop :=
  (mE M 0 t = true ∧ (∀ M_2 : Mem, M_2 = wI M 0 t 2 0 → (∀ M_3 : Mem, M_3 = wL M_2 0 t 3 0 → (Q M_3))))
def b_X4_wantedPieces_28 (k4 : Mem → Int32 → Int32 → Prop) (Q : Int32 → Mem → Prop) (M : Mem) (x1 : Int32) (x2 : Int32) : Prop :=
  (∀ v_7 : Int32, v_7 = x2 + 1 → (k4 M x1 v_7))
def b_X4_wantedPieces_4 (Q : Int32 → Mem → Prop) (k4 : Mem → Int32 → Int32 → Prop) (M : Mem) (x1 : Int32) (x2 : Int32) : Prop :=
  (mE M 4 0 = true ∧ (mF M 4 0 1 = true ∧ (mE M 11 0 = true ∧ (((12 : Int32) ≤ x2 → (Q x1 M)) ∧ (¬ (12 : Int32) ≤ x2 → ((vp_in x2 12) ∧ (((mI M 11 0 x2.toNatClampNeg) ≤ 0 → (b_X4_wantedPieces_28 k4 Q M x1 x2)) ∧ (¬ (mI M 11 0 x2.toNatClampNeg) ≤ 0 → (∀ v_8 : Int32, v_8 = (x1 ||| (1 <<< (x2 &&& 31))) → (b_X4_wantedPieces_28 k4 Q M v_8 x2))))))))))
def l_X4_wantedPieces_4 (Q : Int32 → Mem → Prop) (n : Nat) : Mem → Int32 → Int32 → Prop :=
  Nat.rec (motive := fun _ => Mem → Int32 → Int32 → Prop) (fun _ _ _ => False) (fun _ k => b_X4_wantedPieces_4 Q k) n
def w_X4_wantedPieces (M : Mem) (Q : Int32 → Mem → Prop) : Prop :=
  (∃ n : Nat, l_X4_wantedPieces_4 Q n M 0 0)
def b_X4_findRarest_61 (k8 : Mem → Int32 → Int32 → Int32 → Int32 → Int32 → Prop) (Q : Int32 → Mem → Prop) (M : Mem) (x1 : Int32) (x2 : Int32) (x3 : Int32) (x4 : Int32) (x5 : Int32) : Prop :=
  (∀ v_8 : Int32, v_8 = x5 + 1 → (k8 M x1 x2 x3 x4 v_8))
def b_X4_findRarest_54 (k8 : Mem → Int32 → Int32 → Int32 → Int32 → Int32 → Prop) (Q : Int32 → Mem → Prop) (M : Mem) (x1 : Int32) (x2 : Int32) (x5 : Int32) (x6 : Int32) (x7 : Int32) : Prop :=
  (b_X4_findRarest_61 k8 Q M x1 x2 x6 x7 x5)
def b_X4_findRarest_8 (Q : Int32 → Mem → Prop) (k8 : Mem → Int32 → Int32 → Int32 → Int32 → Int32 → Prop) (M : Mem) (x1 : Int32) (x2 : Int32) (x3 : Int32) (x4 : Int32) (x5 : Int32) : Prop :=
  (((12 : Int32) ≤ x5 → (Q x3 M)) ∧ (¬ (12 : Int32) ≤ x5 → (∀ v_2 : Int32, v_2 = ((x2 + x5) - (x2 + x5) / 12 * 12) → (w_X4_isIn M x1.toInt64 v_2 (fun (r_6 : Int32) (M_4 : Mem) => ((r_6 = 0 → (b_X4_findRarest_61 k8 Q M_4 x1 x2 x3 x4 x5)) ∧ (¬ r_6 = 0 → (mE M_4 4 0 = true ∧ (w_X4_countHolders M_4 v_2 (fun (r_13 : Int32) (M_11 : Mem) => ((x3 = (-1) → (b_X4_findRarest_54 k8 Q M_11 x1 x2 x5 v_2 r_13)) ∧ (¬ x3 = (-1) → ((x4 ≤ r_13 → (b_X4_findRarest_61 k8 Q M_11 x1 x2 x3 x4 x5)) ∧ (¬ x4 ≤ r_13 → (b_X4_findRarest_54 k8 Q M_11 x1 x2 x5 v_2 r_13)))))))))))))))
def l_X4_findRarest_8 (Q : Int32 → Mem → Prop) (n : Nat) : Mem → Int32 → Int32 → Int32 → Int32 → Int32 → Prop :=
  Nat.rec (motive := fun _ => Mem → Int32 → Int32 → Int32 → Int32 → Int32 → Prop) (fun _ _ _ _ _ _ => False) (fun _ k => b_X4_findRarest_8 Q k) n
def w_X4_findRarest (M : Mem) (a1 : Int32) (a2 : Int32) (Q : Int32 → Mem → Prop) : Prop :=
  (∃ n : Nat, l_X4_findRarest_8 Q n M a1 a2 (-1) 0 0)
def w_X4_findShown (M : Mem) (a1 : Nat) (a2 : Nat) (Q : Int32 → Mem → Prop) : Prop :=
  (mE M 2 a1 = true ∧ (mE M 2 a2 = true ∧ ((a1 = a2 → (Q 0 M)) ∧ (¬ a1 = a2 → (((mI M 2 a1 6) = 0 → (mF M 2 a1 1 = true ∧ (mE M 3 a1 = true ∧ (Q (mI M 3 a1 0) M)))) ∧ (¬ (mI M 2 a1 6) = 0 → (mF M 2 a1 1 = true ∧ (mE M 3 a1 = true ∧ (mF M 2 a2 1 = true ∧ (mE M 3 a2 = true ∧ (mE M 4 0 = true ∧ (w_X4_findRarest M ((mI M 3 a1 0) &&& ((mI M 3 a2 0) ^^^ (-1))) (mI M 2 a2 0) (fun (r_13 : Int32) (M_11 : Mem) => ((r_13 = (-1) → (Q 0 M_11)) ∧ (¬ r_13 = (-1) → (Q (1 <<< (r_13 &&& 31)) M_11))))))))))))))))
def b_X4_findInterested_95 (k21 : Mem → Nat → Int32 → Int32 → Int32 → Int32 → Prop) (Q : Int32 → Mem → Prop) (M : Mem) (x1 : Nat) (x2 : Int32) (x3 : Int32) (x5 : Int32) (x6 : Int32) : Prop :=
  (∀ v_16 : Int32, v_16 = x6 + 1 → (k21 M x1 x2 x3 x5 v_16))
def b_X4_findInterested_21 (Q : Int32 → Mem → Prop) (k21 : Mem → Nat → Int32 → Int32 → Int32 → Int32 → Prop) (M : Mem) (x1 : Nat) (x2 : Int32) (x3 : Int32) (x5 : Int32) (x6 : Int32) : Prop :=
  ((x5 ≤ x6 → (Q x3 M)) ∧ (¬ x5 ≤ x6 → (mE M 10 0 = true ∧ ((vp_in x6 6) ∧ ((mF M 10 0 x6.toNatClampNeg = true → (mE M 2 x6.toNatClampNeg = true ∧ (mE M 2 x1 = true ∧ ((x6.toNatClampNeg = x1 → (b_X4_findInterested_95 k21 Q M x1 x2 x3 x5 x6)) ∧ (¬ x6.toNatClampNeg = x1 → (w_X4_isIn M ((mI M 2 x6.toNatClampNeg 10).toInt64) (mI M 2 x1 0) (fun (r_20 : Int32) (M_18 : Mem) => ((r_20 = 0 → (mE M_18 4 0 = true ∧ (w_X4_findShown M_18 x1 x6.toNatClampNeg (fun (r_26 : Int32) (M_24 : Mem) => (mE M_24 2 x6.toNatClampNeg = true ∧ (mF M_24 2 x6.toNatClampNeg 1 = true ∧ (mE M_24 3 x6.toNatClampNeg = true ∧ ((((r_26 &&& x2) &&& ((mI M_24 3 x6.toNatClampNeg 0) ^^^ (-1))) = 0 → (b_X4_findInterested_95 k21 Q M_24 x1 x2 x3 x5 x6)) ∧ (¬ ((r_26 &&& x2) &&& ((mI M_24 3 x6.toNatClampNeg 0) ^^^ (-1))) = 0 → (∀ v_31 : Int32, v_31 = (x3 ||| (1 <<< ((mI M_24 2 x6.toNatClampNeg 0) &&& 31))) → (b_X4_findInterested_95 k21 Q M_24 x1 x2 v_31 x5 x6))))))))))) ∧ (¬ r_20 = 0 → (b_X4_findInterested_95 k21 Q M_18 x1 x2 x3 x5 x6)))))))))) ∧ (mF M 10 0 x6.toNatClampNeg = false → (b_X4_findInterested_95 k21 Q M x1 x2 x3 x5 x6)))))))
def l_X4_findInterested_21 (Q : Int32 → Mem → Prop) (n : Nat) : Mem → Nat → Int32 → Int32 → Int32 → Int32 → Prop :=
  Nat.rec (motive := fun _ => Mem → Nat → Int32 → Int32 → Int32 → Int32 → Prop) (fun _ _ _ _ _ _ => False) (fun _ k => b_X4_findInterested_21 Q k) n
def w_X4_findInterested (M : Mem) (a1 : Nat) (Q : Int32 → Mem → Prop) : Prop :=
  (mE M 4 0 = true ∧ (w_X4_wantedPieces M (fun (r_5 : Int32) (M_3 : Mem) => (mE M_3 4 0 = true ∧ (mF M_3 4 0 0 = true ∧ (mE M_3 10 0 = true ∧ (∃ n : Nat, l_X4_findInterested_21 Q n M_3 a1 r_5 0 6 0)))))))
def b_X4_findBestGiver_54 (k7 : Mem → Nat → Int32 → Int32 → Int32 → Int32 → Prop) (Q : Int32 → Mem → Prop) (M : Mem) (x0 : Nat) (x1 : Int32) (x2 : Int32) (x3 : Int32) (x4 : Int32) : Prop :=
  (∀ v_10 : Int32, v_10 = x4 + 1 → (k7 M x0 x1 x2 x3 v_10))
def b_X4_findBestGiver_43 (k7 : Mem → Nat → Int32 → Int32 → Int32 → Int32 → Prop) (Q : Int32 → Mem → Prop) (M : Mem) (x0 : Nat) (x1 : Int32) (x4 : Int32) : Prop :=
  (mE M 2 x0 = true ∧ (mF M 2 x0 8 = true ∧ (mE M 24 x0 = true ∧ ((vp_in x4 6) ∧ (∀ v_16 : Int32, v_16 = (mI M 24 x0 x4.toNatClampNeg) → (b_X4_findBestGiver_54 k7 Q M x0 x1 x4 v_16 x4))))))
def b_X4_findBestGiver_7 (Q : Int32 → Mem → Prop) (k7 : Mem → Nat → Int32 → Int32 → Int32 → Int32 → Prop) (M : Mem) (x0 : Nat) (x1 : Int32) (x2 : Int32) (x3 : Int32) (x4 : Int32) : Prop :=
  (mE M 2 x0 = true ∧ (mF M 2 x0 8 = true ∧ (mE M 24 x0 = true ∧ (((6 : Int32) ≤ x4 → (Q x2 M)) ∧ (¬ (6 : Int32) ≤ x4 → (w_X4_isIn M x1.toInt64 x4 (fun (r_8 : Int32) (M_6 : Mem) => ((r_8 = 0 → (b_X4_findBestGiver_54 k7 Q M_6 x0 x1 x2 x3 x4)) ∧ (¬ r_8 = 0 → ((x2 = (-1) → (b_X4_findBestGiver_43 k7 Q M_6 x0 x1 x4)) ∧ (¬ x2 = (-1) → (mE M_6 2 x0 = true ∧ (mF M_6 2 x0 8 = true ∧ (mE M_6 24 x0 = true ∧ ((vp_in x4 6) ∧ (((mI M_6 24 x0 x4.toNatClampNeg) ≤ x3 → (b_X4_findBestGiver_54 k7 Q M_6 x0 x1 x2 x3 x4)) ∧ (¬ (mI M_6 24 x0 x4.toNatClampNeg) ≤ x3 → (b_X4_findBestGiver_43 k7 Q M_6 x0 x1 x4))))))))))))))))))
def l_X4_findBestGiver_7 (Q : Int32 → Mem → Prop) (n : Nat) : Mem → Nat → Int32 → Int32 → Int32 → Int32 → Prop :=
  Nat.rec (motive := fun _ => Mem → Nat → Int32 → Int32 → Int32 → Int32 → Prop) (fun _ _ _ _ _ _ => False) (fun _ k => b_X4_findBestGiver_7 Q k) n
def w_X4_findBestGiver (M : Mem) (a0 : Nat) (a1 : Int32) (Q : Int32 → Mem → Prop) : Prop :=
  (∃ n : Nat, l_X4_findBestGiver_7 Q n M a0 a1 (-1) 0 0)
def w_X4_single (M : Mem) (a0 : Int32) (Q : Int32 → Mem → Prop) : Prop :=
  ((a0 = (-1) → (Q 0 M)) ∧ (¬ a0 = (-1) → (Q (1 <<< (a0 &&& 31)) M)))
def b_X4_findNextInTurn_2 (Q : Int32 → Mem → Prop) (k2 : Mem → Int32 → Int32 → Prop) (M : Mem) (x1 : Int32) (x2 : Int32) : Prop :=
  (((6 : Int32) ≤ x2 → (Q (-1) M)) ∧ (¬ (6 : Int32) ≤ x2 → (mE M 4 0 = true ∧ (∀ v_3 : Int32, v_3 = (((mI M 4 0 4) + x2) - ((mI M 4 0 4) + x2) / 6 * 6) → (w_X4_isIn M x1.toInt64 v_3 (fun (r_7 : Int32) (M_5 : Mem) => ((r_7 = 0 → (∀ v_9 : Int32, v_9 = x2 + 1 → (k2 M_5 x1 v_9))) ∧ (¬ r_7 = 0 → (Q v_3 M_5)))))))))
def l_X4_findNextInTurn_2 (Q : Int32 → Mem → Prop) (n : Nat) : Mem → Int32 → Int32 → Prop :=
  Nat.rec (motive := fun _ => Mem → Int32 → Int32 → Prop) (fun _ _ _ => False) (fun _ k => b_X4_findNextInTurn_2 Q k) n
def w_X4_findNextInTurn (M : Mem) (a1 : Int32) (Q : Int32 → Mem → Prop) : Prop :=
  (∃ n : Nat, l_X4_findNextInTurn_2 Q n M a1 0)
def b_X4_findChosen_11 (Q : Int32 → Mem → Prop) (k11 : Mem → Nat → Int32 → Int32 → Int32 → Prop) (M : Mem) (x1 : Nat) (x2 : Int32) (x3 : Int32) (x4 : Int32) : Prop :=
  (((2 : Int32) ≤ x4 → (mE M 4 0 = true ∧ (w_X4_findNextInTurn M x2 (fun (r_11 : Int32) (M_9 : Mem) => (w_X4_single M_9 r_11 (fun (r_15 : Int32) (M_13 : Mem) => (Q (x3 ||| r_15) M_13))))))) ∧ (¬ (2 : Int32) ≤ x4 → (w_X4_findBestGiver M x1 x2 (fun (r_19 : Int32) (M_17 : Mem) => (w_X4_single M_17 r_19 (fun (r_23 : Int32) (M_21 : Mem) => (∀ v_24 : Int32, v_24 = (x3 ||| r_23) → (w_X4_single M_21 r_19 (fun (r_28 : Int32) (M_26 : Mem) => (∀ v_29 : Int32, v_29 = (x2 &&& (r_28 ^^^ (-1))) → (∀ v_30 : Int32, v_30 = x4 + 1 → (k11 M_26 x1 v_29 v_24 v_30))))))))))))
def l_X4_findChosen_11 (Q : Int32 → Mem → Prop) (n : Nat) : Mem → Nat → Int32 → Int32 → Int32 → Prop :=
  Nat.rec (motive := fun _ => Mem → Nat → Int32 → Int32 → Int32 → Prop) (fun _ _ _ _ _ => False) (fun _ k => b_X4_findChosen_11 Q k) n
def w_X4_findChosen (M : Mem) (a1 : Nat) (Q : Int32 → Mem → Prop) : Prop :=
  (mE M 4 0 = true ∧ (w_X4_findInterested M a1 (fun (r_5 : Int32) (M_3 : Mem) => (∃ n : Nat, l_X4_findChosen_11 Q n M_3 a1 r_5 0 0))))
def b_X4_beginShowing_45 (k11 : Mem → Nat → Int32 → Int32 → Prop) (Q : Mem → Prop) (M : Mem) (x1 : Nat) (x3 : Int32) (x4 : Int32) : Prop :=
  (∀ v_19 : Int32, v_19 = x4 + 1 → (k11 M x1 x3 v_19))
def b_X4_beginShowing_11 (Q : Mem → Prop) (k11 : Mem → Nat → Int32 → Int32 → Prop) (M : Mem) (x1 : Nat) (x3 : Int32) (x4 : Int32) : Prop :=
  ((x3 ≤ x4 → (Q M)) ∧ (¬ x3 ≤ x4 → (mE M 10 0 = true ∧ ((vp_in x4 6) ∧ ((mF M 10 0 x4.toNatClampNeg = true → (mE M 2 x1 = true ∧ (mF M 2 x1 12 = true ∧ (mE M 2 x4.toNatClampNeg = true ∧ (mE M 4 0 = true ∧ (w_X4_findShown M x1 x4.toNatClampNeg (fun (r_15 : Int32) (M_13 : Mem) => (mE M_13 26 x1 = true ∧ ((vp_in (mI M 2 x4.toNatClampNeg 0) 6) ∧ (∀ M_18 : Mem, M_18 = wI M_13 26 x1 ((mI M 2 x4.toNatClampNeg 0).toNatClampNeg) r_15 → (b_X4_beginShowing_45 k11 Q M_18 x1 x3 x4))))))))))) ∧ (mF M 10 0 x4.toNatClampNeg = false → (b_X4_beginShowing_45 k11 Q M x1 x3 x4)))))))
def l_X4_beginShowing_11 (Q : Mem → Prop) (n : Nat) : Mem → Nat → Int32 → Int32 → Prop :=
  Nat.rec (motive := fun _ => Mem → Nat → Int32 → Int32 → Prop) (fun _ _ _ _ => False) (fun _ k => b_X4_beginShowing_11 Q k) n
def w_X4_beginShowing (M : Mem) (a1 : Nat) (Q : Mem → Prop) : Prop :=
  (mE M 4 0 = true ∧ (mF M 4 0 0 = true ∧ (mE M 10 0 = true ∧ (∃ n : Nat, l_X4_beginShowing_11 Q n M a1 6 0))))
def b_X4_begin_78 (k38 : Mem → Int32 → Int32 → Prop) (Q : Mem → Prop) (M : Mem) (x2 : Int32) (x3 : Int32) : Prop :=
  (∀ v_30 : Int32, v_30 = x3 + 1 → (k38 M x2 v_30))
def b_X4_begin_38 (Q : Mem → Prop) (k38 : Mem → Int32 → Int32 → Prop) (M : Mem) (x2 : Int32) (x3 : Int32) : Prop :=
  ((x2 ≤ x3 → (Q M)) ∧ (¬ x2 ≤ x3 → (mE M 10 0 = true ∧ ((vp_in x3 6) ∧ ((mF M 10 0 x3.toNatClampNeg = true → (mE M 2 x3.toNatClampNeg = true ∧ (mF M 2 x3.toNatClampNeg 3 = true ∧ (mE M 0 x3.toNatClampNeg = true ∧ (w_X0_clear M x3.toNatClampNeg (fun (M_15 : Mem) => (mE M_15 4 0 = true ∧ (w_X4_findChosen M_15 x3.toNatClampNeg (fun (r_22 : Int32) (M_20 : Mem) => (mE M_20 2 x3.toNatClampNeg = true ∧ (∀ M_24 : Mem, M_24 = wI M_20 2 x3.toNatClampNeg 13 r_22 → (mE M_24 4 0 = true ∧ (w_X4_beginShowing M_24 x3.toNatClampNeg (fun (M_27 : Mem) => (b_X4_begin_78 k38 Q M_27 x2 x3))))))))))))))) ∧ (mF M 10 0 x3.toNatClampNeg = false → (b_X4_begin_78 k38 Q M x2 x3)))))))
def l_X4_begin_38 (Q : Mem → Prop) (n : Nat) : Mem → Int32 → Int32 → Prop :=
  Nat.rec (motive := fun _ => Mem → Int32 → Int32 → Prop) (fun _ _ _ => False) (fun _ k => b_X4_begin_38 Q k) n
def b_X4_begin_2 (Q : Mem → Prop) (k2 : Mem → Int32 → Prop) (M : Mem) (x1 : Int32) : Prop :=
  (mE M 4 0 = true ∧ (mF M 4 0 2 = true ∧ (mE M 12 0 = true ∧ (((12 : Int32) ≤ x1 → (mF M 4 0 0 = true ∧ (mE M 10 0 = true ∧ (∃ n : Nat, l_X4_begin_38 Q n M 6 0)))) ∧ (¬ (12 : Int32) ≤ x1 → (w_X4_countHolders M x1 (fun (r_34 : Int32) (M_32 : Mem) => (mE M_32 12 0 = true ∧ ((vp_in x1 12) ∧ (∀ M_37 : Mem, M_37 = wI M_32 12 0 x1.toNatClampNeg r_34 → (∀ v_38 : Int32, v_38 = x1 + 1 → (k2 M_37 v_38))))))))))))
def l_X4_begin_2 (Q : Mem → Prop) (n : Nat) : Mem → Int32 → Prop :=
  Nat.rec (motive := fun _ => Mem → Int32 → Prop) (fun _ _ => False) (fun _ k => b_X4_begin_2 Q k) n
def w_X4_begin (M : Mem) (Q : Mem → Prop) : Prop :=
  (∃ n : Nat, l_X4_begin_2 Q n M 0)
def w_X4_blocksOfPiece (M : Mem) (a0 : Int32) (Q : Int64 → Mem → Prop) : Prop :=
  (Q (15 <<< ((a0 * 4).toInt64 &&& 63)) M)
def b_X4_blocksOf_26 (k4 : Mem → Int32 → Int64 → Int32 → Prop) (Q : Int64 → Mem → Prop) (M : Mem) (x0 : Int32) (x1 : Int64) (x3 : Int32) : Prop :=
  (∀ v_7 : Int32, v_7 = x3 + 1 → (k4 M x0 x1 v_7))
def b_X4_blocksOf_4 (Q : Int64 → Mem → Prop) (k4 : Mem → Int32 → Int64 → Int32 → Prop) (M : Mem) (x0 : Int32) (x1 : Int64) (x3 : Int32) : Prop :=
  (((12 : Int32) ≤ x3 → (Q x1 M)) ∧ (¬ (12 : Int32) ≤ x3 → (w_X4_isIn M x0.toInt64 x3 (fun (r_5 : Int32) (M_3 : Mem) => ((r_5 = 0 → (b_X4_blocksOf_26 k4 Q M_3 x0 x1 x3)) ∧ (¬ r_5 = 0 → (w_X4_blocksOfPiece M_3 x3 (fun (r_11 : Int64) (M_9 : Mem) => (∀ v_12 : Int64, v_12 = (x1 ||| r_11) → (b_X4_blocksOf_26 k4 Q M_9 x0 v_12 x3))))))))))
def l_X4_blocksOf_4 (Q : Int64 → Mem → Prop) (n : Nat) : Mem → Int32 → Int64 → Int32 → Prop :=
  Nat.rec (motive := fun _ => Mem → Int32 → Int64 → Int32 → Prop) (fun _ _ _ _ => False) (fun _ k => b_X4_blocksOf_4 Q k) n
def w_X4_blocksOf (M : Mem) (a0 : Int32) (Q : Int64 → Mem → Prop) : Prop :=
  (∃ n : Nat, l_X4_blocksOf_4 Q n M a0 0 0)
def w_X4_isBegun (M : Mem) (a0 : Nat) (a1 : Int32) (Q : Int32 → Mem → Prop) : Prop :=
  (mE M 2 a0 = true ∧ (mF M 2 a0 1 = true ∧ (mE M 3 a0 = true ∧ (mF M 2 a0 3 = true ∧ (mE M 0 a0 = true ∧ (w_X4_blocksOfPiece M a1 (fun (r_9 : Int64) (M_7 : Mem) => (((lg_cmp (((mL M 3 a0 1) ||| (mL M 0 a0 3)) &&& r_9) 0) = 0 → (Q 0 M_7)) ∧ (¬ (lg_cmp (((mL M 3 a0 1) ||| (mL M 0 a0 3)) &&& r_9) 0) = 0 → (Q 1 M_7))))))))))
def b_X4_isBetter_99 (Q : Int32 → Mem → Prop) (M : Mem) (x2 : Int32) (x3 : Int32) : Prop :=
  ((x3 ≤ x2 → (Q 0 M)) ∧ (¬ x3 ≤ x2 → (Q 1 M)))
def w_X4_isBetter (M : Mem) (a1 : Nat) (a2 : Int32) (a3 : Int32) (Q : Int32 → Mem → Prop) : Prop :=
  (w_X4_isBegun M a1 a2 (fun (r_4 : Int32) (M_2 : Mem) => (w_X4_isBegun M_2 a1 a3 (fun (r_8 : Int32) (M_6 : Mem) => ((r_4 = r_8 → (mE M_6 4 0 = true ∧ (mF M_6 4 0 1 = true ∧ (mE M_6 11 0 = true ∧ ((vp_in a2 12) ∧ ((vp_in a3 12) ∧ (((mI M_6 11 0 a2.toNatClampNeg) = (mI M_6 11 0 a3.toNatClampNeg) → (mE M_6 2 a1 = true ∧ (((mI M_6 2 a1 5) = 0 → (mF M_6 4 0 2 = true ∧ (mE M_6 12 0 = true ∧ ((vp_in a2 12) ∧ ((vp_in a3 12) ∧ (((mI M_6 12 0 a2.toNatClampNeg) = (mI M_6 12 0 a3.toNatClampNeg) → (b_X4_isBetter_99 Q M_6 a2 a3)) ∧ (¬ (mI M_6 12 0 a2.toNatClampNeg) = (mI M_6 12 0 a3.toNatClampNeg) → ((vp_in a2 12) ∧ ((vp_in a3 12) ∧ (((mI M_6 12 0 a3.toNatClampNeg) ≤ (mI M_6 12 0 a2.toNatClampNeg) → (Q 0 M_6)) ∧ (¬ (mI M_6 12 0 a3.toNatClampNeg) ≤ (mI M_6 12 0 a2.toNatClampNeg) → (Q 1 M_6)))))))))))) ∧ (¬ (mI M_6 2 a1 5) = 0 → (b_X4_isBetter_99 Q M_6 a2 a3))))) ∧ (¬ (mI M_6 11 0 a2.toNatClampNeg) = (mI M_6 11 0 a3.toNatClampNeg) → ((vp_in a2 12) ∧ ((vp_in a3 12) ∧ (((mI M_6 11 0 a2.toNatClampNeg) ≤ (mI M_6 11 0 a3.toNatClampNeg) → (Q 0 M_6)) ∧ (¬ (mI M_6 11 0 a2.toNatClampNeg) ≤ (mI M_6 11 0 a3.toNatClampNeg) → (Q 1 M_6))))))))))))) ∧ (¬ r_4 = r_8 → ((r_4 = 0 ∨ r_4 = 1) ∧ (Q r_4 M_6))))))))
def b_X4_findBestPiece_47 (k6 : Mem → Nat → Int64 → Int32 → Int32 → Prop) (Q : Int32 → Mem → Prop) (M : Mem) (x1 : Nat) (x2 : Int64) (x4 : Int32) (x5 : Int32) : Prop :=
  (∀ v_7 : Int32, v_7 = x5 + 1 → (k6 M x1 x2 x4 v_7))
def b_X4_findBestPiece_43 (k6 : Mem → Nat → Int64 → Int32 → Int32 → Prop) (Q : Int32 → Mem → Prop) (M : Mem) (x1 : Nat) (x2 : Int64) (x5 : Int32) : Prop :=
  (b_X4_findBestPiece_47 k6 Q M x1 x2 x5 x5)
def b_X4_findBestPiece_6 (Q : Int32 → Mem → Prop) (k6 : Mem → Nat → Int64 → Int32 → Int32 → Prop) (M : Mem) (x1 : Nat) (x2 : Int64) (x4 : Int32) (x5 : Int32) : Prop :=
  (((12 : Int32) ≤ x5 → (Q x4 M)) ∧ (¬ (12 : Int32) ≤ x5 → (w_X4_blocksOfPiece M x5 (fun (r_5 : Int64) (M_3 : Mem) => (((lg_cmp (x2 &&& r_5) 0) = 0 → (b_X4_findBestPiece_47 k6 Q M_3 x1 x2 x4 x5)) ∧ (¬ (lg_cmp (x2 &&& r_5) 0) = 0 → ((x4 = (-1) → (b_X4_findBestPiece_43 k6 Q M_3 x1 x2 x5)) ∧ (¬ x4 = (-1) → (mE M_3 4 0 = true ∧ (w_X4_isBetter M_3 x1 x5 x4 (fun (r_13 : Int32) (M_11 : Mem) => ((r_13 = 0 → (b_X4_findBestPiece_47 k6 Q M_11 x1 x2 x4 x5)) ∧ (¬ r_13 = 0 → (b_X4_findBestPiece_43 k6 Q M_11 x1 x2 x5))))))))))))))
def l_X4_findBestPiece_6 (Q : Int32 → Mem → Prop) (n : Nat) : Mem → Nat → Int64 → Int32 → Int32 → Prop :=
  Nat.rec (motive := fun _ => Mem → Nat → Int64 → Int32 → Int32 → Prop) (fun _ _ _ _ _ => False) (fun _ k => b_X4_findBestPiece_6 Q k) n
def w_X4_findBestPiece (M : Mem) (a1 : Nat) (a2 : Int64) (Q : Int32 → Mem → Prop) : Prop :=
  (∃ n : Nat, l_X4_findBestPiece_6 Q n M a1 a2 (-1) 0)
def b_X4_findLowest_2 (Q : Int32 → Mem → Prop) (k2 : Mem → Int64 → Int32 → Prop) (M : Mem) (x0 : Int64) (x2 : Int32) : Prop :=
  (((48 : Int32) ≤ x2 → (Q (-1) M)) ∧ (¬ (48 : Int32) ≤ x2 → (w_X4_isIn M x0 x2 (fun (r_5 : Int32) (M_3 : Mem) => ((r_5 = 0 → (∀ v_7 : Int32, v_7 = x2 + 1 → (k2 M_3 x0 v_7))) ∧ (¬ r_5 = 0 → (Q x2 M_3)))))))
def l_X4_findLowest_2 (Q : Int32 → Mem → Prop) (n : Nat) : Mem → Int64 → Int32 → Prop :=
  Nat.rec (motive := fun _ => Mem → Int64 → Int32 → Prop) (fun _ _ _ => False) (fun _ k => b_X4_findLowest_2 Q k) n
def w_X4_findLowest (M : Mem) (a0 : Int64) (Q : Int32 → Mem → Prop) : Prop :=
  (∃ n : Nat, l_X4_findLowest_2 Q n M a0 0)
def w_X0_add (M : Mem) (t : Nat) (a1 : Int32) (a2 : Int32) (Q : Mem → Prop) : Prop :=
  ((a1 = (-1) → (Q M)) ∧ (¬ a1 = (-1) → (mE M 0 t = true ∧ (mF M 0 t 0 = true ∧ (mE M 20 t = true ∧ (((6 : Int32) ≤ (mI M 0 t 2) → (Q M)) ∧ (¬ (6 : Int32) ≤ (mI M 0 t 2) → ((vp_in (mI M 0 t 2) 6) ∧ (∀ M_7 : Mem, M_7 = wI M 20 t ((mI M 0 t 2).toNatClampNeg) a1 → (mF M_7 0 t 1 = true ∧ (mE M_7 21 t = true ∧ ((vp_in (mI M_7 0 t 2) 6) ∧ (∀ M_11 : Mem, M_11 = wI M_7 21 t ((mI M_7 0 t 2).toNatClampNeg) a2 → (∀ M_12 : Mem, M_12 = wI M_11 0 t 2 ((mI M_11 0 t 2) + 1) → (∀ M_13 : Mem, M_13 = wL M_12 0 t 3 ((mL M_12 0 t 3) ||| (1 <<< (a1.toInt64 &&& 63))) → (Q M_13))))))))))))))))
def w_X4_askOne (M : Mem) (a1 : Nat) (a2 : Nat) (a3 : Int64) (Q : Mem → Prop) : Prop :=
  (mE M 2 a2 = true ∧ (mF M 2 a2 12 = true ∧ (mE M 2 a1 = true ∧ (mE M 26 a2 = true ∧ ((vp_in (mI M 2 a1 0) 6) ∧ (w_X4_blocksOf M (mI M 26 a2 ((mI M 2 a1 0).toNatClampNeg)) (fun (r_9 : Int64) (M_7 : Mem) => (∀ v_10 : Int64, v_10 = (a3 &&& r_9) → (mE M_7 2 a1 = true ∧ (mF M_7 2 a1 3 = true ∧ (mE M_7 0 a1 = true ∧ (∀ v_14 : Int64, v_14 = (v_10 &&& ((mL M_7 0 a1 3) ^^^ (-1))) → (((lg_cmp v_14 0) = 0 → (((lg_cmp (a3 &&& ((mL M_7 0 a1 3) ^^^ (-1))) 0) = 0 → (((lg_cmp v_10 0) = 0 → (Q M_7)) ∧ (¬ (lg_cmp v_10 0) = 0 → (w_X4_findLowest M_7 v_10 (fun (r_21 : Int32) (M_19 : Mem) => (mE M_19 2 a2 = true ∧ (mE M_19 0 a1 = true ∧ (w_X0_add M_19 a1 r_21 (mI M_19 2 a2 0) (fun (M_25 : Mem) => (Q M_25)))))))))) ∧ (¬ (lg_cmp (a3 &&& ((mL M_7 0 a1 3) ^^^ (-1))) 0) = 0 → (Q M_7)))) ∧ (¬ (lg_cmp v_14 0) = 0 → (mE M_7 4 0 = true ∧ (w_X4_findBestPiece M_7 a1 v_14 (fun (r_32 : Int32) (M_30 : Mem) => (mE M_30 2 a1 = true ∧ (mF M_30 2 a1 3 = true ∧ (w_X4_blocksOfPiece M_30 r_32 (fun (r_38 : Int64) (M_36 : Mem) => (w_X4_findLowest M_36 (v_14 &&& r_38) (fun (r_42 : Int32) (M_40 : Mem) => (mE M_40 2 a2 = true ∧ (mE M_40 0 a1 = true ∧ (w_X0_add M_40 a1 r_42 (mI M_40 2 a2 0) (fun (M_46 : Mem) => (Q M_46))))))))))))))))))))))))))))
def b_X4_askOthers_84 (k41 : Mem → Nat → Int64 → Int32 → Int32 → Prop) (Q : Mem → Prop) (M : Mem) (x1 : Nat) (x3 : Int64) (x6 : Int32) (x7 : Int32) : Prop :=
  (∀ v_26 : Int32, v_26 = x7 + 1 → (k41 M x1 x3 x6 v_26))
def b_X4_askOthers_41 (Q : Mem → Prop) (k41 : Mem → Nat → Int64 → Int32 → Int32 → Prop) (M : Mem) (x1 : Nat) (x3 : Int64) (x6 : Int32) (x7 : Int32) : Prop :=
  ((x6 ≤ x7 → (Q M)) ∧ (¬ x6 ≤ x7 → (mE M 10 0 = true ∧ ((vp_in x7 6) ∧ ((mF M 10 0 x7.toNatClampNeg = true → (mE M 2 x7.toNatClampNeg = true ∧ (mE M 2 x1 = true ∧ (w_X4_isIn M ((mI M 2 x7.toNatClampNeg 13).toInt64) (mI M 2 x1 0) (fun (r_24 : Int32) (M_22 : Mem) => ((r_24 = 0 → (b_X4_askOthers_84 k41 Q M_22 x1 x3 x6 x7)) ∧ (¬ r_24 = 0 → (mE M_22 4 0 = true ∧ (w_X4_askOne M_22 x1 x7.toNatClampNeg x3 (fun (M_29 : Mem) => (b_X4_askOthers_84 k41 Q M_29 x1 x3 x6 x7))))))))))) ∧ (mF M 10 0 x7.toNatClampNeg = false → (b_X4_askOthers_84 k41 Q M x1 x3 x6 x7)))))))
def l_X4_askOthers_41 (Q : Mem → Prop) (n : Nat) : Mem → Nat → Int64 → Int32 → Int32 → Prop :=
  Nat.rec (motive := fun _ => Mem → Nat → Int64 → Int32 → Int32 → Prop) (fun _ _ _ _ _ => False) (fun _ k => b_X4_askOthers_41 Q k) n
def w_X4_askOthers (M : Mem) (a1 : Nat) (a2 : Int32) (Q : Mem → Prop) : Prop :=
  (mE M 2 a1 = true ∧ (mF M 2 a1 1 = true ∧ (mE M 3 a1 = true ∧ (w_X4_blocksOf M (a2 &&& ((mI M 3 a1 0) ^^^ (-1))) (fun (r_7 : Int64) (M_5 : Mem) => (mE M_5 2 a1 = true ∧ (mF M_5 2 a1 1 = true ∧ (mE M_5 3 a1 = true ∧ (∀ v_11 : Int64, v_11 = (r_7 &&& ((mL M_5 3 a1 1) ^^^ (-1))) → (mE M_5 4 0 = true ∧ (mF M_5 4 0 0 = true ∧ (mE M_5 10 0 = true ∧ (∃ n : Nat, l_X4_askOthers_41 Q n M_5 a1 v_11 6 0)))))))))))))
def b_X4_askAll_40 (k16 : Mem → Int32 → Int32 → Int32 → Prop) (Q : Mem → Prop) (M : Mem) (x1 : Int32) (x3 : Int32) (x4 : Int32) : Prop :=
  (∀ v_18 : Int32, v_18 = x4 + 1 → (k16 M x1 x3 v_18))
def b_X4_askAll_16 (Q : Mem → Prop) (k16 : Mem → Int32 → Int32 → Int32 → Prop) (M : Mem) (x1 : Int32) (x3 : Int32) (x4 : Int32) : Prop :=
  ((x3 ≤ x4 → (Q M)) ∧ (¬ x3 ≤ x4 → (mE M 10 0 = true ∧ ((vp_in x4 6) ∧ ((mF M 10 0 x4.toNatClampNeg = true → (mE M 4 0 = true ∧ (w_X4_askOthers M x4.toNatClampNeg x1 (fun (M_15 : Mem) => (b_X4_askAll_40 k16 Q M_15 x1 x3 x4))))) ∧ (mF M 10 0 x4.toNatClampNeg = false → (b_X4_askAll_40 k16 Q M x1 x3 x4)))))))
def l_X4_askAll_16 (Q : Mem → Prop) (n : Nat) : Mem → Int32 → Int32 → Int32 → Prop :=
  Nat.rec (motive := fun _ => Mem → Int32 → Int32 → Int32 → Prop) (fun _ _ _ _ => False) (fun _ k => b_X4_askAll_16 Q k) n
def w_X4_askAll (M : Mem) (Q : Mem → Prop) : Prop :=
  (mE M 4 0 = true ∧ (w_X4_wantedPieces M (fun (r_5 : Int32) (M_3 : Mem) => (mE M_3 4 0 = true ∧ (mF M_3 4 0 0 = true ∧ (mE M_3 10 0 = true ∧ (∃ n : Nat, l_X4_askAll_16 Q n M_3 r_5 6 0)))))))
def b_X1_add_32 (Q : Mem → Prop) (M : Mem) (x0 : Nat) (x2 : Int32) (s0 : Int32) (s1 : Int32) (s2 : Int32) (s3 : Nat) : Prop :=
  (mE M 22 s3 = true ∧ ((vp_in s2 1000) ∧ (∀ M_8 : Mem, M_8 = wI M 22 s3 s2.toNatClampNeg (((s1 + s0) * 48) + x2) → (mE M_8 1 x0 = true ∧ (∀ M_10 : Mem, M_10 = wI M_8 1 x0 2 ((mI M_8 1 x0 2) + 1) → (Q M_10))))))
def w_X1_add (M : Mem) (t : Nat) (a1 : Int32) (a2 : Int32) (a3 : Int32) (Q : Mem → Prop) : Prop :=
  (mE M 1 t = true ∧ (mF M 1 t 1 = true ∧ (mE M 22 t = true ∧ (((1000 : Int32) ≤ (mI M 1 t 2) → (Q M)) ∧ (¬ (1000 : Int32) ≤ (mI M 1 t 2) → ((a3 = 0 → (b_X1_add_32 Q M t a2 0 (a1 * 2) (mI M 1 t 2) t)) ∧ (¬ a3 = 0 → (b_X1_add_32 Q M t a2 1 (a1 * 2) (mI M 1 t 2) t))))))))
def w_X3_take (M : Mem) (t : Nat) (a1 : Int32) (a2 : Int32) (Q : Int32 → Mem → Prop) : Prop :=
  (mE M 3 t = true ∧ (w_X4_isIn M (mL M 3 t 1) a1 (fun (r_5 : Int32) (M_3 : Mem) => ((r_5 = 0 → (mE M_3 3 t = true ∧ (∀ M_8 : Mem, M_8 = wL M_3 3 t 1 ((mL M_3 3 t 1) ||| (1 <<< (a1.toInt64 &&& 63))) → ((a2 = 0 → (Q 1 M_8)) ∧ (¬ a2 = 0 → (∀ M_10 : Mem, M_10 = wL M_8 3 t 2 ((mL M_8 3 t 2) ||| (1 <<< (a1.toInt64 &&& 63))) → (Q 1 M_10))))))) ∧ (¬ r_5 = 0 → (Q 0 M_3))))))
def w_X4_comeOne (M : Mem) (a1 : Nat) (a2 : Nat) (a3 : Int32) (Q : Int32 → Mem → Prop) : Prop :=
  (mE M 2 a2 = true ∧ (w_X4_isIn M ((mI M 2 a2 4).toInt64) (a3 / 4) (fun (r_5 : Int32) (M_3 : Mem) => (mE M_3 2 a1 = true ∧ (mF M_3 2 a1 2 = true ∧ (mE M_3 4 0 = true ∧ (mE M_3 1 a1 = true ∧ (w_X1_add M_3 a1 (mI M_3 4 0 4) a3 r_5 (fun (M_11 : Mem) => (mE M_11 2 a1 = true ∧ (mF M_11 2 a1 1 = true ∧ (mE M_11 3 a1 = true ∧ (w_X3_take M_11 a1 a3 r_5 (fun (r_20 : Int32) (M_18 : Mem) => ((r_20 = 0 → (mE M_18 2 a1 = true ∧ (∀ M_35 : Mem, M_35 = wI M_18 2 a1 11 ((mI M_18 2 a1 11) + 1) → (Q 0 M_35)))) ∧ (¬ r_20 = 0 → (mE M_18 2 a1 = true ∧ (mF M_18 2 a1 7 = true ∧ (mE M_18 2 a2 = true ∧ (mE M_18 23 a1 = true ∧ ((vp_in (mI M_18 2 a2 0) 6) ∧ ((vp_in (mI M_18 2 a2 0) 6) ∧ (∀ M_28 : Mem, M_28 = wL M_18 23 a1 ((mI M_18 2 a2 0).toNatClampNeg) ((mL M_18 23 a1 ((mI M_18 2 a2 0).toNatClampNeg)) ||| (1 <<< (a3.toInt64 &&& 63))) → (mF M_28 2 a1 8 = true ∧ (mE M_28 24 a1 = true ∧ ((vp_in (mI M_28 2 a2 0) 6) ∧ ((vp_in (mI M_28 2 a2 0) 6) ∧ (∀ M_33 : Mem, M_33 = wI M_28 24 a1 ((mI M_28 2 a2 0).toNatClampNeg) ((mI M_28 24 a1 ((mI M_28 2 a2 0).toNatClampNeg)) + 1) → (Q 1 M_33)))))))))))))))))))))))))))))
def b_J7_fill_53178_24_5 (Q : Mem → Prop) (k5 : Mem → Nat → Int32 → Int32 → Int32 → Prop) (M : Mem) (x0 : Nat) (x1 : Int32) (x2 : Int32) (x3 : Int32) : Prop :=
  ((x3 ≤ x2 → (Q M)) ∧ (¬ x3 ≤ x2 → (mE M 24 x0 = true ∧ ((vp_in x2 6) ∧ (∀ M_5 : Mem, M_5 = wI M 24 x0 x2.toNatClampNeg x1 → (∀ v_6 : Int32, v_6 = x2 + 1 → (k5 M_5 x0 x1 v_6 x3)))))))
def l_J7_fill_53178_24_5 (Q : Mem → Prop) (n : Nat) : Mem → Nat → Int32 → Int32 → Int32 → Prop :=
  Nat.rec (motive := fun _ => Mem → Nat → Int32 → Int32 → Int32 → Prop) (fun _ _ _ _ _ => False) (fun _ k => b_J7_fill_53178_24_5 Q k) n
def w_J7_fill_53178_24 (M : Mem) (a0 : Nat) (a1 : Int32) (Q : Mem → Prop) : Prop :=
  (mE M 24 a0 = true ∧ (∃ n : Nat, l_J7_fill_53178_24_5 Q n M a0 a1 0 6))
def b_X4_comeTo_65 (k12 : Mem → Nat → Int32 → Int32 → Prop) (Q : Int32 → Mem → Prop) (M : Mem) (x1 : Nat) (x2 : Int32) (x3 : Int32) : Prop :=
  (∀ v_19 : Int32, v_19 = x3 + 1 → (k12 M x1 x2 v_19))
def b_X4_comeTo_12 (Q : Int32 → Mem → Prop) (k12 : Mem → Nat → Int32 → Int32 → Prop) (M : Mem) (x1 : Nat) (x2 : Int32) (x3 : Int32) : Prop :=
  (mE M 2 x1 = true ∧ (mF M 2 x1 3 = true ∧ (mE M 0 x1 = true ∧ (((mI M 0 x1 2) ≤ x3 → (Q x2 M)) ∧ (¬ (mI M 0 x1 2) ≤ x3 → (mF M 0 x1 1 = true ∧ (mE M 21 x1 = true ∧ ((vp_in x3 6) ∧ (mE M 4 0 = true ∧ (w_X4_find M (mI M 21 x1 x3.toNatClampNeg) (fun (z : Option Nat) (M_16 : Mem) => ((z = none → (b_X4_comeTo_65 k12 Q M_16 x1 x2 x3)) ∧ (∀ r_18 : Nat, z = some r_18 → (mE M_16 2 x1 = true ∧ (mF M_16 2 x1 3 = true ∧ (mE M_16 0 x1 = true ∧ (mF M_16 0 x1 0 = true ∧ (mE M_16 20 x1 = true ∧ ((vp_in x3 6) ∧ (mE M_16 4 0 = true ∧ (w_X4_comeOne M_16 x1 r_18 (mI M_16 20 x1 x3.toNatClampNeg) (fun (r_30 : Int32) (M_28 : Mem) => ((r_30 = 0 → (b_X4_comeTo_65 k12 Q M_28 x1 x2 x3)) ∧ (¬ r_30 = 0 → (∀ v_32 : Int32, v_32 = x2 + 1 → (b_X4_comeTo_65 k12 Q M_28 x1 v_32 x3))))))))))))))))))))))))))
def l_X4_comeTo_12 (Q : Int32 → Mem → Prop) (n : Nat) : Mem → Nat → Int32 → Int32 → Prop :=
  Nat.rec (motive := fun _ => Mem → Nat → Int32 → Int32 → Prop) (fun _ _ _ _ => False) (fun _ k => b_X4_comeTo_12 Q k) n
def w_X4_comeTo (M : Mem) (a1 : Nat) (Q : Int32 → Mem → Prop) : Prop :=
  (mE M 2 a1 = true ∧ (mF M 2 a1 8 = true ∧ (w_J7_fill_53178_24 M a1 0 (fun (M_4 : Mem) => (∃ n : Nat, l_X4_comeTo_12 Q n M_4 a1 0 0)))))
def b_X4_comeAll_39 (k13 : Mem → Int32 → Int32 → Int32 → Prop) (Q : Int32 → Mem → Prop) (M : Mem) (x1 : Int32) (x3 : Int32) (x4 : Int32) : Prop :=
  (∀ v_14 : Int32, v_14 = x4 + 1 → (k13 M x1 x3 v_14))
def b_X4_comeAll_13 (Q : Int32 → Mem → Prop) (k13 : Mem → Int32 → Int32 → Int32 → Prop) (M : Mem) (x1 : Int32) (x3 : Int32) (x4 : Int32) : Prop :=
  ((x3 ≤ x4 → (Q x1 M)) ∧ (¬ x3 ≤ x4 → (mE M 10 0 = true ∧ ((vp_in x4 6) ∧ ((mF M 10 0 x4.toNatClampNeg = true → (mE M 4 0 = true ∧ (w_X4_comeTo M x4.toNatClampNeg (fun (r_12 : Int32) (M_10 : Mem) => (∀ v_13 : Int32, v_13 = (x1 + r_12) → (b_X4_comeAll_39 k13 Q M_10 v_13 x3 x4)))))) ∧ (mF M 10 0 x4.toNatClampNeg = false → (b_X4_comeAll_39 k13 Q M x1 x3 x4)))))))
def l_X4_comeAll_13 (Q : Int32 → Mem → Prop) (n : Nat) : Mem → Int32 → Int32 → Int32 → Prop :=
  Nat.rec (motive := fun _ => Mem → Int32 → Int32 → Int32 → Prop) (fun _ _ _ _ => False) (fun _ k => b_X4_comeAll_13 Q k) n
def w_X4_comeAll (M : Mem) (Q : Int32 → Mem → Prop) : Prop :=
  (mE M 4 0 = true ∧ (mF M 4 0 0 = true ∧ (mE M 10 0 = true ∧ (∃ n : Nat, l_X4_comeAll_13 Q n M 0 6 0))))
def w_X3_isComplete (M : Mem) (t : Nat) (a1 : Int32) (Q : Int32 → Mem → Prop) : Prop :=
  (mE M 3 t = true ∧ (w_X4_blocksOfPiece M a1 (fun (r_5 : Int64) (M_3 : Mem) => (((lg_cmp (((mL M 3 t 1) ^^^ (-1)) &&& r_5) 0) = 0 → (Q 1 M_3)) ∧ (¬ (lg_cmp (((mL M 3 t 1) ^^^ (-1)) &&& r_5) 0) = 0 → (Q 0 M_3))))))
def w_X3_isSound (M : Mem) (t : Nat) (a1 : Int32) (Q : Int32 → Mem → Prop) : Prop :=
  (mE M 3 t = true ∧ (w_X4_blocksOfPiece M a1 (fun (r_5 : Int64) (M_3 : Mem) => (((lg_cmp ((mL M 3 t 2) &&& r_5) 0) = 0 → (Q 1 M_3)) ∧ (¬ (lg_cmp ((mL M 3 t 2) &&& r_5) 0) = 0 → (Q 0 M_3))))))
def b_X2_blame_78 (k8 : Mem → Nat → Int64 → Int32 → Prop) (Q : Mem → Prop) (M : Mem) (x0 : Nat) (x2 : Int64) (x4 : Int32) : Prop :=
  (∀ v_12 : Int32, v_12 = x4 + 1 → (k8 M x0 x2 v_12))
def b_X2_blame_65 (k8 : Mem → Nat → Int64 → Int32 → Prop) (Q : Mem → Prop) (M : Mem) (x0 : Nat) (x2 : Int64) (x4 : Int32) : Prop :=
  (mE M 2 x0 = true ∧ (∀ M_20 : Mem, M_20 = wI M 2 x0 10 ((mI M 2 x0 10) ||| (1 <<< (x4 &&& 31))) → (b_X2_blame_78 k8 Q M_20 x0 x2 x4)))
def b_X2_blame_8 (Q : Mem → Prop) (k8 : Mem → Nat → Int64 → Int32 → Prop) (M : Mem) (x0 : Nat) (x2 : Int64) (x4 : Int32) : Prop :=
  (mE M 2 x0 = true ∧ (mF M 2 x0 7 = true ∧ (mE M 23 x0 = true ∧ (((6 : Int32) ≤ x4 → (Q M)) ∧ (¬ (6 : Int32) ≤ x4 → ((vp_in x4 6) ∧ (∀ v_10 : Int64, v_10 = ((mL M 23 x0 x4.toNatClampNeg) &&& x2) → (((lg_cmp v_10 0) = 0 → (b_X2_blame_78 k8 Q M x0 x2 x4)) ∧ (¬ (lg_cmp v_10 0) = 0 → (mF M 2 x0 9 = true ∧ (mE M 25 x0 = true ∧ ((vp_in x4 6) ∧ ((vp_in x4 6) ∧ (∀ M_17 : Mem, M_17 = wI M 25 x0 x4.toNatClampNeg ((mI M 25 x0 x4.toNatClampNeg) + 1) → (((lg_cmp v_10 x2) = 0 → (b_X2_blame_65 k8 Q M_17 x0 x2 x4)) ∧ (¬ (lg_cmp v_10 x2) = 0 → ((vp_in x4 6) ∧ (((mI M_17 25 x0 x4.toNatClampNeg) < 3 → (b_X2_blame_78 k8 Q M_17 x0 x2 x4)) ∧ (¬ (mI M_17 25 x0 x4.toNatClampNeg) < 3 → (b_X2_blame_65 k8 Q M_17 x0 x2 x4))))))))))))))))))))
def l_X2_blame_8 (Q : Mem → Prop) (n : Nat) : Mem → Nat → Int64 → Int32 → Prop :=
  Nat.rec (motive := fun _ => Mem → Nat → Int64 → Int32 → Prop) (fun _ _ _ _ => False) (fun _ k => b_X2_blame_8 Q k) n
def w_X2_blame (M : Mem) (t : Nat) (a1 : Int32) (Q : Mem → Prop) : Prop :=
  (w_X4_blocksOfPiece M a1 (fun (r_4 : Int64) (M_2 : Mem) => (∃ n : Nat, l_X2_blame_8 Q n M_2 t r_4 0)))
def b_X2_forgetSenders_2 (Q : Mem → Prop) (k2 : Mem → Nat → Int32 → Int32 → Prop) (M : Mem) (x0 : Nat) (x1 : Int32) (x2 : Int32) : Prop :=
  (mE M 2 x0 = true ∧ (mF M 2 x0 7 = true ∧ (mE M 23 x0 = true ∧ (((6 : Int32) ≤ x2 → (Q M)) ∧ (¬ (6 : Int32) ≤ x2 → ((vp_in x2 6) ∧ (w_X4_blocksOfPiece M x1 (fun (r_9 : Int64) (M_7 : Mem) => (mE M_7 23 x0 = true ∧ ((vp_in x2 6) ∧ (∀ M_12 : Mem, M_12 = wL M_7 23 x0 x2.toNatClampNeg ((mL M 23 x0 x2.toNatClampNeg) &&& (r_9 ^^^ (-1))) → (∀ v_13 : Int32, v_13 = x2 + 1 → (k2 M_12 x0 x1 v_13)))))))))))))
def l_X2_forgetSenders_2 (Q : Mem → Prop) (n : Nat) : Mem → Nat → Int32 → Int32 → Prop :=
  Nat.rec (motive := fun _ => Mem → Nat → Int32 → Int32 → Prop) (fun _ _ _ _ => False) (fun _ k => b_X2_forgetSenders_2 Q k) n
def w_X2_forgetSenders (M : Mem) (t : Nat) (a1 : Int32) (Q : Mem → Prop) : Prop :=
  (∃ n : Nat, l_X2_forgetSenders_2 Q n M t a1 0)
def b_X3_endPieces_70 (k2 : Mem → Nat → Int32 → Prop) (Q : Mem → Prop) (M : Mem) (x0 : Nat) (x1 : Int32) : Prop :=
  (∀ v_8 : Int32, v_8 = x1 + 1 → (k2 M x0 v_8))
def b_X3_endPieces_36 (k2 : Mem → Nat → Int32 → Prop) (Q : Mem → Prop) (M : Mem) (x0 : Nat) (x1 : Int32) : Prop :=
  (mE M 3 x0 = true ∧ (w_X4_blocksOfPiece M x1 (fun (r_19 : Int64) (M_17 : Mem) => (mE M_17 3 x0 = true ∧ (∀ M_21 : Mem, M_21 = wL M_17 3 x0 1 ((mL M 3 x0 1) &&& (r_19 ^^^ (-1))) → (w_X4_blocksOfPiece M_21 x1 (fun (r_25 : Int64) (M_23 : Mem) => (mE M_23 3 x0 = true ∧ (∀ M_27 : Mem, M_27 = wL M_23 3 x0 2 ((mL M_21 3 x0 2) &&& (r_25 ^^^ (-1))) → (b_X3_endPieces_70 k2 Q M_27 x0 x1))))))))))
def b_X3_endPieces_2 (Q : Mem → Prop) (k2 : Mem → Nat → Int32 → Prop) (M : Mem) (x0 : Nat) (x1 : Int32) : Prop :=
  (((12 : Int32) ≤ x1 → (Q M)) ∧ (¬ (12 : Int32) ≤ x1 → (mE M 3 x0 = true ∧ (w_X3_isComplete M x0 x1 (fun (r_6 : Int32) (M_4 : Mem) => ((r_6 = 0 → (b_X3_endPieces_70 k2 Q M_4 x0 x1)) ∧ (¬ r_6 = 0 → (mE M_4 3 x0 = true ∧ (w_X3_isSound M_4 x0 x1 (fun (r_13 : Int32) (M_11 : Mem) => ((r_13 = 0 → (b_X3_endPieces_36 k2 Q M_11 x0 x1)) ∧ (¬ r_13 = 0 → (mE M_11 3 x0 = true ∧ (∀ M_29 : Mem, M_29 = wI M_11 3 x0 0 ((mI M_11 3 x0 0) ||| (1 <<< (x1 &&& 31))) → (b_X3_endPieces_36 k2 Q M_29 x0 x1)))))))))))))))
def l_X3_endPieces_2 (Q : Mem → Prop) (n : Nat) : Mem → Nat → Int32 → Prop :=
  Nat.rec (motive := fun _ => Mem → Nat → Int32 → Prop) (fun _ _ _ => False) (fun _ k => b_X3_endPieces_2 Q k) n
def w_X3_endPieces (M : Mem) (t : Nat) (Q : Mem → Prop) : Prop :=
  (∃ n : Nat, l_X3_endPieces_2 Q n M t 0)
def b_X4_settle_40 (k2 : Mem → Nat → Int32 → Prop) (Q : Mem → Prop) (M : Mem) (x0 : Nat) (x1 : Int32) : Prop :=
  (∀ v_17 : Int32, v_17 = x1 + 1 → (k2 M x0 v_17))
def b_X4_settle_35 (k2 : Mem → Nat → Int32 → Prop) (Q : Mem → Prop) (M : Mem) (x0 : Nat) (x1 : Int32) : Prop :=
  (mE M 2 x0 = true ∧ (w_X2_forgetSenders M x0 x1 (fun (M_28 : Mem) => (b_X4_settle_40 k2 Q M_28 x0 x1))))
def b_X4_settle_2 (Q : Mem → Prop) (k2 : Mem → Nat → Int32 → Prop) (M : Mem) (x0 : Nat) (x1 : Int32) : Prop :=
  (((12 : Int32) ≤ x1 → (mE M 2 x0 = true ∧ (mF M 2 x0 1 = true ∧ (mE M 3 x0 = true ∧ (w_X3_endPieces M x0 (fun (M_6 : Mem) => (Q M_6))))))) ∧ (¬ (12 : Int32) ≤ x1 → (mE M 2 x0 = true ∧ (mF M 2 x0 1 = true ∧ (mE M 3 x0 = true ∧ (w_X3_isComplete M x0 x1 (fun (r_15 : Int32) (M_13 : Mem) => ((r_15 = 0 → (b_X4_settle_40 k2 Q M_13 x0 x1)) ∧ (¬ r_15 = 0 → (mE M_13 2 x0 = true ∧ (mF M_13 2 x0 1 = true ∧ (mE M_13 3 x0 = true ∧ (w_X3_isSound M_13 x0 x1 (fun (r_24 : Int32) (M_22 : Mem) => ((r_24 = 0 → (mE M_22 2 x0 = true ∧ (w_X2_blame M_22 x0 x1 (fun (M_33 : Mem) => (b_X4_settle_35 k2 Q M_33 x0 x1))))) ∧ (¬ r_24 = 0 → (b_X4_settle_35 k2 Q M_22 x0 x1)))))))))))))))))
def l_X4_settle_2 (Q : Mem → Prop) (n : Nat) : Mem → Nat → Int32 → Prop :=
  Nat.rec (motive := fun _ => Mem → Nat → Int32 → Prop) (fun _ _ _ => False) (fun _ k => b_X4_settle_2 Q k) n
def w_X4_settle (M : Mem) (a0 : Nat) (Q : Mem → Prop) : Prop :=
  (∃ n : Nat, l_X4_settle_2 Q n M a0 0)
def b_X4_settleAll_30 (k10 : Mem → Int32 → Int32 → Prop) (Q : Mem → Prop) (M : Mem) (x2 : Int32) (x3 : Int32) : Prop :=
  (∀ v_12 : Int32, v_12 = x3 + 1 → (k10 M x2 v_12))
def b_X4_settleAll_10 (Q : Mem → Prop) (k10 : Mem → Int32 → Int32 → Prop) (M : Mem) (x2 : Int32) (x3 : Int32) : Prop :=
  ((x2 ≤ x3 → (Q M)) ∧ (¬ x2 ≤ x3 → (mE M 10 0 = true ∧ ((vp_in x3 6) ∧ ((mF M 10 0 x3.toNatClampNeg = true → (w_X4_settle M x3.toNatClampNeg (fun (M_9 : Mem) => (b_X4_settleAll_30 k10 Q M_9 x2 x3)))) ∧ (mF M 10 0 x3.toNatClampNeg = false → (b_X4_settleAll_30 k10 Q M x2 x3)))))))
def l_X4_settleAll_10 (Q : Mem → Prop) (n : Nat) : Mem → Int32 → Int32 → Prop :=
  Nat.rec (motive := fun _ => Mem → Int32 → Int32 → Prop) (fun _ _ _ => False) (fun _ k => b_X4_settleAll_10 Q k) n
def w_X4_settleAll (M : Mem) (Q : Mem → Prop) : Prop :=
  (mE M 4 0 = true ∧ (mF M 4 0 0 = true ∧ (mE M 10 0 = true ∧ (∃ n : Nat, l_X4_settleAll_10 Q n M 6 0))))
def b_X4_run_11 (Q : Int32 → Mem → Prop) (X : Nat → Mem → Prop) (M : Mem) : Prop :=
  (X 2 M)
def b_X4_run_47 (Q : Int32 → Mem → Prop) (X : Nat → Mem → Prop) (k47 : Mem → Int32 → Int32 → Int32 → Prop) (M : Mem) (x1 : Int32) (x2 : Int32) (x3 : Int32) : Prop :=
  ((x1 ≤ x3 → (Q x2 M)) ∧ (¬ x1 ≤ x3 → (mE M 4 0 = true ∧ (w_X4_begin M (fun (M_8 : Mem) => (mE M_8 4 0 = true ∧ (w_X4_askAll M_8 (fun (M_13 : Mem) => (mE M_13 4 0 = true ∧ (w_X4_comeAll M_13 (fun (r_20 : Int32) (M_18 : Mem) => (∀ v_21 : Int32, v_21 = (x2 + r_20) → (mE M_18 4 0 = true ∧ (w_X4_settleAll M_18 (fun (M_24 : Mem) => (mE M_24 4 0 = true ∧ (∀ M_28 : Mem, M_28 = wI M_24 4 0 4 ((mI M_24 4 0 4) + 1) → (∀ v_29 : Int32, v_29 = x3 + 1 → (k47 M_28 x1 v_21 v_29)))))))))))))))))))
def l_X4_run_47 (Q : Int32 → Mem → Prop) (X : Nat → Mem → Prop) (n : Nat) : Mem → Int32 → Int32 → Int32 → Prop :=
  Nat.rec (motive := fun _ => Mem → Int32 → Int32 → Int32 → Prop) (fun _ _ _ _ => False) (fun _ k => b_X4_run_47 Q X k) n
def w_X4_run (M : Mem) (a1 : Int32) (Q : Int32 → Mem → Prop) (X : Nat → Mem → Prop) : Prop :=
  ((a1 < 1 → (b_X4_run_11 Q X M)) ∧ (¬ a1 < 1 → ((a1 ≤ 20 → (mE M 4 0 = true ∧ ((((mI M 4 0 4) + a1) ≤ 200 → (∃ n : Nat, l_X4_run_47 Q X n M a1 0 0)) ∧ (¬ ((mI M 4 0 4) + a1) ≤ 200 → (X 0 M))))) ∧ (¬ a1 ≤ 20 → (b_X4_run_11 Q X M)))))
def w_L_run (M : Mem) (a1 : Int32) (Q : Int32 → Mem → Prop) : Prop :=
  (mE M 4 0 = true ∧ (w_X4_run M a1 (fun (r_5 : Int32) (M_3 : Mem) => (mE M_3 60 0 = true ∧ ((vp_in 0 1) ∧ (∀ M_8 : Mem, M_8 = wL M_3 60 0 ((0 : Int32).toNatClampNeg) r_5.toInt64 → (Q 0 M_8))))) (fun (k : Nat) (M_2 : Mem) => (k = 2 ∧ (Q 1 M_2)) ∨ (k = 0 ∧ (Q 2 M_2)))))
def w_X5_pair (M : Mem) (a0 : Int32) (a1 : Int32) (Q : Int32 → Mem → Prop) : Prop :=
  (Q ((6 * a0) + a1) M)
def b_X5_holdersOf_40 (k4 : Mem → Int32 → Int32 → Int32 → Prop) (Q : Int32 → Mem → Prop) (M : Mem) (x1 : Int32) (x3 : Int32) (s0 : Int32) (s1 : Int32) : Prop :=
  (∀ v_7 : Int32, v_7 = (s1 + s0) → (∀ v_8 : Int32, v_8 = x3 + 1 → (k4 M x1 v_7 v_8)))
def b_X5_holdersOf_39 (k4 : Mem → Int32 → Int32 → Int32 → Prop) (Q : Int32 → Mem → Prop) (M : Mem) (x1 : Int32) (x3 : Int32) (s0 : Int32) : Prop :=
  (b_X5_holdersOf_40 k4 Q M x1 x3 0 s0)
def b_X5_holdersOf_4 (Q : Int32 → Mem → Prop) (k4 : Mem → Int32 → Int32 → Int32 → Prop) (M : Mem) (x1 : Int32) (x2 : Int32) (x3 : Int32) : Prop :=
  (mE M 5 0 = true ∧ (((mI M 5 0 3) ≤ x3 → (Q x2 M)) ∧ (¬ (mI M 5 0 3) ≤ x3 → (mF M 5 0 4 = true ∧ (mE M 34 0 = true ∧ ((vp_in x3 6) ∧ (((mI M 34 0 x3.toNatClampNeg) = 0 → (b_X5_holdersOf_39 k4 Q M x1 x3 x2)) ∧ (¬ (mI M 34 0 x3.toNatClampNeg) = 0 → (mF M 5 0 5 = true ∧ (mE M 35 0 = true ∧ ((vp_in x3 6) ∧ (w_X5_has M (mI M 35 0 x3.toNatClampNeg) x1 (fun (r_15 : Int32) (M_13 : Mem) => ((r_15 = 0 → (b_X5_holdersOf_39 k4 Q M_13 x1 x3 x2)) ∧ (¬ r_15 = 0 → (b_X5_holdersOf_40 k4 Q M_13 x1 x3 1 x2))))))))))))))))
def l_X5_holdersOf_4 (Q : Int32 → Mem → Prop) (n : Nat) : Mem → Int32 → Int32 → Int32 → Prop :=
  Nat.rec (motive := fun _ => Mem → Int32 → Int32 → Int32 → Prop) (fun _ _ _ _ => False) (fun _ k => b_X5_holdersOf_4 Q k) n
def w_X5_holdersOf (M : Mem) (a1 : Int32) (Q : Int32 → Mem → Prop) : Prop :=
  (∃ n : Nat, l_X5_holdersOf_4 Q n M a1 0 0)
def b_X5_shownBy_14 (Q : Int32 → Mem → Prop) (M : Mem) (x1 : Int32) (x2 : Int32) : Prop :=
  ((x1 = x2 → (Q 0 M)) ∧ (¬ x1 = x2 → (mE M 5 0 = true ∧ (mF M 5 0 5 = true ∧ (mE M 35 0 = true ∧ ((vp_in x1 6) ∧ (Q (mI M 35 0 x1.toNatClampNeg) M)))))))
def b_X5_shownBy_115 (k36 : Mem → Int32 → Int32 → Int32 → Int32 → Prop) (Q : Int32 → Mem → Prop) (M : Mem) (x1 : Int32) (x2 : Int32) (x4 : Int32) (s0 : Int32) : Prop :=
  (∀ v_25 : Int32, v_25 = x4 + (-1) → (k36 M x1 x2 s0 v_25))
def b_X5_shownBy_114 (k36 : Mem → Int32 → Int32 → Int32 → Int32 → Prop) (Q : Int32 → Mem → Prop) (M : Mem) (x1 : Int32) (x2 : Int32) (x3 : Int32) (x4 : Int32) : Prop :=
  (b_X5_shownBy_115 k36 Q M x1 x2 x4 x3)
def b_X5_shownBy_109 (k36 : Mem → Int32 → Int32 → Int32 → Int32 → Prop) (Q : Int32 → Mem → Prop) (M : Mem) (x1 : Int32) (x2 : Int32) (x4 : Int32) (x5 : Int32) : Prop :=
  (b_X5_shownBy_115 k36 Q M x1 x2 x4 x5)
def b_X5_shownBy_83 (k36 : Mem → Int32 → Int32 → Int32 → Int32 → Prop) (Q : Int32 → Mem → Prop) (M : Mem) (x1 : Int32) (x2 : Int32) (x3 : Int32) (x4 : Int32) (x5 : Int32) (s0 : Int32) : Prop :=
  ((s0 = 0 → (b_X5_shownBy_114 k36 Q M x1 x2 x3 x4)) ∧ (¬ s0 = 0 → ((x3 = (-1) → (b_X5_shownBy_109 k36 Q M x1 x2 x4 x5)) ∧ (¬ x3 = (-1) → (mE M 5 0 = true ∧ (w_X5_holdersOf M x5 (fun (r_31 : Int32) (M_29 : Mem) => (mE M_29 5 0 = true ∧ (w_X5_holdersOf M_29 x3 (fun (r_36 : Int32) (M_34 : Mem) => ((r_36 < r_31 → (b_X5_shownBy_114 k36 Q M_34 x1 x2 x3 x4)) ∧ (¬ r_36 < r_31 → (b_X5_shownBy_109 k36 Q M_34 x1 x2 x4 x5)))))))))))))
def b_X5_shownBy_82 (k36 : Mem → Int32 → Int32 → Int32 → Int32 → Prop) (Q : Int32 → Mem → Prop) (M : Mem) (x1 : Int32) (x2 : Int32) (x3 : Int32) (x4 : Int32) (x5 : Int32) : Prop :=
  (b_X5_shownBy_83 k36 Q M x1 x2 x3 x4 x5 0)
def b_X5_shownBy_36 (Q : Int32 → Mem → Prop) (k36 : Mem → Int32 → Int32 → Int32 → Int32 → Prop) (M : Mem) (x1 : Int32) (x2 : Int32) (x3 : Int32) (x4 : Int32) : Prop :=
  ((x4 < 0 → ((x3 = (-1) → (Q 0 M)) ∧ (¬ x3 = (-1) → (Q (1 <<< (x3 &&& 31)) M)))) ∧ (¬ x4 < 0 → (∀ v_14 : Int32, v_14 = ((x2 + x4) - (x2 + x4) / 12 * 12) → (mE M 5 0 = true ∧ (mF M 5 0 5 = true ∧ (mE M 35 0 = true ∧ ((vp_in x1 6) ∧ (w_X5_has M (mI M 35 0 x1.toNatClampNeg) v_14 (fun (r_22 : Int32) (M_20 : Mem) => ((r_22 = 0 → (b_X5_shownBy_82 k36 Q M_20 x1 x2 x3 x4 v_14)) ∧ (¬ r_22 = 0 → (mE M_20 5 0 = true ∧ (mF M_20 5 0 5 = true ∧ (mE M_20 35 0 = true ∧ ((vp_in x2 6) ∧ (w_X5_has M_20 (mI M_20 35 0 x2.toNatClampNeg) v_14 (fun (r_45 : Int32) (M_43 : Mem) => ((r_45 = 0 → (b_X5_shownBy_83 k36 Q M_43 x1 x2 x3 x4 v_14 1)) ∧ (¬ r_45 = 0 → (b_X5_shownBy_82 k36 Q M_43 x1 x2 x3 x4 v_14))))))))))))))))))))
def l_X5_shownBy_36 (Q : Int32 → Mem → Prop) (n : Nat) : Mem → Int32 → Int32 → Int32 → Int32 → Prop :=
  Nat.rec (motive := fun _ => Mem → Int32 → Int32 → Int32 → Int32 → Prop) (fun _ _ _ _ _ => False) (fun _ k => b_X5_shownBy_36 Q k) n
def w_X5_shownBy (M : Mem) (a1 : Int32) (a2 : Int32) (Q : Int32 → Mem → Prop) : Prop :=
  ((a1 = a2 → (b_X5_shownBy_14 Q M a1 a2)) ∧ (¬ a1 = a2 → (mE M 5 0 = true ∧ (mF M 5 0 6 = true ∧ (mE M 36 0 = true ∧ ((vp_in a1 6) ∧ (((mI M 36 0 a1.toNatClampNeg) = 0 → (b_X5_shownBy_14 Q M a1 a2)) ∧ (¬ (mI M 36 0 a1.toNatClampNeg) = 0 → (∃ n : Nat, l_X5_shownBy_36 Q n M a1 a2 (-1) 11)))))))))
def b_X5_lackedBy_40 (k4 : Mem → Int32 → Int32 → Int32 → Prop) (Q : Int32 → Mem → Prop) (M : Mem) (x1 : Int32) (x3 : Int32) (s0 : Int32) (s1 : Int32) : Prop :=
  (∀ v_7 : Int32, v_7 = (s1 ||| s0) → (∀ v_8 : Int32, v_8 = x3 + 1 → (k4 M x1 v_7 v_8)))
def b_X5_lackedBy_39 (k4 : Mem → Int32 → Int32 → Int32 → Prop) (Q : Int32 → Mem → Prop) (M : Mem) (x1 : Int32) (x3 : Int32) (s0 : Int32) : Prop :=
  (b_X5_lackedBy_40 k4 Q M x1 x3 0 s0)
def b_X5_lackedBy_4 (Q : Int32 → Mem → Prop) (k4 : Mem → Int32 → Int32 → Int32 → Prop) (M : Mem) (x1 : Int32) (x2 : Int32) (x3 : Int32) : Prop :=
  (((12 : Int32) ≤ x3 → (Q x2 M)) ∧ (¬ (12 : Int32) ≤ x3 → (mE M 5 0 = true ∧ (mF M 5 0 2 = true ∧ (mE M 32 0 = true ∧ ((vp_in x3 12) ∧ (((mI M 32 0 x3.toNatClampNeg) ≤ 0 → (b_X5_lackedBy_39 k4 Q M x1 x3 x2)) ∧ (¬ (mI M 32 0 x3.toNatClampNeg) ≤ 0 → (mF M 5 0 5 = true ∧ (mE M 35 0 = true ∧ ((vp_in x1 6) ∧ (w_X5_has M (mI M 35 0 x1.toNatClampNeg) x3 (fun (r_15 : Int32) (M_13 : Mem) => ((r_15 = 0 → (b_X5_lackedBy_40 k4 Q M_13 x1 x3 (1 <<< (x3 &&& 31)) x2)) ∧ (¬ r_15 = 0 → (b_X5_lackedBy_39 k4 Q M_13 x1 x3 x2))))))))))))))))
def l_X5_lackedBy_4 (Q : Int32 → Mem → Prop) (n : Nat) : Mem → Int32 → Int32 → Int32 → Prop :=
  Nat.rec (motive := fun _ => Mem → Int32 → Int32 → Int32 → Prop) (fun _ _ _ _ => False) (fun _ k => b_X5_lackedBy_4 Q k) n
def w_X5_lackedBy (M : Mem) (a1 : Int32) (Q : Int32 → Mem → Prop) : Prop :=
  (∃ n : Nat, l_X5_lackedBy_4 Q n M a1 0 0)
def b_X5_wants_28 (Q : Int32 → Mem → Prop) (M : Mem) (x1 : Int32) (x2 : Int32) (s0 : Int32) : Prop :=
  ((s0 = 0 → (Q 0 M)) ∧ (¬ s0 = 0 → (mE M 5 0 = true ∧ (mF M 5 0 16 = true ∧ (w_X5_pair M x1 x2 (fun (r_8 : Int32) (M_6 : Mem) => (mE M_6 46 0 = true ∧ ((vp_in r_8 36) ∧ (((mI M_6 46 0 r_8.toNatClampNeg) = 0 → (mE M_6 5 0 = true ∧ (w_X5_shownBy M_6 x2 x1 (fun (r_16 : Int32) (M_14 : Mem) => (mE M_14 5 0 = true ∧ (w_X5_lackedBy M_14 x1 (fun (r_21 : Int32) (M_19 : Mem) => (((r_16 &&& r_21) = 0 → (Q 0 M_19)) ∧ (¬ (r_16 &&& r_21) = 0 → (Q 1 M_19)))))))))) ∧ (¬ (mI M_6 46 0 r_8.toNatClampNeg) = 0 → (Q 0 M_6)))))))))))
def b_X5_wants_27 (Q : Int32 → Mem → Prop) (M : Mem) (x1 : Int32) (x2 : Int32) : Prop :=
  (b_X5_wants_28 Q M x1 x2 0)
def w_X5_wants (M : Mem) (a1 : Int32) (a2 : Int32) (Q : Int32 → Mem → Prop) : Prop :=
  ((a1 = a2 → (b_X5_wants_27 Q M a1 a2)) ∧ (¬ a1 = a2 → (mE M 5 0 = true ∧ (mF M 5 0 4 = true ∧ (mE M 34 0 = true ∧ ((vp_in a1 6) ∧ (((mI M 34 0 a1.toNatClampNeg) = 0 → (b_X5_wants_27 Q M a1 a2)) ∧ (¬ (mI M 34 0 a1.toNatClampNeg) = 0 → ((vp_in a2 6) ∧ (((mI M 34 0 a2.toNatClampNeg) = 0 → (b_X5_wants_27 Q M a1 a2)) ∧ (¬ (mI M 34 0 a2.toNatClampNeg) = 0 → (b_X5_wants_28 Q M a1 a2 1))))))))))))
def b_X5_choiceOf_209 (k165 : Mem → Int32 → Int32 → Int32 → Prop) (Q : Int32 → Mem → Prop) (M : Mem) (x2 : Int32) (x3 : Int32) (x4 : Int32) : Prop :=
  (∀ v_12 : Int32, v_12 = x4 + 1 → (k165 M x2 x3 v_12))
def b_X5_choiceOf_165 (Q : Int32 → Mem → Prop) (k165 : Mem → Int32 → Int32 → Int32 → Prop) (M : Mem) (x2 : Int32) (x3 : Int32) (x4 : Int32) : Prop :=
  (((6 : Int32) ≤ x4 → (Q x3 M)) ∧ (¬ (6 : Int32) ≤ x4 → (mE M 5 0 = true ∧ (∀ v_6 : Int32, v_6 = (((mI M 5 0 1) + x4) - ((mI M 5 0 1) + x4) / 6 * 6) → (w_X5_has M x2 v_6 (fun (r_10 : Int32) (M_8 : Mem) => ((r_10 = 0 → (b_X5_choiceOf_209 k165 Q M_8 x2 x3 x4)) ∧ (¬ r_10 = 0 → (w_X5_has M_8 x3 v_6 (fun (r_16 : Int32) (M_14 : Mem) => ((r_16 = 0 → (Q (x3 ||| (1 <<< (v_6 &&& 31))) M_14)) ∧ (¬ r_16 = 0 → (b_X5_choiceOf_209 k165 Q M_14 x2 x3 x4)))))))))))))
def l_X5_choiceOf_165 (Q : Int32 → Mem → Prop) (n : Nat) : Mem → Int32 → Int32 → Int32 → Prop :=
  Nat.rec (motive := fun _ => Mem → Int32 → Int32 → Int32 → Prop) (fun _ _ _ _ => False) (fun _ k => b_X5_choiceOf_165 Q k) n
def b_X5_choiceOf_154 (k42 : Mem → Int32 → Int32 → Int32 → Int32 → Prop) (Q : Int32 → Mem → Prop) (M : Mem) (x1 : Int32) (x2 : Int32) (x4 : Int32) (s0 : Int32) (s1 : Int32) : Prop :=
  (∀ v_21 : Int32, v_21 = (s1 ||| s0) → (∀ v_22 : Int32, v_22 = x4 + 1 → (k42 M x1 x2 v_21 v_22)))
def b_X5_choiceOf_131 (k42 : Mem → Int32 → Int32 → Int32 → Int32 → Prop) (k54 : Mem → Int32 → Int32 → Int32 → Int32 → Int32 → Int32 → Prop) (Q : Int32 → Mem → Prop) (M : Mem) (x1 : Int32) (x2 : Int32) (x3 : Int32) (x4 : Int32) (x6 : Int32) (s0 : Int32) : Prop :=
  (∀ v_29 : Int32, v_29 = x6 + 1 → (k54 M x1 x2 x3 x4 s0 v_29))
def b_X5_choiceOf_129 (k42 : Mem → Int32 → Int32 → Int32 → Int32 → Prop) (k54 : Mem → Int32 → Int32 → Int32 → Int32 → Int32 → Int32 → Prop) (Q : Int32 → Mem → Prop) (M : Mem) (x1 : Int32) (x2 : Int32) (x3 : Int32) (x4 : Int32) (x5 : Int32) (x6 : Int32) : Prop :=
  (b_X5_choiceOf_131 k42 k54 Q M x1 x2 x3 x4 x6 x5)
def b_X5_choiceOf_124 (k42 : Mem → Int32 → Int32 → Int32 → Int32 → Prop) (k54 : Mem → Int32 → Int32 → Int32 → Int32 → Int32 → Int32 → Prop) (Q : Int32 → Mem → Prop) (M : Mem) (x1 : Int32) (x2 : Int32) (x3 : Int32) (x4 : Int32) (x6 : Int32) : Prop :=
  (b_X5_choiceOf_131 k42 k54 Q M x1 x2 x3 x4 x6 x6)
def b_X5_choiceOf_86 (k42 : Mem → Int32 → Int32 → Int32 → Int32 → Prop) (k54 : Mem → Int32 → Int32 → Int32 → Int32 → Int32 → Int32 → Prop) (Q : Int32 → Mem → Prop) (M : Mem) (x1 : Int32) (x2 : Int32) (x3 : Int32) (x4 : Int32) (x5 : Int32) (x6 : Int32) (s0 : Int32) : Prop :=
  ((s0 = 0 → (b_X5_choiceOf_129 k42 k54 Q M x1 x2 x3 x4 x5 x6)) ∧ (¬ s0 = 0 → ((x5 = (-1) → (b_X5_choiceOf_124 k42 k54 Q M x1 x2 x3 x4 x6)) ∧ (¬ x5 = (-1) → (mE M 5 0 = true ∧ (mF M 5 0 14 = true ∧ (w_X5_pair M x1 x6 (fun (r_36 : Int32) (M_34 : Mem) => (mE M_34 44 0 = true ∧ ((vp_in r_36 36) ∧ (mE M_34 5 0 = true ∧ (mF M_34 5 0 14 = true ∧ (w_X5_pair M_34 x1 x5 (fun (r_44 : Int32) (M_42 : Mem) => (mE M_42 44 0 = true ∧ ((vp_in r_44 36) ∧ (((mI M_34 44 0 r_36.toNatClampNeg) ≤ (mI M_42 44 0 r_44.toNatClampNeg) → (b_X5_choiceOf_129 k42 k54 Q M_42 x1 x2 x3 x4 x5 x6)) ∧ (¬ (mI M_34 44 0 r_36.toNatClampNeg) ≤ (mI M_42 44 0 r_44.toNatClampNeg) → (b_X5_choiceOf_124 k42 k54 Q M_42 x1 x2 x3 x4 x6)))))))))))))))))))
def b_X5_choiceOf_85 (k42 : Mem → Int32 → Int32 → Int32 → Int32 → Prop) (k54 : Mem → Int32 → Int32 → Int32 → Int32 → Int32 → Int32 → Prop) (Q : Int32 → Mem → Prop) (M : Mem) (x1 : Int32) (x2 : Int32) (x3 : Int32) (x4 : Int32) (x5 : Int32) (x6 : Int32) : Prop :=
  (b_X5_choiceOf_86 k42 k54 Q M x1 x2 x3 x4 x5 x6 0)
def b_X5_choiceOf_54 (k42 : Mem → Int32 → Int32 → Int32 → Int32 → Prop) (Q : Int32 → Mem → Prop) (k54 : Mem → Int32 → Int32 → Int32 → Int32 → Int32 → Int32 → Prop) (M : Mem) (x1 : Int32) (x2 : Int32) (x3 : Int32) (x4 : Int32) (x5 : Int32) (x6 : Int32) : Prop :=
  (mE M 5 0 = true ∧ (((mI M 5 0 3) ≤ x6 → ((x5 = (-1) → (b_X5_choiceOf_154 k42 Q M x1 x2 x4 0 x3)) ∧ (¬ x5 = (-1) → (b_X5_choiceOf_154 k42 Q M x1 x2 x4 (1 <<< (x5 &&& 31)) x3)))) ∧ (¬ (mI M 5 0 3) ≤ x6 → (w_X5_has M x2 x6 (fun (r_26 : Int32) (M_24 : Mem) => ((r_26 = 0 → (b_X5_choiceOf_85 k42 k54 Q M_24 x1 x2 x3 x4 x5 x6)) ∧ (¬ r_26 = 0 → (w_X5_has M_24 x3 x6 (fun (r_51 : Int32) (M_49 : Mem) => ((r_51 = 0 → (b_X5_choiceOf_86 k42 k54 Q M_49 x1 x2 x3 x4 x5 x6 1)) ∧ (¬ r_51 = 0 → (b_X5_choiceOf_85 k42 k54 Q M_49 x1 x2 x3 x4 x5 x6))))))))))))
def l_X5_choiceOf_54 (k42 : Mem → Int32 → Int32 → Int32 → Int32 → Prop) (Q : Int32 → Mem → Prop) (n : Nat) : Mem → Int32 → Int32 → Int32 → Int32 → Int32 → Int32 → Prop :=
  Nat.rec (motive := fun _ => Mem → Int32 → Int32 → Int32 → Int32 → Int32 → Int32 → Prop) (fun _ _ _ _ _ _ _ => False) (fun _ k => b_X5_choiceOf_54 k42 Q k) n
def b_X5_choiceOf_42 (Q : Int32 → Mem → Prop) (k42 : Mem → Int32 → Int32 → Int32 → Int32 → Prop) (M : Mem) (x1 : Int32) (x2 : Int32) (x3 : Int32) (x4 : Int32) : Prop :=
  (((2 : Int32) ≤ x4 → (∃ n : Nat, l_X5_choiceOf_165 Q n M x2 x3 0)) ∧ (¬ (2 : Int32) ≤ x4 → (∃ n : Nat, l_X5_choiceOf_54 k42 Q n M x1 x2 x3 x4 (-1) 0)))
def l_X5_choiceOf_42 (Q : Int32 → Mem → Prop) (n : Nat) : Mem → Int32 → Int32 → Int32 → Int32 → Prop :=
  Nat.rec (motive := fun _ => Mem → Int32 → Int32 → Int32 → Int32 → Prop) (fun _ _ _ _ _ => False) (fun _ k => b_X5_choiceOf_42 Q k) n
def b_X5_choiceOf_29 (k4 : Mem → Int32 → Int32 → Int32 → Prop) (Q : Int32 → Mem → Prop) (M : Mem) (x1 : Int32) (x3 : Int32) (s0 : Int32) (s1 : Int32) : Prop :=
  (∀ v_58 : Int32, v_58 = (s1 ||| s0) → (∀ v_59 : Int32, v_59 = x3 + 1 → (k4 M x1 v_58 v_59)))
def b_X5_choiceOf_4 (Q : Int32 → Mem → Prop) (k4 : Mem → Int32 → Int32 → Int32 → Prop) (M : Mem) (x1 : Int32) (x2 : Int32) (x3 : Int32) : Prop :=
  (mE M 5 0 = true ∧ (((mI M 5 0 3) ≤ x3 → (∃ n : Nat, l_X5_choiceOf_42 Q n M x1 x2 0 0)) ∧ (¬ (mI M 5 0 3) ≤ x3 → (w_X5_wants M x3 x1 (fun (r_56 : Int32) (M_54 : Mem) => ((r_56 = 0 → (b_X5_choiceOf_29 k4 Q M_54 x1 x3 0 x2)) ∧ (¬ r_56 = 0 → (b_X5_choiceOf_29 k4 Q M_54 x1 x3 (1 <<< (x3 &&& 31)) x2))))))))
def l_X5_choiceOf_4 (Q : Int32 → Mem → Prop) (n : Nat) : Mem → Int32 → Int32 → Int32 → Prop :=
  Nat.rec (motive := fun _ => Mem → Int32 → Int32 → Int32 → Prop) (fun _ _ _ _ => False) (fun _ k => b_X5_choiceOf_4 Q k) n
def w_X5_choiceOf (M : Mem) (a1 : Int32) (Q : Int32 → Mem → Prop) : Prop :=
  (∃ n : Nat, l_X5_choiceOf_4 Q n M a1 0 0)
def b_X5_looks_81 (k2 : Mem → Int32 → Prop) (k36 : Mem → Int32 → Int32 → Prop) (Q : Mem → Prop) (M : Mem) (x1 : Int32) (x2 : Int32) (s0 : Int32) (s1 : Int32) : Prop :=
  (mE M 47 0 = true ∧ ((vp_in s1 36) ∧ (∀ M_26 : Mem, M_26 = wI M 47 0 s1.toNatClampNeg s0 → (∀ v_27 : Int32, v_27 = x2 + 1 → (k36 M_26 x1 v_27)))))
def b_X5_looks_80 (k2 : Mem → Int32 → Prop) (k36 : Mem → Int32 → Int32 → Prop) (Q : Mem → Prop) (M : Mem) (x1 : Int32) (x2 : Int32) (s0 : Int32) : Prop :=
  (b_X5_looks_81 k2 k36 Q M x1 x2 0 s0)
def b_X5_looks_36 (k2 : Mem → Int32 → Prop) (Q : Mem → Prop) (k36 : Mem → Int32 → Int32 → Prop) (M : Mem) (x1 : Int32) (x2 : Int32) : Prop :=
  (mE M 5 0 = true ∧ (((mI M 5 0 3) ≤ x2 → (∀ v_13 : Int32, v_13 = x1 + 1 → (k2 M v_13))) ∧ (¬ (mI M 5 0 3) ≤ x2 → (mF M 5 0 17 = true ∧ (w_X5_pair M x1 x2 (fun (r_18 : Int32) (M_16 : Mem) => (mE M_16 5 0 = true ∧ (mF M_16 5 0 4 = true ∧ (mE M_16 34 0 = true ∧ ((vp_in x1 6) ∧ (((mI M_16 34 0 x1.toNatClampNeg) = 0 → (b_X5_looks_80 k2 k36 Q M_16 x1 x2 r_18)) ∧ (¬ (mI M_16 34 0 x1.toNatClampNeg) = 0 → ((vp_in x2 6) ∧ (((mI M_16 34 0 x2.toNatClampNeg) = 0 → (b_X5_looks_80 k2 k36 Q M_16 x1 x2 r_18)) ∧ (¬ (mI M_16 34 0 x2.toNatClampNeg) = 0 → (w_X5_shownBy M_16 x1 x2 (fun (r_33 : Int32) (M_31 : Mem) => (b_X5_looks_81 k2 k36 Q M_31 x1 x2 r_33 r_18))))))))))))))))))
def l_X5_looks_36 (k2 : Mem → Int32 → Prop) (Q : Mem → Prop) (n : Nat) : Mem → Int32 → Int32 → Prop :=
  Nat.rec (motive := fun _ => Mem → Int32 → Int32 → Prop) (fun _ _ _ => False) (fun _ k => b_X5_looks_36 k2 Q k) n
def b_X5_looks_33 (k2 : Mem → Int32 → Prop) (Q : Mem → Prop) (M : Mem) (x1 : Int32) (s0 : Int32) (s1 : Int32) : Prop :=
  (mE M 48 0 = true ∧ ((vp_in s1 6) ∧ (∀ M_10 : Mem, M_10 = wI M 48 0 s1.toNatClampNeg s0 → (∃ n : Nat, l_X5_looks_36 k2 Q n M_10 x1 0))))
def b_X5_looks_2 (Q : Mem → Prop) (k2 : Mem → Int32 → Prop) (M : Mem) (x1 : Int32) : Prop :=
  (mE M 5 0 = true ∧ (((mI M 5 0 3) ≤ x1 → (Q M)) ∧ (¬ (mI M 5 0 3) ≤ x1 → (mF M 5 0 18 = true ∧ (mF M 5 0 4 = true ∧ (mE M 34 0 = true ∧ ((vp_in x1 6) ∧ (((mI M 34 0 x1.toNatClampNeg) = 0 → (b_X5_looks_33 k2 Q M x1 0 x1)) ∧ (¬ (mI M 34 0 x1.toNatClampNeg) = 0 → (w_X5_choiceOf M x1 (fun (r_37 : Int32) (M_35 : Mem) => (b_X5_looks_33 k2 Q M_35 x1 r_37 x1))))))))))))
def l_X5_looks_2 (Q : Mem → Prop) (n : Nat) : Mem → Int32 → Prop :=
  Nat.rec (motive := fun _ => Mem → Int32 → Prop) (fun _ _ => False) (fun _ k => b_X5_looks_2 Q k) n
def w_X5_looks (M : Mem) (Q : Mem → Prop) : Prop :=
  (∃ n : Nat, l_X5_looks_2 Q n M 0)
def w_X5_at (M : Mem) (a0 : Int32) (a1 : Int32) (Q : Int32 → Mem → Prop) : Prop :=
  (Q ((12 * a0) + a1) M)
def b_X5_isBetter_149 (Q : Int32 → Mem → Prop) (M : Mem) : Prop :=
  (Q 1 M)
def b_X5_isBetter_132 (Q : Int32 → Mem → Prop) (M : Mem) (x2 : Int32) (x3 : Int32) (s0 : Int32) : Prop :=
  ((s0 < 0 → (b_X5_isBetter_149 Q M)) ∧ (¬ s0 < 0 → ((s0 = 0 → ((x3 ≤ x2 → (Q 0 M)) ∧ (¬ x3 ≤ x2 → (b_X5_isBetter_149 Q M)))) ∧ (¬ s0 = 0 → (Q 0 M)))))
def b_X5_isBetter_60 (Q : Int32 → Mem → Prop) (M : Mem) (x1 : Int32) (x2 : Int32) (x3 : Int32) (x4 : Int32) (s0 : Int32) : Prop :=
  ((x4 = s0 → (mE M 5 0 = true ∧ (mF M 5 0 2 = true ∧ (mE M 32 0 = true ∧ ((vp_in x2 12) ∧ ((vp_in x3 12) ∧ (((mI M 32 0 x2.toNatClampNeg) = (mI M 32 0 x3.toNatClampNeg) → (mF M 5 0 7 = true ∧ (mE M 37 0 = true ∧ ((vp_in x1 6) ∧ (((mI M 37 0 x1.toNatClampNeg) = 0 → (w_X5_holdersOf M x2 (fun (r_49 : Int32) (M_47 : Mem) => (mE M_47 5 0 = true ∧ (w_X5_holdersOf M_47 x3 (fun (r_54 : Int32) (M_52 : Mem) => (b_X5_isBetter_132 Q M_52 x2 x3 (r_49 - r_54)))))))) ∧ (¬ (mI M 37 0 x1.toNatClampNeg) = 0 → (b_X5_isBetter_132 Q M x2 x3 0))))))) ∧ (¬ (mI M 32 0 x2.toNatClampNeg) = (mI M 32 0 x3.toNatClampNeg) → ((vp_in x2 12) ∧ ((vp_in x3 12) ∧ (((mI M 32 0 x2.toNatClampNeg) ≤ (mI M 32 0 x3.toNatClampNeg) → (Q 0 M)) ∧ (¬ (mI M 32 0 x2.toNatClampNeg) ≤ (mI M 32 0 x3.toNatClampNeg) → (Q 1 M))))))))))))) ∧ (¬ x4 = s0 → ((x4 = 0 ∨ x4 = 1) ∧ (Q x4 M))))
def b_X5_isBetter_29 (Q : Int32 → Mem → Prop) (M : Mem) (x1 : Int32) (x2 : Int32) (x3 : Int32) (s0 : Int32) : Prop :=
  (mE M 5 0 = true ∧ (mF M 5 0 10 = true ∧ (w_X5_at M x1 x3 (fun (r_23 : Int32) (M_21 : Mem) => (mE M_21 40 0 = true ∧ ((vp_in r_23 72) ∧ (mE M_21 5 0 = true ∧ (mF M_21 5 0 12 = true ∧ (w_X5_at M_21 x1 x3 (fun (r_31 : Int32) (M_29 : Mem) => (mE M_29 42 0 = true ∧ ((vp_in r_31 72) ∧ ((((mI M_21 40 0 r_23.toNatClampNeg) ||| (mI M_29 42 0 r_31.toNatClampNeg)) = 0 → (b_X5_isBetter_60 Q M_29 x1 x2 x3 s0 0)) ∧ (¬ ((mI M_21 40 0 r_23.toNatClampNeg) ||| (mI M_29 42 0 r_31.toNatClampNeg)) = 0 → (b_X5_isBetter_60 Q M_29 x1 x2 x3 s0 1)))))))))))))))
def w_X5_isBetter (M : Mem) (a1 : Int32) (a2 : Int32) (a3 : Int32) (Q : Int32 → Mem → Prop) : Prop :=
  (mE M 5 0 = true ∧ (mF M 5 0 10 = true ∧ (w_X5_at M a1 a2 (fun (r_6 : Int32) (M_4 : Mem) => (mE M_4 40 0 = true ∧ ((vp_in r_6 72) ∧ (mE M_4 5 0 = true ∧ (mF M_4 5 0 12 = true ∧ (w_X5_at M_4 a1 a2 (fun (r_14 : Int32) (M_12 : Mem) => (mE M_12 42 0 = true ∧ ((vp_in r_14 72) ∧ ((((mI M_4 40 0 r_6.toNatClampNeg) ||| (mI M_12 42 0 r_14.toNatClampNeg)) = 0 → (b_X5_isBetter_29 Q M_12 a1 a2 a3 0)) ∧ (¬ ((mI M_4 40 0 r_6.toNatClampNeg) ||| (mI M_12 42 0 r_14.toNatClampNeg)) = 0 → (b_X5_isBetter_29 Q M_12 a1 a2 a3 1)))))))))))))))
def b_X5_lowest_2 (Q : Int32 → Mem → Prop) (k2 : Mem → Int32 → Int32 → Prop) (M : Mem) (x0 : Int32) (x1 : Int32) : Prop :=
  (w_X5_has M x0 x1 (fun (r_4 : Int32) (M_2 : Mem) => ((r_4 = 0 → (∀ v_6 : Int32, v_6 = x1 + 1 → (k2 M_2 x0 v_6))) ∧ (¬ r_4 = 0 → (Q x1 M_2)))))
def l_X5_lowest_2 (Q : Int32 → Mem → Prop) (n : Nat) : Mem → Int32 → Int32 → Prop :=
  Nat.rec (motive := fun _ => Mem → Int32 → Int32 → Prop) (fun _ _ _ => False) (fun _ k => b_X5_lowest_2 Q k) n
def w_X5_lowest (M : Mem) (a0 : Int32) (Q : Int32 → Mem → Prop) : Prop :=
  (∃ n : Nat, l_X5_lowest_2 Q n M a0 0)
def b_X5_hasAskedAll_64 (k11 : Mem → Int32 → Int32 → Int32 → Int32 → Prop) (Q : Int32 → Mem → Prop) (M : Mem) (x1 : Int32) (x2 : Int32) (x4 : Int32) (s0 : Int32) : Prop :=
  (∀ v_9 : Int32, v_9 = x4 + 1 → (k11 M x1 x2 s0 v_9))
def b_X5_hasAskedAll_63 (k11 : Mem → Int32 → Int32 → Int32 → Int32 → Prop) (Q : Int32 → Mem → Prop) (M : Mem) (x1 : Int32) (x2 : Int32) (x4 : Int32) : Prop :=
  (b_X5_hasAskedAll_64 k11 Q M x1 x2 x4 0)
def b_X5_hasAskedAll_59 (k11 : Mem → Int32 → Int32 → Int32 → Int32 → Prop) (Q : Int32 → Mem → Prop) (M : Mem) (x1 : Int32) (x2 : Int32) (x4 : Int32) : Prop :=
  (b_X5_hasAskedAll_64 k11 Q M x1 x2 x4 1)
def b_X5_hasAskedAll_11 (Q : Int32 → Mem → Prop) (k11 : Mem → Int32 → Int32 → Int32 → Int32 → Prop) (M : Mem) (x1 : Int32) (x2 : Int32) (x3 : Int32) (x4 : Int32) : Prop :=
  (((12 : Int32) ≤ x4 → ((x3 = 0 ∨ x3 = 1) ∧ (Q x3 M))) ∧ (¬ (12 : Int32) ≤ x4 → ((x3 = 0 → (b_X5_hasAskedAll_63 k11 Q M x1 x2 x4)) ∧ (¬ x3 = 0 → (w_X5_has M x2 x4 (fun (r_13 : Int32) (M_11 : Mem) => ((r_13 = 0 → (b_X5_hasAskedAll_59 k11 Q M_11 x1 x2 x4)) ∧ (¬ r_13 = 0 → (mE M_11 5 0 = true ∧ (mF M_11 5 0 10 = true ∧ (w_X5_at M_11 x1 x4 (fun (r_20 : Int32) (M_18 : Mem) => (mE M_18 40 0 = true ∧ ((vp_in r_20 72) ∧ (mE M_18 5 0 = true ∧ (mF M_18 5 0 12 = true ∧ (w_X5_at M_18 x1 x4 (fun (r_28 : Int32) (M_26 : Mem) => (mE M_26 42 0 = true ∧ ((vp_in r_28 72) ∧ ((((mI M_18 40 0 r_20.toNatClampNeg) ||| (mI M_26 42 0 r_28.toNatClampNeg)) = 15 → (b_X5_hasAskedAll_59 k11 Q M_26 x1 x2 x4)) ∧ (¬ ((mI M_18 40 0 r_20.toNatClampNeg) ||| (mI M_26 42 0 r_28.toNatClampNeg)) = 15 → (b_X5_hasAskedAll_63 k11 Q M_26 x1 x2 x4)))))))))))))))))))))))
def l_X5_hasAskedAll_11 (Q : Int32 → Mem → Prop) (n : Nat) : Mem → Int32 → Int32 → Int32 → Int32 → Prop :=
  Nat.rec (motive := fun _ => Mem → Int32 → Int32 → Int32 → Int32 → Prop) (fun _ _ _ _ _ => False) (fun _ k => b_X5_hasAskedAll_11 Q k) n
def w_X5_hasAskedAll (M : Mem) (a1 : Int32) (Q : Int32 → Mem → Prop) : Prop :=
  (mE M 5 0 = true ∧ (w_X5_lackedBy M a1 (fun (r_5 : Int32) (M_3 : Mem) => (∃ n : Nat, l_X5_hasAskedAll_11 Q n M_3 a1 r_5 1 0))))
def b_X5_blockFor_141 (k27 : Mem → Int32 → Int32 → Int32 → Int32 → Int32 → Prop) (Q : Int32 → Mem → Prop) (M : Mem) (x1 : Int32) (x3 : Int32) (x4 : Int32) (x6 : Int32) (s0 : Int32) : Prop :=
  (∀ v_59 : Int32, v_59 = x6 + (-1) → (k27 M x1 x3 x4 s0 v_59))
def b_X5_blockFor_119 (k27 : Mem → Int32 → Int32 → Int32 → Int32 → Int32 → Prop) (Q : Int32 → Mem → Prop) (M : Mem) (x1 : Int32) (x3 : Int32) (x5 : Int32) (x6 : Int32) (x7 : Int32) (s0 : Int32) : Prop :=
  ((x7 = 0 → (b_X5_blockFor_141 k27 Q M x1 x3 s0 x6 x5)) ∧ (¬ x7 = 0 → (w_X5_lowest M x7 (fun (r_63 : Int32) (M_61 : Mem) => (b_X5_blockFor_141 k27 Q M_61 x1 x3 s0 x6 ((4 * x6) + r_63))))))
def b_X5_blockFor_117 (k27 : Mem → Int32 → Int32 → Int32 → Int32 → Int32 → Prop) (Q : Int32 → Mem → Prop) (M : Mem) (x1 : Int32) (x3 : Int32) (x4 : Int32) (x5 : Int32) (x6 : Int32) (x7 : Int32) : Prop :=
  (b_X5_blockFor_119 k27 Q M x1 x3 x5 x6 x7 x4)
def b_X5_blockFor_112 (k27 : Mem → Int32 → Int32 → Int32 → Int32 → Int32 → Prop) (Q : Int32 → Mem → Prop) (M : Mem) (x1 : Int32) (x3 : Int32) (x5 : Int32) (x6 : Int32) (x7 : Int32) : Prop :=
  (b_X5_blockFor_119 k27 Q M x1 x3 x5 x6 x7 x6)
def b_X5_blockFor_87 (k27 : Mem → Int32 → Int32 → Int32 → Int32 → Int32 → Prop) (Q : Int32 → Mem → Prop) (M : Mem) (x1 : Int32) (x3 : Int32) (x4 : Int32) (x5 : Int32) (x6 : Int32) (x7 : Int32) (s0 : Int32) : Prop :=
  ((s0 = 0 → (b_X5_blockFor_117 k27 Q M x1 x3 x4 x5 x6 x7)) ∧ (¬ s0 = 0 → ((x4 = (-1) → (b_X5_blockFor_112 k27 Q M x1 x3 x5 x6 x7)) ∧ (¬ x4 = (-1) → (mE M 5 0 = true ∧ (w_X5_isBetter M x1 x6 x4 (fun (r_69 : Int32) (M_67 : Mem) => ((r_69 = 0 → (b_X5_blockFor_117 k27 Q M_67 x1 x3 x4 x5 x6 x7)) ∧ (¬ r_69 = 0 → (b_X5_blockFor_112 k27 Q M_67 x1 x3 x5 x6 x7))))))))))
def b_X5_blockFor_61 (k27 : Mem → Int32 → Int32 → Int32 → Int32 → Int32 → Prop) (Q : Int32 → Mem → Prop) (M : Mem) (x1 : Int32) (x3 : Int32) (x4 : Int32) (x5 : Int32) (x6 : Int32) (s0 : Int32) : Prop :=
  (mE M 5 0 = true ∧ (mF M 5 0 12 = true ∧ (w_X5_at M x1 x6 (fun (r_53 : Int32) (M_51 : Mem) => (mE M_51 42 0 = true ∧ ((vp_in r_53 72) ∧ (((s0 &&& ((mI M_51 42 0 r_53.toNatClampNeg) ^^^ (-1))) = 0 → (b_X5_blockFor_87 k27 Q M_51 x1 x3 x4 x5 x6 s0 0)) ∧ (¬ (s0 &&& ((mI M_51 42 0 r_53.toNatClampNeg) ^^^ (-1))) = 0 → (b_X5_blockFor_87 k27 Q M_51 x1 x3 x4 x5 x6 s0 1)))))))))
def b_X5_blockFor_27 (Q : Int32 → Mem → Prop) (k27 : Mem → Int32 → Int32 → Int32 → Int32 → Int32 → Prop) (M : Mem) (x1 : Int32) (x3 : Int32) (x4 : Int32) (x5 : Int32) (x6 : Int32) : Prop :=
  ((x6 < 0 → ((x4 = (-1) → (mE M 5 0 = true ∧ (w_X5_hasAskedAll M x1 (fun (r_21 : Int32) (M_19 : Mem) => ((r_21 = 0 → (Q (-1) M_19)) ∧ (¬ r_21 = 0 → (Q x5 M_19))))))) ∧ (¬ x4 = (-1) → (mE M 5 0 = true ∧ (mF M 5 0 10 = true ∧ (w_X5_at M x1 x4 (fun (r_28 : Int32) (M_26 : Mem) => (mE M_26 40 0 = true ∧ ((vp_in r_28 72) ∧ (mE M_26 5 0 = true ∧ (mF M_26 5 0 12 = true ∧ (w_X5_at M_26 x1 x4 (fun (r_36 : Int32) (M_34 : Mem) => (mE M_34 42 0 = true ∧ ((vp_in r_36 72) ∧ (w_X5_lowest M_34 ((15 &&& ((mI M_26 40 0 r_28.toNatClampNeg) ^^^ (-1))) &&& ((mI M_34 42 0 r_36.toNatClampNeg) ^^^ (-1))) (fun (r_42 : Int32) (M_40 : Mem) => (Q ((4 * x4) + r_42) M_40)))))))))))))))))) ∧ (¬ x6 < 0 → (w_X5_has M x3 x6 (fun (r_46 : Int32) (M_44 : Mem) => ((r_46 = 0 → (b_X5_blockFor_61 k27 Q M_44 x1 x3 x4 x5 x6 0)) ∧ (¬ r_46 = 0 → (mE M_44 5 0 = true ∧ (mF M_44 5 0 10 = true ∧ (w_X5_at M_44 x1 x6 (fun (r_76 : Int32) (M_74 : Mem) => (mE M_74 40 0 = true ∧ ((vp_in r_76 72) ∧ (b_X5_blockFor_61 k27 Q M_74 x1 x3 x4 x5 x6 (15 &&& ((mI M_74 40 0 r_76.toNatClampNeg) ^^^ (-1))))))))))))))))
def l_X5_blockFor_27 (Q : Int32 → Mem → Prop) (n : Nat) : Mem → Int32 → Int32 → Int32 → Int32 → Int32 → Prop :=
  Nat.rec (motive := fun _ => Mem → Int32 → Int32 → Int32 → Int32 → Int32 → Prop) (fun _ _ _ _ _ _ => False) (fun _ k => b_X5_blockFor_27 Q k) n
def w_X5_blockFor (M : Mem) (a1 : Int32) (a2 : Int32) (Q : Int32 → Mem → Prop) : Prop :=
  (mE M 5 0 = true ∧ (mF M 5 0 17 = true ∧ (w_X5_pair M a2 a1 (fun (r_6 : Int32) (M_4 : Mem) => (mE M_4 47 0 = true ∧ ((vp_in r_6 36) ∧ (mE M_4 5 0 = true ∧ (w_X5_lackedBy M_4 a1 (fun (r_13 : Int32) (M_11 : Mem) => (∀ v_14 : Int32, v_14 = ((mI M_4 47 0 r_6.toNatClampNeg) &&& r_13) → (∃ n : Nat, l_X5_blockFor_27 Q n M_11 a1 v_14 (-1) (-1) 11)))))))))))
def b_X5_asks_135 (k28 : Mem → Int32 → Prop) (k38 : Mem → Int32 → Int32 → Prop) (Q : Mem → Prop) (M : Mem) (x1 : Int32) (x2 : Int32) : Prop :=
  (∀ v_18 : Int32, v_18 = x2 + 1 → (k38 M x1 v_18))
def b_X5_asks_69 (k28 : Mem → Int32 → Prop) (k38 : Mem → Int32 → Int32 → Prop) (Q : Mem → Prop) (M : Mem) (x1 : Int32) (x2 : Int32) (s0 : Int32) : Prop :=
  ((s0 = (-1) → (b_X5_asks_135 k28 k38 Q M x1 x2)) ∧ (¬ s0 = (-1) → (mE M 5 0 = true ∧ (mF M 5 0 12 = true ∧ (w_X5_at M x1 (s0 / 4) (fun (r_24 : Int32) (M_22 : Mem) => (mE M_22 42 0 = true ∧ ((vp_in r_24 72) ∧ ((vp_in r_24 72) ∧ (∀ M_28 : Mem, M_28 = wI M_22 42 0 r_24.toNatClampNeg ((mI M_22 42 0 r_24.toNatClampNeg) ||| (1 <<< ((s0 - s0 / 4 * 4) &&& 31))) → (mE M_28 5 0 = true ∧ (mF M_28 5 0 20 = true ∧ (mE M_28 50 0 = true ∧ ((vp_in (mI M_28 5 0 19) 36) ∧ (∀ M_33 : Mem, M_33 = wI M_28 50 0 ((mI M_28 5 0 19).toNatClampNeg) x1 → (mF M_33 5 0 21 = true ∧ (mE M_33 51 0 = true ∧ ((vp_in (mI M_33 5 0 19) 36) ∧ (∀ M_37 : Mem, M_37 = wI M_33 51 0 ((mI M_33 5 0 19).toNatClampNeg) x2 → (mF M_37 5 0 22 = true ∧ (mE M_37 52 0 = true ∧ ((vp_in (mI M_37 5 0 19) 36) ∧ (∀ M_41 : Mem, M_41 = wI M_37 52 0 ((mI M_37 5 0 19).toNatClampNeg) s0 → (∀ M_42 : Mem, M_42 = wI M_41 5 0 19 ((mI M_41 5 0 19) + 1) → (b_X5_asks_135 k28 k38 Q M_42 x1 x2)))))))))))))))))))))))))
def b_X5_asks_38 (k28 : Mem → Int32 → Prop) (Q : Mem → Prop) (k38 : Mem → Int32 → Int32 → Prop) (M : Mem) (x1 : Int32) (x2 : Int32) : Prop :=
  (mE M 5 0 = true ∧ (((mI M 5 0 3) ≤ x2 → (∀ v_8 : Int32, v_8 = x1 + 1 → (k28 M v_8))) ∧ (¬ (mI M 5 0 3) ≤ x2 → (mF M 5 0 18 = true ∧ (mE M 48 0 = true ∧ ((vp_in x2 6) ∧ (w_X5_has M (mI M 48 0 x2.toNatClampNeg) x1 (fun (r_15 : Int32) (M_13 : Mem) => ((r_15 = 0 → (b_X5_asks_69 k28 k38 Q M_13 x1 x2 (-1))) ∧ (¬ r_15 = 0 → (mE M_13 5 0 = true ∧ (w_X5_blockFor M_13 x1 x2 (fun (r_47 : Int32) (M_45 : Mem) => (b_X5_asks_69 k28 k38 Q M_45 x1 x2 r_47))))))))))))))
def l_X5_asks_38 (k28 : Mem → Int32 → Prop) (Q : Mem → Prop) (n : Nat) : Mem → Int32 → Int32 → Prop :=
  Nat.rec (motive := fun _ => Mem → Int32 → Int32 → Prop) (fun _ _ _ => False) (fun _ k => b_X5_asks_38 k28 Q k) n
def b_X5_asks_28 (Q : Mem → Prop) (k28 : Mem → Int32 → Prop) (M : Mem) (x1 : Int32) : Prop :=
  (mE M 5 0 = true ∧ (((mI M 5 0 3) ≤ x1 → (Q M)) ∧ (¬ (mI M 5 0 3) ≤ x1 → (∃ n : Nat, l_X5_asks_38 k28 Q n M x1 0))))
def l_X5_asks_28 (Q : Mem → Prop) (n : Nat) : Mem → Int32 → Prop :=
  Nat.rec (motive := fun _ => Mem → Int32 → Prop) (fun _ _ => False) (fun _ k => b_X5_asks_28 Q k) n
def b_X5_asks_7 (Q : Mem → Prop) (k7 : Mem → Int32 → Prop) (M : Mem) (x1 : Int32) : Prop :=
  (((72 : Int32) ≤ x1 → (∃ n : Nat, l_X5_asks_28 Q n M 0)) ∧ (¬ (72 : Int32) ≤ x1 → (mE M 5 0 = true ∧ (mF M 5 0 12 = true ∧ (mE M 42 0 = true ∧ ((vp_in x1 72) ∧ (∀ M_52 : Mem, M_52 = wI M 42 0 x1.toNatClampNeg 0 → (∀ v_53 : Int32, v_53 = x1 + 1 → (k7 M_52 v_53)))))))))
def l_X5_asks_7 (Q : Mem → Prop) (n : Nat) : Mem → Int32 → Prop :=
  Nat.rec (motive := fun _ => Mem → Int32 → Prop) (fun _ _ => False) (fun _ k => b_X5_asks_7 Q k) n
def w_X5_asks (M : Mem) (Q : Mem → Prop) : Prop :=
  (mE M 5 0 = true ∧ (∀ M_2 : Mem, M_2 = wI M 5 0 19 0 → (∃ n : Nat, l_X5_asks_7 Q n M_2 0)))
def b_X5_comes_198 (k25 : Mem → Int32 → Int32 → Prop) (Q : Int32 → Mem → Prop) (M : Mem) (x1 : Int32) (x2 : Int32) : Prop :=
  (∀ v_70 : Int32, v_70 = x2 + 1 → (k25 M x1 v_70))
def b_X5_comes_142 (k25 : Mem → Int32 → Int32 → Prop) (Q : Int32 → Mem → Prop) (M : Mem) (x1 : Int32) (x2 : Int32) (s0 : Int32) (s1 : Int32) (s2 : Int32) : Prop :=
  (mE M 41 0 = true ∧ ((vp_in s2 72) ∧ (∀ M_43 : Mem, M_43 = wI M 41 0 s2.toNatClampNeg (s1 ||| s0) → (mE M_43 5 0 = true ∧ (mF M_43 5 0 13 = true ∧ (mF M_43 5 0 20 = true ∧ (mE M_43 50 0 = true ∧ ((vp_in x2 36) ∧ (mF M_43 5 0 22 = true ∧ (mE M_43 52 0 = true ∧ ((vp_in x2 36) ∧ (mF M_43 5 0 21 = true ∧ (mE M_43 51 0 = true ∧ ((vp_in x2 36) ∧ (mE M_43 43 0 = true ∧ ((vp_in ((48 * (mI M_43 50 0 x2.toNatClampNeg)) + (mI M_43 52 0 x2.toNatClampNeg)) 288) ∧ (∀ M_57 : Mem, M_57 = wI M_43 43 0 (((48 * (mI M_43 50 0 x2.toNatClampNeg)) + (mI M_43 52 0 x2.toNatClampNeg)).toNatClampNeg) (mI M_43 51 0 x2.toNatClampNeg) → (mF M_57 5 0 14 = true ∧ ((vp_in x2 36) ∧ ((vp_in x2 36) ∧ (w_X5_pair M_57 (mI M_57 50 0 x2.toNatClampNeg) (mI M_57 51 0 x2.toNatClampNeg) (fun (r_64 : Int32) (M_62 : Mem) => (mE M_62 44 0 = true ∧ ((vp_in r_64 36) ∧ ((vp_in r_64 36) ∧ (∀ M_68 : Mem, M_68 = wI M_62 44 0 r_64.toNatClampNeg ((mI M_62 44 0 r_64.toNatClampNeg) + 1) → (∀ v_69 : Int32, v_69 = x1 + 1 → (b_X5_comes_198 k25 Q M_68 v_69 x2))))))))))))))))))))))))))))
def b_X5_comes_25 (Q : Int32 → Mem → Prop) (k25 : Mem → Int32 → Int32 → Prop) (M : Mem) (x1 : Int32) (x2 : Int32) : Prop :=
  (mE M 5 0 = true ∧ (((mI M 5 0 19) ≤ x2 → (Q x1 M)) ∧ (¬ (mI M 5 0 19) ≤ x2 → (mF M 5 0 20 = true ∧ (mE M 50 0 = true ∧ ((vp_in x2 36) ∧ (mF M 5 0 22 = true ∧ (mE M 52 0 = true ∧ ((vp_in x2 36) ∧ (w_X5_at M (mI M 50 0 x2.toNatClampNeg) ((mI M 52 0 x2.toNatClampNeg) / 4) (fun (r_13 : Int32) (M_11 : Mem) => (mE M_11 5 0 = true ∧ (mF M_11 5 0 22 = true ∧ (mE M_11 52 0 = true ∧ ((vp_in x2 36) ∧ (∀ v_18 : Int32, v_18 = (1 <<< (((mI M_11 52 0 x2.toNatClampNeg) - (mI M_11 52 0 x2.toNatClampNeg) / 4 * 4) &&& 31)) → (mF M_11 5 0 10 = true ∧ (mE M_11 40 0 = true ∧ ((vp_in r_13 72) ∧ ((((mI M_11 40 0 r_13.toNatClampNeg) &&& v_18) = 0 → ((vp_in r_13 72) ∧ ((vp_in r_13 72) ∧ (∀ M_25 : Mem, M_25 = wI M_11 40 0 r_13.toNatClampNeg ((mI M_11 40 0 r_13.toNatClampNeg) ||| v_18) → (mF M_25 5 0 11 = true ∧ (mE M_25 41 0 = true ∧ ((vp_in r_13 72) ∧ (mF M_25 5 0 8 = true ∧ (mF M_25 5 0 21 = true ∧ (mE M_25 51 0 = true ∧ ((vp_in x2 36) ∧ (mE M_25 38 0 = true ∧ ((vp_in (mI M_25 51 0 x2.toNatClampNeg) 6) ∧ ((vp_in x2 36) ∧ (w_X5_has M_25 (mI M_25 38 0 ((mI M_25 51 0 x2.toNatClampNeg).toNatClampNeg)) ((mI M_25 52 0 x2.toNatClampNeg) / 4) (fun (r_39 : Int32) (M_37 : Mem) => ((r_39 = 0 → (b_X5_comes_142 k25 Q M_37 x1 x2 0 (mI M_25 41 0 r_13.toNatClampNeg) r_13)) ∧ (¬ r_39 = 0 → (b_X5_comes_142 k25 Q M_37 x1 x2 v_18 (mI M_25 41 0 r_13.toNatClampNeg) r_13))))))))))))))))))) ∧ (¬ ((mI M_11 40 0 r_13.toNatClampNeg) &&& v_18) = 0 → (mF M_11 5 0 9 = true ∧ (mF M_11 5 0 20 = true ∧ (mE M_11 50 0 = true ∧ ((vp_in x2 36) ∧ (mE M_11 39 0 = true ∧ ((vp_in (mI M_11 50 0 x2.toNatClampNeg) 6) ∧ ((vp_in (mI M_11 50 0 x2.toNatClampNeg) 6) ∧ (∀ M_78 : Mem, M_78 = wI M_11 39 0 ((mI M_11 50 0 x2.toNatClampNeg).toNatClampNeg) ((mI M_11 39 0 ((mI M_11 50 0 x2.toNatClampNeg).toNatClampNeg)) + 1) → (b_X5_comes_198 k25 Q M_78 x1 x2))))))))))))))))))))))))))))))
def l_X5_comes_25 (Q : Int32 → Mem → Prop) (n : Nat) : Mem → Int32 → Int32 → Prop :=
  Nat.rec (motive := fun _ => Mem → Int32 → Int32 → Prop) (fun _ _ _ => False) (fun _ k => b_X5_comes_25 Q k) n
def b_X5_comes_4 (Q : Int32 → Mem → Prop) (k4 : Mem → Int32 → Int32 → Prop) (M : Mem) (x1 : Int32) (x2 : Int32) : Prop :=
  (((36 : Int32) ≤ x2 → (∃ n : Nat, l_X5_comes_25 Q n M x1 0)) ∧ (¬ (36 : Int32) ≤ x2 → (mE M 5 0 = true ∧ (mF M 5 0 14 = true ∧ (mE M 44 0 = true ∧ ((vp_in x2 36) ∧ (∀ M_83 : Mem, M_83 = wI M 44 0 x2.toNatClampNeg 0 → (∀ v_84 : Int32, v_84 = x2 + 1 → (k4 M_83 x1 v_84)))))))))
def l_X5_comes_4 (Q : Int32 → Mem → Prop) (n : Nat) : Mem → Int32 → Int32 → Prop :=
  Nat.rec (motive := fun _ => Mem → Int32 → Int32 → Prop) (fun _ _ _ => False) (fun _ k => b_X5_comes_4 Q k) n
def w_X5_comes (M : Mem) (Q : Int32 → Mem → Prop) : Prop :=
  (∃ n : Nat, l_X5_comes_4 Q n M 0 0)
def b_X5_drops_123 (k2 : Mem → Int32 → Int32 → Int32 → Prop) (Q : Mem → Prop) (M : Mem) (x1 : Int32) (x2 : Int32) (x3 : Int32) (s0 : Int32) (s1 : Int32) : Prop :=
  (mE M 46 0 = true ∧ ((vp_in s1 36) ∧ ((s0 = 0 ∨ s0 = 1) ∧ (∀ M_40 : Mem, M_40 = wI M 46 0 s1.toNatClampNeg s0 → (∀ v_42 : Int32, v_42 = x3 + 1 → (k2 M_40 x1 x2 v_42))))))
def b_X5_drops_118 (k2 : Mem → Int32 → Int32 → Int32 → Prop) (Q : Mem → Prop) (M : Mem) (x1 : Int32) (x2 : Int32) (x3 : Int32) (s0 : Int32) : Prop :=
  (b_X5_drops_123 k2 Q M x1 x2 x3 1 s0)
def b_X5_drops_83 (k2 : Mem → Int32 → Int32 → Int32 → Prop) (Q : Mem → Prop) (M : Mem) (x1 : Int32) (x2 : Int32) (x3 : Int32) (x4 : Int32) (x5 : Int32) (s0 : Int32) (s1 : Int32) (s2 : Int32) : Prop :=
  (mE M 45 0 = true ∧ ((vp_in s2 36) ∧ (∀ M_32 : Mem, M_32 = wI M 45 0 s2.toNatClampNeg (s1 + s0) → (mE M_32 5 0 = true ∧ (mF M_32 5 0 16 = true ∧ (mE M_32 46 0 = true ∧ ((vp_in x5 36) ∧ (((mI M_32 46 0 x5.toNatClampNeg) = 0 → ((x4 = 4 → (b_X5_drops_118 k2 Q M_32 x1 x2 x3 x5)) ∧ (¬ x4 = 4 → (mF M_32 5 0 15 = true ∧ ((vp_in x5 36) ∧ (((mI M_32 45 0 x5.toNatClampNeg) < 3 → (b_X5_drops_123 k2 Q M_32 x1 x2 x3 0 x5)) ∧ (¬ (mI M_32 45 0 x5.toNatClampNeg) < 3 → (b_X5_drops_118 k2 Q M_32 x1 x2 x3 x5)))))))) ∧ (¬ (mI M_32 46 0 x5.toNatClampNeg) = 0 → (b_X5_drops_118 k2 Q M_32 x1 x2 x3 x5))))))))))
def b_X5_drops_49 (k2 : Mem → Int32 → Int32 → Int32 → Prop) (k16 : Mem → Int32 → Int32 → Int32 → Int32 → Int32 → Prop) (Q : Mem → Prop) (M : Mem) (x1 : Int32) (x2 : Int32) (x3 : Int32) (x5 : Int32) (s0 : Int32) (s1 : Int32) : Prop :=
  (∀ v_52 : Int32, v_52 = (s1 + s0) → (∀ v_53 : Int32, v_53 = x5 + 1 → (k16 M x1 x2 x3 v_52 v_53)))
def b_X5_drops_16 (k2 : Mem → Int32 → Int32 → Int32 → Prop) (Q : Mem → Prop) (k16 : Mem → Int32 → Int32 → Int32 → Int32 → Int32 → Prop) (M : Mem) (x1 : Int32) (x2 : Int32) (x3 : Int32) (x4 : Int32) (x5 : Int32) : Prop :=
  (((4 : Int32) ≤ x5 → (w_X5_pair M x1 x3 (fun (r_24 : Int32) (M_22 : Mem) => (mE M_22 5 0 = true ∧ (mF M_22 5 0 15 = true ∧ (mE M_22 45 0 = true ∧ ((vp_in r_24 36) ∧ ((x4 ≤ 0 → (b_X5_drops_83 k2 Q M_22 x1 x2 x3 x4 r_24 0 (mI M_22 45 0 r_24.toNatClampNeg) r_24)) ∧ (¬ x4 ≤ 0 → (b_X5_drops_83 k2 Q M_22 x1 x2 x3 x4 r_24 1 (mI M_22 45 0 r_24.toNatClampNeg) r_24)))))))))) ∧ (¬ (4 : Int32) ≤ x5 → (mE M 5 0 = true ∧ (mF M 5 0 13 = true ∧ (mE M 43 0 = true ∧ ((vp_in (((48 * x1) + (4 * x2)) + x5) 288) ∧ (((mI M 43 0 ((((48 * x1) + (4 * x2)) + x5).toNatClampNeg)) = x3 → (b_X5_drops_49 k2 k16 Q M x1 x2 x3 x5 1 x4)) ∧ (¬ (mI M 43 0 ((((48 * x1) + (4 * x2)) + x5).toNatClampNeg)) = x3 → (b_X5_drops_49 k2 k16 Q M x1 x2 x3 x5 0 x4)))))))))
def l_X5_drops_16 (k2 : Mem → Int32 → Int32 → Int32 → Prop) (Q : Mem → Prop) (n : Nat) : Mem → Int32 → Int32 → Int32 → Int32 → Int32 → Prop :=
  Nat.rec (motive := fun _ => Mem → Int32 → Int32 → Int32 → Int32 → Int32 → Prop) (fun _ _ _ _ _ _ => False) (fun _ k => b_X5_drops_16 k2 Q k) n
def b_X5_drops_2 (Q : Mem → Prop) (k2 : Mem → Int32 → Int32 → Int32 → Prop) (M : Mem) (x1 : Int32) (x2 : Int32) (x3 : Int32) : Prop :=
  (mE M 5 0 = true ∧ (((mI M 5 0 3) ≤ x3 → (mF M 5 0 10 = true ∧ (w_X5_at M x1 x2 (fun (r_7 : Int32) (M_5 : Mem) => (mE M_5 40 0 = true ∧ ((vp_in r_7 72) ∧ (∀ M_10 : Mem, M_10 = wI M_5 40 0 r_7.toNatClampNeg 0 → (mE M_10 5 0 = true ∧ (mF M_10 5 0 11 = true ∧ (w_X5_at M_10 x1 x2 (fun (r_16 : Int32) (M_14 : Mem) => (mE M_14 41 0 = true ∧ ((vp_in r_16 72) ∧ (∀ M_19 : Mem, M_19 = wI M_14 41 0 r_16.toNatClampNeg 0 → (Q M_19))))))))))))))) ∧ (¬ (mI M 5 0 3) ≤ x3 → (∃ n : Nat, l_X5_drops_16 k2 Q n M x1 x2 x3 0 0))))
def l_X5_drops_2 (Q : Mem → Prop) (n : Nat) : Mem → Int32 → Int32 → Int32 → Prop :=
  Nat.rec (motive := fun _ => Mem → Int32 → Int32 → Int32 → Prop) (fun _ _ _ _ => False) (fun _ k => b_X5_drops_2 Q k) n
def w_X5_drops (M : Mem) (a1 : Int32) (a2 : Int32) (Q : Mem → Prop) : Prop :=
  (∃ n : Nat, l_X5_drops_2 Q n M a1 a2 0)
def b_X5_ends_83 (k2 : Mem → Int32 → Prop) (k12 : Mem → Int32 → Int32 → Prop) (Q : Mem → Prop) (M : Mem) (x1 : Int32) (x2 : Int32) : Prop :=
  (∀ v_19 : Int32, v_19 = x2 + 1 → (k12 M x1 v_19))
def b_X5_ends_53 (k2 : Mem → Int32 → Prop) (k12 : Mem → Int32 → Int32 → Prop) (Q : Mem → Prop) (M : Mem) (x1 : Int32) (x2 : Int32) (x3 : Int32) : Prop :=
  (mE M 5 0 = true ∧ (mF M 5 0 10 = true ∧ (mE M 40 0 = true ∧ ((vp_in x3 72) ∧ (((mI M 40 0 x3.toNatClampNeg) = 15 → (mF M 5 0 5 = true ∧ (mE M 35 0 = true ∧ ((vp_in x1 6) ∧ ((vp_in x1 6) ∧ (∀ M_24 : Mem, M_24 = wI M 35 0 x1.toNatClampNeg ((mI M 35 0 x1.toNatClampNeg) ||| (1 <<< (x2 &&& 31))) → ((vp_in x3 72) ∧ (∀ M_26 : Mem, M_26 = wI M_24 40 0 x3.toNatClampNeg 0 → (b_X5_ends_83 k2 k12 Q M_26 x1 x2))))))))) ∧ (¬ (mI M 40 0 x3.toNatClampNeg) = 15 → (b_X5_ends_83 k2 k12 Q M x1 x2)))))))
def b_X5_ends_12 (k2 : Mem → Int32 → Prop) (Q : Mem → Prop) (k12 : Mem → Int32 → Int32 → Prop) (M : Mem) (x1 : Int32) (x2 : Int32) : Prop :=
  (((12 : Int32) ≤ x2 → (∀ v_4 : Int32, v_4 = x1 + 1 → (k2 M v_4))) ∧ (¬ (12 : Int32) ≤ x2 → (w_X5_at M x1 x2 (fun (r_8 : Int32) (M_6 : Mem) => (mE M_6 5 0 = true ∧ (mF M_6 5 0 10 = true ∧ (mE M_6 40 0 = true ∧ ((vp_in r_8 72) ∧ (((mI M_6 40 0 r_8.toNatClampNeg) = 15 → (mF M_6 5 0 11 = true ∧ (mE M_6 41 0 = true ∧ ((vp_in r_8 72) ∧ (((mI M_6 41 0 r_8.toNatClampNeg) = 0 → (b_X5_ends_53 k2 k12 Q M_6 x1 x2 r_8)) ∧ (¬ (mI M_6 41 0 r_8.toNatClampNeg) = 0 → (w_X5_drops M_6 x1 x2 (fun (M_32 : Mem) => (b_X5_ends_83 k2 k12 Q M_32 x1 x2))))))))) ∧ (¬ (mI M_6 40 0 r_8.toNatClampNeg) = 15 → (b_X5_ends_53 k2 k12 Q M_6 x1 x2 r_8)))))))))))
def l_X5_ends_12 (k2 : Mem → Int32 → Prop) (Q : Mem → Prop) (n : Nat) : Mem → Int32 → Int32 → Prop :=
  Nat.rec (motive := fun _ => Mem → Int32 → Int32 → Prop) (fun _ _ _ => False) (fun _ k => b_X5_ends_12 k2 Q k) n
def b_X5_ends_2 (Q : Mem → Prop) (k2 : Mem → Int32 → Prop) (M : Mem) (x1 : Int32) : Prop :=
  (mE M 5 0 = true ∧ (((mI M 5 0 3) ≤ x1 → (Q M)) ∧ (¬ (mI M 5 0 3) ≤ x1 → (∃ n : Nat, l_X5_ends_12 k2 Q n M x1 0))))
def l_X5_ends_2 (Q : Mem → Prop) (n : Nat) : Mem → Int32 → Prop :=
  Nat.rec (motive := fun _ => Mem → Int32 → Prop) (fun _ _ => False) (fun _ k => b_X5_ends_2 Q k) n
def w_X5_ends (M : Mem) (Q : Mem → Prop) : Prop :=
  (∃ n : Nat, l_X5_ends_2 Q n M 0)
def b_X5_run_45 (Q : Int32 → Mem → Prop) (k45 : Mem → Int32 → Int32 → Int32 → Prop) (M : Mem) (x1 : Int32) (x2 : Int32) (x3 : Int32) : Prop :=
  ((x1 ≤ x3 → (Q x2 M)) ∧ (¬ x1 ≤ x3 → (mE M 5 0 = true ∧ (w_X5_looks M (fun (M_11 : Mem) => (mE M_11 5 0 = true ∧ (w_X5_asks M_11 (fun (M_16 : Mem) => (mE M_16 5 0 = true ∧ (w_X5_comes M_16 (fun (r_23 : Int32) (M_21 : Mem) => (∀ v_24 : Int32, v_24 = (x2 + r_23) → (mE M_21 5 0 = true ∧ (w_X5_ends M_21 (fun (M_27 : Mem) => (mE M_27 5 0 = true ∧ (∀ M_31 : Mem, M_31 = wI M_27 5 0 1 ((mI M_27 5 0 1) + 1) → (∀ v_32 : Int32, v_32 = x3 + 1 → (k45 M_31 x1 v_24 v_32)))))))))))))))))))
def l_X5_run_45 (Q : Int32 → Mem → Prop) (n : Nat) : Mem → Int32 → Int32 → Int32 → Prop :=
  Nat.rec (motive := fun _ => Mem → Int32 → Int32 → Int32 → Prop) (fun _ _ _ _ => False) (fun _ k => b_X5_run_45 Q k) n
def b_X5_run_33 (Q : Int32 → Mem → Prop) (M : Mem) (x1 : Int32) (s0 : Int32) : Prop :=
  (mE M 5 0 = true ∧ (w_X5_fits M s0 (fun (r_6 : Int32) (M_4 : Mem) => ((r_6 = 0 → (Q 0 M_4)) ∧ (¬ r_6 = 0 → (∃ n : Nat, l_X5_run_45 Q n M_4 x1 0 0))))))
def b_X5_run_12 (Q : Int32 → Mem → Prop) (M : Mem) (x1 : Int32) : Prop :=
  (b_X5_run_33 Q M x1 1)
def w_X5_run (M : Mem) (a1 : Int32) (Q : Int32 → Mem → Prop) : Prop :=
  ((a1 < 1 → (b_X5_run_12 Q M a1)) ∧ (¬ a1 < 1 → ((a1 ≤ 20 → (mE M 5 0 = true ∧ ((((mI M 5 0 1) + a1) ≤ 200 → (b_X5_run_33 Q M a1 0)) ∧ (¬ ((mI M 5 0 1) + a1) ≤ 200 → (b_X5_run_33 Q M a1 2))))) ∧ (¬ a1 ≤ 20 → (b_X5_run_12 Q M a1)))))
def w_X4_rounds (M : Mem) (Q : Int32 → Mem → Prop) : Prop :=
  (mE M 4 0 = true ∧ (Q (mI M 4 0 4) M))
def w_X5_rounds (M : Mem) (Q : Int32 → Mem → Prop) : Prop :=
  (mE M 5 0 = true ∧ (∀ M_2 : Mem, M_2 = wI M 5 0 0 0 → (Q (mI M_2 5 0 1) M_2)))
def b_X4_peers_28 (k4 : Mem → Int32 → Int32 → Prop) (Q : Int32 → Mem → Prop) (M : Mem) (x1 : Int32) (x2 : Int32) : Prop :=
  (∀ v_8 : Int32, v_8 = x2 + 1 → (k4 M x1 v_8))
def b_X4_peers_4 (Q : Int32 → Mem → Prop) (k4 : Mem → Int32 → Int32 → Prop) (M : Mem) (x1 : Int32) (x2 : Int32) : Prop :=
  (mE M 4 0 = true ∧ (mF M 4 0 0 = true ∧ (mE M 10 0 = true ∧ (((6 : Int32) ≤ x2 → (Q x1 M)) ∧ (¬ (6 : Int32) ≤ x2 → ((vp_in x2 6) ∧ ((mF M 10 0 x2.toNatClampNeg = true → (∀ v_7 : Int32, v_7 = (x1 ||| (1 <<< (x2 &&& 31))) → (b_X4_peers_28 k4 Q M v_7 x2))) ∧ (mF M 10 0 x2.toNatClampNeg = false → (b_X4_peers_28 k4 Q M x1 x2)))))))))
def l_X4_peers_4 (Q : Int32 → Mem → Prop) (n : Nat) : Mem → Int32 → Int32 → Prop :=
  Nat.rec (motive := fun _ => Mem → Int32 → Int32 → Prop) (fun _ _ _ => False) (fun _ k => b_X4_peers_4 Q k) n
def w_X4_peers (M : Mem) (Q : Int32 → Mem → Prop) : Prop :=
  (∃ n : Nat, l_X4_peers_4 Q n M 0 0)
def b_X5_peers_34 (k9 : Mem → Int32 → Int32 → Prop) (Q : Int32 → Mem → Prop) (M : Mem) (x2 : Int32) (s0 : Int32) (s1 : Int32) : Prop :=
  (∀ v_9 : Int32, v_9 = (s1 ||| s0) → (∀ v_10 : Int32, v_10 = x2 + 1 → (k9 M v_9 v_10)))
def b_X5_peers_9 (Q : Int32 → Mem → Prop) (k9 : Mem → Int32 → Int32 → Prop) (M : Mem) (x1 : Int32) (x2 : Int32) : Prop :=
  (mE M 5 0 = true ∧ (((mI M 5 0 3) ≤ x2 → (Q x1 M)) ∧ (¬ (mI M 5 0 3) ≤ x2 → (mF M 5 0 4 = true ∧ (mE M 34 0 = true ∧ ((vp_in x2 6) ∧ (((mI M 34 0 x2.toNatClampNeg) = 0 → (b_X5_peers_34 k9 Q M x2 0 x1)) ∧ (¬ (mI M 34 0 x2.toNatClampNeg) = 0 → (b_X5_peers_34 k9 Q M x2 (1 <<< (x2 &&& 31)) x1)))))))))
def l_X5_peers_9 (Q : Int32 → Mem → Prop) (n : Nat) : Mem → Int32 → Int32 → Prop :=
  Nat.rec (motive := fun _ => Mem → Int32 → Int32 → Prop) (fun _ _ _ => False) (fun _ k => b_X5_peers_9 Q k) n
def w_X5_peers (M : Mem) (Q : Int32 → Mem → Prop) : Prop :=
  (mE M 5 0 = true ∧ (∀ M_2 : Mem, M_2 = wI M 5 0 0 0 → (∃ n : Nat, l_X5_peers_9 Q n M_2 0 0)))
def w_X4_holds (M : Mem) (a1 : Int32) (Q : Int32 → Mem → Prop) (X : Nat → Mem → Prop) : Prop :=
  (mE M 4 0 = true ∧ (w_X4_known M a1 (fun (r_5 : Nat) (M_3 : Mem) => (mE M_3 2 r_5 = true ∧ (mF M_3 2 r_5 1 = true ∧ (mE M_3 3 r_5 = true ∧ (Q (mI M_3 3 r_5 0) M_3))))) X))
def w_L_holds (M : Mem) (a1 : Int32) (Q : Int32 → Mem → Prop) : Prop :=
  (mE M 4 0 = true ∧ (w_X4_holds M a1 (fun (r_5 : Int32) (M_3 : Mem) => (mE M_3 60 0 = true ∧ ((vp_in 0 1) ∧ (∀ M_8 : Mem, M_8 = wL M_3 60 0 ((0 : Int32).toNatClampNeg) r_5.toInt64 → (Q 0 M_8))))) (fun (k : Nat) (M_2 : Mem) => (k = 1 ∧ (Q 1 M_2)))))
def b_X5_holds_14 (Q : Int32 → Mem → Prop) (M : Mem) (x1 : Int32) (s0 : Int32) : Prop :=
  (mE M 5 0 = true ∧ (w_X5_fits M s0 (fun (r_11 : Int32) (M_9 : Mem) => ((r_11 = 0 → (Q 0 M_9)) ∧ (¬ r_11 = 0 → (mE M_9 5 0 = true ∧ (mF M_9 5 0 5 = true ∧ (mE M_9 35 0 = true ∧ ((vp_in x1 6) ∧ (Q (mI M_9 35 0 x1.toNatClampNeg) M_9))))))))))
def w_X5_holds (M : Mem) (a1 : Int32) (Q : Int32 → Mem → Prop) : Prop :=
  (mE M 5 0 = true ∧ (w_X5_isPeer M a1 (fun (r_5 : Int32) (M_3 : Mem) => ((r_5 = 0 → (b_X5_holds_14 Q M_3 a1 1)) ∧ (¬ r_5 = 0 → (b_X5_holds_14 Q M_3 a1 0))))))
def b_X1_replayHeld_73 (k16 : Mem → Nat → Int32 → Int32 → Prop) (Q : Int32 → Mem → Prop) (M : Mem) (x0 : Nat) (x2 : Int32) (x3 : Int32) (s0 : Int32) (s1 : Int32) : Prop :=
  (mE M 3 6 = true ∧ (w_X3_take M 6 s1 s0 (fun (r_29 : Int32) (M_27 : Mem) => (∀ v_30 : Int32, v_30 = x3 + 1 → (k16 M_27 x0 x2 v_30)))))
def b_X1_replayHeld_51 (k16 : Mem → Nat → Int32 → Int32 → Prop) (Q : Int32 → Mem → Prop) (M : Mem) (x0 : Nat) (x2 : Int32) (x3 : Int32) (x4 : Int32) : Prop :=
  ((((x4 / 48) - (x4 / 48) / 2 * 2) = 1 → (b_X1_replayHeld_73 k16 Q M x0 x2 x3 1 (x4 - x4 / 48 * 48))) ∧ (¬ ((x4 / 48) - (x4 / 48) / 2 * 2) = 1 → (b_X1_replayHeld_73 k16 Q M x0 x2 x3 0 (x4 - x4 / 48 * 48))))
def b_X1_replayHeld_16 (Q : Int32 → Mem → Prop) (k16 : Mem → Nat → Int32 → Int32 → Prop) (M : Mem) (x0 : Nat) (x2 : Int32) (x3 : Int32) : Prop :=
  (mE M 1 x0 = true ∧ (((mI M 1 x0 2) ≤ x3 → (mE M 3 6 = true ∧ (w_X3_endPieces M 6 (fun (M_15 : Mem) => (mE M_15 3 6 = true ∧ ((∀ a b k : Nat, mE M_15 a b = true → mF M_15 a b k = true → ¬ (a = 3 ∧ b = 6) → ¬ ((kR a b k).1 = 3 ∧ (kR a b k).2 = 6)) ∧ (Q (mI M_15 3 6 0) (wD M_15 3 6)))))))) ∧ (¬ (mI M 1 x0 2) ≤ x3 → (mF M 1 x0 1 = true ∧ (mE M 22 x0 = true ∧ ((vp_in x3 1000) ∧ (∀ v_22 : Int32, v_22 = (mI M 22 x0 x3.toNatClampNeg) → (((v_22 / 96) = x2 → (b_X1_replayHeld_51 k16 Q M x0 x2 x3 v_22)) ∧ (¬ (v_22 / 96) = x2 → (mE M 3 6 = true ∧ (w_X3_endPieces M 6 (fun (M_33 : Mem) => (∀ v_36 : Int32, v_36 = (v_22 / 96) → (b_X1_replayHeld_51 k16 Q M_33 x0 v_36 x3 v_22))))))))))))))
def l_X1_replayHeld_16 (Q : Int32 → Mem → Prop) (n : Nat) : Mem → Nat → Int32 → Int32 → Prop :=
  Nat.rec (motive := fun _ => Mem → Nat → Int32 → Int32 → Prop) (fun _ _ _ _ => False) (fun _ k => b_X1_replayHeld_16 Q k) n
def w_X1_replayHeld (M : Mem) (t : Nat) (Q : Int32 → Mem → Prop) : Prop :=
  (mE M 3 6 = false ∧ (∀ M_3 : Mem, M_3 = wN M 3 6 → (mE M_3 1 t = true ∧ (w_X3_init M_3 6 (mI M_3 1 t 0) (fun (M_8 : Mem) => (∃ n : Nat, l_X1_replayHeld_16 Q n M_8 t 0 0))))))
def w_X4_holdsByLog (M : Mem) (a1 : Int32) (Q : Int32 → Mem → Prop) (X : Nat → Mem → Prop) : Prop :=
  (mE M 4 0 = true ∧ (w_X4_known M a1 (fun (r_5 : Nat) (M_3 : Mem) => (mE M_3 2 r_5 = true ∧ (mF M_3 2 r_5 2 = true ∧ (mE M_3 1 r_5 = true ∧ (w_X1_replayHeld M_3 r_5 (fun (r_12 : Int32) (M_10 : Mem) => (Q r_12 M_10))))))) X))
def w_L_holdsByLog (M : Mem) (a1 : Int32) (Q : Int32 → Mem → Prop) : Prop :=
  (mE M 4 0 = true ∧ (w_X4_holdsByLog M a1 (fun (r_5 : Int32) (M_3 : Mem) => (mE M_3 60 0 = true ∧ ((vp_in 0 1) ∧ (∀ M_10 : Mem, M_10 = wL M_3 60 0 ((0 : Int32).toNatClampNeg) r_5.toInt64 → (Q 0 M_10))))) (fun (k : Nat) (M_2 : Mem) => (k = 1 ∧ (Q 1 M_2)))))
def b_X5_holdsByLog_14 (Q : Int32 → Mem → Prop) (M : Mem) (x1 : Int32) (s0 : Int32) : Prop :=
  (mE M 5 0 = true ∧ (w_X5_fits M s0 (fun (r_11 : Int32) (M_9 : Mem) => ((r_11 = 0 → (Q 0 M_9)) ∧ (¬ r_11 = 0 → (mE M_9 5 0 = true ∧ (mF M_9 5 0 5 = true ∧ (mE M_9 35 0 = true ∧ ((vp_in x1 6) ∧ (Q (mI M_9 35 0 x1.toNatClampNeg) M_9))))))))))
def w_X5_holdsByLog (M : Mem) (a1 : Int32) (Q : Int32 → Mem → Prop) : Prop :=
  (mE M 5 0 = true ∧ (w_X5_isPeer M a1 (fun (r_5 : Int32) (M_3 : Mem) => ((r_5 = 0 → (b_X5_holdsByLog_14 Q M_3 a1 1)) ∧ (¬ r_5 = 0 → (b_X5_holdsByLog_14 Q M_3 a1 0))))))
def w_X4_blocks (M : Mem) (a1 : Int32) (a2 : Int32) (Q : Int32 → Mem → Prop) (X : Nat → Mem → Prop) : Prop :=
  (mE M 4 0 = true ∧ (w_X4_known M a1 (fun (r_5 : Nat) (M_3 : Mem) => (mE M_3 2 r_5 = true ∧ (mF M_3 2 r_5 1 = true ∧ (w_X4_checkPiece M_3 a2 (fun (M_9 : Mem) => (mE M_9 3 r_5 = true ∧ (w_X4_isIn M_9 ((mI M_9 3 r_5 0).toInt64) a2 (fun (r_16 : Int32) (M_14 : Mem) => ((r_16 = 0 → (mE M_14 3 r_5 = true ∧ (Q ((((mL M_14 3 r_5 1) >>> ((a2 * 4).toInt64 &&& 63)).toInt32) &&& 15) M_14))) ∧ (¬ r_16 = 0 → (Q 15 M_14))))))) X)))) X))
def w_L_blocks (M : Mem) (a1 : Int32) (a2 : Int32) (Q : Int32 → Mem → Prop) : Prop :=
  (mE M 4 0 = true ∧ (w_X4_blocks M a1 a2 (fun (r_5 : Int32) (M_3 : Mem) => (mE M_3 60 0 = true ∧ ((vp_in 0 1) ∧ (∀ M_8 : Mem, M_8 = wL M_3 60 0 ((0 : Int32).toNatClampNeg) r_5.toInt64 → (Q 0 M_8))))) (fun (k : Nat) (M_2 : Mem) => (k = 1 ∧ (Q 1 M_2)))))
def b_X5_blocks_21 (Q : Int32 → Mem → Prop) (M : Mem) (x1 : Int32) (x2 : Int32) (s0 : Int32) : Prop :=
  (mE M 5 0 = true ∧ (w_X5_fits M s0 (fun (r_11 : Int32) (M_9 : Mem) => ((r_11 = 0 → (Q 0 M_9)) ∧ (¬ r_11 = 0 → (mE M_9 5 0 = true ∧ (mF M_9 5 0 5 = true ∧ (mE M_9 35 0 = true ∧ ((vp_in x1 6) ∧ (w_X5_has M_9 (mI M_9 35 0 x1.toNatClampNeg) x2 (fun (r_20 : Int32) (M_18 : Mem) => ((r_20 = 0 → (mE M_18 5 0 = true ∧ (mF M_18 5 0 10 = true ∧ (w_X5_at M_18 x1 x2 (fun (r_27 : Int32) (M_25 : Mem) => (mE M_25 40 0 = true ∧ ((vp_in r_27 72) ∧ (Q (mI M_25 40 0 r_27.toNatClampNeg) M_25)))))))) ∧ (¬ r_20 = 0 → (Q 15 M_18))))))))))))))
def b_X5_blocks_20 (Q : Int32 → Mem → Prop) (M : Mem) (x1 : Int32) (x2 : Int32) : Prop :=
  (b_X5_blocks_21 Q M x1 x2 1)
def w_X5_blocks (M : Mem) (a1 : Int32) (a2 : Int32) (Q : Int32 → Mem → Prop) : Prop :=
  (mE M 5 0 = true ∧ (w_X5_isPeer M a1 (fun (r_5 : Int32) (M_3 : Mem) => ((r_5 = 0 → (b_X5_blocks_20 Q M_3 a1 a2)) ∧ (¬ r_5 = 0 → (w_X5_isPiece M_3 a2 (fun (r_33 : Int32) (M_31 : Mem) => ((r_33 = 0 → (b_X5_blocks_20 Q M_31 a1 a2)) ∧ (¬ r_33 = 0 → (b_X5_blocks_21 Q M_31 a1 a2 0))))))))))
def w_X4_holders (M : Mem) (a1 : Int32) (Q : Int32 → Mem → Prop) (X : Nat → Mem → Prop) : Prop :=
  (w_X4_checkPiece M a1 (fun (M_2 : Mem) => (mE M_2 4 0 = true ∧ (w_X4_countHolders M_2 a1 (fun (r_9 : Int32) (M_7 : Mem) => (Q r_9 M_7))))) X)
def w_L_holders (M : Mem) (a1 : Int32) (Q : Int32 → Mem → Prop) : Prop :=
  (mE M 4 0 = true ∧ (w_X4_holders M a1 (fun (r_5 : Int32) (M_3 : Mem) => (mE M_3 60 0 = true ∧ ((vp_in 0 1) ∧ (∀ M_8 : Mem, M_8 = wL M_3 60 0 ((0 : Int32).toNatClampNeg) r_5.toInt64 → (Q 0 M_8))))) (fun (k : Nat) (M_2 : Mem) => (k = 1 ∧ (Q 1 M_2)))))
def b_X5_holders_13 (Q : Int32 → Mem → Prop) (M : Mem) (x1 : Int32) (s0 : Int32) : Prop :=
  (mE M 5 0 = true ∧ (w_X5_fits M s0 (fun (r_10 : Int32) (M_8 : Mem) => ((r_10 = 0 → (Q 0 M_8)) ∧ (¬ r_10 = 0 → (mE M_8 5 0 = true ∧ (w_X5_holdersOf M_8 x1 (fun (r_16 : Int32) (M_14 : Mem) => (Q r_16 M_14)))))))))
def w_X5_holders (M : Mem) (a1 : Int32) (Q : Int32 → Mem → Prop) : Prop :=
  (w_X5_isPiece M a1 (fun (r_4 : Int32) (M_2 : Mem) => ((r_4 = 0 → (b_X5_holders_13 Q M_2 a1 1)) ∧ (¬ r_4 = 0 → (b_X5_holders_13 Q M_2 a1 0)))))
def w_X4_shown (M : Mem) (a1 : Int32) (a2 : Int32) (Q : Int32 → Mem → Prop) (X : Nat → Mem → Prop) : Prop :=
  (mE M 4 0 = true ∧ (w_X4_known M a1 (fun (r_5 : Nat) (M_3 : Mem) => (mE M_3 4 0 = true ∧ (w_X4_known M_3 a2 (fun (r_10 : Nat) (M_8 : Mem) => (mE M_8 4 0 = true ∧ (w_X4_findShown M_8 r_5 r_10 (fun (r_15 : Int32) (M_13 : Mem) => (Q r_15 M_13))))) X))) X))
def w_L_shown (M : Mem) (a1 : Int32) (a2 : Int32) (Q : Int32 → Mem → Prop) : Prop :=
  (mE M 4 0 = true ∧ (w_X4_shown M a1 a2 (fun (r_5 : Int32) (M_3 : Mem) => (mE M_3 60 0 = true ∧ ((vp_in 0 1) ∧ (∀ M_8 : Mem, M_8 = wL M_3 60 0 ((0 : Int32).toNatClampNeg) r_5.toInt64 → (Q 0 M_8))))) (fun (k : Nat) (M_2 : Mem) => (k = 1 ∧ (Q 1 M_2)))))
def b_X5_arePeers_22 (Q : Int32 → Mem → Prop) (M : Mem) (s0 : Int32) : Prop :=
  (mE M 5 0 = true ∧ (w_X5_fits M s0 (fun (r_11 : Int32) (M_9 : Mem) => ((r_11 = 0 ∨ r_11 = 1) ∧ (Q r_11 M_9)))))
def b_X5_arePeers_21 (Q : Int32 → Mem → Prop) (M : Mem) : Prop :=
  (b_X5_arePeers_22 Q M 1)
def w_X5_arePeers (M : Mem) (a1 : Int32) (a2 : Int32) (Q : Int32 → Mem → Prop) : Prop :=
  (mE M 5 0 = true ∧ (w_X5_isPeer M a1 (fun (r_5 : Int32) (M_3 : Mem) => ((r_5 = 0 → (b_X5_arePeers_21 Q M_3)) ∧ (¬ r_5 = 0 → (mE M_3 5 0 = true ∧ (w_X5_isPeer M_3 a2 (fun (r_17 : Int32) (M_15 : Mem) => ((r_17 = 0 → (b_X5_arePeers_21 Q M_15)) ∧ (¬ r_17 = 0 → (b_X5_arePeers_22 Q M_15 0)))))))))))
def w_X5_shown (M : Mem) (a1 : Int32) (a2 : Int32) (Q : Int32 → Mem → Prop) : Prop :=
  (mE M 5 0 = true ∧ (w_X5_arePeers M a1 a2 (fun (r_5 : Int32) (M_3 : Mem) => ((r_5 = 0 → (Q 0 M_3)) ∧ (¬ r_5 = 0 → (mE M_3 5 0 = true ∧ (w_X5_shownBy M_3 a1 a2 (fun (r_11 : Int32) (M_9 : Mem) => (Q r_11 M_9)))))))))
def w_X4_chosen (M : Mem) (a1 : Int32) (Q : Int32 → Mem → Prop) (X : Nat → Mem → Prop) : Prop :=
  (mE M 4 0 = true ∧ (w_X4_known M a1 (fun (r_5 : Nat) (M_3 : Mem) => (mE M_3 4 0 = true ∧ (w_X4_findChosen M_3 r_5 (fun (r_10 : Int32) (M_8 : Mem) => (Q r_10 M_8))))) X))
def w_L_chosen (M : Mem) (a1 : Int32) (Q : Int32 → Mem → Prop) : Prop :=
  (mE M 4 0 = true ∧ (w_X4_chosen M a1 (fun (r_5 : Int32) (M_3 : Mem) => (mE M_3 60 0 = true ∧ ((vp_in 0 1) ∧ (∀ M_8 : Mem, M_8 = wL M_3 60 0 ((0 : Int32).toNatClampNeg) r_5.toInt64 → (Q 0 M_8))))) (fun (k : Nat) (M_2 : Mem) => (k = 1 ∧ (Q 1 M_2)))))
def b_X5_chosen_14 (Q : Int32 → Mem → Prop) (M : Mem) (x1 : Int32) (s0 : Int32) : Prop :=
  (mE M 5 0 = true ∧ (w_X5_fits M s0 (fun (r_11 : Int32) (M_9 : Mem) => ((r_11 = 0 → (Q 0 M_9)) ∧ (¬ r_11 = 0 → (mE M_9 5 0 = true ∧ (w_X5_choiceOf M_9 x1 (fun (r_17 : Int32) (M_15 : Mem) => (Q r_17 M_15)))))))))
def w_X5_chosen (M : Mem) (a1 : Int32) (Q : Int32 → Mem → Prop) : Prop :=
  (mE M 5 0 = true ∧ (w_X5_isPeer M a1 (fun (r_5 : Int32) (M_3 : Mem) => ((r_5 = 0 → (b_X5_chosen_14 Q M_3 a1 1)) ∧ (¬ r_5 = 0 → (b_X5_chosen_14 Q M_3 a1 0))))))
def w_X4_got (M : Mem) (a1 : Int32) (a2 : Int32) (Q : Int32 → Mem → Prop) (X : Nat → Mem → Prop) : Prop :=
  (mE M 4 0 = true ∧ (w_X4_known M a1 (fun (r_5 : Nat) (M_3 : Mem) => (mE M_3 2 r_5 = true ∧ (mF M_3 2 r_5 8 = true ∧ (mE M_3 4 0 = true ∧ (w_X4_known M_3 a2 (fun (r_12 : Nat) (M_10 : Mem) => (mE M_10 2 r_12 = true ∧ (mE M_10 24 r_5 = true ∧ ((vp_in (mI M_10 2 r_12 0) 6) ∧ (Q (mI M_10 24 r_5 ((mI M_10 2 r_12 0).toNatClampNeg)) M_10))))) X))))) X))
def w_L_got (M : Mem) (a1 : Int32) (a2 : Int32) (Q : Int32 → Mem → Prop) : Prop :=
  (mE M 4 0 = true ∧ (w_X4_got M a1 a2 (fun (r_5 : Int32) (M_3 : Mem) => (mE M_3 60 0 = true ∧ ((vp_in 0 1) ∧ (∀ M_8 : Mem, M_8 = wL M_3 60 0 ((0 : Int32).toNatClampNeg) r_5.toInt64 → (Q 0 M_8))))) (fun (k : Nat) (M_2 : Mem) => (k = 1 ∧ (Q 1 M_2)))))
def w_X5_got (M : Mem) (a1 : Int32) (a2 : Int32) (Q : Int32 → Mem → Prop) : Prop :=
  (mE M 5 0 = true ∧ (w_X5_arePeers M a1 a2 (fun (r_5 : Int32) (M_3 : Mem) => ((r_5 = 0 → (Q 0 M_3)) ∧ (¬ r_5 = 0 → (mE M_3 5 0 = true ∧ (mF M_3 5 0 14 = true ∧ (w_X5_pair M_3 a1 a2 (fun (r_12 : Int32) (M_10 : Mem) => (mE M_10 44 0 = true ∧ ((vp_in r_12 36) ∧ (Q (mI M_10 44 0 r_12.toNatClampNeg) M_10))))))))))))
def w_X4_doubles (M : Mem) (a1 : Int32) (Q : Int32 → Mem → Prop) (X : Nat → Mem → Prop) : Prop :=
  (mE M 4 0 = true ∧ (w_X4_known M a1 (fun (r_5 : Nat) (M_3 : Mem) => (mE M_3 2 r_5 = true ∧ (Q (mI M_3 2 r_5 11) M_3))) X))
def w_L_doubles (M : Mem) (a1 : Int32) (Q : Int32 → Mem → Prop) : Prop :=
  (mE M 4 0 = true ∧ (w_X4_doubles M a1 (fun (r_5 : Int32) (M_3 : Mem) => (mE M_3 60 0 = true ∧ ((vp_in 0 1) ∧ (∀ M_8 : Mem, M_8 = wL M_3 60 0 ((0 : Int32).toNatClampNeg) r_5.toInt64 → (Q 0 M_8))))) (fun (k : Nat) (M_2 : Mem) => (k = 1 ∧ (Q 1 M_2)))))
def b_X5_doubles_14 (Q : Int32 → Mem → Prop) (M : Mem) (x1 : Int32) (s0 : Int32) : Prop :=
  (mE M 5 0 = true ∧ (w_X5_fits M s0 (fun (r_11 : Int32) (M_9 : Mem) => ((r_11 = 0 → (Q 0 M_9)) ∧ (¬ r_11 = 0 → (mE M_9 5 0 = true ∧ (mF M_9 5 0 9 = true ∧ (mE M_9 39 0 = true ∧ ((vp_in x1 6) ∧ (Q (mI M_9 39 0 x1.toNatClampNeg) M_9))))))))))
def w_X5_doubles (M : Mem) (a1 : Int32) (Q : Int32 → Mem → Prop) : Prop :=
  (mE M 5 0 = true ∧ (w_X5_isPeer M a1 (fun (r_5 : Int32) (M_3 : Mem) => ((r_5 = 0 → (b_X5_doubles_14 Q M_3 a1 1)) ∧ (¬ r_5 = 0 → (b_X5_doubles_14 Q M_3 a1 0))))))
def w_X4_strikes (M : Mem) (a1 : Int32) (a2 : Int32) (Q : Int32 → Mem → Prop) (X : Nat → Mem → Prop) : Prop :=
  (mE M 4 0 = true ∧ (w_X4_known M a1 (fun (r_5 : Nat) (M_3 : Mem) => (mE M_3 2 r_5 = true ∧ (mF M_3 2 r_5 9 = true ∧ (mE M_3 4 0 = true ∧ (w_X4_known M_3 a2 (fun (r_12 : Nat) (M_10 : Mem) => (mE M_10 2 r_12 = true ∧ (mE M_10 25 r_5 = true ∧ ((vp_in (mI M_10 2 r_12 0) 6) ∧ (Q (mI M_10 25 r_5 ((mI M_10 2 r_12 0).toNatClampNeg)) M_10))))) X))))) X))
def w_L_strikes (M : Mem) (a1 : Int32) (a2 : Int32) (Q : Int32 → Mem → Prop) : Prop :=
  (mE M 4 0 = true ∧ (w_X4_strikes M a1 a2 (fun (r_5 : Int32) (M_3 : Mem) => (mE M_3 60 0 = true ∧ ((vp_in 0 1) ∧ (∀ M_8 : Mem, M_8 = wL M_3 60 0 ((0 : Int32).toNatClampNeg) r_5.toInt64 → (Q 0 M_8))))) (fun (k : Nat) (M_2 : Mem) => (k = 1 ∧ (Q 1 M_2)))))
def w_X5_strikes (M : Mem) (a1 : Int32) (a2 : Int32) (Q : Int32 → Mem → Prop) : Prop :=
  (mE M 5 0 = true ∧ (w_X5_arePeers M a1 a2 (fun (r_5 : Int32) (M_3 : Mem) => ((r_5 = 0 → (Q 0 M_3)) ∧ (¬ r_5 = 0 → (mE M_3 5 0 = true ∧ (mF M_3 5 0 15 = true ∧ (w_X5_pair M_3 a1 a2 (fun (r_12 : Int32) (M_10 : Mem) => (mE M_10 45 0 = true ∧ ((vp_in r_12 36) ∧ (Q (mI M_10 45 0 r_12.toNatClampNeg) M_10))))))))))))
def w_X4_isBanned (M : Mem) (a1 : Int32) (a2 : Int32) (Q : Int32 → Mem → Prop) (X : Nat → Mem → Prop) : Prop :=
  (mE M 4 0 = true ∧ (w_X4_known M a1 (fun (r_5 : Nat) (M_3 : Mem) => (mE M_3 2 r_5 = true ∧ (mE M_3 4 0 = true ∧ (w_X4_known M_3 a2 (fun (r_11 : Nat) (M_9 : Mem) => (mE M_9 2 r_11 = true ∧ (w_X4_isIn M_9 ((mI M_3 2 r_5 10).toInt64) (mI M_9 2 r_11 0) (fun (r_16 : Int32) (M_14 : Mem) => ((r_16 = 0 ∨ r_16 = 1) ∧ (Q r_16 M_14)))))) X)))) X))
def b_L_isBanned_16 (Q : Int32 → Mem → Prop) (M : Mem) (s0 : Int64) (s1 : Int32) : Prop :=
  (mE M 60 0 = true ∧ ((vp_in s1 1) ∧ (∀ M_9 : Mem, M_9 = wL M 60 0 s1.toNatClampNeg s0 → (Q 0 M_9))))
def w_L_isBanned (M : Mem) (a1 : Int32) (a2 : Int32) (Q : Int32 → Mem → Prop) : Prop :=
  (mE M 4 0 = true ∧ (w_X4_isBanned M a1 a2 (fun (r_5 : Int32) (M_3 : Mem) => ((r_5 = 0 → (b_L_isBanned_16 Q M_3 0 0)) ∧ (¬ r_5 = 0 → (b_L_isBanned_16 Q M_3 1 0)))) (fun (k : Nat) (M_2 : Mem) => (k = 1 ∧ (Q 1 M_2)))))
def w_X5_isBanned (M : Mem) (a1 : Int32) (a2 : Int32) (Q : Int32 → Mem → Prop) : Prop :=
  (mE M 5 0 = true ∧ (w_X5_arePeers M a1 a2 (fun (r_5 : Int32) (M_3 : Mem) => ((r_5 = 0 → (Q 0 M_3)) ∧ (¬ r_5 = 0 → (mE M_3 5 0 = true ∧ (mF M_3 5 0 16 = true ∧ (w_X5_pair M_3 a1 a2 (fun (r_12 : Int32) (M_10 : Mem) => (mE M_10 46 0 = true ∧ ((vp_in r_12 36) ∧ (((mI M_10 46 0 r_12.toNatClampNeg) = 0 → (Q 0 M_10)) ∧ (¬ (mI M_10 46 0 r_12.toNatClampNeg) = 0 → (Q 1 M_10))))))))))))))
def b_L_law_1318 (k23 : Mem → Nat → Int32 → Prop) (L : Nat) (xs : Nat → Int32) (Q : Int32 → Mem → Prop) (M : Mem) (it : Nat) (x4 : Int32) : Prop :=
  (it < 512 ∧ (∀ v_50 : Int32, v_50 = x4 + 4 → (k23 M (it + 1) v_50)))
def b_L_law_197 (k23 : Mem → Nat → Int32 → Prop) (L : Nat) (xs : Nat → Int32) (Q : Int32 → Mem → Prop) (M : Mem) (it : Nat) (x4 : Int32) : Prop :=
  (it < 512 ∧ (b_L_law_1318 k23 L xs Q M it x4))
def b_L_law_164 (k23 : Mem → Nat → Int32 → Prop) (L : Nat) (xs : Nat → Int32) (Q : Int32 → Mem → Prop) (M : Mem) (it : Nat) (x4 : Int32) (x5 : Int32) (s0 : Int32) : Prop :=
  (it < 512 ∧ (mE M 5 0 = true ∧ (w_X5_join M s0 (fun (r_42 : Int32) (M_40 : Mem) => (mE M_40 5 0 = true ∧ (w_X5_thrown M_40 (fun (r_47 : Int32) (M_45 : Mem) => ((r_47 = x5 → ((x5 = 0 → (mE M_45 60 0 = true ∧ ((vp_in 0 1) ∧ (((lg_cmp (mL M_45 60 0 ((0 : Int32).toNatClampNeg)) r_42.toInt64) = 0 → (b_L_law_197 k23 L xs Q M_45 it x4)) ∧ (¬ (lg_cmp (mL M_45 60 0 ((0 : Int32).toNatClampNeg)) r_42.toInt64) = 0 → (Q 0 M_45)))))) ∧ (¬ x5 = 0 → (b_L_law_197 k23 L xs Q M_45 it x4)))) ∧ (¬ r_47 = x5 → (Q 0 M_45))))))))))
def b_L_law_143 (k23 : Mem → Nat → Int32 → Prop) (L : Nat) (xs : Nat → Int32) (Q : Int32 → Mem → Prop) (M : Mem) (it : Nat) (x4 : Int32) (s0 : Int32) : Prop :=
  (it < 512 ∧ (w_L_join M s0 (fun (r_34 : Int32) (M_32 : Mem) => ((vp_in (x4 + 1) L) ∧ (((xs (x4 + 1).toNatClampNeg) = 0 → (b_L_law_164 k23 L xs Q M_32 it x4 r_34 0)) ∧ (¬ (xs (x4 + 1).toNatClampNeg) = 0 → (b_L_law_164 k23 L xs Q M_32 it x4 r_34 1)))))))
def b_L_law_253 (k23 : Mem → Nat → Int32 → Prop) (L : Nat) (xs : Nat → Int32) (Q : Int32 → Mem → Prop) (M : Mem) (it : Nat) (x4 : Int32) : Prop :=
  (it < 512 ∧ (b_L_law_1318 k23 L xs Q M it x4))
def b_L_law_321 (k23 : Mem → Nat → Int32 → Prop) (L : Nat) (xs : Nat → Int32) (Q : Int32 → Mem → Prop) (M : Mem) (it : Nat) (x4 : Int32) : Prop :=
  (it < 512 ∧ (b_L_law_1318 k23 L xs Q M it x4))
def b_L_law_412 (k23 : Mem → Nat → Int32 → Prop) (L : Nat) (xs : Nat → Int32) (Q : Int32 → Mem → Prop) (M : Mem) (it : Nat) (x4 : Int32) : Prop :=
  (it < 512 ∧ (b_L_law_1318 k23 L xs Q M it x4))
def b_L_law_406 (k23 : Mem → Nat → Int32 → Prop) (L : Nat) (xs : Nat → Int32) (Q : Int32 → Mem → Prop) (M : Mem) (it : Nat) (x4 : Int32) (s0 : Int64) (s1 : Int64) : Prop :=
  (it < 512 ∧ (((lg_cmp s1 s0) = 0 → (b_L_law_412 k23 L xs Q M it x4)) ∧ (¬ (lg_cmp s1 s0) = 0 → (Q 0 M))))
def b_L_law_372 (k23 : Mem → Nat → Int32 → Prop) (L : Nat) (xs : Nat → Int32) (Q : Int32 → Mem → Prop) (M : Mem) (it : Nat) (x4 : Int32) (x5 : Int32) (s0 : Int32) (s1 : Int32) : Prop :=
  (it < 512 ∧ (mE M 5 0 = true ∧ (w_X5_setSequence M s1 s0 (fun (r_112 : Int32) (M_110 : Mem) => (mE M_110 5 0 = true ∧ (w_X5_thrown M_110 (fun (r_117 : Int32) (M_115 : Mem) => ((r_117 = x5 → ((x5 = 0 → (mE M_115 60 0 = true ∧ ((vp_in 0 1) ∧ ((r_112 = 0 → (b_L_law_406 k23 L xs Q M_115 it x4 0 (mL M_115 60 0 ((0 : Int32).toNatClampNeg)))) ∧ (¬ r_112 = 0 → (b_L_law_406 k23 L xs Q M_115 it x4 1 (mL M_115 60 0 ((0 : Int32).toNatClampNeg)))))))) ∧ (¬ x5 = 0 → (b_L_law_412 k23 L xs Q M_115 it x4)))) ∧ (¬ r_117 = x5 → (Q 0 M_115))))))))))
def b_L_law_345 (k23 : Mem → Nat → Int32 → Prop) (L : Nat) (xs : Nat → Int32) (Q : Int32 → Mem → Prop) (M : Mem) (it : Nat) (x4 : Int32) (s0 : Int32) (s1 : Int32) : Prop :=
  (it < 512 ∧ (w_L_setSequence M s1 s0 (fun (r_104 : Int32) (M_102 : Mem) => ((vp_in (x4 + 1) L) ∧ ((vp_in (x4 + 2) L) ∧ (((xs (x4 + 2).toNatClampNeg) = 0 → (b_L_law_372 k23 L xs Q M_102 it x4 r_104 0 (xs (x4 + 1).toNatClampNeg))) ∧ (¬ (xs (x4 + 2).toNatClampNeg) = 0 → (b_L_law_372 k23 L xs Q M_102 it x4 r_104 1 (xs (x4 + 1).toNatClampNeg)))))))))
def b_L_law_503 (k23 : Mem → Nat → Int32 → Prop) (L : Nat) (xs : Nat → Int32) (Q : Int32 → Mem → Prop) (M : Mem) (it : Nat) (x4 : Int32) : Prop :=
  (it < 512 ∧ (b_L_law_1318 k23 L xs Q M it x4))
def b_L_law_497 (k23 : Mem → Nat → Int32 → Prop) (L : Nat) (xs : Nat → Int32) (Q : Int32 → Mem → Prop) (M : Mem) (it : Nat) (x4 : Int32) (s0 : Int64) (s1 : Int64) : Prop :=
  (it < 512 ∧ (((lg_cmp s1 s0) = 0 → (b_L_law_503 k23 L xs Q M it x4)) ∧ (¬ (lg_cmp s1 s0) = 0 → (Q 0 M))))
def b_L_law_463 (k23 : Mem → Nat → Int32 → Prop) (L : Nat) (xs : Nat → Int32) (Q : Int32 → Mem → Prop) (M : Mem) (it : Nat) (x4 : Int32) (x5 : Int32) (s0 : Int32) (s1 : Int32) : Prop :=
  (it < 512 ∧ (mE M 5 0 = true ∧ (w_X5_setCareful M s1 s0 (fun (r_138 : Int32) (M_136 : Mem) => (mE M_136 5 0 = true ∧ (w_X5_thrown M_136 (fun (r_143 : Int32) (M_141 : Mem) => ((r_143 = x5 → ((x5 = 0 → (mE M_141 60 0 = true ∧ ((vp_in 0 1) ∧ ((r_138 = 0 → (b_L_law_497 k23 L xs Q M_141 it x4 0 (mL M_141 60 0 ((0 : Int32).toNatClampNeg)))) ∧ (¬ r_138 = 0 → (b_L_law_497 k23 L xs Q M_141 it x4 1 (mL M_141 60 0 ((0 : Int32).toNatClampNeg)))))))) ∧ (¬ x5 = 0 → (b_L_law_503 k23 L xs Q M_141 it x4)))) ∧ (¬ r_143 = x5 → (Q 0 M_141))))))))))
def b_L_law_436 (k23 : Mem → Nat → Int32 → Prop) (L : Nat) (xs : Nat → Int32) (Q : Int32 → Mem → Prop) (M : Mem) (it : Nat) (x4 : Int32) (s0 : Int32) (s1 : Int32) : Prop :=
  (it < 512 ∧ (w_L_setCareful M s1 s0 (fun (r_130 : Int32) (M_128 : Mem) => ((vp_in (x4 + 1) L) ∧ ((vp_in (x4 + 2) L) ∧ (((xs (x4 + 2).toNatClampNeg) = 0 → (b_L_law_463 k23 L xs Q M_128 it x4 r_130 0 (xs (x4 + 1).toNatClampNeg))) ∧ (¬ (xs (x4 + 2).toNatClampNeg) = 0 → (b_L_law_463 k23 L xs Q M_128 it x4 r_130 1 (xs (x4 + 1).toNatClampNeg)))))))))
def b_L_law_606 (k23 : Mem → Nat → Int32 → Prop) (L : Nat) (xs : Nat → Int32) (Q : Int32 → Mem → Prop) (M : Mem) (it : Nat) (x4 : Int32) : Prop :=
  (it < 512 ∧ (b_L_law_1318 k23 L xs Q M it x4))
def b_L_law_600 (k23 : Mem → Nat → Int32 → Prop) (L : Nat) (xs : Nat → Int32) (Q : Int32 → Mem → Prop) (M : Mem) (it : Nat) (x4 : Int32) (s0 : Int64) (s1 : Int64) : Prop :=
  (it < 512 ∧ (((lg_cmp s1 s0) = 0 → (b_L_law_606 k23 L xs Q M it x4)) ∧ (¬ (lg_cmp s1 s0) = 0 → (Q 0 M))))
def b_L_law_566 (k23 : Mem → Nat → Int32 → Prop) (L : Nat) (xs : Nat → Int32) (Q : Int32 → Mem → Prop) (M : Mem) (it : Nat) (x4 : Int32) (x5 : Int32) (s0 : Int32) (s1 : Int32) (s2 : Int32) : Prop :=
  (it < 512 ∧ (mE M 5 0 = true ∧ (w_X5_spoil M s2 s1 s0 (fun (r_166 : Int32) (M_164 : Mem) => (mE M_164 5 0 = true ∧ (w_X5_thrown M_164 (fun (r_171 : Int32) (M_169 : Mem) => ((r_171 = x5 → ((x5 = 0 → (mE M_169 60 0 = true ∧ ((vp_in 0 1) ∧ ((r_166 = 0 → (b_L_law_600 k23 L xs Q M_169 it x4 0 (mL M_169 60 0 ((0 : Int32).toNatClampNeg)))) ∧ (¬ r_166 = 0 → (b_L_law_600 k23 L xs Q M_169 it x4 1 (mL M_169 60 0 ((0 : Int32).toNatClampNeg)))))))) ∧ (¬ x5 = 0 → (b_L_law_606 k23 L xs Q M_169 it x4)))) ∧ (¬ r_171 = x5 → (Q 0 M_169))))))))))
def b_L_law_533 (k23 : Mem → Nat → Int32 → Prop) (L : Nat) (xs : Nat → Int32) (Q : Int32 → Mem → Prop) (M : Mem) (it : Nat) (x4 : Int32) (s0 : Int32) (s1 : Int32) (s2 : Int32) : Prop :=
  (it < 512 ∧ (w_L_spoil M s2 s1 s0 (fun (r_157 : Int32) (M_155 : Mem) => ((vp_in (x4 + 1) L) ∧ ((vp_in (x4 + 2) L) ∧ ((vp_in (x4 + 3) L) ∧ (((xs (x4 + 3).toNatClampNeg) = 0 → (b_L_law_566 k23 L xs Q M_155 it x4 r_157 0 (xs (x4 + 2).toNatClampNeg) (xs (x4 + 1).toNatClampNeg))) ∧ (¬ (xs (x4 + 3).toNatClampNeg) = 0 → (b_L_law_566 k23 L xs Q M_155 it x4 r_157 1 (xs (x4 + 2).toNatClampNeg) (xs (x4 + 1).toNatClampNeg))))))))))
def b_L_law_662 (k23 : Mem → Nat → Int32 → Prop) (L : Nat) (xs : Nat → Int32) (Q : Int32 → Mem → Prop) (M : Mem) (it : Nat) (x4 : Int32) : Prop :=
  (it < 512 ∧ (b_L_law_1318 k23 L xs Q M it x4))
def b_L_law_744 (k23 : Mem → Nat → Int32 → Prop) (L : Nat) (xs : Nat → Int32) (Q : Int32 → Mem → Prop) (M : Mem) (it : Nat) (x4 : Int32) : Prop :=
  (it < 512 ∧ (b_L_law_1318 k23 L xs Q M it x4))
def b_L_law_800 (k23 : Mem → Nat → Int32 → Prop) (L : Nat) (xs : Nat → Int32) (Q : Int32 → Mem → Prop) (M : Mem) (it : Nat) (x4 : Int32) : Prop :=
  (it < 512 ∧ (b_L_law_1318 k23 L xs Q M it x4))
def b_L_law_868 (k23 : Mem → Nat → Int32 → Prop) (L : Nat) (xs : Nat → Int32) (Q : Int32 → Mem → Prop) (M : Mem) (it : Nat) (x4 : Int32) : Prop :=
  (it < 512 ∧ (b_L_law_1318 k23 L xs Q M it x4))
def b_L_law_924 (k23 : Mem → Nat → Int32 → Prop) (L : Nat) (xs : Nat → Int32) (Q : Int32 → Mem → Prop) (M : Mem) (it : Nat) (x4 : Int32) : Prop :=
  (it < 512 ∧ (b_L_law_1318 k23 L xs Q M it x4))
def b_L_law_992 (k23 : Mem → Nat → Int32 → Prop) (L : Nat) (xs : Nat → Int32) (Q : Int32 → Mem → Prop) (M : Mem) (it : Nat) (x4 : Int32) : Prop :=
  (it < 512 ∧ (b_L_law_1318 k23 L xs Q M it x4))
def b_L_law_1048 (k23 : Mem → Nat → Int32 → Prop) (L : Nat) (xs : Nat → Int32) (Q : Int32 → Mem → Prop) (M : Mem) (it : Nat) (x4 : Int32) : Prop :=
  (it < 512 ∧ (b_L_law_1318 k23 L xs Q M it x4))
def b_L_law_1116 (k23 : Mem → Nat → Int32 → Prop) (L : Nat) (xs : Nat → Int32) (Q : Int32 → Mem → Prop) (M : Mem) (it : Nat) (x4 : Int32) : Prop :=
  (it < 512 ∧ (b_L_law_1318 k23 L xs Q M it x4))
def b_L_law_1172 (k23 : Mem → Nat → Int32 → Prop) (L : Nat) (xs : Nat → Int32) (Q : Int32 → Mem → Prop) (M : Mem) (it : Nat) (x4 : Int32) : Prop :=
  (it < 512 ∧ (b_L_law_1318 k23 L xs Q M it x4))
def b_L_law_1240 (k23 : Mem → Nat → Int32 → Prop) (L : Nat) (xs : Nat → Int32) (Q : Int32 → Mem → Prop) (M : Mem) (it : Nat) (x4 : Int32) : Prop :=
  (it < 512 ∧ (b_L_law_1318 k23 L xs Q M it x4))
def b_L_law_1315 (k23 : Mem → Nat → Int32 → Prop) (L : Nat) (xs : Nat → Int32) (Q : Int32 → Mem → Prop) (M : Mem) (it : Nat) (x4 : Int32) : Prop :=
  (it < 512 ∧ (b_L_law_1318 k23 L xs Q M it x4))
def b_L_law_1309 (k23 : Mem → Nat → Int32 → Prop) (L : Nat) (xs : Nat → Int32) (Q : Int32 → Mem → Prop) (M : Mem) (it : Nat) (x4 : Int32) (s0 : Int64) (s1 : Int64) : Prop :=
  (it < 512 ∧ (((lg_cmp s1 s0) = 0 → (b_L_law_1315 k23 L xs Q M it x4)) ∧ (¬ (lg_cmp s1 s0) = 0 → (Q 0 M))))
def b_L_law_23 (L : Nat) (xs : Nat → Int32) (Q : Int32 → Mem → Prop) (k23 : Mem → Nat → Int32 → Prop) (M : Mem) (it : Nat) (x4 : Int32) : Prop :=
  (it ≤ 512 ∧ ((((Int32.ofNat L) - 4) < x4 → (Q 1 M)) ∧ (¬ ((Int32.ofNat L) - 4) < x4 → ((vp_in x4 L) ∧ (it < 512 ∧ (∀ v_28 : Int32, v_28 = ((xs x4.toNatClampNeg) &&& 31) → ((v_28 = 0 → ((vp_in (x4 + 1) L) ∧ (((xs (x4 + 1).toNatClampNeg) = 0 → (b_L_law_143 k23 L xs Q M it x4 0)) ∧ (¬ (xs (x4 + 1).toNatClampNeg) = 0 → (b_L_law_143 k23 L xs Q M it x4 1))))) ∧ (¬ v_28 = 0 → ((v_28 = 1 → ((vp_in (x4 + 1) L) ∧ (w_L_leave M (xs (x4 + 1).toNatClampNeg) (fun (r_58 : Int32) (M_56 : Mem) => ((vp_in (x4 + 1) L) ∧ (mE M_56 5 0 = true ∧ (w_X5_leave M_56 (xs (x4 + 1).toNatClampNeg) (fun (r_64 : Int32) (M_62 : Mem) => (mE M_62 5 0 = true ∧ (w_X5_thrown M_62 (fun (r_69 : Int32) (M_67 : Mem) => ((r_69 = r_58 → ((r_58 = 0 → (mE M_67 60 0 = true ∧ ((vp_in 0 1) ∧ (((lg_cmp (mL M_67 60 0 ((0 : Int32).toNatClampNeg)) r_64.toInt64) = 0 → (b_L_law_253 k23 L xs Q M_67 it x4)) ∧ (¬ (lg_cmp (mL M_67 60 0 ((0 : Int32).toNatClampNeg)) r_64.toInt64) = 0 → (Q 0 M_67)))))) ∧ (¬ r_58 = 0 → (b_L_law_253 k23 L xs Q M_67 it x4)))) ∧ (¬ r_69 = r_58 → (Q 0 M_67)))))))))))))) ∧ (¬ v_28 = 1 → ((v_28 = 2 → ((vp_in (x4 + 1) L) ∧ ((vp_in (x4 + 2) L) ∧ (w_L_setPriority M (xs (x4 + 1).toNatClampNeg) (xs (x4 + 2).toNatClampNeg) (fun (r_80 : Int32) (M_78 : Mem) => ((vp_in (x4 + 1) L) ∧ ((vp_in (x4 + 2) L) ∧ (mE M_78 5 0 = true ∧ (w_X5_setPriority M_78 (xs (x4 + 1).toNatClampNeg) (xs (x4 + 2).toNatClampNeg) (fun (r_87 : Int32) (M_85 : Mem) => (mE M_85 5 0 = true ∧ (w_X5_thrown M_85 (fun (r_92 : Int32) (M_90 : Mem) => ((r_92 = r_80 → ((r_80 = 0 → (mE M_90 60 0 = true ∧ ((vp_in 0 1) ∧ (((lg_cmp (mL M_90 60 0 ((0 : Int32).toNatClampNeg)) r_87.toInt64) = 0 → (b_L_law_321 k23 L xs Q M_90 it x4)) ∧ (¬ (lg_cmp (mL M_90 60 0 ((0 : Int32).toNatClampNeg)) r_87.toInt64) = 0 → (Q 0 M_90)))))) ∧ (¬ r_80 = 0 → (b_L_law_321 k23 L xs Q M_90 it x4)))) ∧ (¬ r_92 = r_80 → (Q 0 M_90)))))))))))))))) ∧ (¬ v_28 = 2 → ((v_28 = 3 → ((vp_in (x4 + 1) L) ∧ ((vp_in (x4 + 2) L) ∧ (((xs (x4 + 2).toNatClampNeg) = 0 → (b_L_law_345 k23 L xs Q M it x4 0 (xs (x4 + 1).toNatClampNeg))) ∧ (¬ (xs (x4 + 2).toNatClampNeg) = 0 → (b_L_law_345 k23 L xs Q M it x4 1 (xs (x4 + 1).toNatClampNeg))))))) ∧ (¬ v_28 = 3 → ((v_28 = 4 → ((vp_in (x4 + 1) L) ∧ ((vp_in (x4 + 2) L) ∧ (((xs (x4 + 2).toNatClampNeg) = 0 → (b_L_law_436 k23 L xs Q M it x4 0 (xs (x4 + 1).toNatClampNeg))) ∧ (¬ (xs (x4 + 2).toNatClampNeg) = 0 → (b_L_law_436 k23 L xs Q M it x4 1 (xs (x4 + 1).toNatClampNeg))))))) ∧ (¬ v_28 = 4 → ((v_28 = 5 → ((vp_in (x4 + 1) L) ∧ ((vp_in (x4 + 2) L) ∧ ((vp_in (x4 + 3) L) ∧ (((xs (x4 + 3).toNatClampNeg) = 0 → (b_L_law_533 k23 L xs Q M it x4 0 (xs (x4 + 2).toNatClampNeg) (xs (x4 + 1).toNatClampNeg))) ∧ (¬ (xs (x4 + 3).toNatClampNeg) = 0 → (b_L_law_533 k23 L xs Q M it x4 1 (xs (x4 + 2).toNatClampNeg) (xs (x4 + 1).toNatClampNeg)))))))) ∧ (¬ v_28 = 5 → ((v_28 = 6 → ((vp_in (x4 + 1) L) ∧ (w_L_run M (xs (x4 + 1).toNatClampNeg) (fun (r_182 : Int32) (M_180 : Mem) => ((vp_in (x4 + 1) L) ∧ (mE M_180 5 0 = true ∧ (w_X5_run M_180 (xs (x4 + 1).toNatClampNeg) (fun (r_188 : Int32) (M_186 : Mem) => (mE M_186 5 0 = true ∧ (w_X5_thrown M_186 (fun (r_193 : Int32) (M_191 : Mem) => ((r_193 = r_182 → ((r_182 = 0 → (mE M_191 60 0 = true ∧ ((vp_in 0 1) ∧ (((lg_cmp (mL M_191 60 0 ((0 : Int32).toNatClampNeg)) r_188.toInt64) = 0 → (b_L_law_662 k23 L xs Q M_191 it x4)) ∧ (¬ (lg_cmp (mL M_191 60 0 ((0 : Int32).toNatClampNeg)) r_188.toInt64) = 0 → (Q 0 M_191)))))) ∧ (¬ r_182 = 0 → (b_L_law_662 k23 L xs Q M_191 it x4)))) ∧ (¬ r_193 = r_182 → (Q 0 M_191)))))))))))))) ∧ (¬ v_28 = 6 → ((v_28 = 7 → (mE M 4 0 = true ∧ (w_X4_rounds M (fun (r_203 : Int32) (M_201 : Mem) => (mE M_201 5 0 = true ∧ (w_X5_rounds M_201 (fun (r_208 : Int32) (M_206 : Mem) => ((r_203 = r_208 → (b_L_law_1318 k23 L xs Q M_206 it x4)) ∧ (¬ r_203 = r_208 → (Q 0 M_206)))))))))) ∧ (¬ v_28 = 7 → ((v_28 = 8 → (mE M 4 0 = true ∧ (w_X4_peers M (fun (r_214 : Int32) (M_212 : Mem) => (mE M_212 5 0 = true ∧ (w_X5_peers M_212 (fun (r_219 : Int32) (M_217 : Mem) => ((r_214 = r_219 → (b_L_law_1318 k23 L xs Q M_217 it x4)) ∧ (¬ r_214 = r_219 → (Q 0 M_217)))))))))) ∧ (¬ v_28 = 8 → ((v_28 = 9 → ((vp_in (x4 + 1) L) ∧ (w_L_holds M (xs (x4 + 1).toNatClampNeg) (fun (r_225 : Int32) (M_223 : Mem) => ((vp_in (x4 + 1) L) ∧ (mE M_223 5 0 = true ∧ (w_X5_holds M_223 (xs (x4 + 1).toNatClampNeg) (fun (r_231 : Int32) (M_229 : Mem) => (mE M_229 5 0 = true ∧ (w_X5_thrown M_229 (fun (r_236 : Int32) (M_234 : Mem) => ((r_236 = r_225 → ((r_225 = 0 → (mE M_234 60 0 = true ∧ ((vp_in 0 1) ∧ (((lg_cmp (mL M_234 60 0 ((0 : Int32).toNatClampNeg)) r_231.toInt64) = 0 → (b_L_law_744 k23 L xs Q M_234 it x4)) ∧ (¬ (lg_cmp (mL M_234 60 0 ((0 : Int32).toNatClampNeg)) r_231.toInt64) = 0 → (Q 0 M_234)))))) ∧ (¬ r_225 = 0 → (b_L_law_744 k23 L xs Q M_234 it x4)))) ∧ (¬ r_236 = r_225 → (Q 0 M_234)))))))))))))) ∧ (¬ v_28 = 9 → ((v_28 = 10 → ((vp_in (x4 + 1) L) ∧ (w_L_holdsByLog M (xs (x4 + 1).toNatClampNeg) (fun (r_246 : Int32) (M_244 : Mem) => ((vp_in (x4 + 1) L) ∧ (mE M_244 5 0 = true ∧ (w_X5_holdsByLog M_244 (xs (x4 + 1).toNatClampNeg) (fun (r_253 : Int32) (M_251 : Mem) => (mE M_251 5 0 = true ∧ (w_X5_thrown M_251 (fun (r_258 : Int32) (M_256 : Mem) => ((r_258 = r_246 → ((r_246 = 0 → (mE M_256 60 0 = true ∧ ((vp_in 0 1) ∧ (((lg_cmp (mL M_256 60 0 ((0 : Int32).toNatClampNeg)) r_253.toInt64) = 0 → (b_L_law_800 k23 L xs Q M_256 it x4)) ∧ (¬ (lg_cmp (mL M_256 60 0 ((0 : Int32).toNatClampNeg)) r_253.toInt64) = 0 → (Q 0 M_256)))))) ∧ (¬ r_246 = 0 → (b_L_law_800 k23 L xs Q M_256 it x4)))) ∧ (¬ r_258 = r_246 → (Q 0 M_256)))))))))))))) ∧ (¬ v_28 = 10 → ((v_28 = 11 → ((vp_in (x4 + 1) L) ∧ ((vp_in (x4 + 2) L) ∧ (w_L_blocks M (xs (x4 + 1).toNatClampNeg) (xs (x4 + 2).toNatClampNeg) (fun (r_269 : Int32) (M_267 : Mem) => ((vp_in (x4 + 1) L) ∧ ((vp_in (x4 + 2) L) ∧ (mE M_267 5 0 = true ∧ (w_X5_blocks M_267 (xs (x4 + 1).toNatClampNeg) (xs (x4 + 2).toNatClampNeg) (fun (r_276 : Int32) (M_274 : Mem) => (mE M_274 5 0 = true ∧ (w_X5_thrown M_274 (fun (r_281 : Int32) (M_279 : Mem) => ((r_281 = r_269 → ((r_269 = 0 → (mE M_279 60 0 = true ∧ ((vp_in 0 1) ∧ (((lg_cmp (mL M_279 60 0 ((0 : Int32).toNatClampNeg)) r_276.toInt64) = 0 → (b_L_law_868 k23 L xs Q M_279 it x4)) ∧ (¬ (lg_cmp (mL M_279 60 0 ((0 : Int32).toNatClampNeg)) r_276.toInt64) = 0 → (Q 0 M_279)))))) ∧ (¬ r_269 = 0 → (b_L_law_868 k23 L xs Q M_279 it x4)))) ∧ (¬ r_281 = r_269 → (Q 0 M_279)))))))))))))))) ∧ (¬ v_28 = 11 → ((v_28 = 12 → ((vp_in (x4 + 1) L) ∧ (w_L_holders M (xs (x4 + 1).toNatClampNeg) (fun (r_291 : Int32) (M_289 : Mem) => ((vp_in (x4 + 1) L) ∧ (mE M_289 5 0 = true ∧ (w_X5_holders M_289 (xs (x4 + 1).toNatClampNeg) (fun (r_297 : Int32) (M_295 : Mem) => (mE M_295 5 0 = true ∧ (w_X5_thrown M_295 (fun (r_302 : Int32) (M_300 : Mem) => ((r_302 = r_291 → ((r_291 = 0 → (mE M_300 60 0 = true ∧ ((vp_in 0 1) ∧ (((lg_cmp (mL M_300 60 0 ((0 : Int32).toNatClampNeg)) r_297.toInt64) = 0 → (b_L_law_924 k23 L xs Q M_300 it x4)) ∧ (¬ (lg_cmp (mL M_300 60 0 ((0 : Int32).toNatClampNeg)) r_297.toInt64) = 0 → (Q 0 M_300)))))) ∧ (¬ r_291 = 0 → (b_L_law_924 k23 L xs Q M_300 it x4)))) ∧ (¬ r_302 = r_291 → (Q 0 M_300)))))))))))))) ∧ (¬ v_28 = 12 → ((v_28 = 13 → ((vp_in (x4 + 1) L) ∧ ((vp_in (x4 + 2) L) ∧ (w_L_shown M (xs (x4 + 1).toNatClampNeg) (xs (x4 + 2).toNatClampNeg) (fun (r_313 : Int32) (M_311 : Mem) => ((vp_in (x4 + 1) L) ∧ ((vp_in (x4 + 2) L) ∧ (mE M_311 5 0 = true ∧ (w_X5_shown M_311 (xs (x4 + 1).toNatClampNeg) (xs (x4 + 2).toNatClampNeg) (fun (r_320 : Int32) (M_318 : Mem) => (mE M_318 5 0 = true ∧ (w_X5_thrown M_318 (fun (r_325 : Int32) (M_323 : Mem) => ((r_325 = r_313 → ((r_313 = 0 → (mE M_323 60 0 = true ∧ ((vp_in 0 1) ∧ (((lg_cmp (mL M_323 60 0 ((0 : Int32).toNatClampNeg)) r_320.toInt64) = 0 → (b_L_law_992 k23 L xs Q M_323 it x4)) ∧ (¬ (lg_cmp (mL M_323 60 0 ((0 : Int32).toNatClampNeg)) r_320.toInt64) = 0 → (Q 0 M_323)))))) ∧ (¬ r_313 = 0 → (b_L_law_992 k23 L xs Q M_323 it x4)))) ∧ (¬ r_325 = r_313 → (Q 0 M_323)))))))))))))))) ∧ (¬ v_28 = 13 → ((v_28 = 14 → ((vp_in (x4 + 1) L) ∧ (w_L_chosen M (xs (x4 + 1).toNatClampNeg) (fun (r_335 : Int32) (M_333 : Mem) => ((vp_in (x4 + 1) L) ∧ (mE M_333 5 0 = true ∧ (w_X5_chosen M_333 (xs (x4 + 1).toNatClampNeg) (fun (r_341 : Int32) (M_339 : Mem) => (mE M_339 5 0 = true ∧ (w_X5_thrown M_339 (fun (r_346 : Int32) (M_344 : Mem) => ((r_346 = r_335 → ((r_335 = 0 → (mE M_344 60 0 = true ∧ ((vp_in 0 1) ∧ (((lg_cmp (mL M_344 60 0 ((0 : Int32).toNatClampNeg)) r_341.toInt64) = 0 → (b_L_law_1048 k23 L xs Q M_344 it x4)) ∧ (¬ (lg_cmp (mL M_344 60 0 ((0 : Int32).toNatClampNeg)) r_341.toInt64) = 0 → (Q 0 M_344)))))) ∧ (¬ r_335 = 0 → (b_L_law_1048 k23 L xs Q M_344 it x4)))) ∧ (¬ r_346 = r_335 → (Q 0 M_344)))))))))))))) ∧ (¬ v_28 = 14 → ((v_28 = 15 → ((vp_in (x4 + 1) L) ∧ ((vp_in (x4 + 2) L) ∧ (w_L_got M (xs (x4 + 1).toNatClampNeg) (xs (x4 + 2).toNatClampNeg) (fun (r_357 : Int32) (M_355 : Mem) => ((vp_in (x4 + 1) L) ∧ ((vp_in (x4 + 2) L) ∧ (mE M_355 5 0 = true ∧ (w_X5_got M_355 (xs (x4 + 1).toNatClampNeg) (xs (x4 + 2).toNatClampNeg) (fun (r_364 : Int32) (M_362 : Mem) => (mE M_362 5 0 = true ∧ (w_X5_thrown M_362 (fun (r_369 : Int32) (M_367 : Mem) => ((r_369 = r_357 → ((r_357 = 0 → (mE M_367 60 0 = true ∧ ((vp_in 0 1) ∧ (((lg_cmp (mL M_367 60 0 ((0 : Int32).toNatClampNeg)) r_364.toInt64) = 0 → (b_L_law_1116 k23 L xs Q M_367 it x4)) ∧ (¬ (lg_cmp (mL M_367 60 0 ((0 : Int32).toNatClampNeg)) r_364.toInt64) = 0 → (Q 0 M_367)))))) ∧ (¬ r_357 = 0 → (b_L_law_1116 k23 L xs Q M_367 it x4)))) ∧ (¬ r_369 = r_357 → (Q 0 M_367)))))))))))))))) ∧ (¬ v_28 = 15 → ((v_28 = 16 → ((vp_in (x4 + 1) L) ∧ (w_L_doubles M (xs (x4 + 1).toNatClampNeg) (fun (r_379 : Int32) (M_377 : Mem) => ((vp_in (x4 + 1) L) ∧ (mE M_377 5 0 = true ∧ (w_X5_doubles M_377 (xs (x4 + 1).toNatClampNeg) (fun (r_385 : Int32) (M_383 : Mem) => (mE M_383 5 0 = true ∧ (w_X5_thrown M_383 (fun (r_390 : Int32) (M_388 : Mem) => ((r_390 = r_379 → ((r_379 = 0 → (mE M_388 60 0 = true ∧ ((vp_in 0 1) ∧ (((lg_cmp (mL M_388 60 0 ((0 : Int32).toNatClampNeg)) r_385.toInt64) = 0 → (b_L_law_1172 k23 L xs Q M_388 it x4)) ∧ (¬ (lg_cmp (mL M_388 60 0 ((0 : Int32).toNatClampNeg)) r_385.toInt64) = 0 → (Q 0 M_388)))))) ∧ (¬ r_379 = 0 → (b_L_law_1172 k23 L xs Q M_388 it x4)))) ∧ (¬ r_390 = r_379 → (Q 0 M_388)))))))))))))) ∧ (¬ v_28 = 16 → ((v_28 = 17 → ((vp_in (x4 + 1) L) ∧ ((vp_in (x4 + 2) L) ∧ (w_L_strikes M (xs (x4 + 1).toNatClampNeg) (xs (x4 + 2).toNatClampNeg) (fun (r_401 : Int32) (M_399 : Mem) => ((vp_in (x4 + 1) L) ∧ ((vp_in (x4 + 2) L) ∧ (mE M_399 5 0 = true ∧ (w_X5_strikes M_399 (xs (x4 + 1).toNatClampNeg) (xs (x4 + 2).toNatClampNeg) (fun (r_408 : Int32) (M_406 : Mem) => (mE M_406 5 0 = true ∧ (w_X5_thrown M_406 (fun (r_413 : Int32) (M_411 : Mem) => ((r_413 = r_401 → ((r_401 = 0 → (mE M_411 60 0 = true ∧ ((vp_in 0 1) ∧ (((lg_cmp (mL M_411 60 0 ((0 : Int32).toNatClampNeg)) r_408.toInt64) = 0 → (b_L_law_1240 k23 L xs Q M_411 it x4)) ∧ (¬ (lg_cmp (mL M_411 60 0 ((0 : Int32).toNatClampNeg)) r_408.toInt64) = 0 → (Q 0 M_411)))))) ∧ (¬ r_401 = 0 → (b_L_law_1240 k23 L xs Q M_411 it x4)))) ∧ (¬ r_413 = r_401 → (Q 0 M_411)))))))))))))))) ∧ (¬ v_28 = 17 → ((v_28 = 18 → ((vp_in (x4 + 1) L) ∧ ((vp_in (x4 + 2) L) ∧ (w_L_isBanned M (xs (x4 + 1).toNatClampNeg) (xs (x4 + 2).toNatClampNeg) (fun (r_424 : Int32) (M_422 : Mem) => ((vp_in (x4 + 1) L) ∧ ((vp_in (x4 + 2) L) ∧ (mE M_422 5 0 = true ∧ (w_X5_isBanned M_422 (xs (x4 + 1).toNatClampNeg) (xs (x4 + 2).toNatClampNeg) (fun (r_431 : Int32) (M_429 : Mem) => (mE M_429 5 0 = true ∧ (w_X5_thrown M_429 (fun (r_436 : Int32) (M_434 : Mem) => ((r_436 = r_424 → ((r_424 = 0 → (mE M_434 60 0 = true ∧ ((vp_in 0 1) ∧ ((r_431 = 0 → (b_L_law_1309 k23 L xs Q M_434 it x4 0 (mL M_434 60 0 ((0 : Int32).toNatClampNeg)))) ∧ (¬ r_431 = 0 → (b_L_law_1309 k23 L xs Q M_434 it x4 1 (mL M_434 60 0 ((0 : Int32).toNatClampNeg)))))))) ∧ (¬ r_424 = 0 → (b_L_law_1315 k23 L xs Q M_434 it x4)))) ∧ (¬ r_436 = r_424 → (Q 0 M_434)))))))))))))))) ∧ (¬ v_28 = 18 → (b_L_law_1318 k23 L xs Q M it x4)))))))))))))))))))))))))))))))))))))))))))))
def l_L_law_23 (L : Nat) (xs : Nat → Int32) (Q : Int32 → Mem → Prop) (n : Nat) : Mem → Nat → Int32 → Prop :=
  Nat.rec (motive := fun _ => Mem → Nat → Int32 → Prop) (fun _ _ _ => False) (fun _ k => b_L_law_23 L xs Q k) n
def w_L_law (L : Nat) (xs : Nat → Int32) (M : Mem) (Q : Int32 → Mem → Prop) : Prop :=
  (mE M 4 0 = false ∧ (∀ M_3 : Mem, M_3 = wN M 4 0 → (w_X4_init M_3 (fun (M_7 : Mem) => (mE M_7 5 0 = false ∧ (∀ M_13 : Mem, M_13 = wN M_7 5 0 → (w_X5_init M_13 (fun (M_17 : Mem) => (mE M_17 60 0 = false ∧ (∀ M_23 : Mem, M_23 = wN M_17 60 0 → (∃ n : Nat, l_L_law_23 L xs Q n M_23 0 0)))))))))))
