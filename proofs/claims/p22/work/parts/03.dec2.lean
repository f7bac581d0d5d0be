theorem dX4_comeOne_46 : decode cX4_comeOne 46 = .ok (.iadd, 1) := by decide +kernel
theorem dX4_comeOne_47 : decode cX4_comeOne 47 = .ok (.putfield 134, 3) := by decide +kernel
theorem dX4_comeOne_50 : decode cX4_comeOne 50 = .ok (.iconst 0, 1) := by decide +kernel
theorem dX4_comeOne_51 : decode cX4_comeOne 51 = .ok (.ireturn, 1) := by decide +kernel
theorem dX4_comeOne_52 : decode cX4_comeOne 52 = .ok (.aload_n 1, 1) := by decide +kernel
theorem dX4_comeOne_53 : decode cX4_comeOne 53 = .ok (.getfield 254, 3) := by decide +kernel
theorem dX4_comeOne_56 : decode cX4_comeOne 56 = .ok (.aload_n 2, 1) := by decide +kernel
theorem dX4_comeOne_57 : decode cX4_comeOne 57 = .ok (.getfield 49, 3) := by decide +kernel
theorem dX4_comeOne_60 : decode cX4_comeOne 60 = .ok (.dup2, 1) := by decide +kernel
theorem dX4_comeOne_61 : decode cX4_comeOne 61 = .ok (.laload, 1) := by decide +kernel
theorem dX4_comeOne_62 : decode cX4_comeOne 62 = .ok (.lconst 1, 1) := by decide +kernel
theorem dX4_comeOne_63 : decode cX4_comeOne 63 = .ok (.iload_n 3, 1) := by decide +kernel
theorem dX4_comeOne_64 : decode cX4_comeOne 64 = .ok (.lshl, 1) := by decide +kernel
theorem dX4_comeOne_65 : decode cX4_comeOne 65 = .ok (.lor, 1) := by decide +kernel
theorem dX4_comeOne_66 : decode cX4_comeOne 66 = .ok (.lastore, 1) := by decide +kernel
theorem dX4_comeOne_67 : decode cX4_comeOne 67 = .ok (.aload_n 1, 1) := by decide +kernel
theorem dX4_comeOne_68 : decode cX4_comeOne 68 = .ok (.getfield 131, 3) := by decide +kernel
theorem dX4_comeOne_71 : decode cX4_comeOne 71 = .ok (.aload_n 2, 1) := by decide +kernel
theorem dX4_comeOne_72 : decode cX4_comeOne 72 = .ok (.getfield 49, 3) := by decide +kernel
theorem dX4_comeOne_75 : decode cX4_comeOne 75 = .ok (.dup2, 1) := by decide +kernel
theorem dX4_comeOne_76 : decode cX4_comeOne 76 = .ok (.iaload, 1) := by decide +kernel
theorem dX4_comeOne_77 : decode cX4_comeOne 77 = .ok (.iconst 1, 1) := by decide +kernel
theorem dX4_comeOne_78 : decode cX4_comeOne 78 = .ok (.iadd, 1) := by decide +kernel
theorem dX4_comeOne_79 : decode cX4_comeOne 79 = .ok (.iastore, 1) := by decide +kernel
theorem dX4_comeOne_80 : decode cX4_comeOne 80 = .ok (.iconst 1, 1) := by decide +kernel
theorem dX4_comeOne_81 : decode cX4_comeOne 81 = .ok (.ireturn, 1) := by decide +kernel
theorem dX4_settleAll_0 : decode cX4_settleAll 0 = .ok (.aload_n 0, 1) := by decide +kernel
theorem dX4_settleAll_1 : decode cX4_settleAll 1 = .ok (.getfield 11, 3) := by decide +kernel
theorem dX4_settleAll_4 : decode cX4_settleAll 4 = .ok (.astore_n 1, 1) := by decide +kernel
theorem dX4_settleAll_5 : decode cX4_settleAll 5 = .ok (.aload_n 1, 1) := by decide +kernel
theorem dX4_settleAll_6 : decode cX4_settleAll 6 = .ok (.arraylength, 1) := by decide +kernel
theorem dX4_settleAll_7 : decode cX4_settleAll 7 = .ok (.istore_n 2, 1) := by decide +kernel
theorem dX4_settleAll_8 : decode cX4_settleAll 8 = .ok (.iconst 0, 1) := by decide +kernel
theorem dX4_settleAll_9 : decode cX4_settleAll 9 = .ok (.istore_n 3, 1) := by decide +kernel
theorem dX4_settleAll_10 : decode cX4_settleAll 10 = .ok (.iload_n 3, 1) := by decide +kernel
theorem dX4_settleAll_11 : decode cX4_settleAll 11 = .ok (.iload_n 2, 1) := by decide +kernel
theorem dX4_settleAll_12 : decode cX4_settleAll 12 = .ok (.if_icmp .ge 24, 3) := by decide +kernel
theorem dX4_settleAll_15 : decode cX4_settleAll 15 = .ok (.aload_n 1, 1) := by decide +kernel
theorem dX4_settleAll_16 : decode cX4_settleAll 16 = .ok (.iload_n 3, 1) := by decide +kernel
theorem dX4_settleAll_17 : decode cX4_settleAll 17 = .ok (.aaload, 1) := by decide +kernel
theorem dX4_settleAll_18 : decode cX4_settleAll 18 = .ok (.astore 4, 2) := by decide +kernel
theorem dX4_settleAll_20 : decode cX4_settleAll 20 = .ok (.aload 4, 2) := by decide +kernel
theorem dX4_settleAll_22 : decode cX4_settleAll 22 = .ok (.ifnull 8, 3) := by decide +kernel
theorem dX4_settleAll_25 : decode cX4_settleAll 25 = .ok (.aload 4, 2) := by decide +kernel
theorem dX4_settleAll_27 : decode cX4_settleAll 27 = .ok (.invokestatic 258, 3) := by decide +kernel
theorem dX4_settleAll_30 : decode cX4_settleAll 30 = .ok (.iinc 3 1, 3) := by decide +kernel
theorem dX4_settleAll_33 : decode cX4_settleAll 33 = .ok (.goto (-23), 3) := by decide +kernel
theorem dX4_settleAll_36 : decode cX4_settleAll 36 = .ok (.return_, 1) := by decide +kernel
theorem dX4_settle_0 : decode cX4_settle 0 = .ok (.iconst 0, 1) := by decide +kernel
theorem dX4_settle_1 : decode cX4_settle 1 = .ok (.istore_n 1, 1) := by decide +kernel
theorem dX4_settle_2 : decode cX4_settle 2 = .ok (.iload_n 1, 1) := by decide +kernel
theorem dX4_settle_3 : decode cX4_settle 3 = .ok (.bipush 12, 2) := by decide +kernel
theorem dX4_settle_5 : decode cX4_settle 5 = .ok (.if_icmp .ge 41, 3) := by decide +kernel
theorem dX4_settle_8 : decode cX4_settle 8 = .ok (.aload_n 0, 1) := by decide +kernel
theorem dX4_settle_9 : decode cX4_settle 9 = .ok (.getfield 52, 3) := by decide +kernel
theorem dX4_settle_12 : decode cX4_settle 12 = .ok (.iload_n 1, 1) := by decide +kernel
theorem dX4_settle_13 : decode cX4_settle 13 = .ok (.invokevirtual 261, 3) := by decide +kernel
theorem dX4_settle_16 : decode cX4_settle 16 = .ok (.ifCond .eq 24, 3) := by decide +kernel
theorem dX4_settle_19 : decode cX4_settle 19 = .ok (.aload_n 0, 1) := by decide +kernel
theorem dX4_settle_20 : decode cX4_settle 20 = .ok (.getfield 52, 3) := by decide +kernel
theorem dX4_settle_23 : decode cX4_settle 23 = .ok (.iload_n 1, 1) := by decide +kernel
theorem dX4_settle_24 : decode cX4_settle 24 = .ok (.invokevirtual 265, 3) := by decide +kernel
theorem dX4_settle_27 : decode cX4_settle 27 = .ok (.ifCond .ne 8, 3) := by decide +kernel
theorem dX4_settle_30 : decode cX4_settle 30 = .ok (.aload_n 0, 1) := by decide +kernel
theorem dX4_settle_31 : decode cX4_settle 31 = .ok (.iload_n 1, 1) := by decide +kernel
theorem dX4_settle_32 : decode cX4_settle 32 = .ok (.invokevirtual 268, 3) := by decide +kernel
theorem dX4_settle_35 : decode cX4_settle 35 = .ok (.aload_n 0, 1) := by decide +kernel
theorem dX4_settle_36 : decode cX4_settle 36 = .ok (.iload_n 1, 1) := by decide +kernel
theorem dX4_settle_37 : decode cX4_settle 37 = .ok (.invokevirtual 271, 3) := by decide +kernel
theorem dX4_settle_40 : decode cX4_settle 40 = .ok (.iinc 1 1, 3) := by decide +kernel
theorem dX4_settle_43 : decode cX4_settle 43 = .ok (.goto (-41), 3) := by decide +kernel
theorem dX4_settle_46 : decode cX4_settle 46 = .ok (.aload_n 0, 1) := by decide +kernel
theorem dX4_settle_47 : decode cX4_settle 47 = .ok (.getfield 52, 3) := by decide +kernel
theorem dX4_settle_50 : decode cX4_settle 50 = .ok (.invokevirtual 274, 3) := by decide +kernel
theorem dX4_settle_53 : decode cX4_settle 53 = .ok (.return_, 1) := by decide +kernel
theorem dX4_isIn_0 : decode cX4_isIn 0 = .ok (.lload_n 0, 1) := by decide +kernel
theorem dX4_isIn_1 : decode cX4_isIn 1 = .ok (.iload_n 2, 1) := by decide +kernel
theorem dX4_isIn_2 : decode cX4_isIn 2 = .ok (.lshr, 1) := by decide +kernel
theorem dX4_isIn_3 : decode cX4_isIn 3 = .ok (.lconst 1, 1) := by decide +kernel
theorem dX4_isIn_4 : decode cX4_isIn 4 = .ok (.land, 1) := by decide +kernel
theorem dX4_isIn_5 : decode cX4_isIn 5 = .ok (.lconst 0, 1) := by decide +kernel
theorem dX4_isIn_6 : decode cX4_isIn 6 = .ok (.lcmp, 1) := by decide +kernel
theorem dX4_isIn_7 : decode cX4_isIn 7 = .ok (.ifCond .eq 7, 3) := by decide +kernel
theorem dX4_isIn_10 : decode cX4_isIn 10 = .ok (.iconst 1, 1) := by decide +kernel
theorem dX4_isIn_11 : decode cX4_isIn 11 = .ok (.goto 4, 3) := by decide +kernel
theorem dX4_isIn_14 : decode cX4_isIn 14 = .ok (.iconst 0, 1) := by decide +kernel
theorem dX4_isIn_15 : decode cX4_isIn 15 = .ok (.ireturn, 1) := by decide +kernel
theorem dX4_single_0 : decode cX4_single 0 = .ok (.iload_n 0, 1) := by decide +kernel
theorem dX4_single_1 : decode cX4_single 1 = .ok (.iconst (-1), 1) := by decide +kernel
theorem dX4_single_2 : decode cX4_single 2 = .ok (.if_icmp .ne 7, 3) := by decide +kernel
theorem dX4_single_5 : decode cX4_single 5 = .ok (.iconst 0, 1) := by decide +kernel
theorem dX4_single_6 : decode cX4_single 6 = .ok (.goto 6, 3) := by decide +kernel
theorem dX4_single_9 : decode cX4_single 9 = .ok (.iconst 1, 1) := by decide +kernel
theorem dX4_single_10 : decode cX4_single 10 = .ok (.iload_n 0, 1) := by decide +kernel
theorem dX4_single_11 : decode cX4_single 11 = .ok (.ishl, 1) := by decide +kernel
theorem dX4_single_12 : decode cX4_single 12 = .ok (.ireturn, 1) := by decide +kernel
theorem dX4_blocksOfPiece_0 : decode cX4_blocksOfPiece 0 = .ok (.ldc2_w 277, 3) := by decide +kernel
theorem dX4_blocksOfPiece_3 : decode cX4_blocksOfPiece 3 = .ok (.iload_n 0, 1) := by decide +kernel
theorem dX4_blocksOfPiece_4 : decode cX4_blocksOfPiece 4 = .ok (.iconst 4, 1) := by decide +kernel
theorem dX4_blocksOfPiece_5 : decode cX4_blocksOfPiece 5 = .ok (.imul, 1) := by decide +kernel
theorem dX4_blocksOfPiece_6 : decode cX4_blocksOfPiece 6 = .ok (.lshl, 1) := by decide +kernel
theorem dX4_blocksOfPiece_7 : decode cX4_blocksOfPiece 7 = .ok (.lreturn, 1) := by decide +kernel
theorem dX4_blocksOf_0 : decode cX4_blocksOf 0 = .ok (.lconst 0, 1) := by decide +kernel
theorem dX4_blocksOf_1 : decode cX4_blocksOf 1 = .ok (.lstore_n 1, 1) := by decide +kernel
theorem dX4_blocksOf_2 : decode cX4_blocksOf 2 = .ok (.iconst 0, 1) := by decide +kernel
theorem dX4_blocksOf_3 : decode cX4_blocksOf 3 = .ok (.istore_n 3, 1) := by decide +kernel
theorem dX4_blocksOf_4 : decode cX4_blocksOf 4 = .ok (.iload_n 3, 1) := by decide +kernel
theorem dX4_blocksOf_5 : decode cX4_blocksOf 5 = .ok (.bipush 12, 2) := by decide +kernel
theorem dX4_blocksOf_7 : decode cX4_blocksOf 7 = .ok (.if_icmp .ge 25, 3) := by decide +kernel
theorem dX4_blocksOf_10 : decode cX4_blocksOf 10 = .ok (.iload_n 0, 1) := by decide +kernel
theorem dX4_blocksOf_11 : decode cX4_blocksOf 11 = .ok (.i2l, 1) := by decide +kernel
theorem dX4_blocksOf_12 : decode cX4_blocksOf 12 = .ok (.iload_n 3, 1) := by decide +kernel
theorem dX4_blocksOf_13 : decode cX4_blocksOf 13 = .ok (.invokestatic 86, 3) := by decide +kernel
theorem dX4_blocksOf_16 : decode cX4_blocksOf 16 = .ok (.ifCond .eq 10, 3) := by decide +kernel
theorem dX4_blocksOf_19 : decode cX4_blocksOf 19 = .ok (.lload_n 1, 1) := by decide +kernel
theorem dX4_blocksOf_20 : decode cX4_blocksOf 20 = .ok (.iload_n 3, 1) := by decide +kernel
theorem dX4_blocksOf_21 : decode cX4_blocksOf 21 = .ok (.invokestatic 213, 3) := by decide +kernel
theorem dX4_blocksOf_24 : decode cX4_blocksOf 24 = .ok (.lor, 1) := by decide +kernel
theorem dX4_blocksOf_25 : decode cX4_blocksOf 25 = .ok (.lstore_n 1, 1) := by decide +kernel
theorem dX4_blocksOf_26 : decode cX4_blocksOf 26 = .ok (.iinc 3 1, 3) := by decide +kernel
theorem dX4_blocksOf_29 : decode cX4_blocksOf 29 = .ok (.goto (-25), 3) := by decide +kernel
theorem dX4_blocksOf_32 : decode cX4_blocksOf 32 = .ok (.lload_n 1, 1) := by decide +kernel
theorem dX4_blocksOf_33 : decode cX4_blocksOf 33 = .ok (.lreturn, 1) := by decide +kernel
theorem dX4_findLowest_0 : decode cX4_findLowest 0 = .ok (.iconst 0, 1) := by decide +kernel
theorem dX4_findLowest_1 : decode cX4_findLowest 1 = .ok (.istore_n 2, 1) := by decide +kernel
theorem dX4_findLowest_2 : decode cX4_findLowest 2 = .ok (.iload_n 2, 1) := by decide +kernel
theorem dX4_findLowest_3 : decode cX4_findLowest 3 = .ok (.bipush 48, 2) := by decide +kernel
theorem dX4_findLowest_5 : decode cX4_findLowest 5 = .ok (.if_icmp .ge 19, 3) := by decide +kernel
theorem dX4_findLowest_8 : decode cX4_findLowest 8 = .ok (.lload_n 0, 1) := by decide +kernel
theorem dX4_findLowest_9 : decode cX4_findLowest 9 = .ok (.iload_n 2, 1) := by decide +kernel
theorem dX4_findLowest_10 : decode cX4_findLowest 10 = .ok (.invokestatic 86, 3) := by decide +kernel
theorem dX4_findLowest_13 : decode cX4_findLowest 13 = .ok (.ifCond .eq 5, 3) := by decide +kernel
theorem dX4_findLowest_16 : decode cX4_findLowest 16 = .ok (.iload_n 2, 1) := by decide +kernel
theorem dX4_findLowest_17 : decode cX4_findLowest 17 = .ok (.ireturn, 1) := by decide +kernel
theorem dX4_findLowest_18 : decode cX4_findLowest 18 = .ok (.iinc 2 1, 3) := by decide +kernel
theorem dX4_findLowest_21 : decode cX4_findLowest 21 = .ok (.goto (-19), 3) := by decide +kernel
theorem dX4_findLowest_24 : decode cX4_findLowest 24 = .ok (.iconst (-1), 1) := by decide +kernel
theorem dX4_findLowest_25 : decode cX4_findLowest 25 = .ok (.ireturn, 1) := by decide +kernel
theorem dJ6_bitCount_0f7a4_0 : decode cJ6_bitCount_0f7a4 0 = .ok (.iload_n 0, 1) := by decide +kernel
theorem dJ6_bitCount_0f7a4_1 : decode cJ6_bitCount_0f7a4 1 = .ok (.iload_n 0, 1) := by decide +kernel
theorem dJ6_bitCount_0f7a4_2 : decode cJ6_bitCount_0f7a4 2 = .ok (.iconst 1, 1) := by decide +kernel
theorem dJ6_bitCount_0f7a4_3 : decode cJ6_bitCount_0f7a4 3 = .ok (.iushr, 1) := by decide +kernel
theorem dJ6_bitCount_0f7a4_4 : decode cJ6_bitCount_0f7a4 4 = .ok (.ldc_w 265, 3) := by decide +kernel
theorem dJ6_bitCount_0f7a4_7 : decode cJ6_bitCount_0f7a4 7 = .ok (.iand, 1) := by decide +kernel
theorem dJ6_bitCount_0f7a4_8 : decode cJ6_bitCount_0f7a4 8 = .ok (.isub, 1) := by decide +kernel
theorem dJ6_bitCount_0f7a4_9 : decode cJ6_bitCount_0f7a4 9 = .ok (.istore_n 0, 1) := by decide +kernel
theorem dJ6_bitCount_0f7a4_10 : decode cJ6_bitCount_0f7a4 10 = .ok (.iload_n 0, 1) := by decide +kernel
theorem dJ6_bitCount_0f7a4_11 : decode cJ6_bitCount_0f7a4 11 = .ok (.ldc_w 266, 3) := by decide +kernel
theorem dJ6_bitCount_0f7a4_14 : decode cJ6_bitCount_0f7a4 14 = .ok (.iand, 1) := by decide +kernel
theorem dJ6_bitCount_0f7a4_15 : decode cJ6_bitCount_0f7a4 15 = .ok (.iload_n 0, 1) := by decide +kernel
theorem dJ6_bitCount_0f7a4_16 : decode cJ6_bitCount_0f7a4 16 = .ok (.iconst 2, 1) := by decide +kernel
theorem dJ6_bitCount_0f7a4_17 : decode cJ6_bitCount_0f7a4 17 = .ok (.iushr, 1) := by decide +kernel
theorem dJ6_bitCount_0f7a4_18 : decode cJ6_bitCount_0f7a4 18 = .ok (.ldc_w 266, 3) := by decide +kernel
theorem dJ6_bitCount_0f7a4_21 : decode cJ6_bitCount_0f7a4 21 = .ok (.iand, 1) := by decide +kernel
theorem dJ6_bitCount_0f7a4_22 : decode cJ6_bitCount_0f7a4 22 = .ok (.iadd, 1) := by decide +kernel
theorem dJ6_bitCount_0f7a4_23 : decode cJ6_bitCount_0f7a4 23 = .ok (.istore_n 0, 1) := by decide +kernel
theorem dJ6_bitCount_0f7a4_24 : decode cJ6_bitCount_0f7a4 24 = .ok (.iload_n 0, 1) := by decide +kernel
theorem dJ6_bitCount_0f7a4_25 : decode cJ6_bitCount_0f7a4 25 = .ok (.iload_n 0, 1) := by decide +kernel
theorem dJ6_bitCount_0f7a4_26 : decode cJ6_bitCount_0f7a4 26 = .ok (.iconst 4, 1) := by decide +kernel
theorem dJ6_bitCount_0f7a4_27 : decode cJ6_bitCount_0f7a4 27 = .ok (.iushr, 1) := by decide +kernel
theorem dJ6_bitCount_0f7a4_28 : decode cJ6_bitCount_0f7a4 28 = .ok (.iadd, 1) := by decide +kernel
theorem dJ6_bitCount_0f7a4_29 : decode cJ6_bitCount_0f7a4 29 = .ok (.ldc_w 267, 3) := by decide +kernel
theorem dJ6_bitCount_0f7a4_32 : decode cJ6_bitCount_0f7a4 32 = .ok (.iand, 1) := by decide +kernel
theorem dJ6_bitCount_0f7a4_33 : decode cJ6_bitCount_0f7a4 33 = .ok (.istore_n 0, 1) := by decide +kernel
theorem dJ6_bitCount_0f7a4_34 : decode cJ6_bitCount_0f7a4 34 = .ok (.iload_n 0, 1) := by decide +kernel
theorem dJ6_bitCount_0f7a4_35 : decode cJ6_bitCount_0f7a4 35 = .ok (.iload_n 0, 1) := by decide +kernel
theorem dJ6_bitCount_0f7a4_36 : decode cJ6_bitCount_0f7a4 36 = .ok (.bipush 8, 2) := by decide +kernel
theorem dJ6_bitCount_0f7a4_38 : decode cJ6_bitCount_0f7a4 38 = .ok (.iushr, 1) := by decide +kernel
theorem dJ6_bitCount_0f7a4_39 : decode cJ6_bitCount_0f7a4 39 = .ok (.iadd, 1) := by decide +kernel
theorem dJ6_bitCount_0f7a4_40 : decode cJ6_bitCount_0f7a4 40 = .ok (.istore_n 0, 1) := by decide +kernel
theorem dJ6_bitCount_0f7a4_41 : decode cJ6_bitCount_0f7a4 41 = .ok (.iload_n 0, 1) := by decide +kernel
theorem dJ6_bitCount_0f7a4_42 : decode cJ6_bitCount_0f7a4 42 = .ok (.iload_n 0, 1) := by decide +kernel
theorem dJ6_bitCount_0f7a4_43 : decode cJ6_bitCount_0f7a4 43 = .ok (.bipush 16, 2) := by decide +kernel
theorem dJ6_bitCount_0f7a4_45 : decode cJ6_bitCount_0f7a4 45 = .ok (.iushr, 1) := by decide +kernel
theorem dJ6_bitCount_0f7a4_46 : decode cJ6_bitCount_0f7a4 46 = .ok (.iadd, 1) := by decide +kernel
theorem dJ6_bitCount_0f7a4_47 : decode cJ6_bitCount_0f7a4 47 = .ok (.istore_n 0, 1) := by decide +kernel
theorem dJ6_bitCount_0f7a4_48 : decode cJ6_bitCount_0f7a4 48 = .ok (.iload_n 0, 1) := by decide +kernel
theorem dJ6_bitCount_0f7a4_49 : decode cJ6_bitCount_0f7a4 49 = .ok (.bipush 63, 2) := by decide +kernel
theorem dJ6_bitCount_0f7a4_51 : decode cJ6_bitCount_0f7a4 51 = .ok (.iand, 1) := by decide +kernel
theorem dJ6_bitCount_0f7a4_52 : decode cJ6_bitCount_0f7a4 52 = .ok (.ireturn, 1) := by decide +kernel
theorem dJ7_fill_53178_0 : decode cJ7_fill_53178 0 = .ok (.iconst 0, 1) := by decide +kernel
theorem dJ7_fill_53178_1 : decode cJ7_fill_53178 1 = .ok (.istore_n 2, 1) := by decide +kernel
theorem dJ7_fill_53178_2 : decode cJ7_fill_53178 2 = .ok (.aload_n 0, 1) := by decide +kernel
theorem dJ7_fill_53178_3 : decode cJ7_fill_53178 3 = .ok (.arraylength, 1) := by decide +kernel
theorem dJ7_fill_53178_4 : decode cJ7_fill_53178 4 = .ok (.istore_n 3, 1) := by decide +kernel
theorem dJ7_fill_53178_5 : decode cJ7_fill_53178 5 = .ok (.iload_n 2, 1) := by decide +kernel
theorem dJ7_fill_53178_6 : decode cJ7_fill_53178 6 = .ok (.iload_n 3, 1) := by decide +kernel
theorem dJ7_fill_53178_7 : decode cJ7_fill_53178 7 = .ok (.if_icmp .ge 13, 3) := by decide +kernel
theorem dJ7_fill_53178_10 : decode cJ7_fill_53178 10 = .ok (.aload_n 0, 1) := by decide +kernel
theorem dJ7_fill_53178_11 : decode cJ7_fill_53178 11 = .ok (.iload_n 2, 1) := by decide +kernel
theorem dJ7_fill_53178_12 : decode cJ7_fill_53178 12 = .ok (.iload_n 1, 1) := by decide +kernel
theorem dJ7_fill_53178_13 : decode cJ7_fill_53178 13 = .ok (.iastore, 1) := by decide +kernel
theorem dJ7_fill_53178_14 : decode cJ7_fill_53178 14 = .ok (.iinc 2 1, 3) := by decide +kernel
theorem dJ7_fill_53178_17 : decode cJ7_fill_53178 17 = .ok (.goto (-12), 3) := by decide +kernel
theorem dJ7_fill_53178_20 : decode cJ7_fill_53178 20 = .ok (.return_, 1) := by decide +kernel
theorem dL_draw_0 : decode cL_draw 0 = .ok (.iload_n 1, 1) := by decide +kernel
theorem dL_draw_1 : decode cL_draw 1 = .ok (.aload_n 0, 1) := by decide +kernel
theorem dL_draw_2 : decode cL_draw 2 = .ok (.arraylength, 1) := by decide +kernel
theorem dL_draw_3 : decode cL_draw 3 = .ok (.if_icmp .ge 12, 3) := by decide +kernel
theorem dL_draw_6 : decode cL_draw 6 = .ok (.aload_n 0, 1) := by decide +kernel
theorem dL_draw_7 : decode cL_draw 7 = .ok (.iload_n 1, 1) := by decide +kernel
theorem dL_draw_8 : decode cL_draw 8 = .ok (.iaload, 1) := by decide +kernel
theorem dL_draw_9 : decode cL_draw 9 = .ok (.ldc 7, 2) := by decide +kernel
theorem dL_draw_11 : decode cL_draw 11 = .ok (.iand, 1) := by decide +kernel
theorem dL_draw_12 : decode cL_draw 12 = .ok (.goto 12, 3) := by decide +kernel
theorem dL_draw_15 : decode cL_draw 15 = .ok (.ldc 8, 2) := by decide +kernel
theorem dL_draw_17 : decode cL_draw 17 = .ok (.iload_n 1, 1) := by decide +kernel
theorem dL_draw_18 : decode cL_draw 18 = .ok (.iconst 2, 1) := by decide +kernel
theorem dL_draw_19 : decode cL_draw 19 = .ok (.iadd, 1) := by decide +kernel
theorem dL_draw_20 : decode cL_draw 20 = .ok (.imul, 1) := by decide +kernel
theorem dL_draw_21 : decode cL_draw 21 = .ok (.ldc 9, 2) := by decide +kernel
theorem dL_draw_23 : decode cL_draw 23 = .ok (.irem, 1) := by decide +kernel
theorem dL_draw_24 : decode cL_draw 24 = .ok (.ireturn, 1) := by decide +kernel
theorem dL_step_0 : decode cL_step 0 = .ok (.aload_n 1, 1) := by decide +kernel
theorem dL_step_1 : decode cL_step 1 = .ok (.iconst 0, 1) := by decide +kernel
theorem dL_step_2 : decode cL_step 2 = .ok (.iaload, 1) := by decide +kernel
theorem dL_step_3 : decode cL_step 3 = .ok (.ifCond .ne 7, 3) := by decide +kernel
theorem dL_step_6 : decode cL_step 6 = .ok (.iconst 0, 1) := by decide +kernel
theorem dL_step_7 : decode cL_step 7 = .ok (.goto 8, 3) := by decide +kernel
theorem dL_step_10 : decode cL_step 10 = .ok (.iload_n 3, 1) := by decide +kernel
theorem dL_step_11 : decode cL_step 11 = .ok (.aload_n 1, 1) := by decide +kernel
theorem dL_step_12 : decode cL_step 12 = .ok (.iconst 0, 1) := by decide +kernel
theorem dL_step_13 : decode cL_step 13 = .ok (.iaload, 1) := by decide +kernel
theorem dL_step_14 : decode cL_step 14 = .ok (.irem, 1) := by decide +kernel
theorem dL_step_15 : decode cL_step 15 = .ok (.istore 5, 2) := by decide +kernel
theorem dL_step_17 : decode cL_step 17 = .ok (.iload 4, 2) := by decide +kernel
theorem dL_step_19 : decode cL_step 19 = .ok (.bipush 12, 2) := by decide +kernel
theorem dL_step_21 : decode cL_step 21 = .ok (.irem, 1) := by decide +kernel
theorem dL_step_22 : decode cL_step 22 = .ok (.istore 6, 2) := by decide +kernel
theorem dL_step_24 : decode cL_step 24 = .ok (.aload_n 1, 1) := by decide +kernel
theorem dL_step_25 : decode cL_step 25 = .ok (.iconst 1, 1) := by decide +kernel
theorem dL_step_26 : decode cL_step 26 = .ok (.iaload, 1) := by decide +kernel
theorem dL_step_27 : decode cL_step 27 = .ok (.iload 5, 2) := by decide +kernel
theorem dL_step_29 : decode cL_step 29 = .ok (.ishr, 1) := by decide +kernel
theorem dL_step_30 : decode cL_step 30 = .ok (.iconst 1, 1) := by decide +kernel
theorem dL_step_31 : decode cL_step 31 = .ok (.iand, 1) := by decide +kernel
theorem dL_step_32 : decode cL_step 32 = .ok (.iconst 1, 1) := by decide +kernel
theorem dL_step_33 : decode cL_step 33 = .ok (.if_icmp .ne 7, 3) := by decide +kernel
theorem dL_step_36 : decode cL_step 36 = .ok (.iconst 1, 1) := by decide +kernel
theorem dL_step_37 : decode cL_step 37 = .ok (.goto 4, 3) := by decide +kernel
theorem dL_step_40 : decode cL_step 40 = .ok (.iconst 0, 1) := by decide +kernel
theorem dL_step_41 : decode cL_step 41 = .ok (.istore 7, 2) := by decide +kernel
theorem dL_step_43 : decode cL_step 43 = .ok (.iload 4, 2) := by decide +kernel
theorem dL_step_45 : decode cL_step 45 = .ok (.bipush 12, 2) := by decide +kernel
theorem dL_step_47 : decode cL_step 47 = .ok (.idiv, 1) := by decide +kernel
theorem dL_step_48 : decode cL_step 48 = .ok (.iconst 2, 1) := by decide +kernel
theorem dL_step_49 : decode cL_step 49 = .ok (.irem, 1) := by decide +kernel
theorem dL_step_50 : decode cL_step 50 = .ok (.ifCond .ne 7, 3) := by decide +kernel
theorem dL_step_53 : decode cL_step 53 = .ok (.iconst 1, 1) := by decide +kernel
theorem dL_step_54 : decode cL_step 54 = .ok (.goto 4, 3) := by decide +kernel
theorem dL_step_57 : decode cL_step 57 = .ok (.iconst 0, 1) := by decide +kernel
theorem dL_step_58 : decode cL_step 58 = .ok (.istore 8, 2) := by decide +kernel
theorem dL_step_60 : decode cL_step 60 = .ok (.iload_n 2, 1) := by decide +kernel
theorem dL_step_61 : decode cL_step 61 = .ok (.bipush 14, 2) := by decide +kernel
theorem dL_step_63 : decode cL_step 63 = .ok (.irem, 1) := by decide +kernel
theorem dL_step_64 : decode cL_step 64 = .ok (.tableswitch 621 0 6 #[44, 44, 199, 275, 312, 407, 512], 44) := by decide +kernel
theorem dL_step_108 : decode cL_step 108 = .ok (.aload_n 1, 1) := by decide +kernel
theorem dL_step_109 : decode cL_step 109 = .ok (.iconst 0, 1) := by decide +kernel
theorem dL_step_110 : decode cL_step 110 = .ok (.iaload, 1) := by decide +kernel
theorem dL_step_111 : decode cL_step 111 = .ok (.bipush 6, 2) := by decide +kernel
theorem dL_step_113 : decode cL_step 113 = .ok (.if_icmp .ne 19, 3) := by decide +kernel
theorem dL_step_116 : decode cL_step 116 = .ok (.aload_n 0, 1) := by decide +kernel
theorem dL_step_117 : decode cL_step 117 = .ok (.invokevirtual 10, 3) := by decide +kernel
theorem dL_step_120 : decode cL_step 120 = .ok (.aload_n 1, 1) := by decide +kernel
theorem dL_step_121 : decode cL_step 121 = .ok (.iconst 1, 1) := by decide +kernel
theorem dL_step_122 : decode cL_step 122 = .ok (.iaload, 1) := by decide +kernel
theorem dL_step_123 : decode cL_step 123 = .ok (.if_icmp .ne 7, 3) := by decide +kernel
theorem dL_step_126 : decode cL_step 126 = .ok (.iconst 1, 1) := by decide +kernel
theorem dL_step_127 : decode cL_step 127 = .ok (.goto 4, 3) := by decide +kernel
theorem dL_step_130 : decode cL_step 130 = .ok (.iconst 0, 1) := by decide +kernel
theorem dL_step_131 : decode cL_step 131 = .ok (.ireturn, 1) := by decide +kernel
theorem dL_step_132 : decode cL_step 132 = .ok (.aload_n 1, 1) := by decide +kernel
theorem dL_step_133 : decode cL_step 133 = .ok (.iconst 0, 1) := by decide +kernel
theorem dL_step_134 : decode cL_step 134 = .ok (.iaload, 1) := by decide +kernel
theorem dL_step_135 : decode cL_step 135 = .ok (.ifCond .eq 10, 3) := by decide +kernel
theorem dL_step_138 : decode cL_step 138 = .ok (.iload 4, 2) := by decide +kernel
theorem dL_step_140 : decode cL_step 140 = .ok (.iconst 3, 1) := by decide +kernel
theorem dL_step_141 : decode cL_step 141 = .ok (.irem, 1) := by decide +kernel
theorem dL_step_142 : decode cL_step 142 = .ok (.ifCond .ne 7, 3) := by decide +kernel
theorem dL_step_145 : decode cL_step 145 = .ok (.iconst 1, 1) := by decide +kernel
theorem dL_step_146 : decode cL_step 146 = .ok (.goto 4, 3) := by decide +kernel
theorem dL_step_149 : decode cL_step 149 = .ok (.iconst 0, 1) := by decide +kernel
theorem dL_step_150 : decode cL_step 150 = .ok (.istore 9, 2) := by decide +kernel
theorem dL_step_152 : decode cL_step 152 = .ok (.aload_n 1, 1) := by decide +kernel
theorem dL_step_153 : decode cL_step 153 = .ok (.iconst 1, 1) := by decide +kernel
theorem dL_step_154 : decode cL_step 154 = .ok (.dup2, 1) := by decide +kernel
theorem dL_step_155 : decode cL_step 155 = .ok (.iaload, 1) := by decide +kernel
theorem dL_step_156 : decode cL_step 156 = .ok (.iconst 1, 1) := by decide +kernel
theorem dL_step_157 : decode cL_step 157 = .ok (.aload_n 1, 1) := by decide +kernel
theorem dL_step_158 : decode cL_step 158 = .ok (.iconst 0, 1) := by decide +kernel
theorem dL_step_159 : decode cL_step 159 = .ok (.iaload, 1) := by decide +kernel
theorem dL_step_160 : decode cL_step 160 = .ok (.ishl, 1) := by decide +kernel
theorem dL_step_161 : decode cL_step 161 = .ok (.ior, 1) := by decide +kernel
theorem dL_step_162 : decode cL_step 162 = .ok (.iastore, 1) := by decide +kernel
theorem dL_step_163 : decode cL_step 163 = .ok (.aload_n 1, 1) := by decide +kernel
theorem dL_step_164 : decode cL_step 164 = .ok (.bipush 23, 2) := by decide +kernel
theorem dL_step_166 : decode cL_step 166 = .ok (.aload_n 1, 1) := by decide +kernel
theorem dL_step_167 : decode cL_step 167 = .ok (.iconst 0, 1) := by decide +kernel
theorem dL_step_168 : decode cL_step 168 = .ok (.iaload, 1) := by decide +kernel
theorem dL_step_169 : decode cL_step 169 = .ok (.iadd, 1) := by decide +kernel
theorem dL_step_170 : decode cL_step 170 = .ok (.iload 9, 2) := by decide +kernel
theorem dL_step_172 : decode cL_step 172 = .ok (.ifCond .eq 9, 3) := by decide +kernel
theorem dL_step_175 : decode cL_step 175 = .ok (.sipush 4095, 3) := by decide +kernel
theorem dL_step_178 : decode cL_step 178 = .ok (.goto 4, 3) := by decide +kernel
theorem dL_step_181 : decode cL_step 181 = .ok (.iconst 0, 1) := by decide +kernel
theorem dL_step_182 : decode cL_step 182 = .ok (.iastore, 1) := by decide +kernel
theorem dL_step_183 : decode cL_step 183 = .ok (.aload_n 1, 1) := by decide +kernel
theorem dL_step_184 : decode cL_step 184 = .ok (.iconst 0, 1) := by decide +kernel
theorem dL_step_185 : decode cL_step 185 = .ok (.dup2, 1) := by decide +kernel
theorem dL_step_186 : decode cL_step 186 = .ok (.iaload, 1) := by decide +kernel
theorem dL_step_187 : decode cL_step 187 = .ok (.iconst 1, 1) := by decide +kernel
theorem dL_step_188 : decode cL_step 188 = .ok (.iadd, 1) := by decide +kernel
theorem dL_step_189 : decode cL_step 189 = .ok (.iastore, 1) := by decide +kernel
theorem dL_step_190 : decode cL_step 190 = .ok (.aload_n 0, 1) := by decide +kernel
theorem dL_step_191 : decode cL_step 191 = .ok (.iload 9, 2) := by decide +kernel
theorem dL_step_193 : decode cL_step 193 = .ok (.invokevirtual 16, 3) := by decide +kernel
theorem dL_step_196 : decode cL_step 196 = .ok (.aload_n 1, 1) := by decide +kernel
theorem dL_step_197 : decode cL_step 197 = .ok (.iconst 0, 1) := by decide +kernel
theorem dL_step_198 : decode cL_step 198 = .ok (.iaload, 1) := by decide +kernel
theorem dL_step_199 : decode cL_step 199 = .ok (.iconst 1, 1) := by decide +kernel
theorem dL_step_200 : decode cL_step 200 = .ok (.isub, 1) := by decide +kernel
theorem dL_step_201 : decode cL_step 201 = .ok (.if_icmp .ne 60, 3) := by decide +kernel
theorem dL_step_204 : decode cL_step 204 = .ok (.aload_n 0, 1) := by decide +kernel
theorem dL_step_205 : decode cL_step 205 = .ok (.aload_n 1, 1) := by decide +kernel
theorem dL_step_206 : decode cL_step 206 = .ok (.iconst 0, 1) := by decide +kernel
theorem dL_step_207 : decode cL_step 207 = .ok (.iaload, 1) := by decide +kernel
theorem dL_step_208 : decode cL_step 208 = .ok (.iconst 1, 1) := by decide +kernel
theorem dL_step_209 : decode cL_step 209 = .ok (.isub, 1) := by decide +kernel
theorem dL_step_210 : decode cL_step 210 = .ok (.invokevirtual 20, 3) := by decide +kernel
theorem dL_step_213 : decode cL_step 213 = .ok (.iload 9, 2) := by decide +kernel
theorem dL_step_215 : decode cL_step 215 = .ok (.ifCond .eq 9, 3) := by decide +kernel
theorem dL_step_218 : decode cL_step 218 = .ok (.sipush 4095, 3) := by decide +kernel
theorem dL_step_221 : decode cL_step 221 = .ok (.goto 4, 3) := by decide +kernel
theorem dL_step_224 : decode cL_step 224 = .ok (.iconst 0, 1) := by decide +kernel
theorem dL_step_225 : decode cL_step 225 = .ok (.if_icmp .ne 36, 3) := by decide +kernel
theorem dL_step_228 : decode cL_step 228 = .ok (.aload_n 0, 1) := by decide +kernel
theorem dL_step_229 : decode cL_step 229 = .ok (.aload_n 1, 1) := by decide +kernel
theorem dL_step_230 : decode cL_step 230 = .ok (.iconst 0, 1) := by decide +kernel
theorem dL_step_231 : decode cL_step 231 = .ok (.iaload, 1) := by decide +kernel
theorem dL_step_232 : decode cL_step 232 = .ok (.iconst 1, 1) := by decide +kernel
theorem dL_step_233 : decode cL_step 233 = .ok (.isub, 1) := by decide +kernel
theorem dL_step_234 : decode cL_step 234 = .ok (.aload_n 1, 1) := by decide +kernel
theorem dL_step_235 : decode cL_step 235 = .ok (.iconst 0, 1) := by decide +kernel
theorem dL_step_236 : decode cL_step 236 = .ok (.iaload, 1) := by decide +kernel
theorem dL_step_237 : decode cL_step 237 = .ok (.iconst 1, 1) := by decide +kernel
theorem dL_step_238 : decode cL_step 238 = .ok (.isub, 1) := by decide +kernel
theorem dL_step_239 : decode cL_step 239 = .ok (.invokevirtual 24, 3) := by decide +kernel
theorem dL_step_242 : decode cL_step 242 = .ok (.ifCond .ne 19, 3) := by decide +kernel
theorem dL_step_245 : decode cL_step 245 = .ok (.aload_n 0, 1) := by decide +kernel
theorem dL_step_246 : decode cL_step 246 = .ok (.aload_n 1, 1) := by decide +kernel
theorem dL_step_247 : decode cL_step 247 = .ok (.iconst 0, 1) := by decide +kernel
theorem dL_step_248 : decode cL_step 248 = .ok (.iaload, 1) := by decide +kernel
theorem dL_step_249 : decode cL_step 249 = .ok (.iconst 1, 1) := by decide +kernel
theorem dL_step_250 : decode cL_step 250 = .ok (.isub, 1) := by decide +kernel
theorem dL_step_251 : decode cL_step 251 = .ok (.invokevirtual 28, 3) := by decide +kernel
theorem dL_step_254 : decode cL_step 254 = .ok (.ifCond .ne 7, 3) := by decide +kernel
theorem dL_step_257 : decode cL_step 257 = .ok (.iconst 1, 1) := by decide +kernel
theorem dL_step_258 : decode cL_step 258 = .ok (.goto 4, 3) := by decide +kernel
theorem dL_step_261 : decode cL_step 261 = .ok (.iconst 0, 1) := by decide +kernel
theorem dL_step_262 : decode cL_step 262 = .ok (.ireturn, 1) := by decide +kernel
theorem dL_step_263 : decode cL_step 263 = .ok (.iload 7, 2) := by decide +kernel
theorem dL_step_265 : decode cL_step 265 = .ok (.ifCond .eq 11, 3) := by decide +kernel
theorem dL_step_268 : decode cL_step 268 = .ok (.iload 4, 2) := by decide +kernel
theorem dL_step_270 : decode cL_step 270 = .ok (.bipush 6, 2) := by decide +kernel
theorem dL_step_272 : decode cL_step 272 = .ok (.irem, 1) := by decide +kernel
theorem dL_step_273 : decode cL_step 273 = .ok (.ifCond .le 19, 3) := by decide +kernel
theorem dL_step_276 : decode cL_step 276 = .ok (.aload_n 0, 1) := by decide +kernel
theorem dL_step_277 : decode cL_step 277 = .ok (.invokevirtual 10, 3) := by decide +kernel
theorem dL_step_280 : decode cL_step 280 = .ok (.aload_n 1, 1) := by decide +kernel
theorem dL_step_281 : decode cL_step 281 = .ok (.iconst 1, 1) := by decide +kernel
theorem dL_step_282 : decode cL_step 282 = .ok (.iaload, 1) := by decide +kernel
theorem dL_step_283 : decode cL_step 283 = .ok (.if_icmp .ne 7, 3) := by decide +kernel
theorem dL_step_286 : decode cL_step 286 = .ok (.iconst 1, 1) := by decide +kernel
theorem dL_step_287 : decode cL_step 287 = .ok (.goto 4, 3) := by decide +kernel
theorem dL_step_290 : decode cL_step 290 = .ok (.iconst 0, 1) := by decide +kernel
theorem dL_step_291 : decode cL_step 291 = .ok (.ireturn, 1) := by decide +kernel
theorem dL_step_292 : decode cL_step 292 = .ok (.aload_n 1, 1) := by decide +kernel
theorem dL_step_293 : decode cL_step 293 = .ok (.iconst 1, 1) := by decide +kernel
theorem dL_step_294 : decode cL_step 294 = .ok (.dup2, 1) := by decide +kernel
theorem dL_step_295 : decode cL_step 295 = .ok (.iaload, 1) := by decide +kernel
theorem dL_step_296 : decode cL_step 296 = .ok (.iconst 1, 1) := by decide +kernel
theorem dL_step_297 : decode cL_step 297 = .ok (.iload 5, 2) := by decide +kernel
theorem dL_step_299 : decode cL_step 299 = .ok (.ishl, 1) := by decide +kernel
theorem dL_step_300 : decode cL_step 300 = .ok (.iconst (-1), 1) := by decide +kernel
theorem dL_step_301 : decode cL_step 301 = .ok (.ixor, 1) := by decide +kernel
theorem dL_step_302 : decode cL_step 302 = .ok (.iand, 1) := by decide +kernel
theorem dL_step_303 : decode cL_step 303 = .ok (.iastore, 1) := by decide +kernel
theorem dL_step_304 : decode cL_step 304 = .ok (.aload_n 0, 1) := by decide +kernel
theorem dL_step_305 : decode cL_step 305 = .ok (.iload 5, 2) := by decide +kernel
theorem dL_step_307 : decode cL_step 307 = .ok (.invokevirtual 31, 3) := by decide +kernel
theorem dL_step_310 : decode cL_step 310 = .ok (.aload_n 1, 1) := by decide +kernel
theorem dL_step_311 : decode cL_step 311 = .ok (.bipush 23, 2) := by decide +kernel
theorem dL_step_313 : decode cL_step 313 = .ok (.iload 5, 2) := by decide +kernel
theorem dL_step_315 : decode cL_step 315 = .ok (.iadd, 1) := by decide +kernel
theorem dL_step_316 : decode cL_step 316 = .ok (.iaload, 1) := by decide +kernel
theorem dL_step_317 : decode cL_step 317 = .ok (.invokestatic 34, 3) := by decide +kernel
theorem dL_step_320 : decode cL_step 320 = .ok (.if_icmp .ne 17, 3) := by decide +kernel
theorem dL_step_323 : decode cL_step 323 = .ok (.aload_n 0, 1) := by decide +kernel
theorem dL_step_324 : decode cL_step 324 = .ok (.invokevirtual 10, 3) := by decide +kernel
theorem dL_step_327 : decode cL_step 327 = .ok (.aload_n 1, 1) := by decide +kernel
theorem dL_step_328 : decode cL_step 328 = .ok (.iconst 1, 1) := by decide +kernel
theorem dL_step_329 : decode cL_step 329 = .ok (.iaload, 1) := by decide +kernel
theorem dL_step_330 : decode cL_step 330 = .ok (.if_icmp .ne 7, 3) := by decide +kernel
theorem dL_step_333 : decode cL_step 333 = .ok (.iconst 1, 1) := by decide +kernel
theorem dL_step_334 : decode cL_step 334 = .ok (.goto 4, 3) := by decide +kernel
theorem dL_step_337 : decode cL_step 337 = .ok (.iconst 0, 1) := by decide +kernel
theorem dL_step_338 : decode cL_step 338 = .ok (.ireturn, 1) := by decide +kernel
theorem dL_step_339 : decode cL_step 339 = .ok (.aload_n 1, 1) := by decide +kernel
theorem dL_step_340 : decode cL_step 340 = .ok (.iconst 3, 1) := by decide +kernel
theorem dL_step_341 : decode cL_step 341 = .ok (.iload 6, 2) := by decide +kernel
theorem dL_step_343 : decode cL_step 343 = .ok (.iadd, 1) := by decide +kernel
theorem dL_step_344 : decode cL_step 344 = .ok (.iaload, 1) := by decide +kernel
theorem dL_step_345 : decode cL_step 345 = .ok (.istore 10, 2) := by decide +kernel
theorem dL_step_347 : decode cL_step 347 = .ok (.aload_n 1, 1) := by decide +kernel
theorem dL_step_348 : decode cL_step 348 = .ok (.iconst 3, 1) := by decide +kernel
theorem dL_step_349 : decode cL_step 349 = .ok (.iload 6, 2) := by decide +kernel
theorem dL_step_351 : decode cL_step 351 = .ok (.iadd, 1) := by decide +kernel
theorem dL_step_352 : decode cL_step 352 = .ok (.iload_n 3, 1) := by decide +kernel
theorem dL_step_353 : decode cL_step 353 = .ok (.iconst 4, 1) := by decide +kernel
theorem dL_step_354 : decode cL_step 354 = .ok (.irem, 1) := by decide +kernel
theorem dL_step_355 : decode cL_step 355 = .ok (.iastore, 1) := by decide +kernel
theorem dL_step_356 : decode cL_step 356 = .ok (.aload_n 0, 1) := by decide +kernel
theorem dL_step_357 : decode cL_step 357 = .ok (.iload 6, 2) := by decide +kernel
theorem dL_step_359 : decode cL_step 359 = .ok (.iload_n 3, 1) := by decide +kernel
theorem dL_step_360 : decode cL_step 360 = .ok (.iconst 4, 1) := by decide +kernel
theorem dL_step_361 : decode cL_step 361 = .ok (.irem, 1) := by decide +kernel
theorem dL_step_362 : decode cL_step 362 = .ok (.invokevirtual 39, 3) := by decide +kernel
theorem dL_step_365 : decode cL_step 365 = .ok (.iload 10, 2) := by decide +kernel
theorem dL_step_367 : decode cL_step 367 = .ok (.if_icmp .ne 7, 3) := by decide +kernel
theorem dL_step_370 : decode cL_step 370 = .ok (.iconst 1, 1) := by decide +kernel
theorem dL_step_371 : decode cL_step 371 = .ok (.goto 4, 3) := by decide +kernel
theorem dL_step_374 : decode cL_step 374 = .ok (.iconst 0, 1) := by decide +kernel
theorem dL_step_375 : decode cL_step 375 = .ok (.ireturn, 1) := by decide +kernel
theorem dL_step_376 : decode cL_step 376 = .ok (.aload_n 1, 1) := by decide +kernel
theorem dL_step_377 : decode cL_step 377 = .ok (.bipush 16, 2) := by decide +kernel
theorem dL_step_379 : decode cL_step 379 = .ok (.iaload, 1) := by decide +kernel
theorem dL_step_380 : decode cL_step 380 = .ok (.iload 5, 2) := by decide +kernel
theorem dL_step_382 : decode cL_step 382 = .ok (.ishr, 1) := by decide +kernel
theorem dL_step_383 : decode cL_step 383 = .ok (.iconst 1, 1) := by decide +kernel
theorem dL_step_384 : decode cL_step 384 = .ok (.iand, 1) := by decide +kernel
theorem dL_step_385 : decode cL_step 385 = .ok (.iconst 1, 1) := by decide +kernel
theorem dL_step_386 : decode cL_step 386 = .ok (.if_icmp .ne 7, 3) := by decide +kernel
theorem dL_step_389 : decode cL_step 389 = .ok (.iconst 1, 1) := by decide +kernel
theorem dL_step_390 : decode cL_step 390 = .ok (.goto 4, 3) := by decide +kernel
theorem dL_step_393 : decode cL_step 393 = .ok (.iconst 0, 1) := by decide +kernel
theorem dL_step_394 : decode cL_step 394 = .ok (.istore 11, 2) := by decide +kernel
theorem dL_step_396 : decode cL_step 396 = .ok (.aload_n 1, 1) := by decide +kernel
theorem dL_step_397 : decode cL_step 397 = .ok (.bipush 16, 2) := by decide +kernel
theorem dL_step_399 : decode cL_step 399 = .ok (.iload 7, 2) := by decide +kernel
theorem dL_step_401 : decode cL_step 401 = .ok (.ifCond .ne 10, 3) := by decide +kernel
theorem dL_step_404 : decode cL_step 404 = .ok (.aload_n 1, 1) := by decide +kernel
theorem dL_step_405 : decode cL_step 405 = .ok (.bipush 16, 2) := by decide +kernel
theorem dL_step_407 : decode cL_step 407 = .ok (.iaload, 1) := by decide +kernel
theorem dL_step_408 : decode cL_step 408 = .ok (.goto 28, 3) := by decide +kernel
theorem dL_step_411 : decode cL_step 411 = .ok (.aload_n 1, 1) := by decide +kernel
theorem dL_step_412 : decode cL_step 412 = .ok (.bipush 16, 2) := by decide +kernel
theorem dL_step_414 : decode cL_step 414 = .ok (.iaload, 1) := by decide +kernel
theorem dL_step_415 : decode cL_step 415 = .ok (.iconst 1, 1) := by decide +kernel
theorem dL_step_416 : decode cL_step 416 = .ok (.iload 5, 2) := by decide +kernel
theorem dL_step_418 : decode cL_step 418 = .ok (.ishl, 1) := by decide +kernel
theorem dL_step_419 : decode cL_step 419 = .ok (.iconst (-1), 1) := by decide +kernel
theorem dL_step_420 : decode cL_step 420 = .ok (.ixor, 1) := by decide +kernel
theorem dL_step_421 : decode cL_step 421 = .ok (.iand, 1) := by decide +kernel
theorem dL_step_422 : decode cL_step 422 = .ok (.iload 8, 2) := by decide +kernel
theorem dL_step_424 : decode cL_step 424 = .ok (.ifCond .eq 10, 3) := by decide +kernel
theorem dL_step_427 : decode cL_step 427 = .ok (.iconst 1, 1) := by decide +kernel
theorem dL_step_428 : decode cL_step 428 = .ok (.iload 5, 2) := by decide +kernel
theorem dL_step_430 : decode cL_step 430 = .ok (.ishl, 1) := by decide +kernel
theorem dL_step_431 : decode cL_step 431 = .ok (.goto 4, 3) := by decide +kernel
theorem dL_step_434 : decode cL_step 434 = .ok (.iconst 0, 1) := by decide +kernel
theorem dL_step_435 : decode cL_step 435 = .ok (.ior, 1) := by decide +kernel
theorem dL_step_436 : decode cL_step 436 = .ok (.iastore, 1) := by decide +kernel
theorem dL_step_437 : decode cL_step 437 = .ok (.iload 7, 2) := by decide +kernel
theorem dL_step_439 : decode cL_step 439 = .ok (.ifCond .eq 26, 3) := by decide +kernel
theorem dL_step_442 : decode cL_step 442 = .ok (.aload_n 0, 1) := by decide +kernel
theorem dL_step_443 : decode cL_step 443 = .ok (.iload 5, 2) := by decide +kernel
theorem dL_step_445 : decode cL_step 445 = .ok (.iload 8, 2) := by decide +kernel
theorem dL_step_447 : decode cL_step 447 = .ok (.invokevirtual 42, 3) := by decide +kernel
theorem dL_step_450 : decode cL_step 450 = .ok (.iload 11, 2) := by decide +kernel
theorem dL_step_452 : decode cL_step 452 = .ok (.iload 8, 2) := by decide +kernel
theorem dL_step_454 : decode cL_step 454 = .ok (.if_icmp .eq 7, 3) := by decide +kernel
theorem dL_step_457 : decode cL_step 457 = .ok (.iconst 1, 1) := by decide +kernel
theorem dL_step_458 : decode cL_step 458 = .ok (.goto 4, 3) := by decide +kernel
theorem dL_step_461 : decode cL_step 461 = .ok (.iconst 0, 1) := by decide +kernel
theorem dL_step_462 : decode cL_step 462 = .ok (.if_icmp .ne 7, 3) := by decide +kernel
theorem dL_step_465 : decode cL_step 465 = .ok (.iconst 1, 1) := by decide +kernel
theorem dL_step_466 : decode cL_step 466 = .ok (.goto 4, 3) := by decide +kernel
theorem dL_step_469 : decode cL_step 469 = .ok (.iconst 0, 1) := by decide +kernel
theorem dL_step_470 : decode cL_step 470 = .ok (.ireturn, 1) := by decide +kernel
theorem dL_step_471 : decode cL_step 471 = .ok (.aload_n 1, 1) := by decide +kernel
theorem dL_step_472 : decode cL_step 472 = .ok (.bipush 15, 2) := by decide +kernel
theorem dL_step_474 : decode cL_step 474 = .ok (.iaload, 1) := by decide +kernel
theorem dL_step_475 : decode cL_step 475 = .ok (.iload 5, 2) := by decide +kernel
theorem dL_step_477 : decode cL_step 477 = .ok (.ishr, 1) := by decide +kernel
theorem dL_step_478 : decode cL_step 478 = .ok (.iconst 1, 1) := by decide +kernel
theorem dL_step_479 : decode cL_step 479 = .ok (.iand, 1) := by decide +kernel
theorem dL_step_480 : decode cL_step 480 = .ok (.iconst 1, 1) := by decide +kernel
theorem dL_step_481 : decode cL_step 481 = .ok (.if_icmp .ne 7, 3) := by decide +kernel
theorem dL_step_484 : decode cL_step 484 = .ok (.iconst 1, 1) := by decide +kernel
theorem dL_step_485 : decode cL_step 485 = .ok (.goto 4, 3) := by decide +kernel
theorem dL_step_488 : decode cL_step 488 = .ok (.iconst 0, 1) := by decide +kernel
theorem dL_step_489 : decode cL_step 489 = .ok (.istore 12, 2) := by decide +kernel
theorem dL_step_491 : decode cL_step 491 = .ok (.aload_n 1, 1) := by decide +kernel
theorem dL_step_492 : decode cL_step 492 = .ok (.bipush 15, 2) := by decide +kernel
theorem dL_step_494 : decode cL_step 494 = .ok (.iload 7, 2) := by decide +kernel
theorem dL_step_496 : decode cL_step 496 = .ok (.ifCond .ne 10, 3) := by decide +kernel
theorem dL_step_499 : decode cL_step 499 = .ok (.aload_n 1, 1) := by decide +kernel
theorem dL_step_500 : decode cL_step 500 = .ok (.bipush 15, 2) := by decide +kernel
theorem dL_step_502 : decode cL_step 502 = .ok (.iaload, 1) := by decide +kernel
theorem dL_step_503 : decode cL_step 503 = .ok (.goto 28, 3) := by decide +kernel
theorem dL_step_506 : decode cL_step 506 = .ok (.aload_n 1, 1) := by decide +kernel
theorem dL_step_507 : decode cL_step 507 = .ok (.bipush 15, 2) := by decide +kernel
theorem dL_step_509 : decode cL_step 509 = .ok (.iaload, 1) := by decide +kernel
theorem dL_step_510 : decode cL_step 510 = .ok (.iconst 1, 1) := by decide +kernel
theorem dL_step_511 : decode cL_step 511 = .ok (.iload 5, 2) := by decide +kernel
theorem dL_step_513 : decode cL_step 513 = .ok (.ishl, 1) := by decide +kernel
theorem dL_step_514 : decode cL_step 514 = .ok (.iconst (-1), 1) := by decide +kernel
theorem dL_step_515 : decode cL_step 515 = .ok (.ixor, 1) := by decide +kernel
theorem dL_step_516 : decode cL_step 516 = .ok (.iand, 1) := by decide +kernel
theorem dL_step_517 : decode cL_step 517 = .ok (.iload 8, 2) := by decide +kernel
theorem dL_step_519 : decode cL_step 519 = .ok (.ifCond .eq 10, 3) := by decide +kernel
theorem dL_step_522 : decode cL_step 522 = .ok (.iconst 1, 1) := by decide +kernel
theorem dL_step_523 : decode cL_step 523 = .ok (.iload 5, 2) := by decide +kernel
theorem dL_step_525 : decode cL_step 525 = .ok (.ishl, 1) := by decide +kernel
theorem dL_step_526 : decode cL_step 526 = .ok (.goto 4, 3) := by decide +kernel
theorem dL_step_529 : decode cL_step 529 = .ok (.iconst 0, 1) := by decide +kernel
theorem dL_step_530 : decode cL_step 530 = .ok (.ior, 1) := by decide +kernel
theorem dL_step_531 : decode cL_step 531 = .ok (.iastore, 1) := by decide +kernel
theorem dL_step_532 : decode cL_step 532 = .ok (.iload 7, 2) := by decide +kernel
theorem dL_step_534 : decode cL_step 534 = .ok (.ifCond .eq 36, 3) := by decide +kernel
theorem dL_step_537 : decode cL_step 537 = .ok (.aload_n 0, 1) := by decide +kernel
theorem dL_step_538 : decode cL_step 538 = .ok (.iload 5, 2) := by decide +kernel
theorem dL_step_540 : decode cL_step 540 = .ok (.iload 8, 2) := by decide +kernel
theorem dL_step_542 : decode cL_step 542 = .ok (.invokevirtual 46, 3) := by decide +kernel
theorem dL_step_545 : decode cL_step 545 = .ok (.iload 12, 2) := by decide +kernel
theorem dL_step_547 : decode cL_step 547 = .ok (.iload 8, 2) := by decide +kernel
theorem dL_step_549 : decode cL_step 549 = .ok (.if_icmp .eq 7, 3) := by decide +kernel
theorem dL_step_552 : decode cL_step 552 = .ok (.iconst 1, 1) := by decide +kernel
theorem dL_step_553 : decode cL_step 553 = .ok (.goto 4, 3) := by decide +kernel
theorem dL_step_556 : decode cL_step 556 = .ok (.iconst 0, 1) := by decide +kernel
theorem dL_step_557 : decode cL_step 557 = .ok (.if_icmp .ne 17, 3) := by decide +kernel
theorem dL_step_560 : decode cL_step 560 = .ok (.aload_n 0, 1) := by decide +kernel
theorem dL_step_561 : decode cL_step 561 = .ok (.aload_n 1, 1) := by decide +kernel
theorem dL_step_562 : decode cL_step 562 = .ok (.iload 5, 2) := by decide +kernel
theorem dL_step_564 : decode cL_step 564 = .ok (.invokestatic 49, 3) := by decide +kernel
theorem dL_step_567 : decode cL_step 567 = .ok (.ifCond .eq 7, 3) := by decide +kernel
theorem dL_step_570 : decode cL_step 570 = .ok (.iconst 1, 1) := by decide +kernel
theorem dL_step_571 : decode cL_step 571 = .ok (.goto 4, 3) := by decide +kernel
theorem dL_step_574 : decode cL_step 574 = .ok (.iconst 0, 1) := by decide +kernel
theorem dL_step_575 : decode cL_step 575 = .ok (.ireturn, 1) := by decide +kernel
theorem dL_step_576 : decode cL_step 576 = .ok (.aload_n 1, 1) := by decide +kernel
theorem dL_step_577 : decode cL_step 577 = .ok (.bipush 17, 2) := by decide +kernel
theorem dL_step_579 : decode cL_step 579 = .ok (.iload 5, 2) := by decide +kernel
theorem dL_step_581 : decode cL_step 581 = .ok (.iadd, 1) := by decide +kernel
theorem dL_step_582 : decode cL_step 582 = .ok (.iaload, 1) := by decide +kernel
theorem dL_step_583 : decode cL_step 583 = .ok (.iload 6, 2) := by decide +kernel
theorem dL_step_585 : decode cL_step 585 = .ok (.ishr, 1) := by decide +kernel
theorem dL_step_586 : decode cL_step 586 = .ok (.iconst 1, 1) := by decide +kernel
theorem dL_step_587 : decode cL_step 587 = .ok (.iand, 1) := by decide +kernel
theorem dL_step_588 : decode cL_step 588 = .ok (.iconst 1, 1) := by decide +kernel
theorem dL_step_589 : decode cL_step 589 = .ok (.if_icmp .ne 7, 3) := by decide +kernel
theorem dL_step_592 : decode cL_step 592 = .ok (.iconst 1, 1) := by decide +kernel
theorem dL_step_593 : decode cL_step 593 = .ok (.goto 4, 3) := by decide +kernel
theorem dL_step_596 : decode cL_step 596 = .ok (.iconst 0, 1) := by decide +kernel
theorem dL_step_597 : decode cL_step 597 = .ok (.istore 13, 2) := by decide +kernel
theorem dL_step_599 : decode cL_step 599 = .ok (.aload_n 1, 1) := by decide +kernel
theorem dL_step_600 : decode cL_step 600 = .ok (.bipush 17, 2) := by decide +kernel
theorem dL_step_602 : decode cL_step 602 = .ok (.iload 5, 2) := by decide +kernel
theorem dL_step_604 : decode cL_step 604 = .ok (.iadd, 1) := by decide +kernel
theorem dL_step_605 : decode cL_step 605 = .ok (.iload 7, 2) := by decide +kernel
theorem dL_step_607 : decode cL_step 607 = .ok (.ifCond .ne 13, 3) := by decide +kernel
theorem dL_step_610 : decode cL_step 610 = .ok (.aload_n 1, 1) := by decide +kernel
theorem dL_step_611 : decode cL_step 611 = .ok (.bipush 17, 2) := by decide +kernel
theorem dL_step_613 : decode cL_step 613 = .ok (.iload 5, 2) := by decide +kernel
theorem dL_step_615 : decode cL_step 615 = .ok (.iadd, 1) := by decide +kernel
theorem dL_step_616 : decode cL_step 616 = .ok (.iaload, 1) := by decide +kernel
theorem dL_step_617 : decode cL_step 617 = .ok (.goto 31, 3) := by decide +kernel
theorem dL_step_620 : decode cL_step 620 = .ok (.aload_n 1, 1) := by decide +kernel
theorem dL_step_621 : decode cL_step 621 = .ok (.bipush 17, 2) := by decide +kernel
theorem dL_step_623 : decode cL_step 623 = .ok (.iload 5, 2) := by decide +kernel
theorem dL_step_625 : decode cL_step 625 = .ok (.iadd, 1) := by decide +kernel
theorem dL_step_626 : decode cL_step 626 = .ok (.iaload, 1) := by decide +kernel
theorem dL_step_627 : decode cL_step 627 = .ok (.iconst 1, 1) := by decide +kernel
theorem dL_step_628 : decode cL_step 628 = .ok (.iload 6, 2) := by decide +kernel
theorem dL_step_630 : decode cL_step 630 = .ok (.ishl, 1) := by decide +kernel
theorem dL_step_631 : decode cL_step 631 = .ok (.iconst (-1), 1) := by decide +kernel
theorem dL_step_632 : decode cL_step 632 = .ok (.ixor, 1) := by decide +kernel
theorem dL_step_633 : decode cL_step 633 = .ok (.iand, 1) := by decide +kernel
theorem dL_step_634 : decode cL_step 634 = .ok (.iload 8, 2) := by decide +kernel
theorem dL_step_636 : decode cL_step 636 = .ok (.ifCond .eq 10, 3) := by decide +kernel
theorem dL_step_639 : decode cL_step 639 = .ok (.iconst 1, 1) := by decide +kernel
theorem dL_step_640 : decode cL_step 640 = .ok (.iload 6, 2) := by decide +kernel
theorem dL_step_642 : decode cL_step 642 = .ok (.ishl, 1) := by decide +kernel
theorem dL_step_643 : decode cL_step 643 = .ok (.goto 4, 3) := by decide +kernel
theorem dL_step_646 : decode cL_step 646 = .ok (.iconst 0, 1) := by decide +kernel
theorem dL_step_647 : decode cL_step 647 = .ok (.ior, 1) := by decide +kernel
theorem dL_step_648 : decode cL_step 648 = .ok (.iastore, 1) := by decide +kernel
theorem dL_step_649 : decode cL_step 649 = .ok (.iload 7, 2) := by decide +kernel
theorem dL_step_651 : decode cL_step 651 = .ok (.ifCond .eq 28, 3) := by decide +kernel
theorem dL_step_654 : decode cL_step 654 = .ok (.aload_n 0, 1) := by decide +kernel
theorem dL_step_655 : decode cL_step 655 = .ok (.iload 5, 2) := by decide +kernel
theorem dL_step_657 : decode cL_step 657 = .ok (.iload 6, 2) := by decide +kernel
theorem dL_step_659 : decode cL_step 659 = .ok (.iload 8, 2) := by decide +kernel
theorem dL_step_661 : decode cL_step 661 = .ok (.invokevirtual 53, 3) := by decide +kernel
theorem dL_step_664 : decode cL_step 664 = .ok (.iload 13, 2) := by decide +kernel
theorem dL_step_666 : decode cL_step 666 = .ok (.iload 8, 2) := by decide +kernel
theorem dL_step_668 : decode cL_step 668 = .ok (.if_icmp .eq 7, 3) := by decide +kernel
theorem dL_step_671 : decode cL_step 671 = .ok (.iconst 1, 1) := by decide +kernel
theorem dL_step_672 : decode cL_step 672 = .ok (.goto 4, 3) := by decide +kernel
theorem dL_step_675 : decode cL_step 675 = .ok (.iconst 0, 1) := by decide +kernel
theorem dL_step_676 : decode cL_step 676 = .ok (.if_icmp .ne 7, 3) := by decide +kernel
theorem dL_step_679 : decode cL_step 679 = .ok (.iconst 1, 1) := by decide +kernel
theorem dL_step_680 : decode cL_step 680 = .ok (.goto 4, 3) := by decide +kernel
theorem dL_step_683 : decode cL_step 683 = .ok (.iconst 0, 1) := by decide +kernel
theorem dL_step_684 : decode cL_step 684 = .ok (.ireturn, 1) := by decide +kernel
theorem dL_step_685 : decode cL_step 685 = .ok (.aload_n 0, 1) := by decide +kernel
theorem dL_step_686 : decode cL_step 686 = .ok (.aload_n 1, 1) := by decide +kernel
theorem dL_step_687 : decode cL_step 687 = .ok (.iload 4, 2) := by decide +kernel
theorem dL_step_689 : decode cL_step 689 = .ok (.iconst 5, 1) := by decide +kernel
theorem dL_step_690 : decode cL_step 690 = .ok (.irem, 1) := by decide +kernel
theorem dL_step_691 : decode cL_step 691 = .ok (.ifCond .ne 11, 3) := by decide +kernel
theorem dL_step_694 : decode cL_step 694 = .ok (.iconst 1, 1) := by decide +kernel
theorem dL_step_695 : decode cL_step 695 = .ok (.iload_n 3, 1) := by decide +kernel
theorem dL_step_696 : decode cL_step 696 = .ok (.iconst 3, 1) := by decide +kernel
theorem dL_step_697 : decode cL_step 697 = .ok (.irem, 1) := by decide +kernel
theorem dL_step_698 : decode cL_step 698 = .ok (.iadd, 1) := by decide +kernel
theorem dL_step_699 : decode cL_step 699 = .ok (.goto 4, 3) := by decide +kernel
theorem dL_step_702 : decode cL_step 702 = .ok (.iconst 1, 1) := by decide +kernel
theorem dL_step_703 : decode cL_step 703 = .ok (.invokestatic 57, 3) := by decide +kernel
theorem dL_step_706 : decode cL_step 706 = .ok (.ireturn, 1) := by decide +kernel
theorem dL_count_0 : decode cL_count 0 = .ok (.iconst 0, 1) := by decide +kernel
theorem dL_count_1 : decode cL_count 1 = .ok (.istore_n 1, 1) := by decide +kernel
theorem dL_count_2 : decode cL_count 2 = .ok (.iconst 0, 1) := by decide +kernel
theorem dL_count_3 : decode cL_count 3 = .ok (.istore_n 2, 1) := by decide +kernel
theorem dL_count_4 : decode cL_count 4 = .ok (.iload_n 2, 1) := by decide +kernel
theorem dL_count_5 : decode cL_count 5 = .ok (.bipush 12, 2) := by decide +kernel
theorem dL_count_7 : decode cL_count 7 = .ok (.if_icmp .ge 17, 3) := by decide +kernel
theorem dL_count_10 : decode cL_count 10 = .ok (.iload_n 1, 1) := by decide +kernel
theorem dL_count_11 : decode cL_count 11 = .ok (.iload_n 0, 1) := by decide +kernel
theorem dL_count_12 : decode cL_count 12 = .ok (.iload_n 2, 1) := by decide +kernel
theorem dL_count_13 : decode cL_count 13 = .ok (.ishr, 1) := by decide +kernel
theorem dL_count_14 : decode cL_count 14 = .ok (.iconst 1, 1) := by decide +kernel
theorem dL_count_15 : decode cL_count 15 = .ok (.iand, 1) := by decide +kernel
theorem dL_count_16 : decode cL_count 16 = .ok (.iadd, 1) := by decide +kernel
theorem dL_count_17 : decode cL_count 17 = .ok (.istore_n 1, 1) := by decide +kernel
theorem dL_count_18 : decode cL_count 18 = .ok (.iinc 2 1, 3) := by decide +kernel
theorem dL_count_21 : decode cL_count 21 = .ok (.goto (-17), 3) := by decide +kernel
theorem dL_count_24 : decode cL_count 24 = .ok (.iload_n 1, 1) := by decide +kernel
theorem dL_count_25 : decode cL_count 25 = .ok (.ireturn, 1) := by decide +kernel
theorem dL_areShown_0 : decode cL_areShown 0 = .ok (.aload_n 0, 1) := by decide +kernel
theorem dL_areShown_1 : decode cL_areShown 1 = .ok (.iload_n 2, 1) := by decide +kernel
theorem dL_areShown_2 : decode cL_areShown 2 = .ok (.iload_n 2, 1) := by decide +kernel
theorem dL_areShown_3 : decode cL_areShown 3 = .ok (.invokevirtual 60, 3) := by decide +kernel
theorem dL_areShown_6 : decode cL_areShown 6 = .ok (.ifCond .ne 7, 3) := by decide +kernel
theorem dL_areShown_9 : decode cL_areShown 9 = .ok (.iconst 1, 1) := by decide +kernel
theorem dL_areShown_10 : decode cL_areShown 10 = .ok (.goto 4, 3) := by decide +kernel
theorem dL_areShown_13 : decode cL_areShown 13 = .ok (.iconst 0, 1) := by decide +kernel
theorem dL_areShown_14 : decode cL_areShown 14 = .ok (.istore_n 3, 1) := by decide +kernel
theorem dL_areShown_15 : decode cL_areShown 15 = .ok (.iconst 0, 1) := by decide +kernel
theorem dL_areShown_16 : decode cL_areShown 16 = .ok (.istore 4, 2) := by decide +kernel
theorem dL_areShown_18 : decode cL_areShown 18 = .ok (.iload 4, 2) := by decide +kernel
theorem dL_areShown_20 : decode cL_areShown 20 = .ok (.aload_n 1, 1) := by decide +kernel
theorem dL_areShown_21 : decode cL_areShown 21 = .ok (.iconst 0, 1) := by decide +kernel
theorem dL_areShown_22 : decode cL_areShown 22 = .ok (.iaload, 1) := by decide +kernel
theorem dL_areShown_23 : decode cL_areShown 23 = .ok (.if_icmp .ge 153, 3) := by decide +kernel
theorem dL_areShown_26 : decode cL_areShown 26 = .ok (.iload_n 3, 1) := by decide +kernel
theorem dL_areShown_27 : decode cL_areShown 27 = .ok (.ifCond .eq 149, 3) := by decide +kernel
theorem dL_areShown_30 : decode cL_areShown 30 = .ok (.iload 4, 2) := by decide +kernel
theorem dL_areShown_32 : decode cL_areShown 32 = .ok (.iload_n 2, 1) := by decide +kernel
theorem dL_areShown_33 : decode cL_areShown 33 = .ok (.if_icmp .eq 19, 3) := by decide +kernel
theorem dL_areShown_36 : decode cL_areShown 36 = .ok (.aload_n 1, 1) := by decide +kernel
theorem dL_areShown_37 : decode cL_areShown 37 = .ok (.iconst 1, 1) := by decide +kernel
theorem dL_areShown_38 : decode cL_areShown 38 = .ok (.iaload, 1) := by decide +kernel
theorem dL_areShown_39 : decode cL_areShown 39 = .ok (.iload 4, 2) := by decide +kernel
theorem dL_areShown_41 : decode cL_areShown 41 = .ok (.ishr, 1) := by decide +kernel
theorem dL_areShown_42 : decode cL_areShown 42 = .ok (.iconst 1, 1) := by decide +kernel
theorem dL_areShown_43 : decode cL_areShown 43 = .ok (.iand, 1) := by decide +kernel
theorem dL_areShown_44 : decode cL_areShown 44 = .ok (.iconst 1, 1) := by decide +kernel
theorem dL_areShown_45 : decode cL_areShown 45 = .ok (.if_icmp .ne 7, 3) := by decide +kernel
theorem dL_areShown_48 : decode cL_areShown 48 = .ok (.iconst 1, 1) := by decide +kernel
theorem dL_areShown_49 : decode cL_areShown 49 = .ok (.goto 4, 3) := by decide +kernel
theorem dL_areShown_52 : decode cL_areShown 52 = .ok (.iconst 0, 1) := by decide +kernel
theorem dL_areShown_53 : decode cL_areShown 53 = .ok (.istore 5, 2) := by decide +kernel
theorem dL_areShown_55 : decode cL_areShown 55 = .ok (.iload 5, 2) := by decide +kernel
theorem dL_areShown_57 : decode cL_areShown 57 = .ok (.ifCond .eq 13, 3) := by decide +kernel
theorem dL_areShown_60 : decode cL_areShown 60 = .ok (.aload_n 0, 1) := by decide +kernel
theorem dL_areShown_61 : decode cL_areShown 61 = .ok (.iload_n 2, 1) := by decide +kernel
theorem dL_areShown_62 : decode cL_areShown 62 = .ok (.iload 4, 2) := by decide +kernel
theorem dL_areShown_64 : decode cL_areShown 64 = .ok (.invokevirtual 60, 3) := by decide +kernel
theorem dL_areShown_67 : decode cL_areShown 67 = .ok (.goto 4, 3) := by decide +kernel
theorem dL_areShown_70 : decode cL_areShown 70 = .ok (.iconst 0, 1) := by decide +kernel
theorem dL_areShown_71 : decode cL_areShown 71 = .ok (.istore 6, 2) := by decide +kernel
theorem dL_areShown_73 : decode cL_areShown 73 = .ok (.aload_n 1, 1) := by decide +kernel
theorem dL_areShown_74 : decode cL_areShown 74 = .ok (.bipush 23, 2) := by decide +kernel
theorem dL_areShown_76 : decode cL_areShown 76 = .ok (.iload_n 2, 1) := by decide +kernel
theorem dL_areShown_77 : decode cL_areShown 77 = .ok (.iadd, 1) := by decide +kernel
theorem dL_areShown_78 : decode cL_areShown 78 = .ok (.iaload, 1) := by decide +kernel
theorem dL_areShown_79 : decode cL_areShown 79 = .ok (.aload_n 1, 1) := by decide +kernel
theorem dL_areShown_80 : decode cL_areShown 80 = .ok (.bipush 23, 2) := by decide +kernel
theorem dL_areShown_82 : decode cL_areShown 82 = .ok (.iload 4, 2) := by decide +kernel
theorem dL_areShown_84 : decode cL_areShown 84 = .ok (.iadd, 1) := by decide +kernel
theorem dL_areShown_85 : decode cL_areShown 85 = .ok (.iaload, 1) := by decide +kernel
theorem dL_areShown_86 : decode cL_areShown 86 = .ok (.iconst (-1), 1) := by decide +kernel
theorem dL_areShown_87 : decode cL_areShown 87 = .ok (.ixor, 1) := by decide +kernel
theorem dL_areShown_88 : decode cL_areShown 88 = .ok (.iand, 1) := by decide +kernel
theorem dL_areShown_89 : decode cL_areShown 89 = .ok (.istore 7, 2) := by decide +kernel
theorem dL_areShown_91 : decode cL_areShown 91 = .ok (.aload_n 1, 1) := by decide +kernel
theorem dL_areShown_92 : decode cL_areShown 92 = .ok (.bipush 15, 2) := by decide +kernel
theorem dL_areShown_94 : decode cL_areShown 94 = .ok (.iaload, 1) := by decide +kernel
theorem dL_areShown_95 : decode cL_areShown 95 = .ok (.iload_n 2, 1) := by decide +kernel
theorem dL_areShown_96 : decode cL_areShown 96 = .ok (.ishr, 1) := by decide +kernel
theorem dL_areShown_97 : decode cL_areShown 97 = .ok (.iconst 1, 1) := by decide +kernel
theorem dL_areShown_98 : decode cL_areShown 98 = .ok (.iand, 1) := by decide +kernel
theorem dL_areShown_99 : decode cL_areShown 99 = .ok (.iconst 1, 1) := by decide +kernel
theorem dL_areShown_100 : decode cL_areShown 100 = .ok (.if_icmp .ne 7, 3) := by decide +kernel
theorem dL_areShown_103 : decode cL_areShown 103 = .ok (.iconst 1, 1) := by decide +kernel
theorem dL_areShown_104 : decode cL_areShown 104 = .ok (.goto 4, 3) := by decide +kernel
theorem dL_areShown_107 : decode cL_areShown 107 = .ok (.iconst 0, 1) := by decide +kernel
theorem dL_areShown_108 : decode cL_areShown 108 = .ok (.istore 8, 2) := by decide +kernel
theorem dL_areShown_110 : decode cL_areShown 110 = .ok (.iload 5, 2) := by decide +kernel
theorem dL_areShown_112 : decode cL_areShown 112 = .ok (.ifCond .eq 52, 3) := by decide +kernel
theorem dL_areShown_115 : decode cL_areShown 115 = .ok (.iload 8, 2) := by decide +kernel
theorem dL_areShown_117 : decode cL_areShown 117 = .ok (.ifCond .eq 36, 3) := by decide +kernel
theorem dL_areShown_120 : decode cL_areShown 120 = .ok (.iload 6, 2) := by decide +kernel
theorem dL_areShown_122 : decode cL_areShown 122 = .ok (.iload 7, 2) := by decide +kernel
theorem dL_areShown_124 : decode cL_areShown 124 = .ok (.iconst (-1), 1) := by decide +kernel
theorem dL_areShown_125 : decode cL_areShown 125 = .ok (.ixor, 1) := by decide +kernel
