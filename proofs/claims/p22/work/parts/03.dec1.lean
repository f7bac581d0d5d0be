theorem dX4_known_2 : decode cX4_known 2 = .ok (.invokevirtual 143, 3) := by decide +kernel
theorem dX4_known_5 : decode cX4_known 5 = .ok (.astore_n 2, 1) := by decide +kernel
theorem dX4_known_6 : decode cX4_known 6 = .ok (.aload_n 2, 1) := by decide +kernel
theorem dX4_known_7 : decode cX4_known 7 = .ok (.ifnonnull 13, 3) := by decide +kernel
theorem dX4_known_10 : decode cX4_known 10 = .ok (.new 146, 3) := by decide +kernel
theorem dX4_known_13 : decode cX4_known 13 = .ok (.dup, 1) := by decide +kernel
theorem dX4_known_14 : decode cX4_known 14 = .ok (.ldc 148, 2) := by decide +kernel
theorem dX4_known_16 : decode cX4_known 16 = .ok (.invokespecial 150, 3) := by decide +kernel
theorem dX4_known_19 : decode cX4_known 19 = .ok (.athrow, 1) := by decide +kernel
theorem dX4_known_20 : decode cX4_known 20 = .ok (.aload_n 2, 1) := by decide +kernel
theorem dX4_known_21 : decode cX4_known 21 = .ok (.areturn, 1) := by decide +kernel
theorem dX4_find_0 : decode cX4_find 0 = .ok (.iload_n 1, 1) := by decide +kernel
theorem dX4_find_1 : decode cX4_find 1 = .ok (.ifCond .lt 12, 3) := by decide +kernel
theorem dX4_find_4 : decode cX4_find 4 = .ok (.iload_n 1, 1) := by decide +kernel
theorem dX4_find_5 : decode cX4_find 5 = .ok (.aload_n 0, 1) := by decide +kernel
theorem dX4_find_6 : decode cX4_find 6 = .ok (.getfield 11, 3) := by decide +kernel
theorem dX4_find_9 : decode cX4_find 9 = .ok (.arraylength, 1) := by decide +kernel
theorem dX4_find_10 : decode cX4_find 10 = .ok (.if_icmp .lt 7, 3) := by decide +kernel
theorem dX4_find_13 : decode cX4_find 13 = .ok (.aconst_null, 1) := by decide +kernel
theorem dX4_find_14 : decode cX4_find 14 = .ok (.goto 9, 3) := by decide +kernel
theorem dX4_find_17 : decode cX4_find 17 = .ok (.aload_n 0, 1) := by decide +kernel
theorem dX4_find_18 : decode cX4_find 18 = .ok (.getfield 11, 3) := by decide +kernel
theorem dX4_find_21 : decode cX4_find 21 = .ok (.iload_n 1, 1) := by decide +kernel
theorem dX4_find_22 : decode cX4_find 22 = .ok (.aaload, 1) := by decide +kernel
theorem dX4_find_23 : decode cX4_find 23 = .ok (.areturn, 1) := by decide +kernel
theorem dX4_checkPiece_0 : decode cX4_checkPiece 0 = .ok (.iload_n 0, 1) := by decide +kernel
theorem dX4_checkPiece_1 : decode cX4_checkPiece 1 = .ok (.ifCond .lt 9, 3) := by decide +kernel
theorem dX4_checkPiece_4 : decode cX4_checkPiece 4 = .ok (.iload_n 0, 1) := by decide +kernel
theorem dX4_checkPiece_5 : decode cX4_checkPiece 5 = .ok (.bipush 12, 2) := by decide +kernel
theorem dX4_checkPiece_7 : decode cX4_checkPiece 7 = .ok (.if_icmp .lt 13, 3) := by decide +kernel
theorem dX4_checkPiece_10 : decode cX4_checkPiece 10 = .ok (.new 146, 3) := by decide +kernel
theorem dX4_checkPiece_13 : decode cX4_checkPiece 13 = .ok (.dup, 1) := by decide +kernel
theorem dX4_checkPiece_14 : decode cX4_checkPiece 14 = .ok (.ldc 151, 2) := by decide +kernel
theorem dX4_checkPiece_16 : decode cX4_checkPiece 16 = .ok (.invokespecial 150, 3) := by decide +kernel
theorem dX4_checkPiece_19 : decode cX4_checkPiece 19 = .ok (.athrow, 1) := by decide +kernel
theorem dX4_checkPiece_20 : decode cX4_checkPiece 20 = .ok (.return_, 1) := by decide +kernel
theorem dX4_countHolders_0 : decode cX4_countHolders 0 = .ok (.iconst 0, 1) := by decide +kernel
theorem dX4_countHolders_1 : decode cX4_countHolders 1 = .ok (.istore_n 2, 1) := by decide +kernel
theorem dX4_countHolders_2 : decode cX4_countHolders 2 = .ok (.aload_n 0, 1) := by decide +kernel
theorem dX4_countHolders_3 : decode cX4_countHolders 3 = .ok (.getfield 11, 3) := by decide +kernel
theorem dX4_countHolders_6 : decode cX4_countHolders 6 = .ok (.astore_n 3, 1) := by decide +kernel
theorem dX4_countHolders_7 : decode cX4_countHolders 7 = .ok (.aload_n 3, 1) := by decide +kernel
theorem dX4_countHolders_8 : decode cX4_countHolders 8 = .ok (.arraylength, 1) := by decide +kernel
theorem dX4_countHolders_9 : decode cX4_countHolders 9 = .ok (.istore 4, 2) := by decide +kernel
theorem dX4_countHolders_11 : decode cX4_countHolders 11 = .ok (.iconst 0, 1) := by decide +kernel
theorem dX4_countHolders_12 : decode cX4_countHolders 12 = .ok (.istore 5, 2) := by decide +kernel
theorem dX4_countHolders_14 : decode cX4_countHolders 14 = .ok (.iload 5, 2) := by decide +kernel
theorem dX4_countHolders_16 : decode cX4_countHolders 16 = .ok (.iload 4, 2) := by decide +kernel
theorem dX4_countHolders_18 : decode cX4_countHolders 18 = .ok (.if_icmp .ge 39, 3) := by decide +kernel
theorem dX4_countHolders_21 : decode cX4_countHolders 21 = .ok (.aload_n 3, 1) := by decide +kernel
theorem dX4_countHolders_22 : decode cX4_countHolders 22 = .ok (.iload 5, 2) := by decide +kernel
theorem dX4_countHolders_24 : decode cX4_countHolders 24 = .ok (.aaload, 1) := by decide +kernel
theorem dX4_countHolders_25 : decode cX4_countHolders 25 = .ok (.astore 6, 2) := by decide +kernel
theorem dX4_countHolders_27 : decode cX4_countHolders 27 = .ok (.aload 6, 2) := by decide +kernel
theorem dX4_countHolders_29 : decode cX4_countHolders 29 = .ok (.ifnull 22, 3) := by decide +kernel
theorem dX4_countHolders_32 : decode cX4_countHolders 32 = .ok (.aload 6, 2) := by decide +kernel
theorem dX4_countHolders_34 : decode cX4_countHolders 34 = .ok (.getfield 52, 3) := by decide +kernel
theorem dX4_countHolders_37 : decode cX4_countHolders 37 = .ok (.getfield 56, 3) := by decide +kernel
theorem dX4_countHolders_40 : decode cX4_countHolders 40 = .ok (.i2l, 1) := by decide +kernel
theorem dX4_countHolders_41 : decode cX4_countHolders 41 = .ok (.iload_n 1, 1) := by decide +kernel
theorem dX4_countHolders_42 : decode cX4_countHolders 42 = .ok (.invokestatic 86, 3) := by decide +kernel
theorem dX4_countHolders_45 : decode cX4_countHolders 45 = .ok (.ifCond .eq 6, 3) := by decide +kernel
theorem dX4_countHolders_48 : decode cX4_countHolders 48 = .ok (.iinc 2 1, 3) := by decide +kernel
theorem dX4_countHolders_51 : decode cX4_countHolders 51 = .ok (.iinc 5 1, 3) := by decide +kernel
theorem dX4_countHolders_54 : decode cX4_countHolders 54 = .ok (.goto (-40), 3) := by decide +kernel
theorem dX4_countHolders_57 : decode cX4_countHolders 57 = .ok (.iload_n 2, 1) := by decide +kernel
theorem dX4_countHolders_58 : decode cX4_countHolders 58 = .ok (.ireturn, 1) := by decide +kernel
theorem dX4_wantedPieces_0 : decode cX4_wantedPieces 0 = .ok (.iconst 0, 1) := by decide +kernel
theorem dX4_wantedPieces_1 : decode cX4_wantedPieces 1 = .ok (.istore_n 1, 1) := by decide +kernel
theorem dX4_wantedPieces_2 : decode cX4_wantedPieces 2 = .ok (.iconst 0, 1) := by decide +kernel
theorem dX4_wantedPieces_3 : decode cX4_wantedPieces 3 = .ok (.istore_n 2, 1) := by decide +kernel
theorem dX4_wantedPieces_4 : decode cX4_wantedPieces 4 = .ok (.iload_n 2, 1) := by decide +kernel
theorem dX4_wantedPieces_5 : decode cX4_wantedPieces 5 = .ok (.aload_n 0, 1) := by decide +kernel
theorem dX4_wantedPieces_6 : decode cX4_wantedPieces 6 = .ok (.getfield 15, 3) := by decide +kernel
theorem dX4_wantedPieces_9 : decode cX4_wantedPieces 9 = .ok (.arraylength, 1) := by decide +kernel
theorem dX4_wantedPieces_10 : decode cX4_wantedPieces 10 = .ok (.if_icmp .ge 24, 3) := by decide +kernel
theorem dX4_wantedPieces_13 : decode cX4_wantedPieces 13 = .ok (.aload_n 0, 1) := by decide +kernel
theorem dX4_wantedPieces_14 : decode cX4_wantedPieces 14 = .ok (.getfield 15, 3) := by decide +kernel
theorem dX4_wantedPieces_17 : decode cX4_wantedPieces 17 = .ok (.iload_n 2, 1) := by decide +kernel
theorem dX4_wantedPieces_18 : decode cX4_wantedPieces 18 = .ok (.iaload, 1) := by decide +kernel
theorem dX4_wantedPieces_19 : decode cX4_wantedPieces 19 = .ok (.ifCond .le 9, 3) := by decide +kernel
theorem dX4_wantedPieces_22 : decode cX4_wantedPieces 22 = .ok (.iload_n 1, 1) := by decide +kernel
theorem dX4_wantedPieces_23 : decode cX4_wantedPieces 23 = .ok (.iconst 1, 1) := by decide +kernel
theorem dX4_wantedPieces_24 : decode cX4_wantedPieces 24 = .ok (.iload_n 2, 1) := by decide +kernel
theorem dX4_wantedPieces_25 : decode cX4_wantedPieces 25 = .ok (.ishl, 1) := by decide +kernel
theorem dX4_wantedPieces_26 : decode cX4_wantedPieces 26 = .ok (.ior, 1) := by decide +kernel
theorem dX4_wantedPieces_27 : decode cX4_wantedPieces 27 = .ok (.istore_n 1, 1) := by decide +kernel
theorem dX4_wantedPieces_28 : decode cX4_wantedPieces 28 = .ok (.iinc 2 1, 3) := by decide +kernel
theorem dX4_wantedPieces_31 : decode cX4_wantedPieces 31 = .ok (.goto (-27), 3) := by decide +kernel
theorem dX4_wantedPieces_34 : decode cX4_wantedPieces 34 = .ok (.iload_n 1, 1) := by decide +kernel
theorem dX4_wantedPieces_35 : decode cX4_wantedPieces 35 = .ok (.ireturn, 1) := by decide +kernel
theorem dX4_findShown_0 : decode cX4_findShown 0 = .ok (.aload_n 1, 1) := by decide +kernel
theorem dX4_findShown_1 : decode cX4_findShown 1 = .ok (.aload_n 2, 1) := by decide +kernel
theorem dX4_findShown_2 : decode cX4_findShown 2 = .ok (.if_acmp .ne 5, 3) := by decide +kernel
theorem dX4_findShown_5 : decode cX4_findShown 5 = .ok (.iconst 0, 1) := by decide +kernel
theorem dX4_findShown_6 : decode cX4_findShown 6 = .ok (.ireturn, 1) := by decide +kernel
theorem dX4_findShown_7 : decode cX4_findShown 7 = .ok (.aload_n 1, 1) := by decide +kernel
theorem dX4_findShown_8 : decode cX4_findShown 8 = .ok (.getfield 80, 3) := by decide +kernel
theorem dX4_findShown_11 : decode cX4_findShown 11 = .ok (.ifCond .ne 11, 3) := by decide +kernel
theorem dX4_findShown_14 : decode cX4_findShown 14 = .ok (.aload_n 1, 1) := by decide +kernel
theorem dX4_findShown_15 : decode cX4_findShown 15 = .ok (.getfield 52, 3) := by decide +kernel
theorem dX4_findShown_18 : decode cX4_findShown 18 = .ok (.getfield 56, 3) := by decide +kernel
theorem dX4_findShown_21 : decode cX4_findShown 21 = .ok (.ireturn, 1) := by decide +kernel
theorem dX4_findShown_22 : decode cX4_findShown 22 = .ok (.aload_n 0, 1) := by decide +kernel
theorem dX4_findShown_23 : decode cX4_findShown 23 = .ok (.aload_n 1, 1) := by decide +kernel
theorem dX4_findShown_24 : decode cX4_findShown 24 = .ok (.getfield 52, 3) := by decide +kernel
theorem dX4_findShown_27 : decode cX4_findShown 27 = .ok (.getfield 56, 3) := by decide +kernel
theorem dX4_findShown_30 : decode cX4_findShown 30 = .ok (.aload_n 2, 1) := by decide +kernel
theorem dX4_findShown_31 : decode cX4_findShown 31 = .ok (.getfield 52, 3) := by decide +kernel
theorem dX4_findShown_34 : decode cX4_findShown 34 = .ok (.getfield 56, 3) := by decide +kernel
theorem dX4_findShown_37 : decode cX4_findShown 37 = .ok (.iconst (-1), 1) := by decide +kernel
theorem dX4_findShown_38 : decode cX4_findShown 38 = .ok (.ixor, 1) := by decide +kernel
theorem dX4_findShown_39 : decode cX4_findShown 39 = .ok (.iand, 1) := by decide +kernel
theorem dX4_findShown_40 : decode cX4_findShown 40 = .ok (.aload_n 2, 1) := by decide +kernel
theorem dX4_findShown_41 : decode cX4_findShown 41 = .ok (.getfield 49, 3) := by decide +kernel
theorem dX4_findShown_44 : decode cX4_findShown 44 = .ok (.invokevirtual 153, 3) := by decide +kernel
theorem dX4_findShown_47 : decode cX4_findShown 47 = .ok (.istore_n 3, 1) := by decide +kernel
theorem dX4_findShown_48 : decode cX4_findShown 48 = .ok (.iload_n 3, 1) := by decide +kernel
theorem dX4_findShown_49 : decode cX4_findShown 49 = .ok (.iconst (-1), 1) := by decide +kernel
theorem dX4_findShown_50 : decode cX4_findShown 50 = .ok (.if_icmp .ne 7, 3) := by decide +kernel
theorem dX4_findShown_53 : decode cX4_findShown 53 = .ok (.iconst 0, 1) := by decide +kernel
theorem dX4_findShown_54 : decode cX4_findShown 54 = .ok (.goto 6, 3) := by decide +kernel
theorem dX4_findShown_57 : decode cX4_findShown 57 = .ok (.iconst 1, 1) := by decide +kernel
theorem dX4_findShown_58 : decode cX4_findShown 58 = .ok (.iload_n 3, 1) := by decide +kernel
theorem dX4_findShown_59 : decode cX4_findShown 59 = .ok (.ishl, 1) := by decide +kernel
theorem dX4_findShown_60 : decode cX4_findShown 60 = .ok (.ireturn, 1) := by decide +kernel
theorem dX4_findRarest_0 : decode cX4_findRarest 0 = .ok (.iconst (-1), 1) := by decide +kernel
theorem dX4_findRarest_1 : decode cX4_findRarest 1 = .ok (.istore_n 3, 1) := by decide +kernel
theorem dX4_findRarest_2 : decode cX4_findRarest 2 = .ok (.iconst 0, 1) := by decide +kernel
theorem dX4_findRarest_3 : decode cX4_findRarest 3 = .ok (.istore 4, 2) := by decide +kernel
theorem dX4_findRarest_5 : decode cX4_findRarest 5 = .ok (.iconst 0, 1) := by decide +kernel
theorem dX4_findRarest_6 : decode cX4_findRarest 6 = .ok (.istore 5, 2) := by decide +kernel
theorem dX4_findRarest_8 : decode cX4_findRarest 8 = .ok (.iload 5, 2) := by decide +kernel
theorem dX4_findRarest_10 : decode cX4_findRarest 10 = .ok (.bipush 12, 2) := by decide +kernel
theorem dX4_findRarest_12 : decode cX4_findRarest 12 = .ok (.if_icmp .ge 55, 3) := by decide +kernel
theorem dX4_findRarest_15 : decode cX4_findRarest 15 = .ok (.iload_n 2, 1) := by decide +kernel
theorem dX4_findRarest_16 : decode cX4_findRarest 16 = .ok (.iload 5, 2) := by decide +kernel
theorem dX4_findRarest_18 : decode cX4_findRarest 18 = .ok (.iadd, 1) := by decide +kernel
theorem dX4_findRarest_19 : decode cX4_findRarest 19 = .ok (.bipush 12, 2) := by decide +kernel
theorem dX4_findRarest_21 : decode cX4_findRarest 21 = .ok (.irem, 1) := by decide +kernel
theorem dX4_findRarest_22 : decode cX4_findRarest 22 = .ok (.istore 6, 2) := by decide +kernel
theorem dX4_findRarest_24 : decode cX4_findRarest 24 = .ok (.iload_n 1, 1) := by decide +kernel
theorem dX4_findRarest_25 : decode cX4_findRarest 25 = .ok (.i2l, 1) := by decide +kernel
theorem dX4_findRarest_26 : decode cX4_findRarest 26 = .ok (.iload 6, 2) := by decide +kernel
theorem dX4_findRarest_28 : decode cX4_findRarest 28 = .ok (.invokestatic 86, 3) := by decide +kernel
theorem dX4_findRarest_31 : decode cX4_findRarest 31 = .ok (.ifCond .eq 30, 3) := by decide +kernel
theorem dX4_findRarest_34 : decode cX4_findRarest 34 = .ok (.aload_n 0, 1) := by decide +kernel
theorem dX4_findRarest_35 : decode cX4_findRarest 35 = .ok (.iload 6, 2) := by decide +kernel
theorem dX4_findRarest_37 : decode cX4_findRarest 37 = .ok (.invokevirtual 120, 3) := by decide +kernel
theorem dX4_findRarest_40 : decode cX4_findRarest 40 = .ok (.istore 7, 2) := by decide +kernel
theorem dX4_findRarest_42 : decode cX4_findRarest 42 = .ok (.iload_n 3, 1) := by decide +kernel
theorem dX4_findRarest_43 : decode cX4_findRarest 43 = .ok (.iconst (-1), 1) := by decide +kernel
theorem dX4_findRarest_44 : decode cX4_findRarest 44 = .ok (.if_icmp .eq 10, 3) := by decide +kernel
theorem dX4_findRarest_47 : decode cX4_findRarest 47 = .ok (.iload 7, 2) := by decide +kernel
theorem dX4_findRarest_49 : decode cX4_findRarest 49 = .ok (.iload 4, 2) := by decide +kernel
theorem dX4_findRarest_51 : decode cX4_findRarest 51 = .ok (.if_icmp .ge 10, 3) := by decide +kernel
theorem dX4_findRarest_54 : decode cX4_findRarest 54 = .ok (.iload 6, 2) := by decide +kernel
theorem dX4_findRarest_56 : decode cX4_findRarest 56 = .ok (.istore_n 3, 1) := by decide +kernel
theorem dX4_findRarest_57 : decode cX4_findRarest 57 = .ok (.iload 7, 2) := by decide +kernel
theorem dX4_findRarest_59 : decode cX4_findRarest 59 = .ok (.istore 4, 2) := by decide +kernel
theorem dX4_findRarest_61 : decode cX4_findRarest 61 = .ok (.iinc 5 1, 3) := by decide +kernel
theorem dX4_findRarest_64 : decode cX4_findRarest 64 = .ok (.goto (-56), 3) := by decide +kernel
theorem dX4_findRarest_67 : decode cX4_findRarest 67 = .ok (.iload_n 3, 1) := by decide +kernel
theorem dX4_findRarest_68 : decode cX4_findRarest 68 = .ok (.ireturn, 1) := by decide +kernel
theorem dX4_findChosen_0 : decode cX4_findChosen 0 = .ok (.aload_n 0, 1) := by decide +kernel
theorem dX4_findChosen_1 : decode cX4_findChosen 1 = .ok (.aload_n 1, 1) := by decide +kernel
theorem dX4_findChosen_2 : decode cX4_findChosen 2 = .ok (.invokevirtual 157, 3) := by decide +kernel
theorem dX4_findChosen_5 : decode cX4_findChosen 5 = .ok (.istore_n 2, 1) := by decide +kernel
theorem dX4_findChosen_6 : decode cX4_findChosen 6 = .ok (.iconst 0, 1) := by decide +kernel
theorem dX4_findChosen_7 : decode cX4_findChosen 7 = .ok (.istore_n 3, 1) := by decide +kernel
theorem dX4_findChosen_8 : decode cX4_findChosen 8 = .ok (.iconst 0, 1) := by decide +kernel
theorem dX4_findChosen_9 : decode cX4_findChosen 9 = .ok (.istore 4, 2) := by decide +kernel
theorem dX4_findChosen_11 : decode cX4_findChosen 11 = .ok (.iload 4, 2) := by decide +kernel
theorem dX4_findChosen_13 : decode cX4_findChosen 13 = .ok (.iconst 2, 1) := by decide +kernel
theorem dX4_findChosen_14 : decode cX4_findChosen 14 = .ok (.if_icmp .ge 34, 3) := by decide +kernel
theorem dX4_findChosen_17 : decode cX4_findChosen 17 = .ok (.aload_n 1, 1) := by decide +kernel
theorem dX4_findChosen_18 : decode cX4_findChosen 18 = .ok (.iload_n 2, 1) := by decide +kernel
theorem dX4_findChosen_19 : decode cX4_findChosen 19 = .ok (.invokestatic 160, 3) := by decide +kernel
theorem dX4_findChosen_22 : decode cX4_findChosen 22 = .ok (.istore 5, 2) := by decide +kernel
theorem dX4_findChosen_24 : decode cX4_findChosen 24 = .ok (.iload_n 3, 1) := by decide +kernel
theorem dX4_findChosen_25 : decode cX4_findChosen 25 = .ok (.iload 5, 2) := by decide +kernel
theorem dX4_findChosen_27 : decode cX4_findChosen 27 = .ok (.invokestatic 164, 3) := by decide +kernel
theorem dX4_findChosen_30 : decode cX4_findChosen 30 = .ok (.ior, 1) := by decide +kernel
theorem dX4_findChosen_31 : decode cX4_findChosen 31 = .ok (.istore_n 3, 1) := by decide +kernel
theorem dX4_findChosen_32 : decode cX4_findChosen 32 = .ok (.iload_n 2, 1) := by decide +kernel
theorem dX4_findChosen_33 : decode cX4_findChosen 33 = .ok (.iload 5, 2) := by decide +kernel
theorem dX4_findChosen_35 : decode cX4_findChosen 35 = .ok (.invokestatic 164, 3) := by decide +kernel
theorem dX4_findChosen_38 : decode cX4_findChosen 38 = .ok (.iconst (-1), 1) := by decide +kernel
theorem dX4_findChosen_39 : decode cX4_findChosen 39 = .ok (.ixor, 1) := by decide +kernel
theorem dX4_findChosen_40 : decode cX4_findChosen 40 = .ok (.iand, 1) := by decide +kernel
theorem dX4_findChosen_41 : decode cX4_findChosen 41 = .ok (.istore_n 2, 1) := by decide +kernel
theorem dX4_findChosen_42 : decode cX4_findChosen 42 = .ok (.iinc 4 1, 3) := by decide +kernel
theorem dX4_findChosen_45 : decode cX4_findChosen 45 = .ok (.goto (-34), 3) := by decide +kernel
theorem dX4_findChosen_48 : decode cX4_findChosen 48 = .ok (.iload_n 3, 1) := by decide +kernel
theorem dX4_findChosen_49 : decode cX4_findChosen 49 = .ok (.aload_n 0, 1) := by decide +kernel
theorem dX4_findChosen_50 : decode cX4_findChosen 50 = .ok (.iload_n 2, 1) := by decide +kernel
theorem dX4_findChosen_51 : decode cX4_findChosen 51 = .ok (.invokevirtual 167, 3) := by decide +kernel
theorem dX4_findChosen_54 : decode cX4_findChosen 54 = .ok (.invokestatic 164, 3) := by decide +kernel
theorem dX4_findChosen_57 : decode cX4_findChosen 57 = .ok (.ior, 1) := by decide +kernel
theorem dX4_findChosen_58 : decode cX4_findChosen 58 = .ok (.ireturn, 1) := by decide +kernel
theorem dX4_findInterested_0 : decode cX4_findInterested 0 = .ok (.aload_n 0, 1) := by decide +kernel
theorem dX4_findInterested_1 : decode cX4_findInterested 1 = .ok (.invokevirtual 170, 3) := by decide +kernel
theorem dX4_findInterested_4 : decode cX4_findInterested 4 = .ok (.istore_n 2, 1) := by decide +kernel
theorem dX4_findInterested_5 : decode cX4_findInterested 5 = .ok (.iconst 0, 1) := by decide +kernel
theorem dX4_findInterested_6 : decode cX4_findInterested 6 = .ok (.istore_n 3, 1) := by decide +kernel
theorem dX4_findInterested_7 : decode cX4_findInterested 7 = .ok (.aload_n 0, 1) := by decide +kernel
theorem dX4_findInterested_8 : decode cX4_findInterested 8 = .ok (.getfield 11, 3) := by decide +kernel
theorem dX4_findInterested_11 : decode cX4_findInterested 11 = .ok (.astore 4, 2) := by decide +kernel
theorem dX4_findInterested_13 : decode cX4_findInterested 13 = .ok (.aload 4, 2) := by decide +kernel
theorem dX4_findInterested_15 : decode cX4_findInterested 15 = .ok (.arraylength, 1) := by decide +kernel
theorem dX4_findInterested_16 : decode cX4_findInterested 16 = .ok (.istore 5, 2) := by decide +kernel
theorem dX4_findInterested_18 : decode cX4_findInterested 18 = .ok (.iconst 0, 1) := by decide +kernel
theorem dX4_findInterested_19 : decode cX4_findInterested 19 = .ok (.istore 6, 2) := by decide +kernel
theorem dX4_findInterested_21 : decode cX4_findInterested 21 = .ok (.iload 6, 2) := by decide +kernel
theorem dX4_findInterested_23 : decode cX4_findInterested 23 = .ok (.iload 5, 2) := by decide +kernel
theorem dX4_findInterested_25 : decode cX4_findInterested 25 = .ok (.if_icmp .ge 76, 3) := by decide +kernel
theorem dX4_findInterested_28 : decode cX4_findInterested 28 = .ok (.aload 4, 2) := by decide +kernel
theorem dX4_findInterested_30 : decode cX4_findInterested 30 = .ok (.iload 6, 2) := by decide +kernel
theorem dX4_findInterested_32 : decode cX4_findInterested 32 = .ok (.aaload, 1) := by decide +kernel
theorem dX4_findInterested_33 : decode cX4_findInterested 33 = .ok (.astore 7, 2) := by decide +kernel
theorem dX4_findInterested_35 : decode cX4_findInterested 35 = .ok (.aload 7, 2) := by decide +kernel
theorem dX4_findInterested_37 : decode cX4_findInterested 37 = .ok (.ifnull 58, 3) := by decide +kernel
theorem dX4_findInterested_40 : decode cX4_findInterested 40 = .ok (.aload 7, 2) := by decide +kernel
theorem dX4_findInterested_42 : decode cX4_findInterested 42 = .ok (.aload_n 1, 1) := by decide +kernel
theorem dX4_findInterested_43 : decode cX4_findInterested 43 = .ok (.if_acmp .eq 52, 3) := by decide +kernel
theorem dX4_findInterested_46 : decode cX4_findInterested 46 = .ok (.aload 7, 2) := by decide +kernel
theorem dX4_findInterested_48 : decode cX4_findInterested 48 = .ok (.getfield 140, 3) := by decide +kernel
theorem dX4_findInterested_51 : decode cX4_findInterested 51 = .ok (.i2l, 1) := by decide +kernel
theorem dX4_findInterested_52 : decode cX4_findInterested 52 = .ok (.aload_n 1, 1) := by decide +kernel
theorem dX4_findInterested_53 : decode cX4_findInterested 53 = .ok (.getfield 49, 3) := by decide +kernel
theorem dX4_findInterested_56 : decode cX4_findInterested 56 = .ok (.invokestatic 86, 3) := by decide +kernel
theorem dX4_findInterested_59 : decode cX4_findInterested 59 = .ok (.ifCond .ne 36, 3) := by decide +kernel
theorem dX4_findInterested_62 : decode cX4_findInterested 62 = .ok (.aload_n 0, 1) := by decide +kernel
theorem dX4_findInterested_63 : decode cX4_findInterested 63 = .ok (.aload_n 1, 1) := by decide +kernel
theorem dX4_findInterested_64 : decode cX4_findInterested 64 = .ok (.aload 7, 2) := by decide +kernel
theorem dX4_findInterested_66 : decode cX4_findInterested 66 = .ok (.invokevirtual 123, 3) := by decide +kernel
theorem dX4_findInterested_69 : decode cX4_findInterested 69 = .ok (.iload_n 2, 1) := by decide +kernel
theorem dX4_findInterested_70 : decode cX4_findInterested 70 = .ok (.iand, 1) := by decide +kernel
theorem dX4_findInterested_71 : decode cX4_findInterested 71 = .ok (.aload 7, 2) := by decide +kernel
theorem dX4_findInterested_73 : decode cX4_findInterested 73 = .ok (.getfield 52, 3) := by decide +kernel
theorem dX4_findInterested_76 : decode cX4_findInterested 76 = .ok (.getfield 56, 3) := by decide +kernel
theorem dX4_findInterested_79 : decode cX4_findInterested 79 = .ok (.iconst (-1), 1) := by decide +kernel
theorem dX4_findInterested_80 : decode cX4_findInterested 80 = .ok (.ixor, 1) := by decide +kernel
theorem dX4_findInterested_81 : decode cX4_findInterested 81 = .ok (.iand, 1) := by decide +kernel
theorem dX4_findInterested_82 : decode cX4_findInterested 82 = .ok (.ifCond .eq 13, 3) := by decide +kernel
theorem dX4_findInterested_85 : decode cX4_findInterested 85 = .ok (.iload_n 3, 1) := by decide +kernel
theorem dX4_findInterested_86 : decode cX4_findInterested 86 = .ok (.iconst 1, 1) := by decide +kernel
theorem dX4_findInterested_87 : decode cX4_findInterested 87 = .ok (.aload 7, 2) := by decide +kernel
theorem dX4_findInterested_89 : decode cX4_findInterested 89 = .ok (.getfield 49, 3) := by decide +kernel
theorem dX4_findInterested_92 : decode cX4_findInterested 92 = .ok (.ishl, 1) := by decide +kernel
theorem dX4_findInterested_93 : decode cX4_findInterested 93 = .ok (.ior, 1) := by decide +kernel
theorem dX4_findInterested_94 : decode cX4_findInterested 94 = .ok (.istore_n 3, 1) := by decide +kernel
theorem dX4_findInterested_95 : decode cX4_findInterested 95 = .ok (.iinc 6 1, 3) := by decide +kernel
theorem dX4_findInterested_98 : decode cX4_findInterested 98 = .ok (.goto (-77), 3) := by decide +kernel
theorem dX4_findInterested_101 : decode cX4_findInterested 101 = .ok (.iload_n 3, 1) := by decide +kernel
theorem dX4_findInterested_102 : decode cX4_findInterested 102 = .ok (.ireturn, 1) := by decide +kernel
theorem dX4_findBestGiver_0 : decode cX4_findBestGiver 0 = .ok (.iconst (-1), 1) := by decide +kernel
theorem dX4_findBestGiver_1 : decode cX4_findBestGiver 1 = .ok (.istore_n 2, 1) := by decide +kernel
theorem dX4_findBestGiver_2 : decode cX4_findBestGiver 2 = .ok (.iconst 0, 1) := by decide +kernel
theorem dX4_findBestGiver_3 : decode cX4_findBestGiver 3 = .ok (.istore_n 3, 1) := by decide +kernel
theorem dX4_findBestGiver_4 : decode cX4_findBestGiver 4 = .ok (.iconst 0, 1) := by decide +kernel
theorem dX4_findBestGiver_5 : decode cX4_findBestGiver 5 = .ok (.istore 4, 2) := by decide +kernel
theorem dX4_findBestGiver_7 : decode cX4_findBestGiver 7 = .ok (.iload 4, 2) := by decide +kernel
theorem dX4_findBestGiver_9 : decode cX4_findBestGiver 9 = .ok (.aload_n 0, 1) := by decide +kernel
theorem dX4_findBestGiver_10 : decode cX4_findBestGiver 10 = .ok (.getfield 131, 3) := by decide +kernel
theorem dX4_findBestGiver_13 : decode cX4_findBestGiver 13 = .ok (.arraylength, 1) := by decide +kernel
theorem dX4_findBestGiver_14 : decode cX4_findBestGiver 14 = .ok (.if_icmp .ge 46, 3) := by decide +kernel
theorem dX4_findBestGiver_17 : decode cX4_findBestGiver 17 = .ok (.iload_n 1, 1) := by decide +kernel
theorem dX4_findBestGiver_18 : decode cX4_findBestGiver 18 = .ok (.i2l, 1) := by decide +kernel
theorem dX4_findBestGiver_19 : decode cX4_findBestGiver 19 = .ok (.iload 4, 2) := by decide +kernel
theorem dX4_findBestGiver_21 : decode cX4_findBestGiver 21 = .ok (.invokestatic 86, 3) := by decide +kernel
theorem dX4_findBestGiver_24 : decode cX4_findBestGiver 24 = .ok (.ifCond .eq 30, 3) := by decide +kernel
theorem dX4_findBestGiver_27 : decode cX4_findBestGiver 27 = .ok (.iload_n 2, 1) := by decide +kernel
theorem dX4_findBestGiver_28 : decode cX4_findBestGiver 28 = .ok (.iconst (-1), 1) := by decide +kernel
theorem dX4_findBestGiver_29 : decode cX4_findBestGiver 29 = .ok (.if_icmp .eq 14, 3) := by decide +kernel
theorem dX4_findBestGiver_32 : decode cX4_findBestGiver 32 = .ok (.aload_n 0, 1) := by decide +kernel
theorem dX4_findBestGiver_33 : decode cX4_findBestGiver 33 = .ok (.getfield 131, 3) := by decide +kernel
theorem dX4_findBestGiver_36 : decode cX4_findBestGiver 36 = .ok (.iload 4, 2) := by decide +kernel
theorem dX4_findBestGiver_38 : decode cX4_findBestGiver 38 = .ok (.iaload, 1) := by decide +kernel
theorem dX4_findBestGiver_39 : decode cX4_findBestGiver 39 = .ok (.iload_n 3, 1) := by decide +kernel
theorem dX4_findBestGiver_40 : decode cX4_findBestGiver 40 = .ok (.if_icmp .le 14, 3) := by decide +kernel
theorem dX4_findBestGiver_43 : decode cX4_findBestGiver 43 = .ok (.iload 4, 2) := by decide +kernel
theorem dX4_findBestGiver_45 : decode cX4_findBestGiver 45 = .ok (.istore_n 2, 1) := by decide +kernel
theorem dX4_findBestGiver_46 : decode cX4_findBestGiver 46 = .ok (.aload_n 0, 1) := by decide +kernel
theorem dX4_findBestGiver_47 : decode cX4_findBestGiver 47 = .ok (.getfield 131, 3) := by decide +kernel
theorem dX4_findBestGiver_50 : decode cX4_findBestGiver 50 = .ok (.iload 4, 2) := by decide +kernel
theorem dX4_findBestGiver_52 : decode cX4_findBestGiver 52 = .ok (.iaload, 1) := by decide +kernel
theorem dX4_findBestGiver_53 : decode cX4_findBestGiver 53 = .ok (.istore_n 3, 1) := by decide +kernel
theorem dX4_findBestGiver_54 : decode cX4_findBestGiver 54 = .ok (.iinc 4 1, 3) := by decide +kernel
theorem dX4_findBestGiver_57 : decode cX4_findBestGiver 57 = .ok (.goto (-50), 3) := by decide +kernel
theorem dX4_findBestGiver_60 : decode cX4_findBestGiver 60 = .ok (.iload_n 2, 1) := by decide +kernel
theorem dX4_findBestGiver_61 : decode cX4_findBestGiver 61 = .ok (.ireturn, 1) := by decide +kernel
theorem dX4_findNextInTurn_0 : decode cX4_findNextInTurn 0 = .ok (.iconst 0, 1) := by decide +kernel
theorem dX4_findNextInTurn_1 : decode cX4_findNextInTurn 1 = .ok (.istore_n 2, 1) := by decide +kernel
theorem dX4_findNextInTurn_2 : decode cX4_findNextInTurn 2 = .ok (.iload_n 2, 1) := by decide +kernel
theorem dX4_findNextInTurn_3 : decode cX4_findNextInTurn 3 = .ok (.bipush 6, 2) := by decide +kernel
theorem dX4_findNextInTurn_5 : decode cX4_findNextInTurn 5 = .ok (.if_icmp .ge 30, 3) := by decide +kernel
theorem dX4_findNextInTurn_8 : decode cX4_findNextInTurn 8 = .ok (.aload_n 0, 1) := by decide +kernel
theorem dX4_findNextInTurn_9 : decode cX4_findNextInTurn 9 = .ok (.getfield 26, 3) := by decide +kernel
theorem dX4_findNextInTurn_12 : decode cX4_findNextInTurn 12 = .ok (.iload_n 2, 1) := by decide +kernel
theorem dX4_findNextInTurn_13 : decode cX4_findNextInTurn 13 = .ok (.iadd, 1) := by decide +kernel
theorem dX4_findNextInTurn_14 : decode cX4_findNextInTurn 14 = .ok (.bipush 6, 2) := by decide +kernel
theorem dX4_findNextInTurn_16 : decode cX4_findNextInTurn 16 = .ok (.irem, 1) := by decide +kernel
theorem dX4_findNextInTurn_17 : decode cX4_findNextInTurn 17 = .ok (.istore_n 3, 1) := by decide +kernel
theorem dX4_findNextInTurn_18 : decode cX4_findNextInTurn 18 = .ok (.iload_n 1, 1) := by decide +kernel
theorem dX4_findNextInTurn_19 : decode cX4_findNextInTurn 19 = .ok (.i2l, 1) := by decide +kernel
theorem dX4_findNextInTurn_20 : decode cX4_findNextInTurn 20 = .ok (.iload_n 3, 1) := by decide +kernel
theorem dX4_findNextInTurn_21 : decode cX4_findNextInTurn 21 = .ok (.invokestatic 86, 3) := by decide +kernel
theorem dX4_findNextInTurn_24 : decode cX4_findNextInTurn 24 = .ok (.ifCond .eq 5, 3) := by decide +kernel
theorem dX4_findNextInTurn_27 : decode cX4_findNextInTurn 27 = .ok (.iload_n 3, 1) := by decide +kernel
theorem dX4_findNextInTurn_28 : decode cX4_findNextInTurn 28 = .ok (.ireturn, 1) := by decide +kernel
theorem dX4_findNextInTurn_29 : decode cX4_findNextInTurn 29 = .ok (.iinc 2 1, 3) := by decide +kernel
theorem dX4_findNextInTurn_32 : decode cX4_findNextInTurn 32 = .ok (.goto (-30), 3) := by decide +kernel
theorem dX4_findNextInTurn_35 : decode cX4_findNextInTurn 35 = .ok (.iconst (-1), 1) := by decide +kernel
theorem dX4_findNextInTurn_36 : decode cX4_findNextInTurn 36 = .ok (.ireturn, 1) := by decide +kernel
theorem dX4_begin_0 : decode cX4_begin 0 = .ok (.iconst 0, 1) := by decide +kernel
theorem dX4_begin_1 : decode cX4_begin 1 = .ok (.istore_n 1, 1) := by decide +kernel
theorem dX4_begin_2 : decode cX4_begin 2 = .ok (.iload_n 1, 1) := by decide +kernel
theorem dX4_begin_3 : decode cX4_begin 3 = .ok (.aload_n 0, 1) := by decide +kernel
theorem dX4_begin_4 : decode cX4_begin 4 = .ok (.getfield 19, 3) := by decide +kernel
theorem dX4_begin_7 : decode cX4_begin 7 = .ok (.arraylength, 1) := by decide +kernel
theorem dX4_begin_8 : decode cX4_begin 8 = .ok (.if_icmp .ge 20, 3) := by decide +kernel
theorem dX4_begin_11 : decode cX4_begin 11 = .ok (.aload_n 0, 1) := by decide +kernel
theorem dX4_begin_12 : decode cX4_begin 12 = .ok (.getfield 19, 3) := by decide +kernel
theorem dX4_begin_15 : decode cX4_begin 15 = .ok (.iload_n 1, 1) := by decide +kernel
theorem dX4_begin_16 : decode cX4_begin 16 = .ok (.aload_n 0, 1) := by decide +kernel
theorem dX4_begin_17 : decode cX4_begin 17 = .ok (.iload_n 1, 1) := by decide +kernel
theorem dX4_begin_18 : decode cX4_begin 18 = .ok (.invokevirtual 120, 3) := by decide +kernel
theorem dX4_begin_21 : decode cX4_begin 21 = .ok (.iastore, 1) := by decide +kernel
theorem dX4_begin_22 : decode cX4_begin 22 = .ok (.iinc 1 1, 3) := by decide +kernel
theorem dX4_begin_25 : decode cX4_begin 25 = .ok (.goto (-23), 3) := by decide +kernel
theorem dX4_begin_28 : decode cX4_begin 28 = .ok (.aload_n 0, 1) := by decide +kernel
theorem dX4_begin_29 : decode cX4_begin 29 = .ok (.getfield 11, 3) := by decide +kernel
theorem dX4_begin_32 : decode cX4_begin 32 = .ok (.astore_n 1, 1) := by decide +kernel
theorem dX4_begin_33 : decode cX4_begin 33 = .ok (.aload_n 1, 1) := by decide +kernel
theorem dX4_begin_34 : decode cX4_begin 34 = .ok (.arraylength, 1) := by decide +kernel
theorem dX4_begin_35 : decode cX4_begin 35 = .ok (.istore_n 2, 1) := by decide +kernel
theorem dX4_begin_36 : decode cX4_begin 36 = .ok (.iconst 0, 1) := by decide +kernel
theorem dX4_begin_37 : decode cX4_begin 37 = .ok (.istore_n 3, 1) := by decide +kernel
theorem dX4_begin_38 : decode cX4_begin 38 = .ok (.iload_n 3, 1) := by decide +kernel
theorem dX4_begin_39 : decode cX4_begin 39 = .ok (.iload_n 2, 1) := by decide +kernel
theorem dX4_begin_40 : decode cX4_begin 40 = .ok (.if_icmp .ge 44, 3) := by decide +kernel
theorem dX4_begin_43 : decode cX4_begin 43 = .ok (.aload_n 1, 1) := by decide +kernel
theorem dX4_begin_44 : decode cX4_begin 44 = .ok (.iload_n 3, 1) := by decide +kernel
theorem dX4_begin_45 : decode cX4_begin 45 = .ok (.aaload, 1) := by decide +kernel
theorem dX4_begin_46 : decode cX4_begin 46 = .ok (.astore 4, 2) := by decide +kernel
theorem dX4_begin_48 : decode cX4_begin 48 = .ok (.aload 4, 2) := by decide +kernel
theorem dX4_begin_50 : decode cX4_begin 50 = .ok (.ifnull 28, 3) := by decide +kernel
theorem dX4_begin_53 : decode cX4_begin 53 = .ok (.aload 4, 2) := by decide +kernel
theorem dX4_begin_55 : decode cX4_begin 55 = .ok (.getfield 173, 3) := by decide +kernel
theorem dX4_begin_58 : decode cX4_begin 58 = .ok (.invokevirtual 177, 3) := by decide +kernel
theorem dX4_begin_61 : decode cX4_begin 61 = .ok (.aload 4, 2) := by decide +kernel
theorem dX4_begin_63 : decode cX4_begin 63 = .ok (.aload_n 0, 1) := by decide +kernel
theorem dX4_begin_64 : decode cX4_begin 64 = .ok (.aload 4, 2) := by decide +kernel
theorem dX4_begin_66 : decode cX4_begin 66 = .ok (.invokevirtual 127, 3) := by decide +kernel
theorem dX4_begin_69 : decode cX4_begin 69 = .ok (.putfield 182, 3) := by decide +kernel
theorem dX4_begin_72 : decode cX4_begin 72 = .ok (.aload_n 0, 1) := by decide +kernel
theorem dX4_begin_73 : decode cX4_begin 73 = .ok (.aload 4, 2) := by decide +kernel
theorem dX4_begin_75 : decode cX4_begin 75 = .ok (.invokevirtual 185, 3) := by decide +kernel
theorem dX4_begin_78 : decode cX4_begin 78 = .ok (.iinc 3 1, 3) := by decide +kernel
theorem dX4_begin_81 : decode cX4_begin 81 = .ok (.goto (-43), 3) := by decide +kernel
theorem dX4_begin_84 : decode cX4_begin 84 = .ok (.return_, 1) := by decide +kernel
theorem dX4_beginShowing_0 : decode cX4_beginShowing 0 = .ok (.aload_n 0, 1) := by decide +kernel
theorem dX4_beginShowing_1 : decode cX4_beginShowing 1 = .ok (.getfield 11, 3) := by decide +kernel
theorem dX4_beginShowing_4 : decode cX4_beginShowing 4 = .ok (.astore_n 2, 1) := by decide +kernel
theorem dX4_beginShowing_5 : decode cX4_beginShowing 5 = .ok (.aload_n 2, 1) := by decide +kernel
theorem dX4_beginShowing_6 : decode cX4_beginShowing 6 = .ok (.arraylength, 1) := by decide +kernel
theorem dX4_beginShowing_7 : decode cX4_beginShowing 7 = .ok (.istore_n 3, 1) := by decide +kernel
theorem dX4_beginShowing_8 : decode cX4_beginShowing 8 = .ok (.iconst 0, 1) := by decide +kernel
theorem dX4_beginShowing_9 : decode cX4_beginShowing 9 = .ok (.istore 4, 2) := by decide +kernel
theorem dX4_beginShowing_11 : decode cX4_beginShowing 11 = .ok (.iload 4, 2) := by decide +kernel
theorem dX4_beginShowing_13 : decode cX4_beginShowing 13 = .ok (.iload_n 3, 1) := by decide +kernel
theorem dX4_beginShowing_14 : decode cX4_beginShowing 14 = .ok (.if_icmp .ge 37, 3) := by decide +kernel
theorem dX4_beginShowing_17 : decode cX4_beginShowing 17 = .ok (.aload_n 2, 1) := by decide +kernel
theorem dX4_beginShowing_18 : decode cX4_beginShowing 18 = .ok (.iload 4, 2) := by decide +kernel
theorem dX4_beginShowing_20 : decode cX4_beginShowing 20 = .ok (.aaload, 1) := by decide +kernel
theorem dX4_beginShowing_21 : decode cX4_beginShowing 21 = .ok (.astore 5, 2) := by decide +kernel
theorem dX4_beginShowing_23 : decode cX4_beginShowing 23 = .ok (.aload 5, 2) := by decide +kernel
theorem dX4_beginShowing_25 : decode cX4_beginShowing 25 = .ok (.ifnull 20, 3) := by decide +kernel
theorem dX4_beginShowing_28 : decode cX4_beginShowing 28 = .ok (.aload_n 1, 1) := by decide +kernel
theorem dX4_beginShowing_29 : decode cX4_beginShowing 29 = .ok (.getfield 189, 3) := by decide +kernel
theorem dX4_beginShowing_32 : decode cX4_beginShowing 32 = .ok (.aload 5, 2) := by decide +kernel
theorem dX4_beginShowing_34 : decode cX4_beginShowing 34 = .ok (.getfield 49, 3) := by decide +kernel
theorem dX4_beginShowing_37 : decode cX4_beginShowing 37 = .ok (.aload_n 0, 1) := by decide +kernel
theorem dX4_beginShowing_38 : decode cX4_beginShowing 38 = .ok (.aload_n 1, 1) := by decide +kernel
theorem dX4_beginShowing_39 : decode cX4_beginShowing 39 = .ok (.aload 5, 2) := by decide +kernel
theorem dX4_beginShowing_41 : decode cX4_beginShowing 41 = .ok (.invokevirtual 123, 3) := by decide +kernel
theorem dX4_beginShowing_44 : decode cX4_beginShowing 44 = .ok (.iastore, 1) := by decide +kernel
theorem dX4_beginShowing_45 : decode cX4_beginShowing 45 = .ok (.iinc 4 1, 3) := by decide +kernel
theorem dX4_beginShowing_48 : decode cX4_beginShowing 48 = .ok (.goto (-37), 3) := by decide +kernel
theorem dX4_beginShowing_51 : decode cX4_beginShowing 51 = .ok (.return_, 1) := by decide +kernel
theorem dX4_askAll_0 : decode cX4_askAll 0 = .ok (.aload_n 0, 1) := by decide +kernel
theorem dX4_askAll_1 : decode cX4_askAll 1 = .ok (.invokevirtual 170, 3) := by decide +kernel
theorem dX4_askAll_4 : decode cX4_askAll 4 = .ok (.istore_n 1, 1) := by decide +kernel
theorem dX4_askAll_5 : decode cX4_askAll 5 = .ok (.aload_n 0, 1) := by decide +kernel
theorem dX4_askAll_6 : decode cX4_askAll 6 = .ok (.getfield 11, 3) := by decide +kernel
theorem dX4_askAll_9 : decode cX4_askAll 9 = .ok (.astore_n 2, 1) := by decide +kernel
theorem dX4_askAll_10 : decode cX4_askAll 10 = .ok (.aload_n 2, 1) := by decide +kernel
theorem dX4_askAll_11 : decode cX4_askAll 11 = .ok (.arraylength, 1) := by decide +kernel
theorem dX4_askAll_12 : decode cX4_askAll 12 = .ok (.istore_n 3, 1) := by decide +kernel
theorem dX4_askAll_13 : decode cX4_askAll 13 = .ok (.iconst 0, 1) := by decide +kernel
theorem dX4_askAll_14 : decode cX4_askAll 14 = .ok (.istore 4, 2) := by decide +kernel
theorem dX4_askAll_16 : decode cX4_askAll 16 = .ok (.iload 4, 2) := by decide +kernel
theorem dX4_askAll_18 : decode cX4_askAll 18 = .ok (.iload_n 3, 1) := by decide +kernel
theorem dX4_askAll_19 : decode cX4_askAll 19 = .ok (.if_icmp .ge 27, 3) := by decide +kernel
theorem dX4_askAll_22 : decode cX4_askAll 22 = .ok (.aload_n 2, 1) := by decide +kernel
theorem dX4_askAll_23 : decode cX4_askAll 23 = .ok (.iload 4, 2) := by decide +kernel
theorem dX4_askAll_25 : decode cX4_askAll 25 = .ok (.aaload, 1) := by decide +kernel
theorem dX4_askAll_26 : decode cX4_askAll 26 = .ok (.astore 5, 2) := by decide +kernel
theorem dX4_askAll_28 : decode cX4_askAll 28 = .ok (.aload 5, 2) := by decide +kernel
theorem dX4_askAll_30 : decode cX4_askAll 30 = .ok (.ifnull 10, 3) := by decide +kernel
theorem dX4_askAll_33 : decode cX4_askAll 33 = .ok (.aload_n 0, 1) := by decide +kernel
theorem dX4_askAll_34 : decode cX4_askAll 34 = .ok (.aload 5, 2) := by decide +kernel
theorem dX4_askAll_36 : decode cX4_askAll 36 = .ok (.iload_n 1, 1) := by decide +kernel
theorem dX4_askAll_37 : decode cX4_askAll 37 = .ok (.invokevirtual 192, 3) := by decide +kernel
theorem dX4_askAll_40 : decode cX4_askAll 40 = .ok (.iinc 4 1, 3) := by decide +kernel
theorem dX4_askAll_43 : decode cX4_askAll 43 = .ok (.goto (-27), 3) := by decide +kernel
theorem dX4_askAll_46 : decode cX4_askAll 46 = .ok (.return_, 1) := by decide +kernel
theorem dX4_askOthers_0 : decode cX4_askOthers 0 = .ok (.iload_n 2, 1) := by decide +kernel
theorem dX4_askOthers_1 : decode cX4_askOthers 1 = .ok (.aload_n 1, 1) := by decide +kernel
theorem dX4_askOthers_2 : decode cX4_askOthers 2 = .ok (.getfield 52, 3) := by decide +kernel
theorem dX4_askOthers_5 : decode cX4_askOthers 5 = .ok (.getfield 56, 3) := by decide +kernel
theorem dX4_askOthers_8 : decode cX4_askOthers 8 = .ok (.iconst (-1), 1) := by decide +kernel
theorem dX4_askOthers_9 : decode cX4_askOthers 9 = .ok (.ixor, 1) := by decide +kernel
theorem dX4_askOthers_10 : decode cX4_askOthers 10 = .ok (.iand, 1) := by decide +kernel
theorem dX4_askOthers_11 : decode cX4_askOthers 11 = .ok (.invokestatic 196, 3) := by decide +kernel
theorem dX4_askOthers_14 : decode cX4_askOthers 14 = .ok (.aload_n 1, 1) := by decide +kernel
theorem dX4_askOthers_15 : decode cX4_askOthers 15 = .ok (.getfield 52, 3) := by decide +kernel
theorem dX4_askOthers_18 : decode cX4_askOthers 18 = .ok (.getfield 116, 3) := by decide +kernel
theorem dX4_askOthers_21 : decode cX4_askOthers 21 = .ok (.ldc2_w 200, 3) := by decide +kernel
theorem dX4_askOthers_24 : decode cX4_askOthers 24 = .ok (.lxor, 1) := by decide +kernel
theorem dX4_askOthers_25 : decode cX4_askOthers 25 = .ok (.land, 1) := by decide +kernel
theorem dX4_askOthers_26 : decode cX4_askOthers 26 = .ok (.lstore_n 3, 1) := by decide +kernel
theorem dX4_askOthers_27 : decode cX4_askOthers 27 = .ok (.aload_n 0, 1) := by decide +kernel
theorem dX4_askOthers_28 : decode cX4_askOthers 28 = .ok (.getfield 11, 3) := by decide +kernel
theorem dX4_askOthers_31 : decode cX4_askOthers 31 = .ok (.astore 5, 2) := by decide +kernel
theorem dX4_askOthers_33 : decode cX4_askOthers 33 = .ok (.aload 5, 2) := by decide +kernel
theorem dX4_askOthers_35 : decode cX4_askOthers 35 = .ok (.arraylength, 1) := by decide +kernel
theorem dX4_askOthers_36 : decode cX4_askOthers 36 = .ok (.istore 6, 2) := by decide +kernel
theorem dX4_askOthers_38 : decode cX4_askOthers 38 = .ok (.iconst 0, 1) := by decide +kernel
theorem dX4_askOthers_39 : decode cX4_askOthers 39 = .ok (.istore 7, 2) := by decide +kernel
theorem dX4_askOthers_41 : decode cX4_askOthers 41 = .ok (.iload 7, 2) := by decide +kernel
theorem dX4_askOthers_43 : decode cX4_askOthers 43 = .ok (.iload 6, 2) := by decide +kernel
theorem dX4_askOthers_45 : decode cX4_askOthers 45 = .ok (.if_icmp .ge 45, 3) := by decide +kernel
theorem dX4_askOthers_48 : decode cX4_askOthers 48 = .ok (.aload 5, 2) := by decide +kernel
theorem dX4_askOthers_50 : decode cX4_askOthers 50 = .ok (.iload 7, 2) := by decide +kernel
theorem dX4_askOthers_52 : decode cX4_askOthers 52 = .ok (.aaload, 1) := by decide +kernel
theorem dX4_askOthers_53 : decode cX4_askOthers 53 = .ok (.astore 8, 2) := by decide +kernel
theorem dX4_askOthers_55 : decode cX4_askOthers 55 = .ok (.aload 8, 2) := by decide +kernel
theorem dX4_askOthers_57 : decode cX4_askOthers 57 = .ok (.ifnull 27, 3) := by decide +kernel
theorem dX4_askOthers_60 : decode cX4_askOthers 60 = .ok (.aload 8, 2) := by decide +kernel
theorem dX4_askOthers_62 : decode cX4_askOthers 62 = .ok (.getfield 182, 3) := by decide +kernel
theorem dX4_askOthers_65 : decode cX4_askOthers 65 = .ok (.i2l, 1) := by decide +kernel
theorem dX4_askOthers_66 : decode cX4_askOthers 66 = .ok (.aload_n 1, 1) := by decide +kernel
theorem dX4_askOthers_67 : decode cX4_askOthers 67 = .ok (.getfield 49, 3) := by decide +kernel
theorem dX4_askOthers_70 : decode cX4_askOthers 70 = .ok (.invokestatic 86, 3) := by decide +kernel
theorem dX4_askOthers_73 : decode cX4_askOthers 73 = .ok (.ifCond .eq 11, 3) := by decide +kernel
theorem dX4_askOthers_76 : decode cX4_askOthers 76 = .ok (.aload_n 0, 1) := by decide +kernel
theorem dX4_askOthers_77 : decode cX4_askOthers 77 = .ok (.aload_n 1, 1) := by decide +kernel
theorem dX4_askOthers_78 : decode cX4_askOthers 78 = .ok (.aload 8, 2) := by decide +kernel
theorem dX4_askOthers_80 : decode cX4_askOthers 80 = .ok (.lload_n 3, 1) := by decide +kernel
theorem dX4_askOthers_81 : decode cX4_askOthers 81 = .ok (.invokevirtual 202, 3) := by decide +kernel
theorem dX4_askOthers_84 : decode cX4_askOthers 84 = .ok (.iinc 7 1, 3) := by decide +kernel
theorem dX4_askOthers_87 : decode cX4_askOthers 87 = .ok (.goto (-46), 3) := by decide +kernel
theorem dX4_askOthers_90 : decode cX4_askOthers 90 = .ok (.return_, 1) := by decide +kernel
theorem dX4_askOne_0 : decode cX4_askOne 0 = .ok (.lload_n 3, 1) := by decide +kernel
theorem dX4_askOne_1 : decode cX4_askOne 1 = .ok (.aload_n 2, 1) := by decide +kernel
theorem dX4_askOne_2 : decode cX4_askOne 2 = .ok (.getfield 189, 3) := by decide +kernel
theorem dX4_askOne_5 : decode cX4_askOne 5 = .ok (.aload_n 1, 1) := by decide +kernel
theorem dX4_askOne_6 : decode cX4_askOne 6 = .ok (.getfield 49, 3) := by decide +kernel
theorem dX4_askOne_9 : decode cX4_askOne 9 = .ok (.iaload, 1) := by decide +kernel
theorem dX4_askOne_10 : decode cX4_askOne 10 = .ok (.invokestatic 196, 3) := by decide +kernel
theorem dX4_askOne_13 : decode cX4_askOne 13 = .ok (.land, 1) := by decide +kernel
theorem dX4_askOne_14 : decode cX4_askOne 14 = .ok (.lstore 5, 2) := by decide +kernel
theorem dX4_askOne_16 : decode cX4_askOne 16 = .ok (.lload 5, 2) := by decide +kernel
theorem dX4_askOne_18 : decode cX4_askOne 18 = .ok (.aload_n 1, 1) := by decide +kernel
theorem dX4_askOne_19 : decode cX4_askOne 19 = .ok (.getfield 173, 3) := by decide +kernel
theorem dX4_askOne_22 : decode cX4_askOne 22 = .ok (.getfield 206, 3) := by decide +kernel
theorem dX4_askOne_25 : decode cX4_askOne 25 = .ok (.ldc2_w 200, 3) := by decide +kernel
theorem dX4_askOne_28 : decode cX4_askOne 28 = .ok (.lxor, 1) := by decide +kernel
theorem dX4_askOne_29 : decode cX4_askOne 29 = .ok (.land, 1) := by decide +kernel
theorem dX4_askOne_30 : decode cX4_askOne 30 = .ok (.lstore 7, 2) := by decide +kernel
theorem dX4_askOne_32 : decode cX4_askOne 32 = .ok (.lload 7, 2) := by decide +kernel
theorem dX4_askOne_34 : decode cX4_askOne 34 = .ok (.lconst 0, 1) := by decide +kernel
theorem dX4_askOne_35 : decode cX4_askOne 35 = .ok (.lcmp, 1) := by decide +kernel
theorem dX4_askOne_36 : decode cX4_askOne 36 = .ok (.ifCond .eq 37, 3) := by decide +kernel
theorem dX4_askOne_39 : decode cX4_askOne 39 = .ok (.aload_n 0, 1) := by decide +kernel
theorem dX4_askOne_40 : decode cX4_askOne 40 = .ok (.aload_n 1, 1) := by decide +kernel
theorem dX4_askOne_41 : decode cX4_askOne 41 = .ok (.lload 7, 2) := by decide +kernel
theorem dX4_askOne_43 : decode cX4_askOne 43 = .ok (.invokevirtual 209, 3) := by decide +kernel
theorem dX4_askOne_46 : decode cX4_askOne 46 = .ok (.istore 9, 2) := by decide +kernel
theorem dX4_askOne_48 : decode cX4_askOne 48 = .ok (.aload_n 1, 1) := by decide +kernel
theorem dX4_askOne_49 : decode cX4_askOne 49 = .ok (.getfield 173, 3) := by decide +kernel
theorem dX4_askOne_52 : decode cX4_askOne 52 = .ok (.lload 7, 2) := by decide +kernel
theorem dX4_askOne_54 : decode cX4_askOne 54 = .ok (.iload 9, 2) := by decide +kernel
theorem dX4_askOne_56 : decode cX4_askOne 56 = .ok (.invokestatic 213, 3) := by decide +kernel
theorem dX4_askOne_59 : decode cX4_askOne 59 = .ok (.land, 1) := by decide +kernel
theorem dX4_askOne_60 : decode cX4_askOne 60 = .ok (.invokestatic 216, 3) := by decide +kernel
theorem dX4_askOne_63 : decode cX4_askOne 63 = .ok (.aload_n 2, 1) := by decide +kernel
theorem dX4_askOne_64 : decode cX4_askOne 64 = .ok (.getfield 49, 3) := by decide +kernel
theorem dX4_askOne_67 : decode cX4_askOne 67 = .ok (.invokevirtual 220, 3) := by decide +kernel
theorem dX4_askOne_70 : decode cX4_askOne 70 = .ok (.goto 44, 3) := by decide +kernel
theorem dX4_askOne_73 : decode cX4_askOne 73 = .ok (.lload_n 3, 1) := by decide +kernel
theorem dX4_askOne_74 : decode cX4_askOne 74 = .ok (.aload_n 1, 1) := by decide +kernel
theorem dX4_askOne_75 : decode cX4_askOne 75 = .ok (.getfield 173, 3) := by decide +kernel
theorem dX4_askOne_78 : decode cX4_askOne 78 = .ok (.getfield 206, 3) := by decide +kernel
theorem dX4_askOne_81 : decode cX4_askOne 81 = .ok (.ldc2_w 200, 3) := by decide +kernel
theorem dX4_askOne_84 : decode cX4_askOne 84 = .ok (.lxor, 1) := by decide +kernel
theorem dX4_askOne_85 : decode cX4_askOne 85 = .ok (.land, 1) := by decide +kernel
theorem dX4_askOne_86 : decode cX4_askOne 86 = .ok (.lconst 0, 1) := by decide +kernel
theorem dX4_askOne_87 : decode cX4_askOne 87 = .ok (.lcmp, 1) := by decide +kernel
theorem dX4_askOne_88 : decode cX4_askOne 88 = .ok (.ifCond .ne 26, 3) := by decide +kernel
theorem dX4_askOne_91 : decode cX4_askOne 91 = .ok (.lload 5, 2) := by decide +kernel
theorem dX4_askOne_93 : decode cX4_askOne 93 = .ok (.lconst 0, 1) := by decide +kernel
theorem dX4_askOne_94 : decode cX4_askOne 94 = .ok (.lcmp, 1) := by decide +kernel
theorem dX4_askOne_95 : decode cX4_askOne 95 = .ok (.ifCond .eq 19, 3) := by decide +kernel
theorem dX4_askOne_98 : decode cX4_askOne 98 = .ok (.aload_n 1, 1) := by decide +kernel
theorem dX4_askOne_99 : decode cX4_askOne 99 = .ok (.getfield 173, 3) := by decide +kernel
theorem dX4_askOne_102 : decode cX4_askOne 102 = .ok (.lload 5, 2) := by decide +kernel
theorem dX4_askOne_104 : decode cX4_askOne 104 = .ok (.invokestatic 216, 3) := by decide +kernel
theorem dX4_askOne_107 : decode cX4_askOne 107 = .ok (.aload_n 2, 1) := by decide +kernel
theorem dX4_askOne_108 : decode cX4_askOne 108 = .ok (.getfield 49, 3) := by decide +kernel
theorem dX4_askOne_111 : decode cX4_askOne 111 = .ok (.invokevirtual 220, 3) := by decide +kernel
theorem dX4_askOne_114 : decode cX4_askOne 114 = .ok (.return_, 1) := by decide +kernel
theorem dX4_findBestPiece_0 : decode cX4_findBestPiece 0 = .ok (.iconst (-1), 1) := by decide +kernel
theorem dX4_findBestPiece_1 : decode cX4_findBestPiece 1 = .ok (.istore 4, 2) := by decide +kernel
theorem dX4_findBestPiece_3 : decode cX4_findBestPiece 3 = .ok (.iconst 0, 1) := by decide +kernel
theorem dX4_findBestPiece_4 : decode cX4_findBestPiece 4 = .ok (.istore 5, 2) := by decide +kernel
theorem dX4_findBestPiece_6 : decode cX4_findBestPiece 6 = .ok (.iload 5, 2) := by decide +kernel
theorem dX4_findBestPiece_8 : decode cX4_findBestPiece 8 = .ok (.bipush 12, 2) := by decide +kernel
theorem dX4_findBestPiece_10 : decode cX4_findBestPiece 10 = .ok (.if_icmp .ge 43, 3) := by decide +kernel
theorem dX4_findBestPiece_13 : decode cX4_findBestPiece 13 = .ok (.lload_n 2, 1) := by decide +kernel
theorem dX4_findBestPiece_14 : decode cX4_findBestPiece 14 = .ok (.iload 5, 2) := by decide +kernel
theorem dX4_findBestPiece_16 : decode cX4_findBestPiece 16 = .ok (.invokestatic 213, 3) := by decide +kernel
theorem dX4_findBestPiece_19 : decode cX4_findBestPiece 19 = .ok (.land, 1) := by decide +kernel
theorem dX4_findBestPiece_20 : decode cX4_findBestPiece 20 = .ok (.lconst 0, 1) := by decide +kernel
theorem dX4_findBestPiece_21 : decode cX4_findBestPiece 21 = .ok (.lcmp, 1) := by decide +kernel
theorem dX4_findBestPiece_22 : decode cX4_findBestPiece 22 = .ok (.ifCond .eq 25, 3) := by decide +kernel
theorem dX4_findBestPiece_25 : decode cX4_findBestPiece 25 = .ok (.iload 4, 2) := by decide +kernel
theorem dX4_findBestPiece_27 : decode cX4_findBestPiece 27 = .ok (.iconst (-1), 1) := by decide +kernel
theorem dX4_findBestPiece_28 : decode cX4_findBestPiece 28 = .ok (.if_icmp .eq 15, 3) := by decide +kernel
theorem dX4_findBestPiece_31 : decode cX4_findBestPiece 31 = .ok (.aload_n 0, 1) := by decide +kernel
theorem dX4_findBestPiece_32 : decode cX4_findBestPiece 32 = .ok (.aload_n 1, 1) := by decide +kernel
theorem dX4_findBestPiece_33 : decode cX4_findBestPiece 33 = .ok (.iload 5, 2) := by decide +kernel
theorem dX4_findBestPiece_35 : decode cX4_findBestPiece 35 = .ok (.iload 4, 2) := by decide +kernel
theorem dX4_findBestPiece_37 : decode cX4_findBestPiece 37 = .ok (.invokevirtual 223, 3) := by decide +kernel
theorem dX4_findBestPiece_40 : decode cX4_findBestPiece 40 = .ok (.ifCond .eq 7, 3) := by decide +kernel
theorem dX4_findBestPiece_43 : decode cX4_findBestPiece 43 = .ok (.iload 5, 2) := by decide +kernel
theorem dX4_findBestPiece_45 : decode cX4_findBestPiece 45 = .ok (.istore 4, 2) := by decide +kernel
theorem dX4_findBestPiece_47 : decode cX4_findBestPiece 47 = .ok (.iinc 5 1, 3) := by decide +kernel
theorem dX4_findBestPiece_50 : decode cX4_findBestPiece 50 = .ok (.goto (-44), 3) := by decide +kernel
theorem dX4_findBestPiece_53 : decode cX4_findBestPiece 53 = .ok (.iload 4, 2) := by decide +kernel
theorem dX4_findBestPiece_55 : decode cX4_findBestPiece 55 = .ok (.ireturn, 1) := by decide +kernel
theorem dX4_isBetter_0 : decode cX4_isBetter 0 = .ok (.aload_n 1, 1) := by decide +kernel
theorem dX4_isBetter_1 : decode cX4_isBetter 1 = .ok (.iload_n 2, 1) := by decide +kernel
theorem dX4_isBetter_2 : decode cX4_isBetter 2 = .ok (.invokestatic 227, 3) := by decide +kernel
theorem dX4_isBetter_5 : decode cX4_isBetter 5 = .ok (.istore 4, 2) := by decide +kernel
theorem dX4_isBetter_7 : decode cX4_isBetter 7 = .ok (.iload 4, 2) := by decide +kernel
theorem dX4_isBetter_9 : decode cX4_isBetter 9 = .ok (.aload_n 1, 1) := by decide +kernel
theorem dX4_isBetter_10 : decode cX4_isBetter 10 = .ok (.iload_n 3, 1) := by decide +kernel
theorem dX4_isBetter_11 : decode cX4_isBetter 11 = .ok (.invokestatic 227, 3) := by decide +kernel
theorem dX4_isBetter_14 : decode cX4_isBetter 14 = .ok (.if_icmp .eq 6, 3) := by decide +kernel
theorem dX4_isBetter_17 : decode cX4_isBetter 17 = .ok (.iload 4, 2) := by decide +kernel
theorem dX4_isBetter_19 : decode cX4_isBetter 19 = .ok (.ireturn, 1) := by decide +kernel
theorem dX4_isBetter_20 : decode cX4_isBetter 20 = .ok (.aload_n 0, 1) := by decide +kernel
theorem dX4_isBetter_21 : decode cX4_isBetter 21 = .ok (.getfield 15, 3) := by decide +kernel
theorem dX4_isBetter_24 : decode cX4_isBetter 24 = .ok (.iload_n 2, 1) := by decide +kernel
theorem dX4_isBetter_25 : decode cX4_isBetter 25 = .ok (.iaload, 1) := by decide +kernel
theorem dX4_isBetter_26 : decode cX4_isBetter 26 = .ok (.aload_n 0, 1) := by decide +kernel
theorem dX4_isBetter_27 : decode cX4_isBetter 27 = .ok (.getfield 15, 3) := by decide +kernel
theorem dX4_isBetter_30 : decode cX4_isBetter 30 = .ok (.iload_n 3, 1) := by decide +kernel
theorem dX4_isBetter_31 : decode cX4_isBetter 31 = .ok (.iaload, 1) := by decide +kernel
theorem dX4_isBetter_32 : decode cX4_isBetter 32 = .ok (.if_icmp .eq 24, 3) := by decide +kernel
theorem dX4_isBetter_35 : decode cX4_isBetter 35 = .ok (.aload_n 0, 1) := by decide +kernel
theorem dX4_isBetter_36 : decode cX4_isBetter 36 = .ok (.getfield 15, 3) := by decide +kernel
theorem dX4_isBetter_39 : decode cX4_isBetter 39 = .ok (.iload_n 2, 1) := by decide +kernel
theorem dX4_isBetter_40 : decode cX4_isBetter 40 = .ok (.iaload, 1) := by decide +kernel
theorem dX4_isBetter_41 : decode cX4_isBetter 41 = .ok (.aload_n 0, 1) := by decide +kernel
theorem dX4_isBetter_42 : decode cX4_isBetter 42 = .ok (.getfield 15, 3) := by decide +kernel
theorem dX4_isBetter_45 : decode cX4_isBetter 45 = .ok (.iload_n 3, 1) := by decide +kernel
theorem dX4_isBetter_46 : decode cX4_isBetter 46 = .ok (.iaload, 1) := by decide +kernel
theorem dX4_isBetter_47 : decode cX4_isBetter 47 = .ok (.if_icmp .le 7, 3) := by decide +kernel
theorem dX4_isBetter_50 : decode cX4_isBetter 50 = .ok (.iconst 1, 1) := by decide +kernel
theorem dX4_isBetter_51 : decode cX4_isBetter 51 = .ok (.goto 4, 3) := by decide +kernel
theorem dX4_isBetter_54 : decode cX4_isBetter 54 = .ok (.iconst 0, 1) := by decide +kernel
theorem dX4_isBetter_55 : decode cX4_isBetter 55 = .ok (.ireturn, 1) := by decide +kernel
theorem dX4_isBetter_56 : decode cX4_isBetter 56 = .ok (.aload_n 1, 1) := by decide +kernel
theorem dX4_isBetter_57 : decode cX4_isBetter 57 = .ok (.getfield 76, 3) := by decide +kernel
theorem dX4_isBetter_60 : decode cX4_isBetter 60 = .ok (.ifCond .ne 39, 3) := by decide +kernel
theorem dX4_isBetter_63 : decode cX4_isBetter 63 = .ok (.aload_n 0, 1) := by decide +kernel
theorem dX4_isBetter_64 : decode cX4_isBetter 64 = .ok (.getfield 19, 3) := by decide +kernel
theorem dX4_isBetter_67 : decode cX4_isBetter 67 = .ok (.iload_n 2, 1) := by decide +kernel
theorem dX4_isBetter_68 : decode cX4_isBetter 68 = .ok (.iaload, 1) := by decide +kernel
theorem dX4_isBetter_69 : decode cX4_isBetter 69 = .ok (.aload_n 0, 1) := by decide +kernel
theorem dX4_isBetter_70 : decode cX4_isBetter 70 = .ok (.getfield 19, 3) := by decide +kernel
theorem dX4_isBetter_73 : decode cX4_isBetter 73 = .ok (.iload_n 3, 1) := by decide +kernel
theorem dX4_isBetter_74 : decode cX4_isBetter 74 = .ok (.iaload, 1) := by decide +kernel
theorem dX4_isBetter_75 : decode cX4_isBetter 75 = .ok (.if_icmp .eq 24, 3) := by decide +kernel
theorem dX4_isBetter_78 : decode cX4_isBetter 78 = .ok (.aload_n 0, 1) := by decide +kernel
theorem dX4_isBetter_79 : decode cX4_isBetter 79 = .ok (.getfield 19, 3) := by decide +kernel
theorem dX4_isBetter_82 : decode cX4_isBetter 82 = .ok (.iload_n 2, 1) := by decide +kernel
theorem dX4_isBetter_83 : decode cX4_isBetter 83 = .ok (.iaload, 1) := by decide +kernel
theorem dX4_isBetter_84 : decode cX4_isBetter 84 = .ok (.aload_n 0, 1) := by decide +kernel
theorem dX4_isBetter_85 : decode cX4_isBetter 85 = .ok (.getfield 19, 3) := by decide +kernel
theorem dX4_isBetter_88 : decode cX4_isBetter 88 = .ok (.iload_n 3, 1) := by decide +kernel
theorem dX4_isBetter_89 : decode cX4_isBetter 89 = .ok (.iaload, 1) := by decide +kernel
theorem dX4_isBetter_90 : decode cX4_isBetter 90 = .ok (.if_icmp .ge 7, 3) := by decide +kernel
theorem dX4_isBetter_93 : decode cX4_isBetter 93 = .ok (.iconst 1, 1) := by decide +kernel
theorem dX4_isBetter_94 : decode cX4_isBetter 94 = .ok (.goto 4, 3) := by decide +kernel
theorem dX4_isBetter_97 : decode cX4_isBetter 97 = .ok (.iconst 0, 1) := by decide +kernel
theorem dX4_isBetter_98 : decode cX4_isBetter 98 = .ok (.ireturn, 1) := by decide +kernel
theorem dX4_isBetter_99 : decode cX4_isBetter 99 = .ok (.iload_n 2, 1) := by decide +kernel
theorem dX4_isBetter_100 : decode cX4_isBetter 100 = .ok (.iload_n 3, 1) := by decide +kernel
theorem dX4_isBetter_101 : decode cX4_isBetter 101 = .ok (.if_icmp .ge 7, 3) := by decide +kernel
theorem dX4_isBetter_104 : decode cX4_isBetter 104 = .ok (.iconst 1, 1) := by decide +kernel
theorem dX4_isBetter_105 : decode cX4_isBetter 105 = .ok (.goto 4, 3) := by decide +kernel
theorem dX4_isBetter_108 : decode cX4_isBetter 108 = .ok (.iconst 0, 1) := by decide +kernel
theorem dX4_isBetter_109 : decode cX4_isBetter 109 = .ok (.ireturn, 1) := by decide +kernel
theorem dX4_isBegun_0 : decode cX4_isBegun 0 = .ok (.aload_n 0, 1) := by decide +kernel
theorem dX4_isBegun_1 : decode cX4_isBegun 1 = .ok (.getfield 52, 3) := by decide +kernel
theorem dX4_isBegun_4 : decode cX4_isBegun 4 = .ok (.getfield 116, 3) := by decide +kernel
theorem dX4_isBegun_7 : decode cX4_isBegun 7 = .ok (.aload_n 0, 1) := by decide +kernel
theorem dX4_isBegun_8 : decode cX4_isBegun 8 = .ok (.getfield 173, 3) := by decide +kernel
theorem dX4_isBegun_11 : decode cX4_isBegun 11 = .ok (.getfield 206, 3) := by decide +kernel
theorem dX4_isBegun_14 : decode cX4_isBegun 14 = .ok (.lor, 1) := by decide +kernel
theorem dX4_isBegun_15 : decode cX4_isBegun 15 = .ok (.iload_n 1, 1) := by decide +kernel
theorem dX4_isBegun_16 : decode cX4_isBegun 16 = .ok (.invokestatic 213, 3) := by decide +kernel
theorem dX4_isBegun_19 : decode cX4_isBegun 19 = .ok (.land, 1) := by decide +kernel
theorem dX4_isBegun_20 : decode cX4_isBegun 20 = .ok (.lconst 0, 1) := by decide +kernel
theorem dX4_isBegun_21 : decode cX4_isBegun 21 = .ok (.lcmp, 1) := by decide +kernel
theorem dX4_isBegun_22 : decode cX4_isBegun 22 = .ok (.ifCond .eq 7, 3) := by decide +kernel
theorem dX4_isBegun_25 : decode cX4_isBegun 25 = .ok (.iconst 1, 1) := by decide +kernel
theorem dX4_isBegun_26 : decode cX4_isBegun 26 = .ok (.goto 4, 3) := by decide +kernel
theorem dX4_isBegun_29 : decode cX4_isBegun 29 = .ok (.iconst 0, 1) := by decide +kernel
theorem dX4_isBegun_30 : decode cX4_isBegun 30 = .ok (.ireturn, 1) := by decide +kernel
theorem dX4_comeAll_0 : decode cX4_comeAll 0 = .ok (.iconst 0, 1) := by decide +kernel
theorem dX4_comeAll_1 : decode cX4_comeAll 1 = .ok (.istore_n 1, 1) := by decide +kernel
theorem dX4_comeAll_2 : decode cX4_comeAll 2 = .ok (.aload_n 0, 1) := by decide +kernel
theorem dX4_comeAll_3 : decode cX4_comeAll 3 = .ok (.getfield 11, 3) := by decide +kernel
theorem dX4_comeAll_6 : decode cX4_comeAll 6 = .ok (.astore_n 2, 1) := by decide +kernel
theorem dX4_comeAll_7 : decode cX4_comeAll 7 = .ok (.aload_n 2, 1) := by decide +kernel
theorem dX4_comeAll_8 : decode cX4_comeAll 8 = .ok (.arraylength, 1) := by decide +kernel
theorem dX4_comeAll_9 : decode cX4_comeAll 9 = .ok (.istore_n 3, 1) := by decide +kernel
theorem dX4_comeAll_10 : decode cX4_comeAll 10 = .ok (.iconst 0, 1) := by decide +kernel
theorem dX4_comeAll_11 : decode cX4_comeAll 11 = .ok (.istore 4, 2) := by decide +kernel
theorem dX4_comeAll_13 : decode cX4_comeAll 13 = .ok (.iload 4, 2) := by decide +kernel
theorem dX4_comeAll_15 : decode cX4_comeAll 15 = .ok (.iload_n 3, 1) := by decide +kernel
theorem dX4_comeAll_16 : decode cX4_comeAll 16 = .ok (.if_icmp .ge 29, 3) := by decide +kernel
theorem dX4_comeAll_19 : decode cX4_comeAll 19 = .ok (.aload_n 2, 1) := by decide +kernel
theorem dX4_comeAll_20 : decode cX4_comeAll 20 = .ok (.iload 4, 2) := by decide +kernel
theorem dX4_comeAll_22 : decode cX4_comeAll 22 = .ok (.aaload, 1) := by decide +kernel
theorem dX4_comeAll_23 : decode cX4_comeAll 23 = .ok (.astore 5, 2) := by decide +kernel
theorem dX4_comeAll_25 : decode cX4_comeAll 25 = .ok (.aload 5, 2) := by decide +kernel
theorem dX4_comeAll_27 : decode cX4_comeAll 27 = .ok (.ifnull 12, 3) := by decide +kernel
theorem dX4_comeAll_30 : decode cX4_comeAll 30 = .ok (.iload_n 1, 1) := by decide +kernel
theorem dX4_comeAll_31 : decode cX4_comeAll 31 = .ok (.aload_n 0, 1) := by decide +kernel
theorem dX4_comeAll_32 : decode cX4_comeAll 32 = .ok (.aload 5, 2) := by decide +kernel
theorem dX4_comeAll_34 : decode cX4_comeAll 34 = .ok (.invokevirtual 231, 3) := by decide +kernel
theorem dX4_comeAll_37 : decode cX4_comeAll 37 = .ok (.iadd, 1) := by decide +kernel
theorem dX4_comeAll_38 : decode cX4_comeAll 38 = .ok (.istore_n 1, 1) := by decide +kernel
theorem dX4_comeAll_39 : decode cX4_comeAll 39 = .ok (.iinc 4 1, 3) := by decide +kernel
theorem dX4_comeAll_42 : decode cX4_comeAll 42 = .ok (.goto (-29), 3) := by decide +kernel
theorem dX4_comeAll_45 : decode cX4_comeAll 45 = .ok (.iload_n 1, 1) := by decide +kernel
theorem dX4_comeAll_46 : decode cX4_comeAll 46 = .ok (.ireturn, 1) := by decide +kernel
theorem dX4_comeTo_0 : decode cX4_comeTo 0 = .ok (.aload_n 1, 1) := by decide +kernel
theorem dX4_comeTo_1 : decode cX4_comeTo 1 = .ok (.getfield 131, 3) := by decide +kernel
theorem dX4_comeTo_4 : decode cX4_comeTo 4 = .ok (.iconst 0, 1) := by decide +kernel
theorem dX4_comeTo_5 : decode cX4_comeTo 5 = .ok (.invokestatic 29, 3) := by decide +kernel
theorem dX4_comeTo_8 : decode cX4_comeTo 8 = .ok (.iconst 0, 1) := by decide +kernel
theorem dX4_comeTo_9 : decode cX4_comeTo 9 = .ok (.istore_n 2, 1) := by decide +kernel
theorem dX4_comeTo_10 : decode cX4_comeTo 10 = .ok (.iconst 0, 1) := by decide +kernel
theorem dX4_comeTo_11 : decode cX4_comeTo 11 = .ok (.istore_n 3, 1) := by decide +kernel
theorem dX4_comeTo_12 : decode cX4_comeTo 12 = .ok (.iload_n 3, 1) := by decide +kernel
theorem dX4_comeTo_13 : decode cX4_comeTo 13 = .ok (.aload_n 1, 1) := by decide +kernel
theorem dX4_comeTo_14 : decode cX4_comeTo 14 = .ok (.getfield 173, 3) := by decide +kernel
theorem dX4_comeTo_17 : decode cX4_comeTo 17 = .ok (.getfield 234, 3) := by decide +kernel
theorem dX4_comeTo_20 : decode cX4_comeTo 20 = .ok (.if_icmp .ge 51, 3) := by decide +kernel
theorem dX4_comeTo_23 : decode cX4_comeTo 23 = .ok (.aload_n 0, 1) := by decide +kernel
theorem dX4_comeTo_24 : decode cX4_comeTo 24 = .ok (.aload_n 1, 1) := by decide +kernel
theorem dX4_comeTo_25 : decode cX4_comeTo 25 = .ok (.getfield 173, 3) := by decide +kernel
theorem dX4_comeTo_28 : decode cX4_comeTo 28 = .ok (.getfield 237, 3) := by decide +kernel
theorem dX4_comeTo_31 : decode cX4_comeTo 31 = .ok (.iload_n 3, 1) := by decide +kernel
theorem dX4_comeTo_32 : decode cX4_comeTo 32 = .ok (.iaload, 1) := by decide +kernel
theorem dX4_comeTo_33 : decode cX4_comeTo 33 = .ok (.invokevirtual 143, 3) := by decide +kernel
theorem dX4_comeTo_36 : decode cX4_comeTo 36 = .ok (.astore 4, 2) := by decide +kernel
theorem dX4_comeTo_38 : decode cX4_comeTo 38 = .ok (.aload 4, 2) := by decide +kernel
theorem dX4_comeTo_40 : decode cX4_comeTo 40 = .ok (.ifnull 25, 3) := by decide +kernel
theorem dX4_comeTo_43 : decode cX4_comeTo 43 = .ok (.aload_n 0, 1) := by decide +kernel
theorem dX4_comeTo_44 : decode cX4_comeTo 44 = .ok (.aload_n 1, 1) := by decide +kernel
theorem dX4_comeTo_45 : decode cX4_comeTo 45 = .ok (.aload 4, 2) := by decide +kernel
theorem dX4_comeTo_47 : decode cX4_comeTo 47 = .ok (.aload_n 1, 1) := by decide +kernel
theorem dX4_comeTo_48 : decode cX4_comeTo 48 = .ok (.getfield 173, 3) := by decide +kernel
theorem dX4_comeTo_51 : decode cX4_comeTo 51 = .ok (.getfield 240, 3) := by decide +kernel
theorem dX4_comeTo_54 : decode cX4_comeTo 54 = .ok (.iload_n 3, 1) := by decide +kernel
theorem dX4_comeTo_55 : decode cX4_comeTo 55 = .ok (.iaload, 1) := by decide +kernel
theorem dX4_comeTo_56 : decode cX4_comeTo 56 = .ok (.invokevirtual 243, 3) := by decide +kernel
theorem dX4_comeTo_59 : decode cX4_comeTo 59 = .ok (.ifCond .eq 6, 3) := by decide +kernel
theorem dX4_comeTo_62 : decode cX4_comeTo 62 = .ok (.iinc 2 1, 3) := by decide +kernel
theorem dX4_comeTo_65 : decode cX4_comeTo 65 = .ok (.iinc 3 1, 3) := by decide +kernel
theorem dX4_comeTo_68 : decode cX4_comeTo 68 = .ok (.goto (-56), 3) := by decide +kernel
theorem dX4_comeTo_71 : decode cX4_comeTo 71 = .ok (.iload_n 2, 1) := by decide +kernel
theorem dX4_comeTo_72 : decode cX4_comeTo 72 = .ok (.ireturn, 1) := by decide +kernel
theorem dX4_comeOne_0 : decode cX4_comeOne 0 = .ok (.aload_n 2, 1) := by decide +kernel
theorem dX4_comeOne_1 : decode cX4_comeOne 1 = .ok (.getfield 83, 3) := by decide +kernel
theorem dX4_comeOne_4 : decode cX4_comeOne 4 = .ok (.i2l, 1) := by decide +kernel
theorem dX4_comeOne_5 : decode cX4_comeOne 5 = .ok (.iload_n 3, 1) := by decide +kernel
theorem dX4_comeOne_6 : decode cX4_comeOne 6 = .ok (.iconst 4, 1) := by decide +kernel
theorem dX4_comeOne_7 : decode cX4_comeOne 7 = .ok (.idiv, 1) := by decide +kernel
theorem dX4_comeOne_8 : decode cX4_comeOne 8 = .ok (.invokestatic 86, 3) := by decide +kernel
theorem dX4_comeOne_11 : decode cX4_comeOne 11 = .ok (.istore 4, 2) := by decide +kernel
theorem dX4_comeOne_13 : decode cX4_comeOne 13 = .ok (.aload_n 1, 1) := by decide +kernel
theorem dX4_comeOne_14 : decode cX4_comeOne 14 = .ok (.getfield 107, 3) := by decide +kernel
theorem dX4_comeOne_17 : decode cX4_comeOne 17 = .ok (.aload_n 0, 1) := by decide +kernel
theorem dX4_comeOne_18 : decode cX4_comeOne 18 = .ok (.getfield 26, 3) := by decide +kernel
theorem dX4_comeOne_21 : decode cX4_comeOne 21 = .ok (.iload_n 3, 1) := by decide +kernel
theorem dX4_comeOne_22 : decode cX4_comeOne 22 = .ok (.iload 4, 2) := by decide +kernel
theorem dX4_comeOne_24 : decode cX4_comeOne 24 = .ok (.invokevirtual 247, 3) := by decide +kernel
theorem dX4_comeOne_27 : decode cX4_comeOne 27 = .ok (.aload_n 1, 1) := by decide +kernel
theorem dX4_comeOne_28 : decode cX4_comeOne 28 = .ok (.getfield 52, 3) := by decide +kernel
theorem dX4_comeOne_31 : decode cX4_comeOne 31 = .ok (.iload_n 3, 1) := by decide +kernel
theorem dX4_comeOne_32 : decode cX4_comeOne 32 = .ok (.iload 4, 2) := by decide +kernel
theorem dX4_comeOne_34 : decode cX4_comeOne 34 = .ok (.invokevirtual 250, 3) := by decide +kernel
theorem dX4_comeOne_37 : decode cX4_comeOne 37 = .ok (.ifCond .ne 15, 3) := by decide +kernel
theorem dX4_comeOne_40 : decode cX4_comeOne 40 = .ok (.aload_n 1, 1) := by decide +kernel
theorem dX4_comeOne_41 : decode cX4_comeOne 41 = .ok (.dup, 1) := by decide +kernel
theorem dX4_comeOne_42 : decode cX4_comeOne 42 = .ok (.getfield 134, 3) := by decide +kernel
theorem dX4_comeOne_45 : decode cX4_comeOne 45 = .ok (.iconst 1, 1) := by decide +kernel
