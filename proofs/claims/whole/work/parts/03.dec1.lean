theorem dX4_begin_45 : decode cX4_begin 45 = .ok (.aaload, 1) := by decide +kernel
theorem dX4_begin_46 : decode cX4_begin 46 = .ok (.astore 4, 2) := by decide +kernel
theorem dX4_begin_48 : decode cX4_begin 48 = .ok (.aload 4, 2) := by decide +kernel
theorem dX4_begin_50 : decode cX4_begin 50 = .ok (.ifnull 28, 3) := by decide +kernel
theorem dX4_begin_53 : decode cX4_begin 53 = .ok (.aload 4, 2) := by decide +kernel
theorem dX4_begin_55 : decode cX4_begin 55 = .ok (.getfield 173, 3) := by decide +kernel
theorem dX4_begin_58 : decode cX4_begin 58 = .ok (.invokevirtual 177, 3) := by decide +kernel
theorem dX4_begin_61 : decode cX4_begin 61 = .ok (.aload 4, 2) := by decide +kernel
theorem dX4_begin_63 : decode cX4_begin 63 = .ok (.aload_n 0, 1) := by decide +kernel
theorem dX4_begin_64 : decode cX4_begin 64 = .ok (.aload 4, 2) := by decide +kernel
theorem dX4_begin_66 : decode cX4_begin 66 = .ok (.invokevirtual 127, 3) := by decide +kernel
theorem dX4_begin_69 : decode cX4_begin 69 = .ok (.putfield 182, 3) := by decide +kernel
theorem dX4_begin_72 : decode cX4_begin 72 = .ok (.aload_n 0, 1) := by decide +kernel
theorem dX4_begin_73 : decode cX4_begin 73 = .ok (.aload 4, 2) := by decide +kernel
theorem dX4_begin_75 : decode cX4_begin 75 = .ok (.invokevirtual 185, 3) := by decide +kernel
theorem dX4_begin_78 : decode cX4_begin 78 = .ok (.iinc 3 1, 3) := by decide +kernel
theorem dX4_begin_81 : decode cX4_begin 81 = .ok (.goto (-43), 3) := by decide +kernel
theorem dX4_begin_84 : decode cX4_begin 84 = .ok (.return_, 1) := by decide +kernel
theorem dX4_beginShowing_0 : decode cX4_beginShowing 0 = .ok (.aload_n 0, 1) := by decide +kernel
theorem dX4_beginShowing_1 : decode cX4_beginShowing 1 = .ok (.getfield 11, 3) := by decide +kernel
theorem dX4_beginShowing_4 : decode cX4_beginShowing 4 = .ok (.astore_n 2, 1) := by decide +kernel
theorem dX4_beginShowing_5 : decode cX4_beginShowing 5 = .ok (.aload_n 2, 1) := by decide +kernel
theorem dX4_beginShowing_6 : decode cX4_beginShowing 6 = .ok (.arraylength, 1) := by decide +kernel
theorem dX4_beginShowing_7 : decode cX4_beginShowing 7 = .ok (.istore_n 3, 1) := by decide +kernel
theorem dX4_beginShowing_8 : decode cX4_beginShowing 8 = .ok (.iconst 0, 1) := by decide +kernel
theorem dX4_beginShowing_9 : decode cX4_beginShowing 9 = .ok (.istore 4, 2) := by decide +kernel
theorem dX4_beginShowing_11 : decode cX4_beginShowing 11 = .ok (.iload 4, 2) := by decide +kernel
theorem dX4_beginShowing_13 : decode cX4_beginShowing 13 = .ok (.iload_n 3, 1) := by decide +kernel
theorem dX4_beginShowing_14 : decode cX4_beginShowing 14 = .ok (.if_icmp .ge 37, 3) := by decide +kernel
theorem dX4_beginShowing_17 : decode cX4_beginShowing 17 = .ok (.aload_n 2, 1) := by decide +kernel
theorem dX4_beginShowing_18 : decode cX4_beginShowing 18 = .ok (.iload 4, 2) := by decide +kernel
theorem dX4_beginShowing_20 : decode cX4_beginShowing 20 = .ok (.aaload, 1) := by decide +kernel
theorem dX4_beginShowing_21 : decode cX4_beginShowing 21 = .ok (.astore 5, 2) := by decide +kernel
theorem dX4_beginShowing_23 : decode cX4_beginShowing 23 = .ok (.aload 5, 2) := by decide +kernel
theorem dX4_beginShowing_25 : decode cX4_beginShowing 25 = .ok (.ifnull 20, 3) := by decide +kernel
theorem dX4_beginShowing_28 : decode cX4_beginShowing 28 = .ok (.aload_n 1, 1) := by decide +kernel
theorem dX4_beginShowing_29 : decode cX4_beginShowing 29 = .ok (.getfield 189, 3) := by decide +kernel
theorem dX4_beginShowing_32 : decode cX4_beginShowing 32 = .ok (.aload 5, 2) := by decide +kernel
theorem dX4_beginShowing_34 : decode cX4_beginShowing 34 = .ok (.getfield 49, 3) := by decide +kernel
theorem dX4_beginShowing_37 : decode cX4_beginShowing 37 = .ok (.aload_n 0, 1) := by decide +kernel
theorem dX4_beginShowing_38 : decode cX4_beginShowing 38 = .ok (.aload_n 1, 1) := by decide +kernel
theorem dX4_beginShowing_39 : decode cX4_beginShowing 39 = .ok (.aload 5, 2) := by decide +kernel
theorem dX4_beginShowing_41 : decode cX4_beginShowing 41 = .ok (.invokevirtual 123, 3) := by decide +kernel
theorem dX4_beginShowing_44 : decode cX4_beginShowing 44 = .ok (.iastore, 1) := by decide +kernel
theorem dX4_beginShowing_45 : decode cX4_beginShowing 45 = .ok (.iinc 4 1, 3) := by decide +kernel
theorem dX4_beginShowing_48 : decode cX4_beginShowing 48 = .ok (.goto (-37), 3) := by decide +kernel
theorem dX4_beginShowing_51 : decode cX4_beginShowing 51 = .ok (.return_, 1) := by decide +kernel
theorem dX4_askAll_0 : decode cX4_askAll 0 = .ok (.aload_n 0, 1) := by decide +kernel
theorem dX4_askAll_1 : decode cX4_askAll 1 = .ok (.invokevirtual 170, 3) := by decide +kernel
theorem dX4_askAll_4 : decode cX4_askAll 4 = .ok (.istore_n 1, 1) := by decide +kernel
theorem dX4_askAll_5 : decode cX4_askAll 5 = .ok (.aload_n 0, 1) := by decide +kernel
theorem dX4_askAll_6 : decode cX4_askAll 6 = .ok (.getfield 11, 3) := by decide +kernel
theorem dX4_askAll_9 : decode cX4_askAll 9 = .ok (.astore_n 2, 1) := by decide +kernel
theorem dX4_askAll_10 : decode cX4_askAll 10 = .ok (.aload_n 2, 1) := by decide +kernel
theorem dX4_askAll_11 : decode cX4_askAll 11 = .ok (.arraylength, 1) := by decide +kernel
theorem dX4_askAll_12 : decode cX4_askAll 12 = .ok (.istore_n 3, 1) := by decide +kernel
theorem dX4_askAll_13 : decode cX4_askAll 13 = .ok (.iconst 0, 1) := by decide +kernel
theorem dX4_askAll_14 : decode cX4_askAll 14 = .ok (.istore 4, 2) := by decide +kernel
theorem dX4_askAll_16 : decode cX4_askAll 16 = .ok (.iload 4, 2) := by decide +kernel
theorem dX4_askAll_18 : decode cX4_askAll 18 = .ok (.iload_n 3, 1) := by decide +kernel
theorem dX4_askAll_19 : decode cX4_askAll 19 = .ok (.if_icmp .ge 27, 3) := by decide +kernel
theorem dX4_askAll_22 : decode cX4_askAll 22 = .ok (.aload_n 2, 1) := by decide +kernel
theorem dX4_askAll_23 : decode cX4_askAll 23 = .ok (.iload 4, 2) := by decide +kernel
theorem dX4_askAll_25 : decode cX4_askAll 25 = .ok (.aaload, 1) := by decide +kernel
theorem dX4_askAll_26 : decode cX4_askAll 26 = .ok (.astore 5, 2) := by decide +kernel
theorem dX4_askAll_28 : decode cX4_askAll 28 = .ok (.aload 5, 2) := by decide +kernel
theorem dX4_askAll_30 : decode cX4_askAll 30 = .ok (.ifnull 10, 3) := by decide +kernel
theorem dX4_askAll_33 : decode cX4_askAll 33 = .ok (.aload_n 0, 1) := by decide +kernel
theorem dX4_askAll_34 : decode cX4_askAll 34 = .ok (.aload 5, 2) := by decide +kernel
theorem dX4_askAll_36 : decode cX4_askAll 36 = .ok (.iload_n 1, 1) := by decide +kernel
theorem dX4_askAll_37 : decode cX4_askAll 37 = .ok (.invokevirtual 192, 3) := by decide +kernel
theorem dX4_askAll_40 : decode cX4_askAll 40 = .ok (.iinc 4 1, 3) := by decide +kernel
theorem dX4_askAll_43 : decode cX4_askAll 43 = .ok (.goto (-27), 3) := by decide +kernel
theorem dX4_askAll_46 : decode cX4_askAll 46 = .ok (.return_, 1) := by decide +kernel
theorem dX4_askOthers_0 : decode cX4_askOthers 0 = .ok (.iload_n 2, 1) := by decide +kernel
theorem dX4_askOthers_1 : decode cX4_askOthers 1 = .ok (.aload_n 1, 1) := by decide +kernel
theorem dX4_askOthers_2 : decode cX4_askOthers 2 = .ok (.getfield 52, 3) := by decide +kernel
theorem dX4_askOthers_5 : decode cX4_askOthers 5 = .ok (.getfield 56, 3) := by decide +kernel
theorem dX4_askOthers_8 : decode cX4_askOthers 8 = .ok (.iconst (-1), 1) := by decide +kernel
theorem dX4_askOthers_9 : decode cX4_askOthers 9 = .ok (.ixor, 1) := by decide +kernel
theorem dX4_askOthers_10 : decode cX4_askOthers 10 = .ok (.iand, 1) := by decide +kernel
theorem dX4_askOthers_11 : decode cX4_askOthers 11 = .ok (.invokestatic 196, 3) := by decide +kernel
theorem dX4_askOthers_14 : decode cX4_askOthers 14 = .ok (.aload_n 1, 1) := by decide +kernel
theorem dX4_askOthers_15 : decode cX4_askOthers 15 = .ok (.getfield 52, 3) := by decide +kernel
theorem dX4_askOthers_18 : decode cX4_askOthers 18 = .ok (.getfield 116, 3) := by decide +kernel
theorem dX4_askOthers_21 : decode cX4_askOthers 21 = .ok (.ldc2_w 200, 3) := by decide +kernel
theorem dX4_askOthers_24 : decode cX4_askOthers 24 = .ok (.lxor, 1) := by decide +kernel
theorem dX4_askOthers_25 : decode cX4_askOthers 25 = .ok (.land, 1) := by decide +kernel
theorem dX4_askOthers_26 : decode cX4_askOthers 26 = .ok (.lstore_n 3, 1) := by decide +kernel
theorem dX4_askOthers_27 : decode cX4_askOthers 27 = .ok (.aload_n 0, 1) := by decide +kernel
theorem dX4_askOthers_28 : decode cX4_askOthers 28 = .ok (.getfield 11, 3) := by decide +kernel
theorem dX4_askOthers_31 : decode cX4_askOthers 31 = .ok (.astore 5, 2) := by decide +kernel
theorem dX4_askOthers_33 : decode cX4_askOthers 33 = .ok (.aload 5, 2) := by decide +kernel
theorem dX4_askOthers_35 : decode cX4_askOthers 35 = .ok (.arraylength, 1) := by decide +kernel
theorem dX4_askOthers_36 : decode cX4_askOthers 36 = .ok (.istore 6, 2) := by decide +kernel
theorem dX4_askOthers_38 : decode cX4_askOthers 38 = .ok (.iconst 0, 1) := by decide +kernel
theorem dX4_askOthers_39 : decode cX4_askOthers 39 = .ok (.istore 7, 2) := by decide +kernel
theorem dX4_askOthers_41 : decode cX4_askOthers 41 = .ok (.iload 7, 2) := by decide +kernel
theorem dX4_askOthers_43 : decode cX4_askOthers 43 = .ok (.iload 6, 2) := by decide +kernel
theorem dX4_askOthers_45 : decode cX4_askOthers 45 = .ok (.if_icmp .ge 45, 3) := by decide +kernel
theorem dX4_askOthers_48 : decode cX4_askOthers 48 = .ok (.aload 5, 2) := by decide +kernel
theorem dX4_askOthers_50 : decode cX4_askOthers 50 = .ok (.iload 7, 2) := by decide +kernel
theorem dX4_askOthers_52 : decode cX4_askOthers 52 = .ok (.aaload, 1) := by decide +kernel
theorem dX4_askOthers_53 : decode cX4_askOthers 53 = .ok (.astore 8, 2) := by decide +kernel
theorem dX4_askOthers_55 : decode cX4_askOthers 55 = .ok (.aload 8, 2) := by decide +kernel
theorem dX4_askOthers_57 : decode cX4_askOthers 57 = .ok (.ifnull 27, 3) := by decide +kernel
theorem dX4_askOthers_60 : decode cX4_askOthers 60 = .ok (.aload 8, 2) := by decide +kernel
theorem dX4_askOthers_62 : decode cX4_askOthers 62 = .ok (.getfield 182, 3) := by decide +kernel
theorem dX4_askOthers_65 : decode cX4_askOthers 65 = .ok (.i2l, 1) := by decide +kernel
theorem dX4_askOthers_66 : decode cX4_askOthers 66 = .ok (.aload_n 1, 1) := by decide +kernel
theorem dX4_askOthers_67 : decode cX4_askOthers 67 = .ok (.getfield 49, 3) := by decide +kernel
theorem dX4_askOthers_70 : decode cX4_askOthers 70 = .ok (.invokestatic 86, 3) := by decide +kernel
theorem dX4_askOthers_73 : decode cX4_askOthers 73 = .ok (.ifCond .eq 11, 3) := by decide +kernel
theorem dX4_askOthers_76 : decode cX4_askOthers 76 = .ok (.aload_n 0, 1) := by decide +kernel
theorem dX4_askOthers_77 : decode cX4_askOthers 77 = .ok (.aload_n 1, 1) := by decide +kernel
theorem dX4_askOthers_78 : decode cX4_askOthers 78 = .ok (.aload 8, 2) := by decide +kernel
theorem dX4_askOthers_80 : decode cX4_askOthers 80 = .ok (.lload_n 3, 1) := by decide +kernel
theorem dX4_askOthers_81 : decode cX4_askOthers 81 = .ok (.invokevirtual 202, 3) := by decide +kernel
theorem dX4_askOthers_84 : decode cX4_askOthers 84 = .ok (.iinc 7 1, 3) := by decide +kernel
theorem dX4_askOthers_87 : decode cX4_askOthers 87 = .ok (.goto (-46), 3) := by decide +kernel
theorem dX4_askOthers_90 : decode cX4_askOthers 90 = .ok (.return_, 1) := by decide +kernel
theorem dX4_askOne_0 : decode cX4_askOne 0 = .ok (.lload_n 3, 1) := by decide +kernel
theorem dX4_askOne_1 : decode cX4_askOne 1 = .ok (.aload_n 2, 1) := by decide +kernel
theorem dX4_askOne_2 : decode cX4_askOne 2 = .ok (.getfield 189, 3) := by decide +kernel
theorem dX4_askOne_5 : decode cX4_askOne 5 = .ok (.aload_n 1, 1) := by decide +kernel
theorem dX4_askOne_6 : decode cX4_askOne 6 = .ok (.getfield 49, 3) := by decide +kernel
theorem dX4_askOne_9 : decode cX4_askOne 9 = .ok (.iaload, 1) := by decide +kernel
theorem dX4_askOne_10 : decode cX4_askOne 10 = .ok (.invokestatic 196, 3) := by decide +kernel
theorem dX4_askOne_13 : decode cX4_askOne 13 = .ok (.land, 1) := by decide +kernel
theorem dX4_askOne_14 : decode cX4_askOne 14 = .ok (.lstore 5, 2) := by decide +kernel
theorem dX4_askOne_16 : decode cX4_askOne 16 = .ok (.lload 5, 2) := by decide +kernel
theorem dX4_askOne_18 : decode cX4_askOne 18 = .ok (.aload_n 1, 1) := by decide +kernel
theorem dX4_askOne_19 : decode cX4_askOne 19 = .ok (.getfield 173, 3) := by decide +kernel
theorem dX4_askOne_22 : decode cX4_askOne 22 = .ok (.getfield 206, 3) := by decide +kernel
theorem dX4_askOne_25 : decode cX4_askOne 25 = .ok (.ldc2_w 200, 3) := by decide +kernel
theorem dX4_askOne_28 : decode cX4_askOne 28 = .ok (.lxor, 1) := by decide +kernel
theorem dX4_askOne_29 : decode cX4_askOne 29 = .ok (.land, 1) := by decide +kernel
theorem dX4_askOne_30 : decode cX4_askOne 30 = .ok (.lstore 7, 2) := by decide +kernel
theorem dX4_askOne_32 : decode cX4_askOne 32 = .ok (.lload 7, 2) := by decide +kernel
theorem dX4_askOne_34 : decode cX4_askOne 34 = .ok (.lconst 0, 1) := by decide +kernel
theorem dX4_askOne_35 : decode cX4_askOne 35 = .ok (.lcmp, 1) := by decide +kernel
theorem dX4_askOne_36 : decode cX4_askOne 36 = .ok (.ifCond .eq 37, 3) := by decide +kernel
theorem dX4_askOne_39 : decode cX4_askOne 39 = .ok (.aload_n 0, 1) := by decide +kernel
theorem dX4_askOne_40 : decode cX4_askOne 40 = .ok (.aload_n 1, 1) := by decide +kernel
theorem dX4_askOne_41 : decode cX4_askOne 41 = .ok (.lload 7, 2) := by decide +kernel
theorem dX4_askOne_43 : decode cX4_askOne 43 = .ok (.invokevirtual 209, 3) := by decide +kernel
theorem dX4_askOne_46 : decode cX4_askOne 46 = .ok (.istore 9, 2) := by decide +kernel
theorem dX4_askOne_48 : decode cX4_askOne 48 = .ok (.aload_n 1, 1) := by decide +kernel
theorem dX4_askOne_49 : decode cX4_askOne 49 = .ok (.getfield 173, 3) := by decide +kernel
theorem dX4_askOne_52 : decode cX4_askOne 52 = .ok (.lload 7, 2) := by decide +kernel
theorem dX4_askOne_54 : decode cX4_askOne 54 = .ok (.iload 9, 2) := by decide +kernel
theorem dX4_askOne_56 : decode cX4_askOne 56 = .ok (.invokestatic 213, 3) := by decide +kernel
theorem dX4_askOne_59 : decode cX4_askOne 59 = .ok (.land, 1) := by decide +kernel
theorem dX4_askOne_60 : decode cX4_askOne 60 = .ok (.invokestatic 216, 3) := by decide +kernel
theorem dX4_askOne_63 : decode cX4_askOne 63 = .ok (.aload_n 2, 1) := by decide +kernel
theorem dX4_askOne_64 : decode cX4_askOne 64 = .ok (.getfield 49, 3) := by decide +kernel
theorem dX4_askOne_67 : decode cX4_askOne 67 = .ok (.invokevirtual 220, 3) := by decide +kernel
theorem dX4_askOne_70 : decode cX4_askOne 70 = .ok (.goto 44, 3) := by decide +kernel
theorem dX4_askOne_73 : decode cX4_askOne 73 = .ok (.lload_n 3, 1) := by decide +kernel
theorem dX4_askOne_74 : decode cX4_askOne 74 = .ok (.aload_n 1, 1) := by decide +kernel
theorem dX4_askOne_75 : decode cX4_askOne 75 = .ok (.getfield 173, 3) := by decide +kernel
theorem dX4_askOne_78 : decode cX4_askOne 78 = .ok (.getfield 206, 3) := by decide +kernel
theorem dX4_askOne_81 : decode cX4_askOne 81 = .ok (.ldc2_w 200, 3) := by decide +kernel
theorem dX4_askOne_84 : decode cX4_askOne 84 = .ok (.lxor, 1) := by decide +kernel
theorem dX4_askOne_85 : decode cX4_askOne 85 = .ok (.land, 1) := by decide +kernel
theorem dX4_askOne_86 : decode cX4_askOne 86 = .ok (.lconst 0, 1) := by decide +kernel
theorem dX4_askOne_87 : decode cX4_askOne 87 = .ok (.lcmp, 1) := by decide +kernel
theorem dX4_askOne_88 : decode cX4_askOne 88 = .ok (.ifCond .ne 26, 3) := by decide +kernel
theorem dX4_askOne_91 : decode cX4_askOne 91 = .ok (.lload 5, 2) := by decide +kernel
theorem dX4_askOne_93 : decode cX4_askOne 93 = .ok (.lconst 0, 1) := by decide +kernel
theorem dX4_askOne_94 : decode cX4_askOne 94 = .ok (.lcmp, 1) := by decide +kernel
theorem dX4_askOne_95 : decode cX4_askOne 95 = .ok (.ifCond .eq 19, 3) := by decide +kernel
theorem dX4_askOne_98 : decode cX4_askOne 98 = .ok (.aload_n 1, 1) := by decide +kernel
theorem dX4_askOne_99 : decode cX4_askOne 99 = .ok (.getfield 173, 3) := by decide +kernel
theorem dX4_askOne_102 : decode cX4_askOne 102 = .ok (.lload 5, 2) := by decide +kernel
theorem dX4_askOne_104 : decode cX4_askOne 104 = .ok (.invokestatic 216, 3) := by decide +kernel
theorem dX4_askOne_107 : decode cX4_askOne 107 = .ok (.aload_n 2, 1) := by decide +kernel
theorem dX4_askOne_108 : decode cX4_askOne 108 = .ok (.getfield 49, 3) := by decide +kernel
theorem dX4_askOne_111 : decode cX4_askOne 111 = .ok (.invokevirtual 220, 3) := by decide +kernel
theorem dX4_askOne_114 : decode cX4_askOne 114 = .ok (.return_, 1) := by decide +kernel
theorem dX4_findBestPiece_0 : decode cX4_findBestPiece 0 = .ok (.iconst (-1), 1) := by decide +kernel
theorem dX4_findBestPiece_1 : decode cX4_findBestPiece 1 = .ok (.istore 4, 2) := by decide +kernel
theorem dX4_findBestPiece_3 : decode cX4_findBestPiece 3 = .ok (.iconst 0, 1) := by decide +kernel
theorem dX4_findBestPiece_4 : decode cX4_findBestPiece 4 = .ok (.istore 5, 2) := by decide +kernel
theorem dX4_findBestPiece_6 : decode cX4_findBestPiece 6 = .ok (.iload 5, 2) := by decide +kernel
theorem dX4_findBestPiece_8 : decode cX4_findBestPiece 8 = .ok (.bipush 12, 2) := by decide +kernel
theorem dX4_findBestPiece_10 : decode cX4_findBestPiece 10 = .ok (.if_icmp .ge 43, 3) := by decide +kernel
theorem dX4_findBestPiece_13 : decode cX4_findBestPiece 13 = .ok (.lload_n 2, 1) := by decide +kernel
theorem dX4_findBestPiece_14 : decode cX4_findBestPiece 14 = .ok (.iload 5, 2) := by decide +kernel
theorem dX4_findBestPiece_16 : decode cX4_findBestPiece 16 = .ok (.invokestatic 213, 3) := by decide +kernel
theorem dX4_findBestPiece_19 : decode cX4_findBestPiece 19 = .ok (.land, 1) := by decide +kernel
theorem dX4_findBestPiece_20 : decode cX4_findBestPiece 20 = .ok (.lconst 0, 1) := by decide +kernel
theorem dX4_findBestPiece_21 : decode cX4_findBestPiece 21 = .ok (.lcmp, 1) := by decide +kernel
theorem dX4_findBestPiece_22 : decode cX4_findBestPiece 22 = .ok (.ifCond .eq 25, 3) := by decide +kernel
theorem dX4_findBestPiece_25 : decode cX4_findBestPiece 25 = .ok (.iload 4, 2) := by decide +kernel
theorem dX4_findBestPiece_27 : decode cX4_findBestPiece 27 = .ok (.iconst (-1), 1) := by decide +kernel
theorem dX4_findBestPiece_28 : decode cX4_findBestPiece 28 = .ok (.if_icmp .eq 15, 3) := by decide +kernel
theorem dX4_findBestPiece_31 : decode cX4_findBestPiece 31 = .ok (.aload_n 0, 1) := by decide +kernel
theorem dX4_findBestPiece_32 : decode cX4_findBestPiece 32 = .ok (.aload_n 1, 1) := by decide +kernel
theorem dX4_findBestPiece_33 : decode cX4_findBestPiece 33 = .ok (.iload 5, 2) := by decide +kernel
theorem dX4_findBestPiece_35 : decode cX4_findBestPiece 35 = .ok (.iload 4, 2) := by decide +kernel
theorem dX4_findBestPiece_37 : decode cX4_findBestPiece 37 = .ok (.invokevirtual 223, 3) := by decide +kernel
theorem dX4_findBestPiece_40 : decode cX4_findBestPiece 40 = .ok (.ifCond .eq 7, 3) := by decide +kernel
theorem dX4_findBestPiece_43 : decode cX4_findBestPiece 43 = .ok (.iload 5, 2) := by decide +kernel
theorem dX4_findBestPiece_45 : decode cX4_findBestPiece 45 = .ok (.istore 4, 2) := by decide +kernel
theorem dX4_findBestPiece_47 : decode cX4_findBestPiece 47 = .ok (.iinc 5 1, 3) := by decide +kernel
theorem dX4_findBestPiece_50 : decode cX4_findBestPiece 50 = .ok (.goto (-44), 3) := by decide +kernel
theorem dX4_findBestPiece_53 : decode cX4_findBestPiece 53 = .ok (.iload 4, 2) := by decide +kernel
theorem dX4_findBestPiece_55 : decode cX4_findBestPiece 55 = .ok (.ireturn, 1) := by decide +kernel
theorem dX4_isBetter_0 : decode cX4_isBetter 0 = .ok (.aload_n 1, 1) := by decide +kernel
theorem dX4_isBetter_1 : decode cX4_isBetter 1 = .ok (.iload_n 2, 1) := by decide +kernel
theorem dX4_isBetter_2 : decode cX4_isBetter 2 = .ok (.invokestatic 227, 3) := by decide +kernel
theorem dX4_isBetter_5 : decode cX4_isBetter 5 = .ok (.istore 4, 2) := by decide +kernel
theorem dX4_isBetter_7 : decode cX4_isBetter 7 = .ok (.iload 4, 2) := by decide +kernel
theorem dX4_isBetter_9 : decode cX4_isBetter 9 = .ok (.aload_n 1, 1) := by decide +kernel
theorem dX4_isBetter_10 : decode cX4_isBetter 10 = .ok (.iload_n 3, 1) := by decide +kernel
theorem dX4_isBetter_11 : decode cX4_isBetter 11 = .ok (.invokestatic 227, 3) := by decide +kernel
theorem dX4_isBetter_14 : decode cX4_isBetter 14 = .ok (.if_icmp .eq 6, 3) := by decide +kernel
theorem dX4_isBetter_17 : decode cX4_isBetter 17 = .ok (.iload 4, 2) := by decide +kernel
theorem dX4_isBetter_19 : decode cX4_isBetter 19 = .ok (.ireturn, 1) := by decide +kernel
theorem dX4_isBetter_20 : decode cX4_isBetter 20 = .ok (.aload_n 0, 1) := by decide +kernel
theorem dX4_isBetter_21 : decode cX4_isBetter 21 = .ok (.getfield 15, 3) := by decide +kernel
theorem dX4_isBetter_24 : decode cX4_isBetter 24 = .ok (.iload_n 2, 1) := by decide +kernel
theorem dX4_isBetter_25 : decode cX4_isBetter 25 = .ok (.iaload, 1) := by decide +kernel
theorem dX4_isBetter_26 : decode cX4_isBetter 26 = .ok (.aload_n 0, 1) := by decide +kernel
theorem dX4_isBetter_27 : decode cX4_isBetter 27 = .ok (.getfield 15, 3) := by decide +kernel
theorem dX4_isBetter_30 : decode cX4_isBetter 30 = .ok (.iload_n 3, 1) := by decide +kernel
theorem dX4_isBetter_31 : decode cX4_isBetter 31 = .ok (.iaload, 1) := by decide +kernel
theorem dX4_isBetter_32 : decode cX4_isBetter 32 = .ok (.if_icmp .eq 24, 3) := by decide +kernel
theorem dX4_isBetter_35 : decode cX4_isBetter 35 = .ok (.aload_n 0, 1) := by decide +kernel
theorem dX4_isBetter_36 : decode cX4_isBetter 36 = .ok (.getfield 15, 3) := by decide +kernel
theorem dX4_isBetter_39 : decode cX4_isBetter 39 = .ok (.iload_n 2, 1) := by decide +kernel
theorem dX4_isBetter_40 : decode cX4_isBetter 40 = .ok (.iaload, 1) := by decide +kernel
theorem dX4_isBetter_41 : decode cX4_isBetter 41 = .ok (.aload_n 0, 1) := by decide +kernel
theorem dX4_isBetter_42 : decode cX4_isBetter 42 = .ok (.getfield 15, 3) := by decide +kernel
theorem dX4_isBetter_45 : decode cX4_isBetter 45 = .ok (.iload_n 3, 1) := by decide +kernel
theorem dX4_isBetter_46 : decode cX4_isBetter 46 = .ok (.iaload, 1) := by decide +kernel
theorem dX4_isBetter_47 : decode cX4_isBetter 47 = .ok (.if_icmp .le 7, 3) := by decide +kernel
theorem dX4_isBetter_50 : decode cX4_isBetter 50 = .ok (.iconst 1, 1) := by decide +kernel
theorem dX4_isBetter_51 : decode cX4_isBetter 51 = .ok (.goto 4, 3) := by decide +kernel
theorem dX4_isBetter_54 : decode cX4_isBetter 54 = .ok (.iconst 0, 1) := by decide +kernel
theorem dX4_isBetter_55 : decode cX4_isBetter 55 = .ok (.ireturn, 1) := by decide +kernel
theorem dX4_isBetter_56 : decode cX4_isBetter 56 = .ok (.aload_n 1, 1) := by decide +kernel
theorem dX4_isBetter_57 : decode cX4_isBetter 57 = .ok (.getfield 76, 3) := by decide +kernel
theorem dX4_isBetter_60 : decode cX4_isBetter 60 = .ok (.ifCond .ne 39, 3) := by decide +kernel
theorem dX4_isBetter_63 : decode cX4_isBetter 63 = .ok (.aload_n 0, 1) := by decide +kernel
theorem dX4_isBetter_64 : decode cX4_isBetter 64 = .ok (.getfield 19, 3) := by decide +kernel
theorem dX4_isBetter_67 : decode cX4_isBetter 67 = .ok (.iload_n 2, 1) := by decide +kernel
theorem dX4_isBetter_68 : decode cX4_isBetter 68 = .ok (.iaload, 1) := by decide +kernel
theorem dX4_isBetter_69 : decode cX4_isBetter 69 = .ok (.aload_n 0, 1) := by decide +kernel
theorem dX4_isBetter_70 : decode cX4_isBetter 70 = .ok (.getfield 19, 3) := by decide +kernel
theorem dX4_isBetter_73 : decode cX4_isBetter 73 = .ok (.iload_n 3, 1) := by decide +kernel
theorem dX4_isBetter_74 : decode cX4_isBetter 74 = .ok (.iaload, 1) := by decide +kernel
theorem dX4_isBetter_75 : decode cX4_isBetter 75 = .ok (.if_icmp .eq 24, 3) := by decide +kernel
theorem dX4_isBetter_78 : decode cX4_isBetter 78 = .ok (.aload_n 0, 1) := by decide +kernel
theorem dX4_isBetter_79 : decode cX4_isBetter 79 = .ok (.getfield 19, 3) := by decide +kernel
theorem dX4_isBetter_82 : decode cX4_isBetter 82 = .ok (.iload_n 2, 1) := by decide +kernel
theorem dX4_isBetter_83 : decode cX4_isBetter 83 = .ok (.iaload, 1) := by decide +kernel
theorem dX4_isBetter_84 : decode cX4_isBetter 84 = .ok (.aload_n 0, 1) := by decide +kernel
theorem dX4_isBetter_85 : decode cX4_isBetter 85 = .ok (.getfield 19, 3) := by decide +kernel
theorem dX4_isBetter_88 : decode cX4_isBetter 88 = .ok (.iload_n 3, 1) := by decide +kernel
theorem dX4_isBetter_89 : decode cX4_isBetter 89 = .ok (.iaload, 1) := by decide +kernel
theorem dX4_isBetter_90 : decode cX4_isBetter 90 = .ok (.if_icmp .ge 7, 3) := by decide +kernel
theorem dX4_isBetter_93 : decode cX4_isBetter 93 = .ok (.iconst 1, 1) := by decide +kernel
theorem dX4_isBetter_94 : decode cX4_isBetter 94 = .ok (.goto 4, 3) := by decide +kernel
theorem dX4_isBetter_97 : decode cX4_isBetter 97 = .ok (.iconst 0, 1) := by decide +kernel
theorem dX4_isBetter_98 : decode cX4_isBetter 98 = .ok (.ireturn, 1) := by decide +kernel
theorem dX4_isBetter_99 : decode cX4_isBetter 99 = .ok (.iload_n 2, 1) := by decide +kernel
theorem dX4_isBetter_100 : decode cX4_isBetter 100 = .ok (.iload_n 3, 1) := by decide +kernel
theorem dX4_isBetter_101 : decode cX4_isBetter 101 = .ok (.if_icmp .ge 7, 3) := by decide +kernel
theorem dX4_isBetter_104 : decode cX4_isBetter 104 = .ok (.iconst 1, 1) := by decide +kernel
theorem dX4_isBetter_105 : decode cX4_isBetter 105 = .ok (.goto 4, 3) := by decide +kernel
theorem dX4_isBetter_108 : decode cX4_isBetter 108 = .ok (.iconst 0, 1) := by decide +kernel
theorem dX4_isBetter_109 : decode cX4_isBetter 109 = .ok (.ireturn, 1) := by decide +kernel
theorem dX4_isBegun_0 : decode cX4_isBegun 0 = .ok (.aload_n 0, 1) := by decide +kernel
theorem dX4_isBegun_1 : decode cX4_isBegun 1 = .ok (.getfield 52, 3) := by decide +kernel
theorem dX4_isBegun_4 : decode cX4_isBegun 4 = .ok (.getfield 116, 3) := by decide +kernel
theorem dX4_isBegun_7 : decode cX4_isBegun 7 = .ok (.aload_n 0, 1) := by decide +kernel
theorem dX4_isBegun_8 : decode cX4_isBegun 8 = .ok (.getfield 173, 3) := by decide +kernel
theorem dX4_isBegun_11 : decode cX4_isBegun 11 = .ok (.getfield 206, 3) := by decide +kernel
theorem dX4_isBegun_14 : decode cX4_isBegun 14 = .ok (.lor, 1) := by decide +kernel
theorem dX4_isBegun_15 : decode cX4_isBegun 15 = .ok (.iload_n 1, 1) := by decide +kernel
theorem dX4_isBegun_16 : decode cX4_isBegun 16 = .ok (.invokestatic 213, 3) := by decide +kernel
theorem dX4_isBegun_19 : decode cX4_isBegun 19 = .ok (.land, 1) := by decide +kernel
theorem dX4_isBegun_20 : decode cX4_isBegun 20 = .ok (.lconst 0, 1) := by decide +kernel
theorem dX4_isBegun_21 : decode cX4_isBegun 21 = .ok (.lcmp, 1) := by decide +kernel
theorem dX4_isBegun_22 : decode cX4_isBegun 22 = .ok (.ifCond .eq 7, 3) := by decide +kernel
theorem dX4_isBegun_25 : decode cX4_isBegun 25 = .ok (.iconst 1, 1) := by decide +kernel
theorem dX4_isBegun_26 : decode cX4_isBegun 26 = .ok (.goto 4, 3) := by decide +kernel
theorem dX4_isBegun_29 : decode cX4_isBegun 29 = .ok (.iconst 0, 1) := by decide +kernel
theorem dX4_isBegun_30 : decode cX4_isBegun 30 = .ok (.ireturn, 1) := by decide +kernel
theorem dX4_comeAll_0 : decode cX4_comeAll 0 = .ok (.iconst 0, 1) := by decide +kernel
theorem dX4_comeAll_1 : decode cX4_comeAll 1 = .ok (.istore_n 1, 1) := by decide +kernel
theorem dX4_comeAll_2 : decode cX4_comeAll 2 = .ok (.aload_n 0, 1) := by decide +kernel
theorem dX4_comeAll_3 : decode cX4_comeAll 3 = .ok (.getfield 11, 3) := by decide +kernel
theorem dX4_comeAll_6 : decode cX4_comeAll 6 = .ok (.astore_n 2, 1) := by decide +kernel
theorem dX4_comeAll_7 : decode cX4_comeAll 7 = .ok (.aload_n 2, 1) := by decide +kernel
theorem dX4_comeAll_8 : decode cX4_comeAll 8 = .ok (.arraylength, 1) := by decide +kernel
theorem dX4_comeAll_9 : decode cX4_comeAll 9 = .ok (.istore_n 3, 1) := by decide +kernel
theorem dX4_comeAll_10 : decode cX4_comeAll 10 = .ok (.iconst 0, 1) := by decide +kernel
theorem dX4_comeAll_11 : decode cX4_comeAll 11 = .ok (.istore 4, 2) := by decide +kernel
theorem dX4_comeAll_13 : decode cX4_comeAll 13 = .ok (.iload 4, 2) := by decide +kernel
theorem dX4_comeAll_15 : decode cX4_comeAll 15 = .ok (.iload_n 3, 1) := by decide +kernel
theorem dX4_comeAll_16 : decode cX4_comeAll 16 = .ok (.if_icmp .ge 29, 3) := by decide +kernel
theorem dX4_comeAll_19 : decode cX4_comeAll 19 = .ok (.aload_n 2, 1) := by decide +kernel
theorem dX4_comeAll_20 : decode cX4_comeAll 20 = .ok (.iload 4, 2) := by decide +kernel
theorem dX4_comeAll_22 : decode cX4_comeAll 22 = .ok (.aaload, 1) := by decide +kernel
theorem dX4_comeAll_23 : decode cX4_comeAll 23 = .ok (.astore 5, 2) := by decide +kernel
theorem dX4_comeAll_25 : decode cX4_comeAll 25 = .ok (.aload 5, 2) := by decide +kernel
theorem dX4_comeAll_27 : decode cX4_comeAll 27 = .ok (.ifnull 12, 3) := by decide +kernel
theorem dX4_comeAll_30 : decode cX4_comeAll 30 = .ok (.iload_n 1, 1) := by decide +kernel
theorem dX4_comeAll_31 : decode cX4_comeAll 31 = .ok (.aload_n 0, 1) := by decide +kernel
theorem dX4_comeAll_32 : decode cX4_comeAll 32 = .ok (.aload 5, 2) := by decide +kernel
theorem dX4_comeAll_34 : decode cX4_comeAll 34 = .ok (.invokevirtual 231, 3) := by decide +kernel
theorem dX4_comeAll_37 : decode cX4_comeAll 37 = .ok (.iadd, 1) := by decide +kernel
theorem dX4_comeAll_38 : decode cX4_comeAll 38 = .ok (.istore_n 1, 1) := by decide +kernel
theorem dX4_comeAll_39 : decode cX4_comeAll 39 = .ok (.iinc 4 1, 3) := by decide +kernel
theorem dX4_comeAll_42 : decode cX4_comeAll 42 = .ok (.goto (-29), 3) := by decide +kernel
theorem dX4_comeAll_45 : decode cX4_comeAll 45 = .ok (.iload_n 1, 1) := by decide +kernel
theorem dX4_comeAll_46 : decode cX4_comeAll 46 = .ok (.ireturn, 1) := by decide +kernel
theorem dX4_comeTo_0 : decode cX4_comeTo 0 = .ok (.aload_n 1, 1) := by decide +kernel
theorem dX4_comeTo_1 : decode cX4_comeTo 1 = .ok (.getfield 131, 3) := by decide +kernel
theorem dX4_comeTo_4 : decode cX4_comeTo 4 = .ok (.iconst 0, 1) := by decide +kernel
theorem dX4_comeTo_5 : decode cX4_comeTo 5 = .ok (.invokestatic 29, 3) := by decide +kernel
theorem dX4_comeTo_8 : decode cX4_comeTo 8 = .ok (.iconst 0, 1) := by decide +kernel
theorem dX4_comeTo_9 : decode cX4_comeTo 9 = .ok (.istore_n 2, 1) := by decide +kernel
theorem dX4_comeTo_10 : decode cX4_comeTo 10 = .ok (.iconst 0, 1) := by decide +kernel
theorem dX4_comeTo_11 : decode cX4_comeTo 11 = .ok (.istore_n 3, 1) := by decide +kernel
theorem dX4_comeTo_12 : decode cX4_comeTo 12 = .ok (.iload_n 3, 1) := by decide +kernel
theorem dX4_comeTo_13 : decode cX4_comeTo 13 = .ok (.aload_n 1, 1) := by decide +kernel
theorem dX4_comeTo_14 : decode cX4_comeTo 14 = .ok (.getfield 173, 3) := by decide +kernel
theorem dX4_comeTo_17 : decode cX4_comeTo 17 = .ok (.getfield 234, 3) := by decide +kernel
theorem dX4_comeTo_20 : decode cX4_comeTo 20 = .ok (.if_icmp .ge 51, 3) := by decide +kernel
theorem dX4_comeTo_23 : decode cX4_comeTo 23 = .ok (.aload_n 0, 1) := by decide +kernel
theorem dX4_comeTo_24 : decode cX4_comeTo 24 = .ok (.aload_n 1, 1) := by decide +kernel
theorem dX4_comeTo_25 : decode cX4_comeTo 25 = .ok (.getfield 173, 3) := by decide +kernel
theorem dX4_comeTo_28 : decode cX4_comeTo 28 = .ok (.getfield 237, 3) := by decide +kernel
theorem dX4_comeTo_31 : decode cX4_comeTo 31 = .ok (.iload_n 3, 1) := by decide +kernel
theorem dX4_comeTo_32 : decode cX4_comeTo 32 = .ok (.iaload, 1) := by decide +kernel
theorem dX4_comeTo_33 : decode cX4_comeTo 33 = .ok (.invokevirtual 143, 3) := by decide +kernel
theorem dX4_comeTo_36 : decode cX4_comeTo 36 = .ok (.astore 4, 2) := by decide +kernel
theorem dX4_comeTo_38 : decode cX4_comeTo 38 = .ok (.aload 4, 2) := by decide +kernel
theorem dX4_comeTo_40 : decode cX4_comeTo 40 = .ok (.ifnull 25, 3) := by decide +kernel
theorem dX4_comeTo_43 : decode cX4_comeTo 43 = .ok (.aload_n 0, 1) := by decide +kernel
theorem dX4_comeTo_44 : decode cX4_comeTo 44 = .ok (.aload_n 1, 1) := by decide +kernel
theorem dX4_comeTo_45 : decode cX4_comeTo 45 = .ok (.aload 4, 2) := by decide +kernel
theorem dX4_comeTo_47 : decode cX4_comeTo 47 = .ok (.aload_n 1, 1) := by decide +kernel
theorem dX4_comeTo_48 : decode cX4_comeTo 48 = .ok (.getfield 173, 3) := by decide +kernel
theorem dX4_comeTo_51 : decode cX4_comeTo 51 = .ok (.getfield 240, 3) := by decide +kernel
theorem dX4_comeTo_54 : decode cX4_comeTo 54 = .ok (.iload_n 3, 1) := by decide +kernel
theorem dX4_comeTo_55 : decode cX4_comeTo 55 = .ok (.iaload, 1) := by decide +kernel
theorem dX4_comeTo_56 : decode cX4_comeTo 56 = .ok (.invokevirtual 243, 3) := by decide +kernel
theorem dX4_comeTo_59 : decode cX4_comeTo 59 = .ok (.ifCond .eq 6, 3) := by decide +kernel
theorem dX4_comeTo_62 : decode cX4_comeTo 62 = .ok (.iinc 2 1, 3) := by decide +kernel
theorem dX4_comeTo_65 : decode cX4_comeTo 65 = .ok (.iinc 3 1, 3) := by decide +kernel
theorem dX4_comeTo_68 : decode cX4_comeTo 68 = .ok (.goto (-56), 3) := by decide +kernel
theorem dX4_comeTo_71 : decode cX4_comeTo 71 = .ok (.iload_n 2, 1) := by decide +kernel
theorem dX4_comeTo_72 : decode cX4_comeTo 72 = .ok (.ireturn, 1) := by decide +kernel
theorem dX4_comeOne_0 : decode cX4_comeOne 0 = .ok (.aload_n 2, 1) := by decide +kernel
theorem dX4_comeOne_1 : decode cX4_comeOne 1 = .ok (.getfield 83, 3) := by decide +kernel
theorem dX4_comeOne_4 : decode cX4_comeOne 4 = .ok (.i2l, 1) := by decide +kernel
theorem dX4_comeOne_5 : decode cX4_comeOne 5 = .ok (.iload_n 3, 1) := by decide +kernel
theorem dX4_comeOne_6 : decode cX4_comeOne 6 = .ok (.iconst 4, 1) := by decide +kernel
theorem dX4_comeOne_7 : decode cX4_comeOne 7 = .ok (.idiv, 1) := by decide +kernel
theorem dX4_comeOne_8 : decode cX4_comeOne 8 = .ok (.invokestatic 86, 3) := by decide +kernel
theorem dX4_comeOne_11 : decode cX4_comeOne 11 = .ok (.istore 4, 2) := by decide +kernel
theorem dX4_comeOne_13 : decode cX4_comeOne 13 = .ok (.aload_n 1, 1) := by decide +kernel
theorem dX4_comeOne_14 : decode cX4_comeOne 14 = .ok (.getfield 107, 3) := by decide +kernel
theorem dX4_comeOne_17 : decode cX4_comeOne 17 = .ok (.aload_n 0, 1) := by decide +kernel
theorem dX4_comeOne_18 : decode cX4_comeOne 18 = .ok (.getfield 26, 3) := by decide +kernel
theorem dX4_comeOne_21 : decode cX4_comeOne 21 = .ok (.iload_n 3, 1) := by decide +kernel
theorem dX4_comeOne_22 : decode cX4_comeOne 22 = .ok (.iload 4, 2) := by decide +kernel
theorem dX4_comeOne_24 : decode cX4_comeOne 24 = .ok (.invokevirtual 247, 3) := by decide +kernel
theorem dX4_comeOne_27 : decode cX4_comeOne 27 = .ok (.aload_n 1, 1) := by decide +kernel
theorem dX4_comeOne_28 : decode cX4_comeOne 28 = .ok (.getfield 52, 3) := by decide +kernel
theorem dX4_comeOne_31 : decode cX4_comeOne 31 = .ok (.iload_n 3, 1) := by decide +kernel
theorem dX4_comeOne_32 : decode cX4_comeOne 32 = .ok (.iload 4, 2) := by decide +kernel
theorem dX4_comeOne_34 : decode cX4_comeOne 34 = .ok (.invokevirtual 250, 3) := by decide +kernel
theorem dX4_comeOne_37 : decode cX4_comeOne 37 = .ok (.ifCond .ne 15, 3) := by decide +kernel
theorem dX4_comeOne_40 : decode cX4_comeOne 40 = .ok (.aload_n 1, 1) := by decide +kernel
theorem dX4_comeOne_41 : decode cX4_comeOne 41 = .ok (.dup, 1) := by decide +kernel
theorem dX4_comeOne_42 : decode cX4_comeOne 42 = .ok (.getfield 134, 3) := by decide +kernel
theorem dX4_comeOne_45 : decode cX4_comeOne 45 = .ok (.iconst 1, 1) := by decide +kernel
theorem dX4_comeOne_46 : decode cX4_comeOne 46 = .ok (.iadd, 1) := by decide +kernel
theorem dX4_comeOne_47 : decode cX4_comeOne 47 = .ok (.putfield 134, 3) := by decide +kernel
theorem dX4_comeOne_50 : decode cX4_comeOne 50 = .ok (.iconst 0, 1) := by decide +kernel
theorem dX4_comeOne_51 : decode cX4_comeOne 51 = .ok (.ireturn, 1) := by decide +kernel
theorem dX4_comeOne_52 : decode cX4_comeOne 52 = .ok (.aload_n 1, 1) := by decide +kernel
theorem dX4_comeOne_53 : decode cX4_comeOne 53 = .ok (.getfield 254, 3) := by decide +kernel
theorem dX4_comeOne_56 : decode cX4_comeOne 56 = .ok (.aload_n 2, 1) := by decide +kernel
theorem dX4_comeOne_57 : decode cX4_comeOne 57 = .ok (.getfield 49, 3) := by decide +kernel
theorem dX4_comeOne_60 : decode cX4_comeOne 60 = .ok (.dup2, 1) := by decide +kernel
theorem dX4_comeOne_61 : decode cX4_comeOne 61 = .ok (.laload, 1) := by decide +kernel
theorem dX4_comeOne_62 : decode cX4_comeOne 62 = .ok (.lconst 1, 1) := by decide +kernel
theorem dX4_comeOne_63 : decode cX4_comeOne 63 = .ok (.iload_n 3, 1) := by decide +kernel
theorem dX4_comeOne_64 : decode cX4_comeOne 64 = .ok (.lshl, 1) := by decide +kernel
theorem dX4_comeOne_65 : decode cX4_comeOne 65 = .ok (.lor, 1) := by decide +kernel
theorem dX4_comeOne_66 : decode cX4_comeOne 66 = .ok (.lastore, 1) := by decide +kernel
theorem dX4_comeOne_67 : decode cX4_comeOne 67 = .ok (.aload_n 1, 1) := by decide +kernel
theorem dX4_comeOne_68 : decode cX4_comeOne 68 = .ok (.getfield 131, 3) := by decide +kernel
theorem dX4_comeOne_71 : decode cX4_comeOne 71 = .ok (.aload_n 2, 1) := by decide +kernel
theorem dX4_comeOne_72 : decode cX4_comeOne 72 = .ok (.getfield 49, 3) := by decide +kernel
theorem dX4_comeOne_75 : decode cX4_comeOne 75 = .ok (.dup2, 1) := by decide +kernel
theorem dX4_comeOne_76 : decode cX4_comeOne 76 = .ok (.iaload, 1) := by decide +kernel
theorem dX4_comeOne_77 : decode cX4_comeOne 77 = .ok (.iconst 1, 1) := by decide +kernel
theorem dX4_comeOne_78 : decode cX4_comeOne 78 = .ok (.iadd, 1) := by decide +kernel
theorem dX4_comeOne_79 : decode cX4_comeOne 79 = .ok (.iastore, 1) := by decide +kernel
theorem dX4_comeOne_80 : decode cX4_comeOne 80 = .ok (.iconst 1, 1) := by decide +kernel
theorem dX4_comeOne_81 : decode cX4_comeOne 81 = .ok (.ireturn, 1) := by decide +kernel
theorem dX4_settleAll_0 : decode cX4_settleAll 0 = .ok (.aload_n 0, 1) := by decide +kernel
theorem dX4_settleAll_1 : decode cX4_settleAll 1 = .ok (.getfield 11, 3) := by decide +kernel
theorem dX4_settleAll_4 : decode cX4_settleAll 4 = .ok (.astore_n 1, 1) := by decide +kernel
theorem dX4_settleAll_5 : decode cX4_settleAll 5 = .ok (.aload_n 1, 1) := by decide +kernel
theorem dX4_settleAll_6 : decode cX4_settleAll 6 = .ok (.arraylength, 1) := by decide +kernel
theorem dX4_settleAll_7 : decode cX4_settleAll 7 = .ok (.istore_n 2, 1) := by decide +kernel
theorem dX4_settleAll_8 : decode cX4_settleAll 8 = .ok (.iconst 0, 1) := by decide +kernel
theorem dX4_settleAll_9 : decode cX4_settleAll 9 = .ok (.istore_n 3, 1) := by decide +kernel
theorem dX4_settleAll_10 : decode cX4_settleAll 10 = .ok (.iload_n 3, 1) := by decide +kernel
theorem dX4_settleAll_11 : decode cX4_settleAll 11 = .ok (.iload_n 2, 1) := by decide +kernel
theorem dX4_settleAll_12 : decode cX4_settleAll 12 = .ok (.if_icmp .ge 24, 3) := by decide +kernel
theorem dX4_settleAll_15 : decode cX4_settleAll 15 = .ok (.aload_n 1, 1) := by decide +kernel
theorem dX4_settleAll_16 : decode cX4_settleAll 16 = .ok (.iload_n 3, 1) := by decide +kernel
theorem dX4_settleAll_17 : decode cX4_settleAll 17 = .ok (.aaload, 1) := by decide +kernel
theorem dX4_settleAll_18 : decode cX4_settleAll 18 = .ok (.astore 4, 2) := by decide +kernel
theorem dX4_settleAll_20 : decode cX4_settleAll 20 = .ok (.aload 4, 2) := by decide +kernel
theorem dX4_settleAll_22 : decode cX4_settleAll 22 = .ok (.ifnull 8, 3) := by decide +kernel
theorem dX4_settleAll_25 : decode cX4_settleAll 25 = .ok (.aload 4, 2) := by decide +kernel
theorem dX4_settleAll_27 : decode cX4_settleAll 27 = .ok (.invokestatic 258, 3) := by decide +kernel
theorem dX4_settleAll_30 : decode cX4_settleAll 30 = .ok (.iinc 3 1, 3) := by decide +kernel
theorem dX4_settleAll_33 : decode cX4_settleAll 33 = .ok (.goto (-23), 3) := by decide +kernel
theorem dX4_settleAll_36 : decode cX4_settleAll 36 = .ok (.return_, 1) := by decide +kernel
theorem dX4_settle_0 : decode cX4_settle 0 = .ok (.iconst 0, 1) := by decide +kernel
theorem dX4_settle_1 : decode cX4_settle 1 = .ok (.istore_n 1, 1) := by decide +kernel
theorem dX4_settle_2 : decode cX4_settle 2 = .ok (.iload_n 1, 1) := by decide +kernel
theorem dX4_settle_3 : decode cX4_settle 3 = .ok (.bipush 12, 2) := by decide +kernel
theorem dX4_settle_5 : decode cX4_settle 5 = .ok (.if_icmp .ge 41, 3) := by decide +kernel
theorem dX4_settle_8 : decode cX4_settle 8 = .ok (.aload_n 0, 1) := by decide +kernel
theorem dX4_settle_9 : decode cX4_settle 9 = .ok (.getfield 52, 3) := by decide +kernel
theorem dX4_settle_12 : decode cX4_settle 12 = .ok (.iload_n 1, 1) := by decide +kernel
theorem dX4_settle_13 : decode cX4_settle 13 = .ok (.invokevirtual 261, 3) := by decide +kernel
theorem dX4_settle_16 : decode cX4_settle 16 = .ok (.ifCond .eq 24, 3) := by decide +kernel
theorem dX4_settle_19 : decode cX4_settle 19 = .ok (.aload_n 0, 1) := by decide +kernel
theorem dX4_settle_20 : decode cX4_settle 20 = .ok (.getfield 52, 3) := by decide +kernel
theorem dX4_settle_23 : decode cX4_settle 23 = .ok (.iload_n 1, 1) := by decide +kernel
theorem dX4_settle_24 : decode cX4_settle 24 = .ok (.invokevirtual 265, 3) := by decide +kernel
theorem dX4_settle_27 : decode cX4_settle 27 = .ok (.ifCond .ne 8, 3) := by decide +kernel
theorem dX4_settle_30 : decode cX4_settle 30 = .ok (.aload_n 0, 1) := by decide +kernel
theorem dX4_settle_31 : decode cX4_settle 31 = .ok (.iload_n 1, 1) := by decide +kernel
theorem dX4_settle_32 : decode cX4_settle 32 = .ok (.invokevirtual 268, 3) := by decide +kernel
theorem dX4_settle_35 : decode cX4_settle 35 = .ok (.aload_n 0, 1) := by decide +kernel
theorem dX4_settle_36 : decode cX4_settle 36 = .ok (.iload_n 1, 1) := by decide +kernel
theorem dX4_settle_37 : decode cX4_settle 37 = .ok (.invokevirtual 271, 3) := by decide +kernel
theorem dX4_settle_40 : decode cX4_settle 40 = .ok (.iinc 1 1, 3) := by decide +kernel
theorem dX4_settle_43 : decode cX4_settle 43 = .ok (.goto (-41), 3) := by decide +kernel
theorem dX4_settle_46 : decode cX4_settle 46 = .ok (.aload_n 0, 1) := by decide +kernel
theorem dX4_settle_47 : decode cX4_settle 47 = .ok (.getfield 52, 3) := by decide +kernel
theorem dX4_settle_50 : decode cX4_settle 50 = .ok (.invokevirtual 274, 3) := by decide +kernel
theorem dX4_settle_53 : decode cX4_settle 53 = .ok (.return_, 1) := by decide +kernel
theorem dX4_isIn_0 : decode cX4_isIn 0 = .ok (.lload_n 0, 1) := by decide +kernel
theorem dX4_isIn_1 : decode cX4_isIn 1 = .ok (.iload_n 2, 1) := by decide +kernel
theorem dX4_isIn_2 : decode cX4_isIn 2 = .ok (.lshr, 1) := by decide +kernel
theorem dX4_isIn_3 : decode cX4_isIn 3 = .ok (.lconst 1, 1) := by decide +kernel
theorem dX4_isIn_4 : decode cX4_isIn 4 = .ok (.land, 1) := by decide +kernel
theorem dX4_isIn_5 : decode cX4_isIn 5 = .ok (.lconst 0, 1) := by decide +kernel
theorem dX4_isIn_6 : decode cX4_isIn 6 = .ok (.lcmp, 1) := by decide +kernel
theorem dX4_isIn_7 : decode cX4_isIn 7 = .ok (.ifCond .eq 7, 3) := by decide +kernel
theorem dX4_isIn_10 : decode cX4_isIn 10 = .ok (.iconst 1, 1) := by decide +kernel
theorem dX4_isIn_11 : decode cX4_isIn 11 = .ok (.goto 4, 3) := by decide +kernel
theorem dX4_isIn_14 : decode cX4_isIn 14 = .ok (.iconst 0, 1) := by decide +kernel
theorem dX4_isIn_15 : decode cX4_isIn 15 = .ok (.ireturn, 1) := by decide +kernel
theorem dX4_single_0 : decode cX4_single 0 = .ok (.iload_n 0, 1) := by decide +kernel
theorem dX4_single_1 : decode cX4_single 1 = .ok (.iconst (-1), 1) := by decide +kernel
theorem dX4_single_2 : decode cX4_single 2 = .ok (.if_icmp .ne 7, 3) := by decide +kernel
theorem dX4_single_5 : decode cX4_single 5 = .ok (.iconst 0, 1) := by decide +kernel
theorem dX4_single_6 : decode cX4_single 6 = .ok (.goto 6, 3) := by decide +kernel
theorem dX4_single_9 : decode cX4_single 9 = .ok (.iconst 1, 1) := by decide +kernel
theorem dX4_single_10 : decode cX4_single 10 = .ok (.iload_n 0, 1) := by decide +kernel
theorem dX4_single_11 : decode cX4_single 11 = .ok (.ishl, 1) := by decide +kernel
theorem dX4_single_12 : decode cX4_single 12 = .ok (.ireturn, 1) := by decide +kernel
theorem dX4_blocksOfPiece_0 : decode cX4_blocksOfPiece 0 = .ok (.ldc2_w 277, 3) := by decide +kernel
theorem dX4_blocksOfPiece_3 : decode cX4_blocksOfPiece 3 = .ok (.iload_n 0, 1) := by decide +kernel
theorem dX4_blocksOfPiece_4 : decode cX4_blocksOfPiece 4 = .ok (.iconst 4, 1) := by decide +kernel
theorem dX4_blocksOfPiece_5 : decode cX4_blocksOfPiece 5 = .ok (.imul, 1) := by decide +kernel
theorem dX4_blocksOfPiece_6 : decode cX4_blocksOfPiece 6 = .ok (.lshl, 1) := by decide +kernel
theorem dX4_blocksOfPiece_7 : decode cX4_blocksOfPiece 7 = .ok (.lreturn, 1) := by decide +kernel
theorem dX4_blocksOf_0 : decode cX4_blocksOf 0 = .ok (.lconst 0, 1) := by decide +kernel
theorem dX4_blocksOf_1 : decode cX4_blocksOf 1 = .ok (.lstore_n 1, 1) := by decide +kernel
theorem dX4_blocksOf_2 : decode cX4_blocksOf 2 = .ok (.iconst 0, 1) := by decide +kernel
theorem dX4_blocksOf_3 : decode cX4_blocksOf 3 = .ok (.istore_n 3, 1) := by decide +kernel
theorem dX4_blocksOf_4 : decode cX4_blocksOf 4 = .ok (.iload_n 3, 1) := by decide +kernel
theorem dX4_blocksOf_5 : decode cX4_blocksOf 5 = .ok (.bipush 12, 2) := by decide +kernel
theorem dX4_blocksOf_7 : decode cX4_blocksOf 7 = .ok (.if_icmp .ge 25, 3) := by decide +kernel
theorem dX4_blocksOf_10 : decode cX4_blocksOf 10 = .ok (.iload_n 0, 1) := by decide +kernel
theorem dX4_blocksOf_11 : decode cX4_blocksOf 11 = .ok (.i2l, 1) := by decide +kernel
theorem dX4_blocksOf_12 : decode cX4_blocksOf 12 = .ok (.iload_n 3, 1) := by decide +kernel
theorem dX4_blocksOf_13 : decode cX4_blocksOf 13 = .ok (.invokestatic 86, 3) := by decide +kernel
theorem dX4_blocksOf_16 : decode cX4_blocksOf 16 = .ok (.ifCond .eq 10, 3) := by decide +kernel
theorem dX4_blocksOf_19 : decode cX4_blocksOf 19 = .ok (.lload_n 1, 1) := by decide +kernel
theorem dX4_blocksOf_20 : decode cX4_blocksOf 20 = .ok (.iload_n 3, 1) := by decide +kernel
theorem dX4_blocksOf_21 : decode cX4_blocksOf 21 = .ok (.invokestatic 213, 3) := by decide +kernel
theorem dX4_blocksOf_24 : decode cX4_blocksOf 24 = .ok (.lor, 1) := by decide +kernel
theorem dX4_blocksOf_25 : decode cX4_blocksOf 25 = .ok (.lstore_n 1, 1) := by decide +kernel
theorem dX4_blocksOf_26 : decode cX4_blocksOf 26 = .ok (.iinc 3 1, 3) := by decide +kernel
theorem dX4_blocksOf_29 : decode cX4_blocksOf 29 = .ok (.goto (-25), 3) := by decide +kernel
theorem dX4_blocksOf_32 : decode cX4_blocksOf 32 = .ok (.lload_n 1, 1) := by decide +kernel
theorem dX4_blocksOf_33 : decode cX4_blocksOf 33 = .ok (.lreturn, 1) := by decide +kernel
theorem dX4_findLowest_0 : decode cX4_findLowest 0 = .ok (.iconst 0, 1) := by decide +kernel
theorem dX4_findLowest_1 : decode cX4_findLowest 1 = .ok (.istore_n 2, 1) := by decide +kernel
theorem dX4_findLowest_2 : decode cX4_findLowest 2 = .ok (.iload_n 2, 1) := by decide +kernel
theorem dX4_findLowest_3 : decode cX4_findLowest 3 = .ok (.bipush 48, 2) := by decide +kernel
theorem dX4_findLowest_5 : decode cX4_findLowest 5 = .ok (.if_icmp .ge 19, 3) := by decide +kernel
theorem dX4_findLowest_8 : decode cX4_findLowest 8 = .ok (.lload_n 0, 1) := by decide +kernel
theorem dX4_findLowest_9 : decode cX4_findLowest 9 = .ok (.iload_n 2, 1) := by decide +kernel
theorem dX4_findLowest_10 : decode cX4_findLowest 10 = .ok (.invokestatic 86, 3) := by decide +kernel
theorem dX4_findLowest_13 : decode cX4_findLowest 13 = .ok (.ifCond .eq 5, 3) := by decide +kernel
theorem dX4_findLowest_16 : decode cX4_findLowest 16 = .ok (.iload_n 2, 1) := by decide +kernel
theorem dX4_findLowest_17 : decode cX4_findLowest 17 = .ok (.ireturn, 1) := by decide +kernel
theorem dX4_findLowest_18 : decode cX4_findLowest 18 = .ok (.iinc 2 1, 3) := by decide +kernel
theorem dX4_findLowest_21 : decode cX4_findLowest 21 = .ok (.goto (-19), 3) := by decide +kernel
theorem dX4_findLowest_24 : decode cX4_findLowest 24 = .ok (.iconst (-1), 1) := by decide +kernel
theorem dX4_findLowest_25 : decode cX4_findLowest 25 = .ok (.ireturn, 1) := by decide +kernel
theorem dX5_init_0 : decode cX5_init 0 = .ok (.aload_n 0, 1) := by decide +kernel
theorem dX5_init_1 : decode cX5_init 1 = .ok (.invokespecial 1, 3) := by decide +kernel
theorem dX5_init_4 : decode cX5_init 4 = .ok (.aload_n 0, 1) := by decide +kernel
theorem dX5_init_5 : decode cX5_init 5 = .ok (.bipush 12, 2) := by decide +kernel
theorem dX5_init_7 : decode cX5_init 7 = .ok (.newarray .int, 2) := by decide +kernel
theorem dX5_init_9 : decode cX5_init 9 = .ok (.putfield 7, 3) := by decide +kernel
theorem dX5_init_12 : decode cX5_init 12 = .ok (.aload_n 0, 1) := by decide +kernel
theorem dX5_init_13 : decode cX5_init 13 = .ok (.bipush 6, 2) := by decide +kernel
theorem dX5_init_15 : decode cX5_init 15 = .ok (.newarray .boolean, 2) := by decide +kernel
theorem dX5_init_17 : decode cX5_init 17 = .ok (.putfield 13, 3) := by decide +kernel
theorem dX5_init_20 : decode cX5_init 20 = .ok (.aload_n 0, 1) := by decide +kernel
theorem dX5_init_21 : decode cX5_init 21 = .ok (.bipush 6, 2) := by decide +kernel
theorem dX5_init_23 : decode cX5_init 23 = .ok (.newarray .int, 2) := by decide +kernel
theorem dX5_init_25 : decode cX5_init 25 = .ok (.putfield 17, 3) := by decide +kernel
theorem dX5_init_28 : decode cX5_init 28 = .ok (.aload_n 0, 1) := by decide +kernel
theorem dX5_init_29 : decode cX5_init 29 = .ok (.bipush 6, 2) := by decide +kernel
theorem dX5_init_31 : decode cX5_init 31 = .ok (.newarray .boolean, 2) := by decide +kernel
theorem dX5_init_33 : decode cX5_init 33 = .ok (.putfield 20, 3) := by decide +kernel
theorem dX5_init_36 : decode cX5_init 36 = .ok (.aload_n 0, 1) := by decide +kernel
theorem dX5_init_37 : decode cX5_init 37 = .ok (.bipush 6, 2) := by decide +kernel
theorem dX5_init_39 : decode cX5_init 39 = .ok (.newarray .boolean, 2) := by decide +kernel
theorem dX5_init_41 : decode cX5_init 41 = .ok (.putfield 23, 3) := by decide +kernel
theorem dX5_init_44 : decode cX5_init 44 = .ok (.aload_n 0, 1) := by decide +kernel
theorem dX5_init_45 : decode cX5_init 45 = .ok (.bipush 6, 2) := by decide +kernel
theorem dX5_init_47 : decode cX5_init 47 = .ok (.newarray .int, 2) := by decide +kernel
theorem dX5_init_49 : decode cX5_init 49 = .ok (.putfield 26, 3) := by decide +kernel
theorem dX5_init_52 : decode cX5_init 52 = .ok (.aload_n 0, 1) := by decide +kernel
theorem dX5_init_53 : decode cX5_init 53 = .ok (.bipush 6, 2) := by decide +kernel
theorem dX5_init_55 : decode cX5_init 55 = .ok (.newarray .int, 2) := by decide +kernel
theorem dX5_init_57 : decode cX5_init 57 = .ok (.putfield 29, 3) := by decide +kernel
theorem dX5_init_60 : decode cX5_init 60 = .ok (.aload_n 0, 1) := by decide +kernel
theorem dX5_init_61 : decode cX5_init 61 = .ok (.bipush 72, 2) := by decide +kernel
theorem dX5_init_63 : decode cX5_init 63 = .ok (.newarray .int, 2) := by decide +kernel
theorem dX5_init_65 : decode cX5_init 65 = .ok (.putfield 32, 3) := by decide +kernel
theorem dX5_init_68 : decode cX5_init 68 = .ok (.aload_n 0, 1) := by decide +kernel
theorem dX5_init_69 : decode cX5_init 69 = .ok (.bipush 72, 2) := by decide +kernel
theorem dX5_init_71 : decode cX5_init 71 = .ok (.newarray .int, 2) := by decide +kernel
theorem dX5_init_73 : decode cX5_init 73 = .ok (.putfield 35, 3) := by decide +kernel
theorem dX5_init_76 : decode cX5_init 76 = .ok (.aload_n 0, 1) := by decide +kernel
theorem dX5_init_77 : decode cX5_init 77 = .ok (.bipush 72, 2) := by decide +kernel
theorem dX5_init_79 : decode cX5_init 79 = .ok (.newarray .int, 2) := by decide +kernel
theorem dX5_init_81 : decode cX5_init 81 = .ok (.putfield 38, 3) := by decide +kernel
theorem dX5_init_84 : decode cX5_init 84 = .ok (.aload_n 0, 1) := by decide +kernel
theorem dX5_init_85 : decode cX5_init 85 = .ok (.sipush 288, 3) := by decide +kernel
theorem dX5_init_88 : decode cX5_init 88 = .ok (.newarray .int, 2) := by decide +kernel
theorem dX5_init_90 : decode cX5_init 90 = .ok (.putfield 41, 3) := by decide +kernel
theorem dX5_init_93 : decode cX5_init 93 = .ok (.aload_n 0, 1) := by decide +kernel
theorem dX5_init_94 : decode cX5_init 94 = .ok (.bipush 36, 2) := by decide +kernel
theorem dX5_init_96 : decode cX5_init 96 = .ok (.newarray .int, 2) := by decide +kernel
theorem dX5_init_98 : decode cX5_init 98 = .ok (.putfield 44, 3) := by decide +kernel
theorem dX5_init_101 : decode cX5_init 101 = .ok (.aload_n 0, 1) := by decide +kernel
theorem dX5_init_102 : decode cX5_init 102 = .ok (.bipush 36, 2) := by decide +kernel
theorem dX5_init_104 : decode cX5_init 104 = .ok (.newarray .int, 2) := by decide +kernel
theorem dX5_init_106 : decode cX5_init 106 = .ok (.putfield 47, 3) := by decide +kernel
theorem dX5_init_109 : decode cX5_init 109 = .ok (.aload_n 0, 1) := by decide +kernel
theorem dX5_init_110 : decode cX5_init 110 = .ok (.bipush 36, 2) := by decide +kernel
theorem dX5_init_112 : decode cX5_init 112 = .ok (.newarray .boolean, 2) := by decide +kernel
theorem dX5_init_114 : decode cX5_init 114 = .ok (.putfield 50, 3) := by decide +kernel
theorem dX5_init_117 : decode cX5_init 117 = .ok (.aload_n 0, 1) := by decide +kernel
theorem dX5_init_118 : decode cX5_init 118 = .ok (.bipush 36, 2) := by decide +kernel
theorem dX5_init_120 : decode cX5_init 120 = .ok (.newarray .int, 2) := by decide +kernel
theorem dX5_init_122 : decode cX5_init 122 = .ok (.putfield 53, 3) := by decide +kernel
theorem dX5_init_125 : decode cX5_init 125 = .ok (.aload_n 0, 1) := by decide +kernel
theorem dX5_init_126 : decode cX5_init 126 = .ok (.bipush 6, 2) := by decide +kernel
theorem dX5_init_128 : decode cX5_init 128 = .ok (.newarray .int, 2) := by decide +kernel
theorem dX5_init_130 : decode cX5_init 130 = .ok (.putfield 56, 3) := by decide +kernel
theorem dX5_init_133 : decode cX5_init 133 = .ok (.aload_n 0, 1) := by decide +kernel
theorem dX5_init_134 : decode cX5_init 134 = .ok (.bipush 36, 2) := by decide +kernel
theorem dX5_init_136 : decode cX5_init 136 = .ok (.newarray .int, 2) := by decide +kernel
theorem dX5_init_138 : decode cX5_init 138 = .ok (.putfield 59, 3) := by decide +kernel
theorem dX5_init_141 : decode cX5_init 141 = .ok (.aload_n 0, 1) := by decide +kernel
theorem dX5_init_142 : decode cX5_init 142 = .ok (.bipush 36, 2) := by decide +kernel
theorem dX5_init_144 : decode cX5_init 144 = .ok (.newarray .int, 2) := by decide +kernel
theorem dX5_init_146 : decode cX5_init 146 = .ok (.putfield 62, 3) := by decide +kernel
theorem dX5_init_149 : decode cX5_init 149 = .ok (.aload_n 0, 1) := by decide +kernel
theorem dX5_init_150 : decode cX5_init 150 = .ok (.bipush 36, 2) := by decide +kernel
theorem dX5_init_152 : decode cX5_init 152 = .ok (.newarray .int, 2) := by decide +kernel
theorem dX5_init_154 : decode cX5_init 154 = .ok (.putfield 65, 3) := by decide +kernel
theorem dX5_init_157 : decode cX5_init 157 = .ok (.iconst 0, 1) := by decide +kernel
theorem dX5_init_158 : decode cX5_init 158 = .ok (.istore_n 1, 1) := by decide +kernel
theorem dX5_init_159 : decode cX5_init 159 = .ok (.iload_n 1, 1) := by decide +kernel
theorem dX5_init_160 : decode cX5_init 160 = .ok (.bipush 12, 2) := by decide +kernel
theorem dX5_init_162 : decode cX5_init 162 = .ok (.if_icmp .ge 16, 3) := by decide +kernel
theorem dX5_init_165 : decode cX5_init 165 = .ok (.aload_n 0, 1) := by decide +kernel
theorem dX5_init_166 : decode cX5_init 166 = .ok (.getfield 7, 3) := by decide +kernel
theorem dX5_init_169 : decode cX5_init 169 = .ok (.iload_n 1, 1) := by decide +kernel
theorem dX5_init_170 : decode cX5_init 170 = .ok (.iconst 1, 1) := by decide +kernel
theorem dX5_init_171 : decode cX5_init 171 = .ok (.iastore, 1) := by decide +kernel
theorem dX5_init_172 : decode cX5_init 172 = .ok (.iinc 1 1, 3) := by decide +kernel
theorem dX5_init_175 : decode cX5_init 175 = .ok (.goto (-16), 3) := by decide +kernel
theorem dX5_init_178 : decode cX5_init 178 = .ok (.return_, 1) := by decide +kernel
theorem dX5_thrown_0 : decode cX5_thrown 0 = .ok (.aload_n 0, 1) := by decide +kernel
theorem dX5_thrown_1 : decode cX5_thrown 1 = .ok (.getfield 68, 3) := by decide +kernel
theorem dX5_thrown_4 : decode cX5_thrown 4 = .ok (.ireturn, 1) := by decide +kernel
theorem dX5_fits_0 : decode cX5_fits 0 = .ok (.aload_n 0, 1) := by decide +kernel
theorem dX5_fits_1 : decode cX5_fits 1 = .ok (.iload_n 1, 1) := by decide +kernel
theorem dX5_fits_2 : decode cX5_fits 2 = .ok (.putfield 68, 3) := by decide +kernel
theorem dX5_fits_5 : decode cX5_fits 5 = .ok (.iload_n 1, 1) := by decide +kernel
theorem dX5_fits_6 : decode cX5_fits 6 = .ok (.ifCond .ne 7, 3) := by decide +kernel
theorem dX5_fits_9 : decode cX5_fits 9 = .ok (.iconst 1, 1) := by decide +kernel
theorem dX5_fits_10 : decode cX5_fits 10 = .ok (.goto 4, 3) := by decide +kernel
theorem dX5_fits_13 : decode cX5_fits 13 = .ok (.iconst 0, 1) := by decide +kernel
theorem dX5_fits_14 : decode cX5_fits 14 = .ok (.ireturn, 1) := by decide +kernel
theorem dX5_has_0 : decode cX5_has 0 = .ok (.iload_n 0, 1) := by decide +kernel
theorem dX5_has_1 : decode cX5_has 1 = .ok (.iload_n 1, 1) := by decide +kernel
theorem dX5_has_2 : decode cX5_has 2 = .ok (.ishr, 1) := by decide +kernel
theorem dX5_has_3 : decode cX5_has 3 = .ok (.iconst 1, 1) := by decide +kernel
theorem dX5_has_4 : decode cX5_has 4 = .ok (.iand, 1) := by decide +kernel
theorem dX5_has_5 : decode cX5_has 5 = .ok (.iconst 1, 1) := by decide +kernel
theorem dX5_has_6 : decode cX5_has 6 = .ok (.if_icmp .ne 7, 3) := by decide +kernel
theorem dX5_has_9 : decode cX5_has 9 = .ok (.iconst 1, 1) := by decide +kernel
theorem dX5_has_10 : decode cX5_has 10 = .ok (.goto 4, 3) := by decide +kernel
theorem dX5_has_13 : decode cX5_has 13 = .ok (.iconst 0, 1) := by decide +kernel
theorem dX5_has_14 : decode cX5_has 14 = .ok (.ireturn, 1) := by decide +kernel
theorem dX5_isPeer_0 : decode cX5_isPeer 0 = .ok (.iload_n 1, 1) := by decide +kernel
theorem dX5_isPeer_1 : decode cX5_isPeer 1 = .ok (.ifCond .lt 24, 3) := by decide +kernel
theorem dX5_isPeer_4 : decode cX5_isPeer 4 = .ok (.iload_n 1, 1) := by decide +kernel
theorem dX5_isPeer_5 : decode cX5_isPeer 5 = .ok (.aload_n 0, 1) := by decide +kernel
theorem dX5_isPeer_6 : decode cX5_isPeer 6 = .ok (.getfield 72, 3) := by decide +kernel
theorem dX5_isPeer_9 : decode cX5_isPeer 9 = .ok (.if_icmp .ge 16, 3) := by decide +kernel
theorem dX5_isPeer_12 : decode cX5_isPeer 12 = .ok (.aload_n 0, 1) := by decide +kernel
theorem dX5_isPeer_13 : decode cX5_isPeer 13 = .ok (.getfield 13, 3) := by decide +kernel
theorem dX5_isPeer_16 : decode cX5_isPeer 16 = .ok (.iload_n 1, 1) := by decide +kernel
theorem dX5_isPeer_17 : decode cX5_isPeer 17 = .ok (.baload, 1) := by decide +kernel
theorem dX5_isPeer_18 : decode cX5_isPeer 18 = .ok (.ifCond .eq 7, 3) := by decide +kernel
theorem dX5_isPeer_21 : decode cX5_isPeer 21 = .ok (.iconst 1, 1) := by decide +kernel
theorem dX5_isPeer_22 : decode cX5_isPeer 22 = .ok (.goto 4, 3) := by decide +kernel
theorem dX5_isPeer_25 : decode cX5_isPeer 25 = .ok (.iconst 0, 1) := by decide +kernel
theorem dX5_isPeer_26 : decode cX5_isPeer 26 = .ok (.ireturn, 1) := by decide +kernel
theorem dX5_isPiece_0 : decode cX5_isPiece 0 = .ok (.iload_n 0, 1) := by decide +kernel
theorem dX5_isPiece_1 : decode cX5_isPiece 1 = .ok (.ifCond .lt 13, 3) := by decide +kernel
theorem dX5_isPiece_4 : decode cX5_isPiece 4 = .ok (.iload_n 0, 1) := by decide +kernel
theorem dX5_isPiece_5 : decode cX5_isPiece 5 = .ok (.bipush 12, 2) := by decide +kernel
theorem dX5_isPiece_7 : decode cX5_isPiece 7 = .ok (.if_icmp .ge 7, 3) := by decide +kernel
theorem dX5_isPiece_10 : decode cX5_isPiece 10 = .ok (.iconst 1, 1) := by decide +kernel
theorem dX5_isPiece_11 : decode cX5_isPiece 11 = .ok (.goto 4, 3) := by decide +kernel
theorem dX5_isPiece_14 : decode cX5_isPiece 14 = .ok (.iconst 0, 1) := by decide +kernel
theorem dX5_isPiece_15 : decode cX5_isPiece 15 = .ok (.ireturn, 1) := by decide +kernel
theorem dX5_at_0 : decode cX5_at 0 = .ok (.bipush 12, 2) := by decide +kernel
theorem dX5_at_2 : decode cX5_at 2 = .ok (.iload_n 0, 1) := by decide +kernel
theorem dX5_at_3 : decode cX5_at 3 = .ok (.imul, 1) := by decide +kernel
theorem dX5_at_4 : decode cX5_at 4 = .ok (.iload_n 1, 1) := by decide +kernel
theorem dX5_at_5 : decode cX5_at 5 = .ok (.iadd, 1) := by decide +kernel
theorem dX5_at_6 : decode cX5_at 6 = .ok (.ireturn, 1) := by decide +kernel
theorem dX5_pair_0 : decode cX5_pair 0 = .ok (.bipush 6, 2) := by decide +kernel
theorem dX5_pair_2 : decode cX5_pair 2 = .ok (.iload_n 0, 1) := by decide +kernel
theorem dX5_pair_3 : decode cX5_pair 3 = .ok (.imul, 1) := by decide +kernel
theorem dX5_pair_4 : decode cX5_pair 4 = .ok (.iload_n 1, 1) := by decide +kernel
theorem dX5_pair_5 : decode cX5_pair 5 = .ok (.iadd, 1) := by decide +kernel
theorem dX5_pair_6 : decode cX5_pair 6 = .ok (.ireturn, 1) := by decide +kernel
theorem dX5_count_0 : decode cX5_count 0 = .ok (.iconst 0, 1) := by decide +kernel
theorem dX5_count_1 : decode cX5_count 1 = .ok (.istore_n 1, 1) := by decide +kernel
theorem dX5_count_2 : decode cX5_count 2 = .ok (.iconst 0, 1) := by decide +kernel
theorem dX5_count_3 : decode cX5_count 3 = .ok (.istore_n 2, 1) := by decide +kernel
theorem dX5_count_4 : decode cX5_count 4 = .ok (.iload_n 2, 1) := by decide +kernel
theorem dX5_count_5 : decode cX5_count 5 = .ok (.bipush 12, 2) := by decide +kernel
theorem dX5_count_7 : decode cX5_count 7 = .ok (.if_icmp .ge 17, 3) := by decide +kernel
theorem dX5_count_10 : decode cX5_count 10 = .ok (.iload_n 1, 1) := by decide +kernel
theorem dX5_count_11 : decode cX5_count 11 = .ok (.iload_n 0, 1) := by decide +kernel
theorem dX5_count_12 : decode cX5_count 12 = .ok (.iload_n 2, 1) := by decide +kernel
theorem dX5_count_13 : decode cX5_count 13 = .ok (.ishr, 1) := by decide +kernel
theorem dX5_count_14 : decode cX5_count 14 = .ok (.iconst 1, 1) := by decide +kernel
theorem dX5_count_15 : decode cX5_count 15 = .ok (.iand, 1) := by decide +kernel
theorem dX5_count_16 : decode cX5_count 16 = .ok (.iadd, 1) := by decide +kernel
theorem dX5_count_17 : decode cX5_count 17 = .ok (.istore_n 1, 1) := by decide +kernel
theorem dX5_count_18 : decode cX5_count 18 = .ok (.iinc 2 1, 3) := by decide +kernel
theorem dX5_count_21 : decode cX5_count 21 = .ok (.goto (-17), 3) := by decide +kernel
theorem dX5_count_24 : decode cX5_count 24 = .ok (.iload_n 1, 1) := by decide +kernel
theorem dX5_count_25 : decode cX5_count 25 = .ok (.ireturn, 1) := by decide +kernel
theorem dX5_join_0 : decode cX5_join 0 = .ok (.aload_n 0, 1) := by decide +kernel
theorem dX5_join_1 : decode cX5_join 1 = .ok (.aload_n 0, 1) := by decide +kernel
theorem dX5_join_2 : decode cX5_join 2 = .ok (.getfield 72, 3) := by decide +kernel
theorem dX5_join_5 : decode cX5_join 5 = .ok (.bipush 6, 2) := by decide +kernel
theorem dX5_join_7 : decode cX5_join 7 = .ok (.if_icmp .ne 7, 3) := by decide +kernel
theorem dX5_join_10 : decode cX5_join 10 = .ok (.iconst 1, 1) := by decide +kernel
theorem dX5_join_11 : decode cX5_join 11 = .ok (.goto 4, 3) := by decide +kernel
theorem dX5_join_14 : decode cX5_join 14 = .ok (.iconst 0, 1) := by decide +kernel
theorem dX5_join_15 : decode cX5_join 15 = .ok (.invokevirtual 75, 3) := by decide +kernel
theorem dX5_join_18 : decode cX5_join 18 = .ok (.ifCond .ne 5, 3) := by decide +kernel
theorem dX5_join_21 : decode cX5_join 21 = .ok (.iconst 0, 1) := by decide +kernel
theorem dX5_join_22 : decode cX5_join 22 = .ok (.ireturn, 1) := by decide +kernel
theorem dX5_join_23 : decode cX5_join 23 = .ok (.aload_n 0, 1) := by decide +kernel
theorem dX5_join_24 : decode cX5_join 24 = .ok (.getfield 13, 3) := by decide +kernel
theorem dX5_join_27 : decode cX5_join 27 = .ok (.aload_n 0, 1) := by decide +kernel
theorem dX5_join_28 : decode cX5_join 28 = .ok (.getfield 72, 3) := by decide +kernel
theorem dX5_join_31 : decode cX5_join 31 = .ok (.iconst 1, 1) := by decide +kernel
theorem dX5_join_32 : decode cX5_join 32 = .ok (.bastore, 1) := by decide +kernel
theorem dX5_join_33 : decode cX5_join 33 = .ok (.aload_n 0, 1) := by decide +kernel
theorem dX5_join_34 : decode cX5_join 34 = .ok (.getfield 17, 3) := by decide +kernel
theorem dX5_join_37 : decode cX5_join 37 = .ok (.aload_n 0, 1) := by decide +kernel
theorem dX5_join_38 : decode cX5_join 38 = .ok (.getfield 72, 3) := by decide +kernel
theorem dX5_join_41 : decode cX5_join 41 = .ok (.iload_n 1, 1) := by decide +kernel
theorem dX5_join_42 : decode cX5_join 42 = .ok (.ifCond .eq 9, 3) := by decide +kernel
theorem dX5_join_45 : decode cX5_join 45 = .ok (.sipush 4095, 3) := by decide +kernel
theorem dX5_join_48 : decode cX5_join 48 = .ok (.goto 4, 3) := by decide +kernel
theorem dX5_join_51 : decode cX5_join 51 = .ok (.iconst 0, 1) := by decide +kernel
theorem dX5_join_52 : decode cX5_join 52 = .ok (.iastore, 1) := by decide +kernel
theorem dX5_join_53 : decode cX5_join 53 = .ok (.aload_n 0, 1) := by decide +kernel
theorem dX5_join_54 : decode cX5_join 54 = .ok (.dup, 1) := by decide +kernel
theorem dX5_join_55 : decode cX5_join 55 = .ok (.getfield 72, 3) := by decide +kernel
theorem dX5_join_58 : decode cX5_join 58 = .ok (.iconst 1, 1) := by decide +kernel
theorem dX5_join_59 : decode cX5_join 59 = .ok (.iadd, 1) := by decide +kernel
theorem dX5_join_60 : decode cX5_join 60 = .ok (.putfield 72, 3) := by decide +kernel
theorem dX5_join_63 : decode cX5_join 63 = .ok (.aload_n 0, 1) := by decide +kernel
theorem dX5_join_64 : decode cX5_join 64 = .ok (.getfield 72, 3) := by decide +kernel
theorem dX5_join_67 : decode cX5_join 67 = .ok (.iconst 1, 1) := by decide +kernel
theorem dX5_join_68 : decode cX5_join 68 = .ok (.isub, 1) := by decide +kernel
theorem dX5_join_69 : decode cX5_join 69 = .ok (.ireturn, 1) := by decide +kernel
theorem dX5_leave_0 : decode cX5_leave 0 = .ok (.aload_n 0, 1) := by decide +kernel
theorem dX5_leave_1 : decode cX5_leave 1 = .ok (.aload_n 0, 1) := by decide +kernel
theorem dX5_leave_2 : decode cX5_leave 2 = .ok (.iload_n 1, 1) := by decide +kernel
theorem dX5_leave_3 : decode cX5_leave 3 = .ok (.invokevirtual 79, 3) := by decide +kernel
theorem dX5_leave_6 : decode cX5_leave 6 = .ok (.ifCond .eq 7, 3) := by decide +kernel
theorem dX5_leave_9 : decode cX5_leave 9 = .ok (.iconst 0, 1) := by decide +kernel
theorem dX5_leave_10 : decode cX5_leave 10 = .ok (.goto 4, 3) := by decide +kernel
theorem dX5_leave_13 : decode cX5_leave 13 = .ok (.iconst 1, 1) := by decide +kernel
theorem dX5_leave_14 : decode cX5_leave 14 = .ok (.invokevirtual 75, 3) := by decide +kernel
theorem dX5_leave_17 : decode cX5_leave 17 = .ok (.ifCond .ne 5, 3) := by decide +kernel
theorem dX5_leave_20 : decode cX5_leave 20 = .ok (.iconst 0, 1) := by decide +kernel
theorem dX5_leave_21 : decode cX5_leave 21 = .ok (.ireturn, 1) := by decide +kernel
theorem dX5_leave_22 : decode cX5_leave 22 = .ok (.aload_n 0, 1) := by decide +kernel
theorem dX5_leave_23 : decode cX5_leave 23 = .ok (.getfield 13, 3) := by decide +kernel
theorem dX5_leave_26 : decode cX5_leave 26 = .ok (.iload_n 1, 1) := by decide +kernel
theorem dX5_leave_27 : decode cX5_leave 27 = .ok (.iconst 0, 1) := by decide +kernel
theorem dX5_leave_28 : decode cX5_leave 28 = .ok (.bastore, 1) := by decide +kernel
theorem dX5_leave_29 : decode cX5_leave 29 = .ok (.aload_n 0, 1) := by decide +kernel
theorem dX5_leave_30 : decode cX5_leave 30 = .ok (.getfield 17, 3) := by decide +kernel
theorem dX5_leave_33 : decode cX5_leave 33 = .ok (.iload_n 1, 1) := by decide +kernel
theorem dX5_leave_34 : decode cX5_leave 34 = .ok (.iaload, 1) := by decide +kernel
theorem dX5_leave_35 : decode cX5_leave 35 = .ok (.invokestatic 82, 3) := by decide +kernel
theorem dX5_leave_38 : decode cX5_leave 38 = .ok (.ireturn, 1) := by decide +kernel
theorem dX5_setPriority_0 : decode cX5_setPriority 0 = .ok (.aload_n 0, 1) := by decide +kernel
theorem dX5_setPriority_1 : decode cX5_setPriority 1 = .ok (.iload_n 1, 1) := by decide +kernel
theorem dX5_setPriority_2 : decode cX5_setPriority 2 = .ok (.invokestatic 86, 3) := by decide +kernel
theorem dX5_setPriority_5 : decode cX5_setPriority 5 = .ok (.ifCond .ne 7, 3) := by decide +kernel
theorem dX5_setPriority_8 : decode cX5_setPriority 8 = .ok (.iconst 1, 1) := by decide +kernel
theorem dX5_setPriority_9 : decode cX5_setPriority 9 = .ok (.goto 17, 3) := by decide +kernel
theorem dX5_setPriority_12 : decode cX5_setPriority 12 = .ok (.iload_n 2, 1) := by decide +kernel
theorem dX5_setPriority_13 : decode cX5_setPriority 13 = .ok (.ifCond .lt 8, 3) := by decide +kernel
theorem dX5_setPriority_16 : decode cX5_setPriority 16 = .ok (.iload_n 2, 1) := by decide +kernel
theorem dX5_setPriority_17 : decode cX5_setPriority 17 = .ok (.iconst 3, 1) := by decide +kernel
theorem dX5_setPriority_18 : decode cX5_setPriority 18 = .ok (.if_icmp .le 7, 3) := by decide +kernel
theorem dX5_setPriority_21 : decode cX5_setPriority 21 = .ok (.iconst 2, 1) := by decide +kernel
theorem dX5_setPriority_22 : decode cX5_setPriority 22 = .ok (.goto 4, 3) := by decide +kernel
theorem dX5_setPriority_25 : decode cX5_setPriority 25 = .ok (.iconst 0, 1) := by decide +kernel
theorem dX5_setPriority_26 : decode cX5_setPriority 26 = .ok (.invokevirtual 75, 3) := by decide +kernel
theorem dX5_setPriority_29 : decode cX5_setPriority 29 = .ok (.ifCond .ne 5, 3) := by decide +kernel
theorem dX5_setPriority_32 : decode cX5_setPriority 32 = .ok (.iconst 0, 1) := by decide +kernel
theorem dX5_setPriority_33 : decode cX5_setPriority 33 = .ok (.ireturn, 1) := by decide +kernel
theorem dX5_setPriority_34 : decode cX5_setPriority 34 = .ok (.aload_n 0, 1) := by decide +kernel
theorem dX5_setPriority_35 : decode cX5_setPriority 35 = .ok (.getfield 7, 3) := by decide +kernel
theorem dX5_setPriority_38 : decode cX5_setPriority 38 = .ok (.iload_n 1, 1) := by decide +kernel
theorem dX5_setPriority_39 : decode cX5_setPriority 39 = .ok (.iaload, 1) := by decide +kernel
theorem dX5_setPriority_40 : decode cX5_setPriority 40 = .ok (.istore_n 3, 1) := by decide +kernel
theorem dX5_setPriority_41 : decode cX5_setPriority 41 = .ok (.aload_n 0, 1) := by decide +kernel
theorem dX5_setPriority_42 : decode cX5_setPriority 42 = .ok (.getfield 7, 3) := by decide +kernel
theorem dX5_setPriority_45 : decode cX5_setPriority 45 = .ok (.iload_n 1, 1) := by decide +kernel
theorem dX5_setPriority_46 : decode cX5_setPriority 46 = .ok (.iload_n 2, 1) := by decide +kernel
theorem dX5_setPriority_47 : decode cX5_setPriority 47 = .ok (.iastore, 1) := by decide +kernel
theorem dX5_setPriority_48 : decode cX5_setPriority 48 = .ok (.iload_n 3, 1) := by decide +kernel
theorem dX5_setPriority_49 : decode cX5_setPriority 49 = .ok (.ireturn, 1) := by decide +kernel
theorem dX5_setSequence_0 : decode cX5_setSequence 0 = .ok (.aload_n 0, 1) := by decide +kernel
theorem dX5_setSequence_1 : decode cX5_setSequence 1 = .ok (.aload_n 0, 1) := by decide +kernel
theorem dX5_setSequence_2 : decode cX5_setSequence 2 = .ok (.iload_n 1, 1) := by decide +kernel
theorem dX5_setSequence_3 : decode cX5_setSequence 3 = .ok (.invokevirtual 79, 3) := by decide +kernel
theorem dX5_setSequence_6 : decode cX5_setSequence 6 = .ok (.ifCond .eq 7, 3) := by decide +kernel
theorem dX5_setSequence_9 : decode cX5_setSequence 9 = .ok (.iconst 0, 1) := by decide +kernel
theorem dX5_setSequence_10 : decode cX5_setSequence 10 = .ok (.goto 4, 3) := by decide +kernel
theorem dX5_setSequence_13 : decode cX5_setSequence 13 = .ok (.iconst 1, 1) := by decide +kernel
theorem dX5_setSequence_14 : decode cX5_setSequence 14 = .ok (.invokevirtual 75, 3) := by decide +kernel
theorem dX5_setSequence_17 : decode cX5_setSequence 17 = .ok (.ifCond .ne 5, 3) := by decide +kernel
theorem dX5_setSequence_20 : decode cX5_setSequence 20 = .ok (.iconst 0, 1) := by decide +kernel
theorem dX5_setSequence_21 : decode cX5_setSequence 21 = .ok (.ireturn, 1) := by decide +kernel
theorem dX5_setSequence_22 : decode cX5_setSequence 22 = .ok (.aload_n 0, 1) := by decide +kernel
theorem dX5_setSequence_23 : decode cX5_setSequence 23 = .ok (.getfield 23, 3) := by decide +kernel
theorem dX5_setSequence_26 : decode cX5_setSequence 26 = .ok (.iload_n 1, 1) := by decide +kernel
theorem dX5_setSequence_27 : decode cX5_setSequence 27 = .ok (.baload, 1) := by decide +kernel
theorem dX5_setSequence_28 : decode cX5_setSequence 28 = .ok (.istore_n 3, 1) := by decide +kernel
theorem dX5_setSequence_29 : decode cX5_setSequence 29 = .ok (.aload_n 0, 1) := by decide +kernel
theorem dX5_setSequence_30 : decode cX5_setSequence 30 = .ok (.getfield 23, 3) := by decide +kernel
theorem dX5_setSequence_33 : decode cX5_setSequence 33 = .ok (.iload_n 1, 1) := by decide +kernel
theorem dX5_setSequence_34 : decode cX5_setSequence 34 = .ok (.iload_n 2, 1) := by decide +kernel
theorem dX5_setSequence_35 : decode cX5_setSequence 35 = .ok (.bastore, 1) := by decide +kernel
theorem dX5_setSequence_36 : decode cX5_setSequence 36 = .ok (.iload_n 3, 1) := by decide +kernel
theorem dX5_setSequence_37 : decode cX5_setSequence 37 = .ok (.iload_n 2, 1) := by decide +kernel
theorem dX5_setSequence_38 : decode cX5_setSequence 38 = .ok (.if_icmp .eq 7, 3) := by decide +kernel
theorem dX5_setSequence_41 : decode cX5_setSequence 41 = .ok (.iconst 1, 1) := by decide +kernel
theorem dX5_setSequence_42 : decode cX5_setSequence 42 = .ok (.goto 4, 3) := by decide +kernel
theorem dX5_setSequence_45 : decode cX5_setSequence 45 = .ok (.iconst 0, 1) := by decide +kernel
theorem dX5_setSequence_46 : decode cX5_setSequence 46 = .ok (.ireturn, 1) := by decide +kernel
theorem dX5_setCareful_0 : decode cX5_setCareful 0 = .ok (.aload_n 0, 1) := by decide +kernel
theorem dX5_setCareful_1 : decode cX5_setCareful 1 = .ok (.aload_n 0, 1) := by decide +kernel
theorem dX5_setCareful_2 : decode cX5_setCareful 2 = .ok (.iload_n 1, 1) := by decide +kernel
theorem dX5_setCareful_3 : decode cX5_setCareful 3 = .ok (.invokevirtual 79, 3) := by decide +kernel
theorem dX5_setCareful_6 : decode cX5_setCareful 6 = .ok (.ifCond .eq 7, 3) := by decide +kernel
theorem dX5_setCareful_9 : decode cX5_setCareful 9 = .ok (.iconst 0, 1) := by decide +kernel
theorem dX5_setCareful_10 : decode cX5_setCareful 10 = .ok (.goto 4, 3) := by decide +kernel
theorem dX5_setCareful_13 : decode cX5_setCareful 13 = .ok (.iconst 1, 1) := by decide +kernel
theorem dX5_setCareful_14 : decode cX5_setCareful 14 = .ok (.invokevirtual 75, 3) := by decide +kernel
theorem dX5_setCareful_17 : decode cX5_setCareful 17 = .ok (.ifCond .ne 5, 3) := by decide +kernel
theorem dX5_setCareful_20 : decode cX5_setCareful 20 = .ok (.iconst 0, 1) := by decide +kernel
theorem dX5_setCareful_21 : decode cX5_setCareful 21 = .ok (.ireturn, 1) := by decide +kernel
theorem dX5_setCareful_22 : decode cX5_setCareful 22 = .ok (.aload_n 0, 1) := by decide +kernel
theorem dX5_setCareful_23 : decode cX5_setCareful 23 = .ok (.getfield 20, 3) := by decide +kernel
theorem dX5_setCareful_26 : decode cX5_setCareful 26 = .ok (.iload_n 1, 1) := by decide +kernel
theorem dX5_setCareful_27 : decode cX5_setCareful 27 = .ok (.baload, 1) := by decide +kernel
theorem dX5_setCareful_28 : decode cX5_setCareful 28 = .ok (.istore_n 3, 1) := by decide +kernel
theorem dX5_setCareful_29 : decode cX5_setCareful 29 = .ok (.aload_n 0, 1) := by decide +kernel
theorem dX5_setCareful_30 : decode cX5_setCareful 30 = .ok (.getfield 20, 3) := by decide +kernel
theorem dX5_setCareful_33 : decode cX5_setCareful 33 = .ok (.iload_n 1, 1) := by decide +kernel
theorem dX5_setCareful_34 : decode cX5_setCareful 34 = .ok (.iload_n 2, 1) := by decide +kernel
theorem dX5_setCareful_35 : decode cX5_setCareful 35 = .ok (.bastore, 1) := by decide +kernel
theorem dX5_setCareful_36 : decode cX5_setCareful 36 = .ok (.iload_n 3, 1) := by decide +kernel
theorem dX5_setCareful_37 : decode cX5_setCareful 37 = .ok (.iload_n 2, 1) := by decide +kernel
theorem dX5_setCareful_38 : decode cX5_setCareful 38 = .ok (.if_icmp .eq 7, 3) := by decide +kernel
theorem dX5_setCareful_41 : decode cX5_setCareful 41 = .ok (.iconst 1, 1) := by decide +kernel
theorem dX5_setCareful_42 : decode cX5_setCareful 42 = .ok (.goto 4, 3) := by decide +kernel
theorem dX5_setCareful_45 : decode cX5_setCareful 45 = .ok (.iconst 0, 1) := by decide +kernel
theorem dX5_setCareful_46 : decode cX5_setCareful 46 = .ok (.ireturn, 1) := by decide +kernel
theorem dX5_spoil_0 : decode cX5_spoil 0 = .ok (.aload_n 0, 1) := by decide +kernel
theorem dX5_spoil_1 : decode cX5_spoil 1 = .ok (.aload_n 0, 1) := by decide +kernel
theorem dX5_spoil_2 : decode cX5_spoil 2 = .ok (.iload_n 1, 1) := by decide +kernel
theorem dX5_spoil_3 : decode cX5_spoil 3 = .ok (.invokevirtual 79, 3) := by decide +kernel
theorem dX5_spoil_6 : decode cX5_spoil 6 = .ok (.ifCond .eq 14, 3) := by decide +kernel
theorem dX5_spoil_9 : decode cX5_spoil 9 = .ok (.iload_n 2, 1) := by decide +kernel
theorem dX5_spoil_10 : decode cX5_spoil 10 = .ok (.invokestatic 86, 3) := by decide +kernel
theorem dX5_spoil_13 : decode cX5_spoil 13 = .ok (.ifCond .eq 7, 3) := by decide +kernel
theorem dX5_spoil_16 : decode cX5_spoil 16 = .ok (.iconst 0, 1) := by decide +kernel
theorem dX5_spoil_17 : decode cX5_spoil 17 = .ok (.goto 4, 3) := by decide +kernel
theorem dX5_spoil_20 : decode cX5_spoil 20 = .ok (.iconst 1, 1) := by decide +kernel
theorem dX5_spoil_21 : decode cX5_spoil 21 = .ok (.invokevirtual 75, 3) := by decide +kernel
theorem dX5_spoil_24 : decode cX5_spoil 24 = .ok (.ifCond .ne 5, 3) := by decide +kernel
theorem dX5_spoil_27 : decode cX5_spoil 27 = .ok (.iconst 0, 1) := by decide +kernel
theorem dX5_spoil_28 : decode cX5_spoil 28 = .ok (.ireturn, 1) := by decide +kernel
theorem dX5_spoil_29 : decode cX5_spoil 29 = .ok (.aload_n 0, 1) := by decide +kernel
theorem dX5_spoil_30 : decode cX5_spoil 30 = .ok (.getfield 26, 3) := by decide +kernel
theorem dX5_spoil_33 : decode cX5_spoil 33 = .ok (.iload_n 1, 1) := by decide +kernel
theorem dX5_spoil_34 : decode cX5_spoil 34 = .ok (.iaload, 1) := by decide +kernel
theorem dX5_spoil_35 : decode cX5_spoil 35 = .ok (.iload_n 2, 1) := by decide +kernel
theorem dX5_spoil_36 : decode cX5_spoil 36 = .ok (.invokestatic 89, 3) := by decide +kernel
theorem dX5_spoil_39 : decode cX5_spoil 39 = .ok (.istore 4, 2) := by decide +kernel
theorem dX5_spoil_41 : decode cX5_spoil 41 = .ok (.aload_n 0, 1) := by decide +kernel
theorem dX5_spoil_42 : decode cX5_spoil 42 = .ok (.getfield 26, 3) := by decide +kernel
theorem dX5_spoil_45 : decode cX5_spoil 45 = .ok (.iload_n 1, 1) := by decide +kernel
theorem dX5_spoil_46 : decode cX5_spoil 46 = .ok (.aload_n 0, 1) := by decide +kernel
theorem dX5_spoil_47 : decode cX5_spoil 47 = .ok (.getfield 26, 3) := by decide +kernel
theorem dX5_spoil_50 : decode cX5_spoil 50 = .ok (.iload_n 1, 1) := by decide +kernel
theorem dX5_spoil_51 : decode cX5_spoil 51 = .ok (.iaload, 1) := by decide +kernel
theorem dX5_spoil_52 : decode cX5_spoil 52 = .ok (.iconst 1, 1) := by decide +kernel
theorem dX5_spoil_53 : decode cX5_spoil 53 = .ok (.iload_n 2, 1) := by decide +kernel
theorem dX5_spoil_54 : decode cX5_spoil 54 = .ok (.ishl, 1) := by decide +kernel
theorem dX5_spoil_55 : decode cX5_spoil 55 = .ok (.iconst (-1), 1) := by decide +kernel
theorem dX5_spoil_56 : decode cX5_spoil 56 = .ok (.ixor, 1) := by decide +kernel
theorem dX5_spoil_57 : decode cX5_spoil 57 = .ok (.iand, 1) := by decide +kernel
theorem dX5_spoil_58 : decode cX5_spoil 58 = .ok (.iload_n 3, 1) := by decide +kernel
theorem dX5_spoil_59 : decode cX5_spoil 59 = .ok (.ifCond .eq 9, 3) := by decide +kernel
theorem dX5_spoil_62 : decode cX5_spoil 62 = .ok (.iconst 1, 1) := by decide +kernel
theorem dX5_spoil_63 : decode cX5_spoil 63 = .ok (.iload_n 2, 1) := by decide +kernel
theorem dX5_spoil_64 : decode cX5_spoil 64 = .ok (.ishl, 1) := by decide +kernel
theorem dX5_spoil_65 : decode cX5_spoil 65 = .ok (.goto 4, 3) := by decide +kernel
theorem dX5_spoil_68 : decode cX5_spoil 68 = .ok (.iconst 0, 1) := by decide +kernel
theorem dX5_spoil_69 : decode cX5_spoil 69 = .ok (.ior, 1) := by decide +kernel
theorem dX5_spoil_70 : decode cX5_spoil 70 = .ok (.iastore, 1) := by decide +kernel
theorem dX5_spoil_71 : decode cX5_spoil 71 = .ok (.iload 4, 2) := by decide +kernel
theorem dX5_spoil_73 : decode cX5_spoil 73 = .ok (.iload_n 3, 1) := by decide +kernel
theorem dX5_spoil_74 : decode cX5_spoil 74 = .ok (.if_icmp .eq 7, 3) := by decide +kernel
theorem dX5_spoil_77 : decode cX5_spoil 77 = .ok (.iconst 1, 1) := by decide +kernel
theorem dX5_spoil_78 : decode cX5_spoil 78 = .ok (.goto 4, 3) := by decide +kernel
theorem dX5_spoil_81 : decode cX5_spoil 81 = .ok (.iconst 0, 1) := by decide +kernel
theorem dX5_spoil_82 : decode cX5_spoil 82 = .ok (.ireturn, 1) := by decide +kernel
theorem dX5_holdersOf_0 : decode cX5_holdersOf 0 = .ok (.iconst 0, 1) := by decide +kernel
theorem dX5_holdersOf_1 : decode cX5_holdersOf 1 = .ok (.istore_n 2, 1) := by decide +kernel
theorem dX5_holdersOf_2 : decode cX5_holdersOf 2 = .ok (.iconst 0, 1) := by decide +kernel
theorem dX5_holdersOf_3 : decode cX5_holdersOf 3 = .ok (.istore_n 3, 1) := by decide +kernel
theorem dX5_holdersOf_4 : decode cX5_holdersOf 4 = .ok (.iload_n 3, 1) := by decide +kernel
theorem dX5_holdersOf_5 : decode cX5_holdersOf 5 = .ok (.aload_n 0, 1) := by decide +kernel
theorem dX5_holdersOf_6 : decode cX5_holdersOf 6 = .ok (.getfield 72, 3) := by decide +kernel
theorem dX5_holdersOf_9 : decode cX5_holdersOf 9 = .ok (.if_icmp .ge 39, 3) := by decide +kernel
theorem dX5_holdersOf_12 : decode cX5_holdersOf 12 = .ok (.iload_n 2, 1) := by decide +kernel
theorem dX5_holdersOf_13 : decode cX5_holdersOf 13 = .ok (.aload_n 0, 1) := by decide +kernel
theorem dX5_holdersOf_14 : decode cX5_holdersOf 14 = .ok (.getfield 13, 3) := by decide +kernel
theorem dX5_holdersOf_17 : decode cX5_holdersOf 17 = .ok (.iload_n 3, 1) := by decide +kernel
theorem dX5_holdersOf_18 : decode cX5_holdersOf 18 = .ok (.baload, 1) := by decide +kernel
theorem dX5_holdersOf_19 : decode cX5_holdersOf 19 = .ok (.ifCond .eq 20, 3) := by decide +kernel
theorem dX5_holdersOf_22 : decode cX5_holdersOf 22 = .ok (.aload_n 0, 1) := by decide +kernel
theorem dX5_holdersOf_23 : decode cX5_holdersOf 23 = .ok (.getfield 17, 3) := by decide +kernel
theorem dX5_holdersOf_26 : decode cX5_holdersOf 26 = .ok (.iload_n 3, 1) := by decide +kernel
theorem dX5_holdersOf_27 : decode cX5_holdersOf 27 = .ok (.iaload, 1) := by decide +kernel
theorem dX5_holdersOf_28 : decode cX5_holdersOf 28 = .ok (.iload_n 1, 1) := by decide +kernel
theorem dX5_holdersOf_29 : decode cX5_holdersOf 29 = .ok (.invokestatic 89, 3) := by decide +kernel
theorem dX5_holdersOf_32 : decode cX5_holdersOf 32 = .ok (.ifCond .eq 7, 3) := by decide +kernel
theorem dX5_holdersOf_35 : decode cX5_holdersOf 35 = .ok (.iconst 1, 1) := by decide +kernel
theorem dX5_holdersOf_36 : decode cX5_holdersOf 36 = .ok (.goto 4, 3) := by decide +kernel
theorem dX5_holdersOf_39 : decode cX5_holdersOf 39 = .ok (.iconst 0, 1) := by decide +kernel
theorem dX5_holdersOf_40 : decode cX5_holdersOf 40 = .ok (.iadd, 1) := by decide +kernel
theorem dX5_holdersOf_41 : decode cX5_holdersOf 41 = .ok (.istore_n 2, 1) := by decide +kernel
theorem dX5_holdersOf_42 : decode cX5_holdersOf 42 = .ok (.iinc 3 1, 3) := by decide +kernel
theorem dX5_holdersOf_45 : decode cX5_holdersOf 45 = .ok (.goto (-41), 3) := by decide +kernel
theorem dX5_holdersOf_48 : decode cX5_holdersOf 48 = .ok (.iload_n 2, 1) := by decide +kernel
theorem dX5_holdersOf_49 : decode cX5_holdersOf 49 = .ok (.ireturn, 1) := by decide +kernel
theorem dX5_shownBy_0 : decode cX5_shownBy 0 = .ok (.iload_n 1, 1) := by decide +kernel
theorem dX5_shownBy_1 : decode cX5_shownBy 1 = .ok (.iload_n 2, 1) := by decide +kernel
theorem dX5_shownBy_2 : decode cX5_shownBy 2 = .ok (.if_icmp .eq 12, 3) := by decide +kernel
theorem dX5_shownBy_5 : decode cX5_shownBy 5 = .ok (.aload_n 0, 1) := by decide +kernel
theorem dX5_shownBy_6 : decode cX5_shownBy 6 = .ok (.getfield 20, 3) := by decide +kernel
theorem dX5_shownBy_9 : decode cX5_shownBy 9 = .ok (.iload_n 1, 1) := by decide +kernel
theorem dX5_shownBy_10 : decode cX5_shownBy 10 = .ok (.baload, 1) := by decide +kernel
theorem dX5_shownBy_11 : decode cX5_shownBy 11 = .ok (.ifCond .ne 19, 3) := by decide +kernel
theorem dX5_shownBy_14 : decode cX5_shownBy 14 = .ok (.iload_n 1, 1) := by decide +kernel
theorem dX5_shownBy_15 : decode cX5_shownBy 15 = .ok (.iload_n 2, 1) := by decide +kernel
theorem dX5_shownBy_16 : decode cX5_shownBy 16 = .ok (.if_icmp .ne 7, 3) := by decide +kernel
theorem dX5_shownBy_19 : decode cX5_shownBy 19 = .ok (.iconst 0, 1) := by decide +kernel
theorem dX5_shownBy_20 : decode cX5_shownBy 20 = .ok (.goto 9, 3) := by decide +kernel
theorem dX5_shownBy_23 : decode cX5_shownBy 23 = .ok (.aload_n 0, 1) := by decide +kernel
theorem dX5_shownBy_24 : decode cX5_shownBy 24 = .ok (.getfield 17, 3) := by decide +kernel
theorem dX5_shownBy_27 : decode cX5_shownBy 27 = .ok (.iload_n 1, 1) := by decide +kernel
theorem dX5_shownBy_28 : decode cX5_shownBy 28 = .ok (.iaload, 1) := by decide +kernel
theorem dX5_shownBy_29 : decode cX5_shownBy 29 = .ok (.ireturn, 1) := by decide +kernel
theorem dX5_shownBy_30 : decode cX5_shownBy 30 = .ok (.iconst (-1), 1) := by decide +kernel
theorem dX5_shownBy_31 : decode cX5_shownBy 31 = .ok (.istore_n 3, 1) := by decide +kernel
theorem dX5_shownBy_32 : decode cX5_shownBy 32 = .ok (.bipush 11, 2) := by decide +kernel
theorem dX5_shownBy_34 : decode cX5_shownBy 34 = .ok (.istore 4, 2) := by decide +kernel
theorem dX5_shownBy_36 : decode cX5_shownBy 36 = .ok (.iload 4, 2) := by decide +kernel
theorem dX5_shownBy_38 : decode cX5_shownBy 38 = .ok (.ifCond .lt 84, 3) := by decide +kernel
theorem dX5_shownBy_41 : decode cX5_shownBy 41 = .ok (.iload_n 2, 1) := by decide +kernel
theorem dX5_shownBy_42 : decode cX5_shownBy 42 = .ok (.iload 4, 2) := by decide +kernel
theorem dX5_shownBy_44 : decode cX5_shownBy 44 = .ok (.iadd, 1) := by decide +kernel
theorem dX5_shownBy_45 : decode cX5_shownBy 45 = .ok (.bipush 12, 2) := by decide +kernel
theorem dX5_shownBy_47 : decode cX5_shownBy 47 = .ok (.irem, 1) := by decide +kernel
theorem dX5_shownBy_48 : decode cX5_shownBy 48 = .ok (.istore 5, 2) := by decide +kernel
theorem dX5_shownBy_50 : decode cX5_shownBy 50 = .ok (.aload_n 0, 1) := by decide +kernel
theorem dX5_shownBy_51 : decode cX5_shownBy 51 = .ok (.getfield 17, 3) := by decide +kernel
theorem dX5_shownBy_54 : decode cX5_shownBy 54 = .ok (.iload_n 1, 1) := by decide +kernel
theorem dX5_shownBy_55 : decode cX5_shownBy 55 = .ok (.iaload, 1) := by decide +kernel
theorem dX5_shownBy_56 : decode cX5_shownBy 56 = .ok (.iload 5, 2) := by decide +kernel
theorem dX5_shownBy_58 : decode cX5_shownBy 58 = .ok (.invokestatic 89, 3) := by decide +kernel
theorem dX5_shownBy_61 : decode cX5_shownBy 61 = .ok (.ifCond .eq 21, 3) := by decide +kernel
theorem dX5_shownBy_64 : decode cX5_shownBy 64 = .ok (.aload_n 0, 1) := by decide +kernel
theorem dX5_shownBy_65 : decode cX5_shownBy 65 = .ok (.getfield 17, 3) := by decide +kernel
theorem dX5_shownBy_68 : decode cX5_shownBy 68 = .ok (.iload_n 2, 1) := by decide +kernel
theorem dX5_shownBy_69 : decode cX5_shownBy 69 = .ok (.iaload, 1) := by decide +kernel
theorem dX5_shownBy_70 : decode cX5_shownBy 70 = .ok (.iload 5, 2) := by decide +kernel
theorem dX5_shownBy_72 : decode cX5_shownBy 72 = .ok (.invokestatic 89, 3) := by decide +kernel
theorem dX5_shownBy_75 : decode cX5_shownBy 75 = .ok (.ifCond .ne 7, 3) := by decide +kernel
theorem dX5_shownBy_78 : decode cX5_shownBy 78 = .ok (.iconst 1, 1) := by decide +kernel
theorem dX5_shownBy_79 : decode cX5_shownBy 79 = .ok (.goto 4, 3) := by decide +kernel
theorem dX5_shownBy_82 : decode cX5_shownBy 82 = .ok (.iconst 0, 1) := by decide +kernel
theorem dX5_shownBy_83 : decode cX5_shownBy 83 = .ok (.istore 6, 2) := by decide +kernel
theorem dX5_shownBy_85 : decode cX5_shownBy 85 = .ok (.iload 6, 2) := by decide +kernel
theorem dX5_shownBy_87 : decode cX5_shownBy 87 = .ok (.ifCond .eq 27, 3) := by decide +kernel
theorem dX5_shownBy_90 : decode cX5_shownBy 90 = .ok (.iload_n 3, 1) := by decide +kernel
theorem dX5_shownBy_91 : decode cX5_shownBy 91 = .ok (.iconst (-1), 1) := by decide +kernel
theorem dX5_shownBy_92 : decode cX5_shownBy 92 = .ok (.if_icmp .eq 17, 3) := by decide +kernel
theorem dX5_shownBy_95 : decode cX5_shownBy 95 = .ok (.aload_n 0, 1) := by decide +kernel
theorem dX5_shownBy_96 : decode cX5_shownBy 96 = .ok (.iload 5, 2) := by decide +kernel
theorem dX5_shownBy_98 : decode cX5_shownBy 98 = .ok (.invokevirtual 93, 3) := by decide +kernel
theorem dX5_shownBy_101 : decode cX5_shownBy 101 = .ok (.aload_n 0, 1) := by decide +kernel
theorem dX5_shownBy_102 : decode cX5_shownBy 102 = .ok (.iload_n 3, 1) := by decide +kernel
theorem dX5_shownBy_103 : decode cX5_shownBy 103 = .ok (.invokevirtual 93, 3) := by decide +kernel
theorem dX5_shownBy_106 : decode cX5_shownBy 106 = .ok (.if_icmp .gt 8, 3) := by decide +kernel
theorem dX5_shownBy_109 : decode cX5_shownBy 109 = .ok (.iload 5, 2) := by decide +kernel
theorem dX5_shownBy_111 : decode cX5_shownBy 111 = .ok (.goto 4, 3) := by decide +kernel
theorem dX5_shownBy_114 : decode cX5_shownBy 114 = .ok (.iload_n 3, 1) := by decide +kernel
theorem dX5_shownBy_115 : decode cX5_shownBy 115 = .ok (.istore_n 3, 1) := by decide +kernel
theorem dX5_shownBy_116 : decode cX5_shownBy 116 = .ok (.iinc 4 (-1), 3) := by decide +kernel
theorem dX5_shownBy_119 : decode cX5_shownBy 119 = .ok (.goto (-83), 3) := by decide +kernel
theorem dX5_shownBy_122 : decode cX5_shownBy 122 = .ok (.iload_n 3, 1) := by decide +kernel
theorem dX5_shownBy_123 : decode cX5_shownBy 123 = .ok (.iconst (-1), 1) := by decide +kernel
theorem dX5_shownBy_124 : decode cX5_shownBy 124 = .ok (.if_icmp .ne 7, 3) := by decide +kernel
theorem dX5_shownBy_127 : decode cX5_shownBy 127 = .ok (.iconst 0, 1) := by decide +kernel
theorem dX5_shownBy_128 : decode cX5_shownBy 128 = .ok (.goto 6, 3) := by decide +kernel
theorem dX5_shownBy_131 : decode cX5_shownBy 131 = .ok (.iconst 1, 1) := by decide +kernel
theorem dX5_shownBy_132 : decode cX5_shownBy 132 = .ok (.iload_n 3, 1) := by decide +kernel
theorem dX5_shownBy_133 : decode cX5_shownBy 133 = .ok (.ishl, 1) := by decide +kernel
theorem dX5_shownBy_134 : decode cX5_shownBy 134 = .ok (.ireturn, 1) := by decide +kernel
theorem dX5_lackedBy_0 : decode cX5_lackedBy 0 = .ok (.iconst 0, 1) := by decide +kernel
theorem dX5_lackedBy_1 : decode cX5_lackedBy 1 = .ok (.istore_n 2, 1) := by decide +kernel
theorem dX5_lackedBy_2 : decode cX5_lackedBy 2 = .ok (.iconst 0, 1) := by decide +kernel
theorem dX5_lackedBy_3 : decode cX5_lackedBy 3 = .ok (.istore_n 3, 1) := by decide +kernel
theorem dX5_lackedBy_4 : decode cX5_lackedBy 4 = .ok (.iload_n 3, 1) := by decide +kernel
theorem dX5_lackedBy_5 : decode cX5_lackedBy 5 = .ok (.bipush 12, 2) := by decide +kernel
theorem dX5_lackedBy_7 : decode cX5_lackedBy 7 = .ok (.if_icmp .ge 41, 3) := by decide +kernel
theorem dX5_lackedBy_10 : decode cX5_lackedBy 10 = .ok (.iload_n 2, 1) := by decide +kernel
theorem dX5_lackedBy_11 : decode cX5_lackedBy 11 = .ok (.aload_n 0, 1) := by decide +kernel
theorem dX5_lackedBy_12 : decode cX5_lackedBy 12 = .ok (.getfield 7, 3) := by decide +kernel
theorem dX5_lackedBy_15 : decode cX5_lackedBy 15 = .ok (.iload_n 3, 1) := by decide +kernel
theorem dX5_lackedBy_16 : decode cX5_lackedBy 16 = .ok (.iaload, 1) := by decide +kernel
theorem dX5_lackedBy_17 : decode cX5_lackedBy 17 = .ok (.ifCond .le 22, 3) := by decide +kernel
theorem dX5_lackedBy_20 : decode cX5_lackedBy 20 = .ok (.aload_n 0, 1) := by decide +kernel
theorem dX5_lackedBy_21 : decode cX5_lackedBy 21 = .ok (.getfield 17, 3) := by decide +kernel
theorem dX5_lackedBy_24 : decode cX5_lackedBy 24 = .ok (.iload_n 1, 1) := by decide +kernel
theorem dX5_lackedBy_25 : decode cX5_lackedBy 25 = .ok (.iaload, 1) := by decide +kernel
theorem dX5_lackedBy_26 : decode cX5_lackedBy 26 = .ok (.iload_n 3, 1) := by decide +kernel
theorem dX5_lackedBy_27 : decode cX5_lackedBy 27 = .ok (.invokestatic 89, 3) := by decide +kernel
theorem dX5_lackedBy_30 : decode cX5_lackedBy 30 = .ok (.ifCond .ne 9, 3) := by decide +kernel
theorem dX5_lackedBy_33 : decode cX5_lackedBy 33 = .ok (.iconst 1, 1) := by decide +kernel
theorem dX5_lackedBy_34 : decode cX5_lackedBy 34 = .ok (.iload_n 3, 1) := by decide +kernel
theorem dX5_lackedBy_35 : decode cX5_lackedBy 35 = .ok (.ishl, 1) := by decide +kernel
theorem dX5_lackedBy_36 : decode cX5_lackedBy 36 = .ok (.goto 4, 3) := by decide +kernel
theorem dX5_lackedBy_39 : decode cX5_lackedBy 39 = .ok (.iconst 0, 1) := by decide +kernel
theorem dX5_lackedBy_40 : decode cX5_lackedBy 40 = .ok (.ior, 1) := by decide +kernel
theorem dX5_lackedBy_41 : decode cX5_lackedBy 41 = .ok (.istore_n 2, 1) := by decide +kernel
theorem dX5_lackedBy_42 : decode cX5_lackedBy 42 = .ok (.iinc 3 1, 3) := by decide +kernel
theorem dX5_lackedBy_45 : decode cX5_lackedBy 45 = .ok (.goto (-41), 3) := by decide +kernel
theorem dX5_lackedBy_48 : decode cX5_lackedBy 48 = .ok (.iload_n 2, 1) := by decide +kernel
theorem dX5_lackedBy_49 : decode cX5_lackedBy 49 = .ok (.ireturn, 1) := by decide +kernel
theorem dX5_wants_0 : decode cX5_wants 0 = .ok (.iload_n 1, 1) := by decide +kernel
theorem dX5_wants_1 : decode cX5_wants 1 = .ok (.iload_n 2, 1) := by decide +kernel
theorem dX5_wants_2 : decode cX5_wants 2 = .ok (.if_icmp .eq 25, 3) := by decide +kernel
theorem dX5_wants_5 : decode cX5_wants 5 = .ok (.aload_n 0, 1) := by decide +kernel
theorem dX5_wants_6 : decode cX5_wants 6 = .ok (.getfield 13, 3) := by decide +kernel
theorem dX5_wants_9 : decode cX5_wants 9 = .ok (.iload_n 1, 1) := by decide +kernel
theorem dX5_wants_10 : decode cX5_wants 10 = .ok (.baload, 1) := by decide +kernel
theorem dX5_wants_11 : decode cX5_wants 11 = .ok (.ifCond .eq 16, 3) := by decide +kernel
theorem dX5_wants_14 : decode cX5_wants 14 = .ok (.aload_n 0, 1) := by decide +kernel
theorem dX5_wants_15 : decode cX5_wants 15 = .ok (.getfield 13, 3) := by decide +kernel
theorem dX5_wants_18 : decode cX5_wants 18 = .ok (.iload_n 2, 1) := by decide +kernel
theorem dX5_wants_19 : decode cX5_wants 19 = .ok (.baload, 1) := by decide +kernel
theorem dX5_wants_20 : decode cX5_wants 20 = .ok (.ifCond .eq 7, 3) := by decide +kernel
theorem dX5_wants_23 : decode cX5_wants 23 = .ok (.iconst 1, 1) := by decide +kernel
theorem dX5_wants_24 : decode cX5_wants 24 = .ok (.goto 4, 3) := by decide +kernel
theorem dX5_wants_27 : decode cX5_wants 27 = .ok (.iconst 0, 1) := by decide +kernel
theorem dX5_wants_28 : decode cX5_wants 28 = .ok (.istore_n 3, 1) := by decide +kernel
theorem dX5_wants_29 : decode cX5_wants 29 = .ok (.iload_n 3, 1) := by decide +kernel
theorem dX5_wants_30 : decode cX5_wants 30 = .ok (.ifCond .eq 35, 3) := by decide +kernel
theorem dX5_wants_33 : decode cX5_wants 33 = .ok (.aload_n 0, 1) := by decide +kernel
theorem dX5_wants_34 : decode cX5_wants 34 = .ok (.getfield 50, 3) := by decide +kernel
theorem dX5_wants_37 : decode cX5_wants 37 = .ok (.iload_n 1, 1) := by decide +kernel
theorem dX5_wants_38 : decode cX5_wants 38 = .ok (.iload_n 2, 1) := by decide +kernel
theorem dX5_wants_39 : decode cX5_wants 39 = .ok (.invokestatic 96, 3) := by decide +kernel
theorem dX5_wants_42 : decode cX5_wants 42 = .ok (.baload, 1) := by decide +kernel
theorem dX5_wants_43 : decode cX5_wants 43 = .ok (.ifCond .ne 22, 3) := by decide +kernel
theorem dX5_wants_46 : decode cX5_wants 46 = .ok (.aload_n 0, 1) := by decide +kernel
theorem dX5_wants_47 : decode cX5_wants 47 = .ok (.iload_n 2, 1) := by decide +kernel
theorem dX5_wants_48 : decode cX5_wants 48 = .ok (.iload_n 1, 1) := by decide +kernel
theorem dX5_wants_49 : decode cX5_wants 49 = .ok (.invokevirtual 100, 3) := by decide +kernel
theorem dX5_wants_52 : decode cX5_wants 52 = .ok (.aload_n 0, 1) := by decide +kernel
theorem dX5_wants_53 : decode cX5_wants 53 = .ok (.iload_n 1, 1) := by decide +kernel
theorem dX5_wants_54 : decode cX5_wants 54 = .ok (.invokevirtual 103, 3) := by decide +kernel
theorem dX5_wants_57 : decode cX5_wants 57 = .ok (.iand, 1) := by decide +kernel
theorem dX5_wants_58 : decode cX5_wants 58 = .ok (.ifCond .eq 7, 3) := by decide +kernel
theorem dX5_wants_61 : decode cX5_wants 61 = .ok (.iconst 1, 1) := by decide +kernel
theorem dX5_wants_62 : decode cX5_wants 62 = .ok (.goto 4, 3) := by decide +kernel
theorem dX5_wants_65 : decode cX5_wants 65 = .ok (.iconst 0, 1) := by decide +kernel
theorem dX5_wants_66 : decode cX5_wants 66 = .ok (.ireturn, 1) := by decide +kernel
theorem dX5_choiceOf_0 : decode cX5_choiceOf 0 = .ok (.iconst 0, 1) := by decide +kernel
theorem dX5_choiceOf_1 : decode cX5_choiceOf 1 = .ok (.istore_n 2, 1) := by decide +kernel
theorem dX5_choiceOf_2 : decode cX5_choiceOf 2 = .ok (.iconst 0, 1) := by decide +kernel
theorem dX5_choiceOf_3 : decode cX5_choiceOf 3 = .ok (.istore_n 3, 1) := by decide +kernel
theorem dX5_choiceOf_4 : decode cX5_choiceOf 4 = .ok (.iload_n 3, 1) := by decide +kernel
