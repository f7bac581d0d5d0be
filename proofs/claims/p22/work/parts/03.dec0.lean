theorem dX0_init_0 : decode cX0_init 0 = .ok (.aload_n 0, 1) := by decide +kernel
theorem dX0_init_1 : decode cX0_init 1 = .ok (.invokespecial 3, 3) := by decide +kernel
theorem dX0_init_4 : decode cX0_init 4 = .ok (.aload_n 0, 1) := by decide +kernel
theorem dX0_init_5 : decode cX0_init 5 = .ok (.bipush 6, 2) := by decide +kernel
theorem dX0_init_7 : decode cX0_init 7 = .ok (.newarray .int, 2) := by decide +kernel
theorem dX0_init_9 : decode cX0_init 9 = .ok (.putfield 9, 3) := by decide +kernel
theorem dX0_init_12 : decode cX0_init 12 = .ok (.aload_n 0, 1) := by decide +kernel
theorem dX0_init_13 : decode cX0_init 13 = .ok (.bipush 6, 2) := by decide +kernel
theorem dX0_init_15 : decode cX0_init 15 = .ok (.newarray .int, 2) := by decide +kernel
theorem dX0_init_17 : decode cX0_init 17 = .ok (.putfield 15, 3) := by decide +kernel
theorem dX0_init_20 : decode cX0_init 20 = .ok (.aload_n 0, 1) := by decide +kernel
theorem dX0_init_21 : decode cX0_init 21 = .ok (.iconst 0, 1) := by decide +kernel
theorem dX0_init_22 : decode cX0_init 22 = .ok (.putfield 18, 3) := by decide +kernel
theorem dX0_init_25 : decode cX0_init 25 = .ok (.aload_n 0, 1) := by decide +kernel
theorem dX0_init_26 : decode cX0_init 26 = .ok (.lconst 0, 1) := by decide +kernel
theorem dX0_init_27 : decode cX0_init 27 = .ok (.putfield 22, 3) := by decide +kernel
theorem dX0_init_30 : decode cX0_init 30 = .ok (.return_, 1) := by decide +kernel
theorem dX0_clear_0 : decode cX0_clear 0 = .ok (.aload_n 0, 1) := by decide +kernel
theorem dX0_clear_1 : decode cX0_clear 1 = .ok (.iconst 0, 1) := by decide +kernel
theorem dX0_clear_2 : decode cX0_clear 2 = .ok (.putfield 18, 3) := by decide +kernel
theorem dX0_clear_5 : decode cX0_clear 5 = .ok (.aload_n 0, 1) := by decide +kernel
theorem dX0_clear_6 : decode cX0_clear 6 = .ok (.lconst 0, 1) := by decide +kernel
theorem dX0_clear_7 : decode cX0_clear 7 = .ok (.putfield 22, 3) := by decide +kernel
theorem dX0_clear_10 : decode cX0_clear 10 = .ok (.return_, 1) := by decide +kernel
theorem dX0_add_0 : decode cX0_add 0 = .ok (.iload_n 1, 1) := by decide +kernel
theorem dX0_add_1 : decode cX0_add 1 = .ok (.iconst (-1), 1) := by decide +kernel
theorem dX0_add_2 : decode cX0_add 2 = .ok (.if_icmp .eq 57, 3) := by decide +kernel
theorem dX0_add_5 : decode cX0_add 5 = .ok (.aload_n 0, 1) := by decide +kernel
theorem dX0_add_6 : decode cX0_add 6 = .ok (.getfield 18, 3) := by decide +kernel
theorem dX0_add_9 : decode cX0_add 9 = .ok (.aload_n 0, 1) := by decide +kernel
theorem dX0_add_10 : decode cX0_add 10 = .ok (.getfield 9, 3) := by decide +kernel
theorem dX0_add_13 : decode cX0_add 13 = .ok (.arraylength, 1) := by decide +kernel
theorem dX0_add_14 : decode cX0_add 14 = .ok (.if_icmp .ge 45, 3) := by decide +kernel
theorem dX0_add_17 : decode cX0_add 17 = .ok (.aload_n 0, 1) := by decide +kernel
theorem dX0_add_18 : decode cX0_add 18 = .ok (.getfield 9, 3) := by decide +kernel
theorem dX0_add_21 : decode cX0_add 21 = .ok (.aload_n 0, 1) := by decide +kernel
theorem dX0_add_22 : decode cX0_add 22 = .ok (.getfield 18, 3) := by decide +kernel
theorem dX0_add_25 : decode cX0_add 25 = .ok (.iload_n 1, 1) := by decide +kernel
theorem dX0_add_26 : decode cX0_add 26 = .ok (.iastore, 1) := by decide +kernel
theorem dX0_add_27 : decode cX0_add 27 = .ok (.aload_n 0, 1) := by decide +kernel
theorem dX0_add_28 : decode cX0_add 28 = .ok (.getfield 15, 3) := by decide +kernel
theorem dX0_add_31 : decode cX0_add 31 = .ok (.aload_n 0, 1) := by decide +kernel
theorem dX0_add_32 : decode cX0_add 32 = .ok (.getfield 18, 3) := by decide +kernel
theorem dX0_add_35 : decode cX0_add 35 = .ok (.iload_n 2, 1) := by decide +kernel
theorem dX0_add_36 : decode cX0_add 36 = .ok (.iastore, 1) := by decide +kernel
theorem dX0_add_37 : decode cX0_add 37 = .ok (.aload_n 0, 1) := by decide +kernel
theorem dX0_add_38 : decode cX0_add 38 = .ok (.dup, 1) := by decide +kernel
theorem dX0_add_39 : decode cX0_add 39 = .ok (.getfield 18, 3) := by decide +kernel
theorem dX0_add_42 : decode cX0_add 42 = .ok (.iconst 1, 1) := by decide +kernel
theorem dX0_add_43 : decode cX0_add 43 = .ok (.iadd, 1) := by decide +kernel
theorem dX0_add_44 : decode cX0_add 44 = .ok (.putfield 18, 3) := by decide +kernel
theorem dX0_add_47 : decode cX0_add 47 = .ok (.aload_n 0, 1) := by decide +kernel
theorem dX0_add_48 : decode cX0_add 48 = .ok (.dup, 1) := by decide +kernel
theorem dX0_add_49 : decode cX0_add 49 = .ok (.getfield 22, 3) := by decide +kernel
theorem dX0_add_52 : decode cX0_add 52 = .ok (.lconst 1, 1) := by decide +kernel
theorem dX0_add_53 : decode cX0_add 53 = .ok (.iload_n 1, 1) := by decide +kernel
theorem dX0_add_54 : decode cX0_add 54 = .ok (.lshl, 1) := by decide +kernel
theorem dX0_add_55 : decode cX0_add 55 = .ok (.lor, 1) := by decide +kernel
theorem dX0_add_56 : decode cX0_add 56 = .ok (.putfield 22, 3) := by decide +kernel
theorem dX0_add_59 : decode cX0_add 59 = .ok (.return_, 1) := by decide +kernel
theorem dX1_init_0 : decode cX1_init 0 = .ok (.aload_n 0, 1) := by decide +kernel
theorem dX1_init_1 : decode cX1_init 1 = .ok (.invokespecial 3, 3) := by decide +kernel
theorem dX1_init_4 : decode cX1_init 4 = .ok (.aload_n 0, 1) := by decide +kernel
theorem dX1_init_5 : decode cX1_init 5 = .ok (.sipush 1000, 3) := by decide +kernel
theorem dX1_init_8 : decode cX1_init 8 = .ok (.newarray .int, 2) := by decide +kernel
theorem dX1_init_10 : decode cX1_init 10 = .ok (.putfield 9, 3) := by decide +kernel
theorem dX1_init_13 : decode cX1_init 13 = .ok (.aload_n 0, 1) := by decide +kernel
theorem dX1_init_14 : decode cX1_init 14 = .ok (.iconst 0, 1) := by decide +kernel
theorem dX1_init_15 : decode cX1_init 15 = .ok (.putfield 15, 3) := by decide +kernel
theorem dX1_init_18 : decode cX1_init 18 = .ok (.aload_n 0, 1) := by decide +kernel
theorem dX1_init_19 : decode cX1_init 19 = .ok (.iload_n 1, 1) := by decide +kernel
theorem dX1_init_20 : decode cX1_init 20 = .ok (.putfield 19, 3) := by decide +kernel
theorem dX1_init_23 : decode cX1_init 23 = .ok (.return_, 1) := by decide +kernel
theorem dX1_add_0 : decode cX1_add 0 = .ok (.aload_n 0, 1) := by decide +kernel
theorem dX1_add_1 : decode cX1_add 1 = .ok (.getfield 15, 3) := by decide +kernel
theorem dX1_add_4 : decode cX1_add 4 = .ok (.aload_n 0, 1) := by decide +kernel
theorem dX1_add_5 : decode cX1_add 5 = .ok (.getfield 9, 3) := by decide +kernel
theorem dX1_add_8 : decode cX1_add 8 = .ok (.arraylength, 1) := by decide +kernel
theorem dX1_add_9 : decode cX1_add 9 = .ok (.if_icmp .ge 40, 3) := by decide +kernel
theorem dX1_add_12 : decode cX1_add 12 = .ok (.aload_n 0, 1) := by decide +kernel
theorem dX1_add_13 : decode cX1_add 13 = .ok (.getfield 9, 3) := by decide +kernel
theorem dX1_add_16 : decode cX1_add 16 = .ok (.aload_n 0, 1) := by decide +kernel
theorem dX1_add_17 : decode cX1_add 17 = .ok (.getfield 15, 3) := by decide +kernel
theorem dX1_add_20 : decode cX1_add 20 = .ok (.iload_n 1, 1) := by decide +kernel
theorem dX1_add_21 : decode cX1_add 21 = .ok (.iconst 2, 1) := by decide +kernel
theorem dX1_add_22 : decode cX1_add 22 = .ok (.imul, 1) := by decide +kernel
theorem dX1_add_23 : decode cX1_add 23 = .ok (.iload_n 3, 1) := by decide +kernel
theorem dX1_add_24 : decode cX1_add 24 = .ok (.ifCond .eq 7, 3) := by decide +kernel
theorem dX1_add_27 : decode cX1_add 27 = .ok (.iconst 1, 1) := by decide +kernel
theorem dX1_add_28 : decode cX1_add 28 = .ok (.goto 4, 3) := by decide +kernel
theorem dX1_add_31 : decode cX1_add 31 = .ok (.iconst 0, 1) := by decide +kernel
theorem dX1_add_32 : decode cX1_add 32 = .ok (.iadd, 1) := by decide +kernel
theorem dX1_add_33 : decode cX1_add 33 = .ok (.bipush 48, 2) := by decide +kernel
theorem dX1_add_35 : decode cX1_add 35 = .ok (.imul, 1) := by decide +kernel
theorem dX1_add_36 : decode cX1_add 36 = .ok (.iload_n 2, 1) := by decide +kernel
theorem dX1_add_37 : decode cX1_add 37 = .ok (.iadd, 1) := by decide +kernel
theorem dX1_add_38 : decode cX1_add 38 = .ok (.iastore, 1) := by decide +kernel
theorem dX1_add_39 : decode cX1_add 39 = .ok (.aload_n 0, 1) := by decide +kernel
theorem dX1_add_40 : decode cX1_add 40 = .ok (.dup, 1) := by decide +kernel
theorem dX1_add_41 : decode cX1_add 41 = .ok (.getfield 15, 3) := by decide +kernel
theorem dX1_add_44 : decode cX1_add 44 = .ok (.iconst 1, 1) := by decide +kernel
theorem dX1_add_45 : decode cX1_add 45 = .ok (.iadd, 1) := by decide +kernel
theorem dX1_add_46 : decode cX1_add 46 = .ok (.putfield 15, 3) := by decide +kernel
theorem dX1_add_49 : decode cX1_add 49 = .ok (.return_, 1) := by decide +kernel
theorem dX1_replayHeld_0 : decode cX1_replayHeld 0 = .ok (.new 22, 3) := by decide +kernel
theorem dX1_replayHeld_3 : decode cX1_replayHeld 3 = .ok (.dup, 1) := by decide +kernel
theorem dX1_replayHeld_4 : decode cX1_replayHeld 4 = .ok (.aload_n 0, 1) := by decide +kernel
theorem dX1_replayHeld_5 : decode cX1_replayHeld 5 = .ok (.getfield 19, 3) := by decide +kernel
theorem dX1_replayHeld_8 : decode cX1_replayHeld 8 = .ok (.invokespecial 24, 3) := by decide +kernel
theorem dX1_replayHeld_11 : decode cX1_replayHeld 11 = .ok (.astore_n 1, 1) := by decide +kernel
theorem dX1_replayHeld_12 : decode cX1_replayHeld 12 = .ok (.iconst 0, 1) := by decide +kernel
theorem dX1_replayHeld_13 : decode cX1_replayHeld 13 = .ok (.istore_n 2, 1) := by decide +kernel
theorem dX1_replayHeld_14 : decode cX1_replayHeld 14 = .ok (.iconst 0, 1) := by decide +kernel
theorem dX1_replayHeld_15 : decode cX1_replayHeld 15 = .ok (.istore_n 3, 1) := by decide +kernel
theorem dX1_replayHeld_16 : decode cX1_replayHeld 16 = .ok (.iload_n 3, 1) := by decide +kernel
theorem dX1_replayHeld_17 : decode cX1_replayHeld 17 = .ok (.aload_n 0, 1) := by decide +kernel
theorem dX1_replayHeld_18 : decode cX1_replayHeld 18 = .ok (.getfield 15, 3) := by decide +kernel
theorem dX1_replayHeld_21 : decode cX1_replayHeld 21 = .ok (.if_icmp .ge 62, 3) := by decide +kernel
theorem dX1_replayHeld_24 : decode cX1_replayHeld 24 = .ok (.aload_n 0, 1) := by decide +kernel
theorem dX1_replayHeld_25 : decode cX1_replayHeld 25 = .ok (.getfield 9, 3) := by decide +kernel
theorem dX1_replayHeld_28 : decode cX1_replayHeld 28 = .ok (.iload_n 3, 1) := by decide +kernel
theorem dX1_replayHeld_29 : decode cX1_replayHeld 29 = .ok (.iaload, 1) := by decide +kernel
theorem dX1_replayHeld_30 : decode cX1_replayHeld 30 = .ok (.istore 4, 2) := by decide +kernel
theorem dX1_replayHeld_32 : decode cX1_replayHeld 32 = .ok (.iload 4, 2) := by decide +kernel
theorem dX1_replayHeld_34 : decode cX1_replayHeld 34 = .ok (.bipush 96, 2) := by decide +kernel
theorem dX1_replayHeld_36 : decode cX1_replayHeld 36 = .ok (.idiv, 1) := by decide +kernel
theorem dX1_replayHeld_37 : decode cX1_replayHeld 37 = .ok (.iload_n 2, 1) := by decide +kernel
theorem dX1_replayHeld_38 : decode cX1_replayHeld 38 = .ok (.if_icmp .eq 13, 3) := by decide +kernel
theorem dX1_replayHeld_41 : decode cX1_replayHeld 41 = .ok (.aload_n 1, 1) := by decide +kernel
theorem dX1_replayHeld_42 : decode cX1_replayHeld 42 = .ok (.invokevirtual 27, 3) := by decide +kernel
theorem dX1_replayHeld_45 : decode cX1_replayHeld 45 = .ok (.iload 4, 2) := by decide +kernel
theorem dX1_replayHeld_47 : decode cX1_replayHeld 47 = .ok (.bipush 96, 2) := by decide +kernel
theorem dX1_replayHeld_49 : decode cX1_replayHeld 49 = .ok (.idiv, 1) := by decide +kernel
theorem dX1_replayHeld_50 : decode cX1_replayHeld 50 = .ok (.istore_n 2, 1) := by decide +kernel
theorem dX1_replayHeld_51 : decode cX1_replayHeld 51 = .ok (.aload_n 1, 1) := by decide +kernel
theorem dX1_replayHeld_52 : decode cX1_replayHeld 52 = .ok (.iload 4, 2) := by decide +kernel
theorem dX1_replayHeld_54 : decode cX1_replayHeld 54 = .ok (.bipush 48, 2) := by decide +kernel
theorem dX1_replayHeld_56 : decode cX1_replayHeld 56 = .ok (.irem, 1) := by decide +kernel
theorem dX1_replayHeld_57 : decode cX1_replayHeld 57 = .ok (.iload 4, 2) := by decide +kernel
theorem dX1_replayHeld_59 : decode cX1_replayHeld 59 = .ok (.bipush 48, 2) := by decide +kernel
theorem dX1_replayHeld_61 : decode cX1_replayHeld 61 = .ok (.idiv, 1) := by decide +kernel
theorem dX1_replayHeld_62 : decode cX1_replayHeld 62 = .ok (.iconst 2, 1) := by decide +kernel
theorem dX1_replayHeld_63 : decode cX1_replayHeld 63 = .ok (.irem, 1) := by decide +kernel
theorem dX1_replayHeld_64 : decode cX1_replayHeld 64 = .ok (.iconst 1, 1) := by decide +kernel
theorem dX1_replayHeld_65 : decode cX1_replayHeld 65 = .ok (.if_icmp .ne 7, 3) := by decide +kernel
theorem dX1_replayHeld_68 : decode cX1_replayHeld 68 = .ok (.iconst 1, 1) := by decide +kernel
theorem dX1_replayHeld_69 : decode cX1_replayHeld 69 = .ok (.goto 4, 3) := by decide +kernel
theorem dX1_replayHeld_72 : decode cX1_replayHeld 72 = .ok (.iconst 0, 1) := by decide +kernel
theorem dX1_replayHeld_73 : decode cX1_replayHeld 73 = .ok (.invokevirtual 30, 3) := by decide +kernel
theorem dX1_replayHeld_76 : decode cX1_replayHeld 76 = .ok (.pop, 1) := by decide +kernel
theorem dX1_replayHeld_77 : decode cX1_replayHeld 77 = .ok (.iinc 3 1, 3) := by decide +kernel
theorem dX1_replayHeld_80 : decode cX1_replayHeld 80 = .ok (.goto (-64), 3) := by decide +kernel
theorem dX1_replayHeld_83 : decode cX1_replayHeld 83 = .ok (.aload_n 1, 1) := by decide +kernel
theorem dX1_replayHeld_84 : decode cX1_replayHeld 84 = .ok (.invokevirtual 27, 3) := by decide +kernel
theorem dX1_replayHeld_87 : decode cX1_replayHeld 87 = .ok (.aload_n 1, 1) := by decide +kernel
theorem dX1_replayHeld_88 : decode cX1_replayHeld 88 = .ok (.getfield 34, 3) := by decide +kernel
theorem dX1_replayHeld_91 : decode cX1_replayHeld 91 = .ok (.ireturn, 1) := by decide +kernel
theorem dX2_init_0 : decode cX2_init 0 = .ok (.aload_n 0, 1) := by decide +kernel
theorem dX2_init_1 : decode cX2_init 1 = .ok (.invokespecial 3, 3) := by decide +kernel
theorem dX2_init_4 : decode cX2_init 4 = .ok (.aload_n 0, 1) := by decide +kernel
theorem dX2_init_5 : decode cX2_init 5 = .ok (.new 9, 3) := by decide +kernel
theorem dX2_init_8 : decode cX2_init 8 = .ok (.dup, 1) := by decide +kernel
theorem dX2_init_9 : decode cX2_init 9 = .ok (.invokespecial 11, 3) := by decide +kernel
theorem dX2_init_12 : decode cX2_init 12 = .ok (.putfield 12, 3) := by decide +kernel
theorem dX2_init_15 : decode cX2_init 15 = .ok (.aload_n 0, 1) := by decide +kernel
theorem dX2_init_16 : decode cX2_init 16 = .ok (.iconst 0, 1) := by decide +kernel
theorem dX2_init_17 : decode cX2_init 17 = .ok (.putfield 18, 3) := by decide +kernel
theorem dX2_init_20 : decode cX2_init 20 = .ok (.aload_n 0, 1) := by decide +kernel
theorem dX2_init_21 : decode cX2_init 21 = .ok (.iconst 0, 1) := by decide +kernel
theorem dX2_init_22 : decode cX2_init 22 = .ok (.putfield 22, 3) := by decide +kernel
theorem dX2_init_25 : decode cX2_init 25 = .ok (.aload_n 0, 1) := by decide +kernel
theorem dX2_init_26 : decode cX2_init 26 = .ok (.iconst 0, 1) := by decide +kernel
theorem dX2_init_27 : decode cX2_init 27 = .ok (.putfield 26, 3) := by decide +kernel
theorem dX2_init_30 : decode cX2_init 30 = .ok (.aload_n 0, 1) := by decide +kernel
theorem dX2_init_31 : decode cX2_init 31 = .ok (.bipush 6, 2) := by decide +kernel
theorem dX2_init_33 : decode cX2_init 33 = .ok (.newarray .long, 2) := by decide +kernel
theorem dX2_init_35 : decode cX2_init 35 = .ok (.putfield 29, 3) := by decide +kernel
theorem dX2_init_38 : decode cX2_init 38 = .ok (.aload_n 0, 1) := by decide +kernel
theorem dX2_init_39 : decode cX2_init 39 = .ok (.bipush 6, 2) := by decide +kernel
theorem dX2_init_41 : decode cX2_init 41 = .ok (.newarray .int, 2) := by decide +kernel
theorem dX2_init_43 : decode cX2_init 43 = .ok (.putfield 33, 3) := by decide +kernel
theorem dX2_init_46 : decode cX2_init 46 = .ok (.aload_n 0, 1) := by decide +kernel
theorem dX2_init_47 : decode cX2_init 47 = .ok (.bipush 6, 2) := by decide +kernel
theorem dX2_init_49 : decode cX2_init 49 = .ok (.newarray .int, 2) := by decide +kernel
theorem dX2_init_51 : decode cX2_init 51 = .ok (.putfield 37, 3) := by decide +kernel
theorem dX2_init_54 : decode cX2_init 54 = .ok (.aload_n 0, 1) := by decide +kernel
theorem dX2_init_55 : decode cX2_init 55 = .ok (.iconst 0, 1) := by decide +kernel
theorem dX2_init_56 : decode cX2_init 56 = .ok (.putfield 40, 3) := by decide +kernel
theorem dX2_init_59 : decode cX2_init 59 = .ok (.aload_n 0, 1) := by decide +kernel
theorem dX2_init_60 : decode cX2_init 60 = .ok (.iconst 0, 1) := by decide +kernel
theorem dX2_init_61 : decode cX2_init 61 = .ok (.putfield 43, 3) := by decide +kernel
theorem dX2_init_64 : decode cX2_init 64 = .ok (.aload_n 0, 1) := by decide +kernel
theorem dX2_init_65 : decode cX2_init 65 = .ok (.bipush 6, 2) := by decide +kernel
theorem dX2_init_67 : decode cX2_init 67 = .ok (.newarray .int, 2) := by decide +kernel
theorem dX2_init_69 : decode cX2_init 69 = .ok (.putfield 46, 3) := by decide +kernel
theorem dX2_init_72 : decode cX2_init 72 = .ok (.aload_n 0, 1) := by decide +kernel
theorem dX2_init_73 : decode cX2_init 73 = .ok (.iconst 0, 1) := by decide +kernel
theorem dX2_init_74 : decode cX2_init 74 = .ok (.putfield 49, 3) := by decide +kernel
theorem dX2_init_77 : decode cX2_init 77 = .ok (.aload_n 0, 1) := by decide +kernel
theorem dX2_init_78 : decode cX2_init 78 = .ok (.iload_n 1, 1) := by decide +kernel
theorem dX2_init_79 : decode cX2_init 79 = .ok (.putfield 52, 3) := by decide +kernel
theorem dX2_init_82 : decode cX2_init 82 = .ok (.aload_n 0, 1) := by decide +kernel
theorem dX2_init_83 : decode cX2_init 83 = .ok (.new 55, 3) := by decide +kernel
theorem dX2_init_86 : decode cX2_init 86 = .ok (.dup, 1) := by decide +kernel
theorem dX2_init_87 : decode cX2_init 87 = .ok (.iload_n 2, 1) := by decide +kernel
theorem dX2_init_88 : decode cX2_init 88 = .ok (.invokespecial 57, 3) := by decide +kernel
theorem dX2_init_91 : decode cX2_init 91 = .ok (.putfield 60, 3) := by decide +kernel
theorem dX2_init_94 : decode cX2_init 94 = .ok (.aload_n 0, 1) := by decide +kernel
theorem dX2_init_95 : decode cX2_init 95 = .ok (.new 64, 3) := by decide +kernel
theorem dX2_init_98 : decode cX2_init 98 = .ok (.dup, 1) := by decide +kernel
theorem dX2_init_99 : decode cX2_init 99 = .ok (.iload_n 2, 1) := by decide +kernel
theorem dX2_init_100 : decode cX2_init 100 = .ok (.invokespecial 66, 3) := by decide +kernel
theorem dX2_init_103 : decode cX2_init 103 = .ok (.putfield 67, 3) := by decide +kernel
theorem dX2_init_106 : decode cX2_init 106 = .ok (.return_, 1) := by decide +kernel
theorem dX2_blame_0 : decode cX2_blame 0 = .ok (.iload_n 1, 1) := by decide +kernel
theorem dX2_blame_1 : decode cX2_blame 1 = .ok (.invokestatic 71, 3) := by decide +kernel
theorem dX2_blame_4 : decode cX2_blame 4 = .ok (.lstore_n 2, 1) := by decide +kernel
theorem dX2_blame_5 : decode cX2_blame 5 = .ok (.iconst 0, 1) := by decide +kernel
theorem dX2_blame_6 : decode cX2_blame 6 = .ok (.istore 4, 2) := by decide +kernel
theorem dX2_blame_8 : decode cX2_blame 8 = .ok (.iload 4, 2) := by decide +kernel
theorem dX2_blame_10 : decode cX2_blame 10 = .ok (.aload_n 0, 1) := by decide +kernel
theorem dX2_blame_11 : decode cX2_blame 11 = .ok (.getfield 29, 3) := by decide +kernel
theorem dX2_blame_14 : decode cX2_blame 14 = .ok (.arraylength, 1) := by decide +kernel
theorem dX2_blame_15 : decode cX2_blame 15 = .ok (.if_icmp .ge 69, 3) := by decide +kernel
theorem dX2_blame_18 : decode cX2_blame 18 = .ok (.aload_n 0, 1) := by decide +kernel
theorem dX2_blame_19 : decode cX2_blame 19 = .ok (.getfield 29, 3) := by decide +kernel
theorem dX2_blame_22 : decode cX2_blame 22 = .ok (.iload 4, 2) := by decide +kernel
theorem dX2_blame_24 : decode cX2_blame 24 = .ok (.laload, 1) := by decide +kernel
theorem dX2_blame_25 : decode cX2_blame 25 = .ok (.lload_n 2, 1) := by decide +kernel
theorem dX2_blame_26 : decode cX2_blame 26 = .ok (.land, 1) := by decide +kernel
theorem dX2_blame_27 : decode cX2_blame 27 = .ok (.lstore 5, 2) := by decide +kernel
theorem dX2_blame_29 : decode cX2_blame 29 = .ok (.lload 5, 2) := by decide +kernel
theorem dX2_blame_31 : decode cX2_blame 31 = .ok (.lconst 0, 1) := by decide +kernel
theorem dX2_blame_32 : decode cX2_blame 32 = .ok (.lcmp, 1) := by decide +kernel
theorem dX2_blame_33 : decode cX2_blame 33 = .ok (.ifCond .eq 45, 3) := by decide +kernel
theorem dX2_blame_36 : decode cX2_blame 36 = .ok (.aload_n 0, 1) := by decide +kernel
theorem dX2_blame_37 : decode cX2_blame 37 = .ok (.getfield 37, 3) := by decide +kernel
theorem dX2_blame_40 : decode cX2_blame 40 = .ok (.iload 4, 2) := by decide +kernel
theorem dX2_blame_42 : decode cX2_blame 42 = .ok (.dup2, 1) := by decide +kernel
theorem dX2_blame_43 : decode cX2_blame 43 = .ok (.iaload, 1) := by decide +kernel
theorem dX2_blame_44 : decode cX2_blame 44 = .ok (.iconst 1, 1) := by decide +kernel
theorem dX2_blame_45 : decode cX2_blame 45 = .ok (.iadd, 1) := by decide +kernel
theorem dX2_blame_46 : decode cX2_blame 46 = .ok (.iastore, 1) := by decide +kernel
theorem dX2_blame_47 : decode cX2_blame 47 = .ok (.lload 5, 2) := by decide +kernel
theorem dX2_blame_49 : decode cX2_blame 49 = .ok (.lload_n 2, 1) := by decide +kernel
theorem dX2_blame_50 : decode cX2_blame 50 = .ok (.lcmp, 1) := by decide +kernel
theorem dX2_blame_51 : decode cX2_blame 51 = .ok (.ifCond .eq 14, 3) := by decide +kernel
theorem dX2_blame_54 : decode cX2_blame 54 = .ok (.aload_n 0, 1) := by decide +kernel
theorem dX2_blame_55 : decode cX2_blame 55 = .ok (.getfield 37, 3) := by decide +kernel
theorem dX2_blame_58 : decode cX2_blame 58 = .ok (.iload 4, 2) := by decide +kernel
theorem dX2_blame_60 : decode cX2_blame 60 = .ok (.iaload, 1) := by decide +kernel
theorem dX2_blame_61 : decode cX2_blame 61 = .ok (.iconst 3, 1) := by decide +kernel
theorem dX2_blame_62 : decode cX2_blame 62 = .ok (.if_icmp .lt 16, 3) := by decide +kernel
theorem dX2_blame_65 : decode cX2_blame 65 = .ok (.aload_n 0, 1) := by decide +kernel
theorem dX2_blame_66 : decode cX2_blame 66 = .ok (.dup, 1) := by decide +kernel
theorem dX2_blame_67 : decode cX2_blame 67 = .ok (.getfield 40, 3) := by decide +kernel
theorem dX2_blame_70 : decode cX2_blame 70 = .ok (.iconst 1, 1) := by decide +kernel
theorem dX2_blame_71 : decode cX2_blame 71 = .ok (.iload 4, 2) := by decide +kernel
theorem dX2_blame_73 : decode cX2_blame 73 = .ok (.ishl, 1) := by decide +kernel
theorem dX2_blame_74 : decode cX2_blame 74 = .ok (.ior, 1) := by decide +kernel
theorem dX2_blame_75 : decode cX2_blame 75 = .ok (.putfield 40, 3) := by decide +kernel
theorem dX2_blame_78 : decode cX2_blame 78 = .ok (.iinc 4 1, 3) := by decide +kernel
theorem dX2_blame_81 : decode cX2_blame 81 = .ok (.goto (-73), 3) := by decide +kernel
theorem dX2_blame_84 : decode cX2_blame 84 = .ok (.return_, 1) := by decide +kernel
theorem dX2_forgetSenders_0 : decode cX2_forgetSenders 0 = .ok (.iconst 0, 1) := by decide +kernel
theorem dX2_forgetSenders_1 : decode cX2_forgetSenders 1 = .ok (.istore_n 2, 1) := by decide +kernel
theorem dX2_forgetSenders_2 : decode cX2_forgetSenders 2 = .ok (.iload_n 2, 1) := by decide +kernel
theorem dX2_forgetSenders_3 : decode cX2_forgetSenders 3 = .ok (.aload_n 0, 1) := by decide +kernel
theorem dX2_forgetSenders_4 : decode cX2_forgetSenders 4 = .ok (.getfield 29, 3) := by decide +kernel
theorem dX2_forgetSenders_7 : decode cX2_forgetSenders 7 = .ok (.arraylength, 1) := by decide +kernel
theorem dX2_forgetSenders_8 : decode cX2_forgetSenders 8 = .ok (.if_icmp .ge 26, 3) := by decide +kernel
theorem dX2_forgetSenders_11 : decode cX2_forgetSenders 11 = .ok (.aload_n 0, 1) := by decide +kernel
theorem dX2_forgetSenders_12 : decode cX2_forgetSenders 12 = .ok (.getfield 29, 3) := by decide +kernel
theorem dX2_forgetSenders_15 : decode cX2_forgetSenders 15 = .ok (.iload_n 2, 1) := by decide +kernel
theorem dX2_forgetSenders_16 : decode cX2_forgetSenders 16 = .ok (.dup2, 1) := by decide +kernel
theorem dX2_forgetSenders_17 : decode cX2_forgetSenders 17 = .ok (.laload, 1) := by decide +kernel
theorem dX2_forgetSenders_18 : decode cX2_forgetSenders 18 = .ok (.iload_n 1, 1) := by decide +kernel
theorem dX2_forgetSenders_19 : decode cX2_forgetSenders 19 = .ok (.invokestatic 71, 3) := by decide +kernel
theorem dX2_forgetSenders_22 : decode cX2_forgetSenders 22 = .ok (.ldc2_w 75, 3) := by decide +kernel
theorem dX2_forgetSenders_25 : decode cX2_forgetSenders 25 = .ok (.lxor, 1) := by decide +kernel
theorem dX2_forgetSenders_26 : decode cX2_forgetSenders 26 = .ok (.land, 1) := by decide +kernel
theorem dX2_forgetSenders_27 : decode cX2_forgetSenders 27 = .ok (.lastore, 1) := by decide +kernel
theorem dX2_forgetSenders_28 : decode cX2_forgetSenders 28 = .ok (.iinc 2 1, 3) := by decide +kernel
theorem dX2_forgetSenders_31 : decode cX2_forgetSenders 31 = .ok (.goto (-29), 3) := by decide +kernel
theorem dX2_forgetSenders_34 : decode cX2_forgetSenders 34 = .ok (.return_, 1) := by decide +kernel
theorem dX3_init_0 : decode cX3_init 0 = .ok (.aload_n 0, 1) := by decide +kernel
theorem dX3_init_1 : decode cX3_init 1 = .ok (.invokespecial 3, 3) := by decide +kernel
theorem dX3_init_4 : decode cX3_init 4 = .ok (.aload_n 0, 1) := by decide +kernel
theorem dX3_init_5 : decode cX3_init 5 = .ok (.lconst 0, 1) := by decide +kernel
theorem dX3_init_6 : decode cX3_init 6 = .ok (.putfield 9, 3) := by decide +kernel
theorem dX3_init_9 : decode cX3_init 9 = .ok (.aload_n 0, 1) := by decide +kernel
theorem dX3_init_10 : decode cX3_init 10 = .ok (.lconst 0, 1) := by decide +kernel
theorem dX3_init_11 : decode cX3_init 11 = .ok (.putfield 15, 3) := by decide +kernel
theorem dX3_init_14 : decode cX3_init 14 = .ok (.aload_n 0, 1) := by decide +kernel
theorem dX3_init_15 : decode cX3_init 15 = .ok (.iload_n 1, 1) := by decide +kernel
theorem dX3_init_16 : decode cX3_init 16 = .ok (.putfield 18, 3) := by decide +kernel
theorem dX3_init_19 : decode cX3_init 19 = .ok (.return_, 1) := by decide +kernel
theorem dX3_take_0 : decode cX3_take 0 = .ok (.aload_n 0, 1) := by decide +kernel
theorem dX3_take_1 : decode cX3_take 1 = .ok (.getfield 9, 3) := by decide +kernel
theorem dX3_take_4 : decode cX3_take 4 = .ok (.iload_n 1, 1) := by decide +kernel
theorem dX3_take_5 : decode cX3_take 5 = .ok (.invokestatic 22, 3) := by decide +kernel
theorem dX3_take_8 : decode cX3_take 8 = .ok (.ifCond .eq 5, 3) := by decide +kernel
theorem dX3_take_11 : decode cX3_take 11 = .ok (.iconst 0, 1) := by decide +kernel
theorem dX3_take_12 : decode cX3_take 12 = .ok (.ireturn, 1) := by decide +kernel
theorem dX3_take_13 : decode cX3_take 13 = .ok (.aload_n 0, 1) := by decide +kernel
theorem dX3_take_14 : decode cX3_take 14 = .ok (.dup, 1) := by decide +kernel
theorem dX3_take_15 : decode cX3_take 15 = .ok (.getfield 9, 3) := by decide +kernel
theorem dX3_take_18 : decode cX3_take 18 = .ok (.lconst 1, 1) := by decide +kernel
theorem dX3_take_19 : decode cX3_take 19 = .ok (.iload_n 1, 1) := by decide +kernel
theorem dX3_take_20 : decode cX3_take 20 = .ok (.lshl, 1) := by decide +kernel
theorem dX3_take_21 : decode cX3_take 21 = .ok (.lor, 1) := by decide +kernel
theorem dX3_take_22 : decode cX3_take 22 = .ok (.putfield 9, 3) := by decide +kernel
theorem dX3_take_25 : decode cX3_take 25 = .ok (.iload_n 2, 1) := by decide +kernel
theorem dX3_take_26 : decode cX3_take 26 = .ok (.ifCond .eq 15, 3) := by decide +kernel
theorem dX3_take_29 : decode cX3_take 29 = .ok (.aload_n 0, 1) := by decide +kernel
theorem dX3_take_30 : decode cX3_take 30 = .ok (.dup, 1) := by decide +kernel
theorem dX3_take_31 : decode cX3_take 31 = .ok (.getfield 15, 3) := by decide +kernel
theorem dX3_take_34 : decode cX3_take 34 = .ok (.lconst 1, 1) := by decide +kernel
theorem dX3_take_35 : decode cX3_take 35 = .ok (.iload_n 1, 1) := by decide +kernel
theorem dX3_take_36 : decode cX3_take 36 = .ok (.lshl, 1) := by decide +kernel
theorem dX3_take_37 : decode cX3_take 37 = .ok (.lor, 1) := by decide +kernel
theorem dX3_take_38 : decode cX3_take 38 = .ok (.putfield 15, 3) := by decide +kernel
theorem dX3_take_41 : decode cX3_take 41 = .ok (.iconst 1, 1) := by decide +kernel
theorem dX3_take_42 : decode cX3_take 42 = .ok (.ireturn, 1) := by decide +kernel
theorem dX3_isComplete_0 : decode cX3_isComplete 0 = .ok (.aload_n 0, 1) := by decide +kernel
theorem dX3_isComplete_1 : decode cX3_isComplete 1 = .ok (.getfield 9, 3) := by decide +kernel
theorem dX3_isComplete_4 : decode cX3_isComplete 4 = .ok (.ldc2_w 26, 3) := by decide +kernel
theorem dX3_isComplete_7 : decode cX3_isComplete 7 = .ok (.lxor, 1) := by decide +kernel
theorem dX3_isComplete_8 : decode cX3_isComplete 8 = .ok (.iload_n 1, 1) := by decide +kernel
theorem dX3_isComplete_9 : decode cX3_isComplete 9 = .ok (.invokestatic 28, 3) := by decide +kernel
theorem dX3_isComplete_12 : decode cX3_isComplete 12 = .ok (.land, 1) := by decide +kernel
theorem dX3_isComplete_13 : decode cX3_isComplete 13 = .ok (.lconst 0, 1) := by decide +kernel
theorem dX3_isComplete_14 : decode cX3_isComplete 14 = .ok (.lcmp, 1) := by decide +kernel
theorem dX3_isComplete_15 : decode cX3_isComplete 15 = .ok (.ifCond .ne 7, 3) := by decide +kernel
theorem dX3_isComplete_18 : decode cX3_isComplete 18 = .ok (.iconst 1, 1) := by decide +kernel
theorem dX3_isComplete_19 : decode cX3_isComplete 19 = .ok (.goto 4, 3) := by decide +kernel
theorem dX3_isComplete_22 : decode cX3_isComplete 22 = .ok (.iconst 0, 1) := by decide +kernel
theorem dX3_isComplete_23 : decode cX3_isComplete 23 = .ok (.ireturn, 1) := by decide +kernel
theorem dX3_isSound_0 : decode cX3_isSound 0 = .ok (.aload_n 0, 1) := by decide +kernel
theorem dX3_isSound_1 : decode cX3_isSound 1 = .ok (.getfield 15, 3) := by decide +kernel
theorem dX3_isSound_4 : decode cX3_isSound 4 = .ok (.iload_n 1, 1) := by decide +kernel
theorem dX3_isSound_5 : decode cX3_isSound 5 = .ok (.invokestatic 28, 3) := by decide +kernel
theorem dX3_isSound_8 : decode cX3_isSound 8 = .ok (.land, 1) := by decide +kernel
theorem dX3_isSound_9 : decode cX3_isSound 9 = .ok (.lconst 0, 1) := by decide +kernel
theorem dX3_isSound_10 : decode cX3_isSound 10 = .ok (.lcmp, 1) := by decide +kernel
theorem dX3_isSound_11 : decode cX3_isSound 11 = .ok (.ifCond .ne 7, 3) := by decide +kernel
theorem dX3_isSound_14 : decode cX3_isSound 14 = .ok (.iconst 1, 1) := by decide +kernel
theorem dX3_isSound_15 : decode cX3_isSound 15 = .ok (.goto 4, 3) := by decide +kernel
theorem dX3_isSound_18 : decode cX3_isSound 18 = .ok (.iconst 0, 1) := by decide +kernel
theorem dX3_isSound_19 : decode cX3_isSound 19 = .ok (.ireturn, 1) := by decide +kernel
theorem dX3_endPieces_0 : decode cX3_endPieces 0 = .ok (.iconst 0, 1) := by decide +kernel
theorem dX3_endPieces_1 : decode cX3_endPieces 1 = .ok (.istore_n 1, 1) := by decide +kernel
theorem dX3_endPieces_2 : decode cX3_endPieces 2 = .ok (.iload_n 1, 1) := by decide +kernel
theorem dX3_endPieces_3 : decode cX3_endPieces 3 = .ok (.bipush 12, 2) := by decide +kernel
theorem dX3_endPieces_5 : decode cX3_endPieces 5 = .ok (.if_icmp .ge 71, 3) := by decide +kernel
theorem dX3_endPieces_8 : decode cX3_endPieces 8 = .ok (.aload_n 0, 1) := by decide +kernel
theorem dX3_endPieces_9 : decode cX3_endPieces 9 = .ok (.iload_n 1, 1) := by decide +kernel
theorem dX3_endPieces_10 : decode cX3_endPieces 10 = .ok (.invokevirtual 32, 3) := by decide +kernel
theorem dX3_endPieces_13 : decode cX3_endPieces 13 = .ok (.ifCond .eq 57, 3) := by decide +kernel
theorem dX3_endPieces_16 : decode cX3_endPieces 16 = .ok (.aload_n 0, 1) := by decide +kernel
theorem dX3_endPieces_17 : decode cX3_endPieces 17 = .ok (.iload_n 1, 1) := by decide +kernel
theorem dX3_endPieces_18 : decode cX3_endPieces 18 = .ok (.invokevirtual 36, 3) := by decide +kernel
theorem dX3_endPieces_21 : decode cX3_endPieces 21 = .ok (.ifCond .eq 15, 3) := by decide +kernel
theorem dX3_endPieces_24 : decode cX3_endPieces 24 = .ok (.aload_n 0, 1) := by decide +kernel
theorem dX3_endPieces_25 : decode cX3_endPieces 25 = .ok (.dup, 1) := by decide +kernel
theorem dX3_endPieces_26 : decode cX3_endPieces 26 = .ok (.getfield 18, 3) := by decide +kernel
theorem dX3_endPieces_29 : decode cX3_endPieces 29 = .ok (.iconst 1, 1) := by decide +kernel
theorem dX3_endPieces_30 : decode cX3_endPieces 30 = .ok (.iload_n 1, 1) := by decide +kernel
theorem dX3_endPieces_31 : decode cX3_endPieces 31 = .ok (.ishl, 1) := by decide +kernel
theorem dX3_endPieces_32 : decode cX3_endPieces 32 = .ok (.ior, 1) := by decide +kernel
theorem dX3_endPieces_33 : decode cX3_endPieces 33 = .ok (.putfield 18, 3) := by decide +kernel
theorem dX3_endPieces_36 : decode cX3_endPieces 36 = .ok (.aload_n 0, 1) := by decide +kernel
theorem dX3_endPieces_37 : decode cX3_endPieces 37 = .ok (.dup, 1) := by decide +kernel
theorem dX3_endPieces_38 : decode cX3_endPieces 38 = .ok (.getfield 9, 3) := by decide +kernel
theorem dX3_endPieces_41 : decode cX3_endPieces 41 = .ok (.iload_n 1, 1) := by decide +kernel
theorem dX3_endPieces_42 : decode cX3_endPieces 42 = .ok (.invokestatic 28, 3) := by decide +kernel
theorem dX3_endPieces_45 : decode cX3_endPieces 45 = .ok (.ldc2_w 26, 3) := by decide +kernel
theorem dX3_endPieces_48 : decode cX3_endPieces 48 = .ok (.lxor, 1) := by decide +kernel
theorem dX3_endPieces_49 : decode cX3_endPieces 49 = .ok (.land, 1) := by decide +kernel
theorem dX3_endPieces_50 : decode cX3_endPieces 50 = .ok (.putfield 9, 3) := by decide +kernel
theorem dX3_endPieces_53 : decode cX3_endPieces 53 = .ok (.aload_n 0, 1) := by decide +kernel
theorem dX3_endPieces_54 : decode cX3_endPieces 54 = .ok (.dup, 1) := by decide +kernel
theorem dX3_endPieces_55 : decode cX3_endPieces 55 = .ok (.getfield 15, 3) := by decide +kernel
theorem dX3_endPieces_58 : decode cX3_endPieces 58 = .ok (.iload_n 1, 1) := by decide +kernel
theorem dX3_endPieces_59 : decode cX3_endPieces 59 = .ok (.invokestatic 28, 3) := by decide +kernel
theorem dX3_endPieces_62 : decode cX3_endPieces 62 = .ok (.ldc2_w 26, 3) := by decide +kernel
theorem dX3_endPieces_65 : decode cX3_endPieces 65 = .ok (.lxor, 1) := by decide +kernel
theorem dX3_endPieces_66 : decode cX3_endPieces 66 = .ok (.land, 1) := by decide +kernel
theorem dX3_endPieces_67 : decode cX3_endPieces 67 = .ok (.putfield 15, 3) := by decide +kernel
theorem dX3_endPieces_70 : decode cX3_endPieces 70 = .ok (.iinc 1 1, 3) := by decide +kernel
theorem dX3_endPieces_73 : decode cX3_endPieces 73 = .ok (.goto (-71), 3) := by decide +kernel
theorem dX3_endPieces_76 : decode cX3_endPieces 76 = .ok (.return_, 1) := by decide +kernel
theorem dX4_init_0 : decode cX4_init 0 = .ok (.aload_n 0, 1) := by decide +kernel
theorem dX4_init_1 : decode cX4_init 1 = .ok (.invokespecial 3, 3) := by decide +kernel
theorem dX4_init_4 : decode cX4_init 4 = .ok (.aload_n 0, 1) := by decide +kernel
theorem dX4_init_5 : decode cX4_init 5 = .ok (.bipush 6, 2) := by decide +kernel
theorem dX4_init_7 : decode cX4_init 7 = .ok (.anewarray 9, 3) := by decide +kernel
theorem dX4_init_10 : decode cX4_init 10 = .ok (.putfield 11, 3) := by decide +kernel
theorem dX4_init_13 : decode cX4_init 13 = .ok (.aload_n 0, 1) := by decide +kernel
theorem dX4_init_14 : decode cX4_init 14 = .ok (.bipush 12, 2) := by decide +kernel
theorem dX4_init_16 : decode cX4_init 16 = .ok (.newarray .int, 2) := by decide +kernel
theorem dX4_init_18 : decode cX4_init 18 = .ok (.putfield 15, 3) := by decide +kernel
theorem dX4_init_21 : decode cX4_init 21 = .ok (.aload_n 0, 1) := by decide +kernel
theorem dX4_init_22 : decode cX4_init 22 = .ok (.bipush 12, 2) := by decide +kernel
theorem dX4_init_24 : decode cX4_init 24 = .ok (.newarray .int, 2) := by decide +kernel
theorem dX4_init_26 : decode cX4_init 26 = .ok (.putfield 19, 3) := by decide +kernel
theorem dX4_init_29 : decode cX4_init 29 = .ok (.aload_n 0, 1) := by decide +kernel
theorem dX4_init_30 : decode cX4_init 30 = .ok (.iconst 0, 1) := by decide +kernel
theorem dX4_init_31 : decode cX4_init 31 = .ok (.putfield 22, 3) := by decide +kernel
theorem dX4_init_34 : decode cX4_init 34 = .ok (.aload_n 0, 1) := by decide +kernel
theorem dX4_init_35 : decode cX4_init 35 = .ok (.iconst 0, 1) := by decide +kernel
theorem dX4_init_36 : decode cX4_init 36 = .ok (.putfield 26, 3) := by decide +kernel
theorem dX4_init_39 : decode cX4_init 39 = .ok (.aload_n 0, 1) := by decide +kernel
theorem dX4_init_40 : decode cX4_init 40 = .ok (.getfield 15, 3) := by decide +kernel
theorem dX4_init_43 : decode cX4_init 43 = .ok (.iconst 1, 1) := by decide +kernel
theorem dX4_init_44 : decode cX4_init 44 = .ok (.invokestatic 29, 3) := by decide +kernel
theorem dX4_init_47 : decode cX4_init 47 = .ok (.return_, 1) := by decide +kernel
theorem dX4_join_0 : decode cX4_join 0 = .ok (.aload_n 0, 1) := by decide +kernel
theorem dX4_join_1 : decode cX4_join 1 = .ok (.getfield 22, 3) := by decide +kernel
theorem dX4_join_4 : decode cX4_join 4 = .ok (.aload_n 0, 1) := by decide +kernel
theorem dX4_join_5 : decode cX4_join 5 = .ok (.getfield 11, 3) := by decide +kernel
theorem dX4_join_8 : decode cX4_join 8 = .ok (.arraylength, 1) := by decide +kernel
theorem dX4_join_9 : decode cX4_join 9 = .ok (.if_icmp .lt 13, 3) := by decide +kernel
theorem dX4_join_12 : decode cX4_join 12 = .ok (.new 35, 3) := by decide +kernel
theorem dX4_join_15 : decode cX4_join 15 = .ok (.dup, 1) := by decide +kernel
theorem dX4_join_16 : decode cX4_join 16 = .ok (.ldc 37, 2) := by decide +kernel
theorem dX4_join_18 : decode cX4_join 18 = .ok (.invokespecial 39, 3) := by decide +kernel
theorem dX4_join_21 : decode cX4_join 21 = .ok (.athrow, 1) := by decide +kernel
theorem dX4_join_22 : decode cX4_join 22 = .ok (.aload_n 0, 1) := by decide +kernel
theorem dX4_join_23 : decode cX4_join 23 = .ok (.getfield 22, 3) := by decide +kernel
theorem dX4_join_26 : decode cX4_join 26 = .ok (.istore_n 2, 1) := by decide +kernel
theorem dX4_join_27 : decode cX4_join 27 = .ok (.aload_n 0, 1) := by decide +kernel
theorem dX4_join_28 : decode cX4_join 28 = .ok (.getfield 11, 3) := by decide +kernel
theorem dX4_join_31 : decode cX4_join 31 = .ok (.iload_n 2, 1) := by decide +kernel
theorem dX4_join_32 : decode cX4_join 32 = .ok (.new 9, 3) := by decide +kernel
theorem dX4_join_35 : decode cX4_join 35 = .ok (.dup, 1) := by decide +kernel
theorem dX4_join_36 : decode cX4_join 36 = .ok (.iload_n 2, 1) := by decide +kernel
theorem dX4_join_37 : decode cX4_join 37 = .ok (.iload_n 1, 1) := by decide +kernel
theorem dX4_join_38 : decode cX4_join 38 = .ok (.ifCond .eq 9, 3) := by decide +kernel
theorem dX4_join_41 : decode cX4_join 41 = .ok (.sipush 4095, 3) := by decide +kernel
theorem dX4_join_44 : decode cX4_join 44 = .ok (.goto 4, 3) := by decide +kernel
theorem dX4_join_47 : decode cX4_join 47 = .ok (.iconst 0, 1) := by decide +kernel
theorem dX4_join_48 : decode cX4_join 48 = .ok (.invokespecial 42, 3) := by decide +kernel
theorem dX4_join_51 : decode cX4_join 51 = .ok (.aastore, 1) := by decide +kernel
theorem dX4_join_52 : decode cX4_join 52 = .ok (.aload_n 0, 1) := by decide +kernel
theorem dX4_join_53 : decode cX4_join 53 = .ok (.dup, 1) := by decide +kernel
theorem dX4_join_54 : decode cX4_join 54 = .ok (.getfield 22, 3) := by decide +kernel
theorem dX4_join_57 : decode cX4_join 57 = .ok (.iconst 1, 1) := by decide +kernel
theorem dX4_join_58 : decode cX4_join 58 = .ok (.iadd, 1) := by decide +kernel
theorem dX4_join_59 : decode cX4_join 59 = .ok (.putfield 22, 3) := by decide +kernel
theorem dX4_join_62 : decode cX4_join 62 = .ok (.iload_n 2, 1) := by decide +kernel
theorem dX4_join_63 : decode cX4_join 63 = .ok (.ireturn, 1) := by decide +kernel
theorem dX4_leave_0 : decode cX4_leave 0 = .ok (.aload_n 0, 1) := by decide +kernel
theorem dX4_leave_1 : decode cX4_leave 1 = .ok (.iload_n 1, 1) := by decide +kernel
theorem dX4_leave_2 : decode cX4_leave 2 = .ok (.invokevirtual 45, 3) := by decide +kernel
theorem dX4_leave_5 : decode cX4_leave 5 = .ok (.astore_n 2, 1) := by decide +kernel
theorem dX4_leave_6 : decode cX4_leave 6 = .ok (.aload_n 0, 1) := by decide +kernel
theorem dX4_leave_7 : decode cX4_leave 7 = .ok (.getfield 11, 3) := by decide +kernel
theorem dX4_leave_10 : decode cX4_leave 10 = .ok (.aload_n 2, 1) := by decide +kernel
theorem dX4_leave_11 : decode cX4_leave 11 = .ok (.getfield 49, 3) := by decide +kernel
theorem dX4_leave_14 : decode cX4_leave 14 = .ok (.aconst_null, 1) := by decide +kernel
theorem dX4_leave_15 : decode cX4_leave 15 = .ok (.aastore, 1) := by decide +kernel
theorem dX4_leave_16 : decode cX4_leave 16 = .ok (.aload_n 2, 1) := by decide +kernel
theorem dX4_leave_17 : decode cX4_leave 17 = .ok (.getfield 52, 3) := by decide +kernel
theorem dX4_leave_20 : decode cX4_leave 20 = .ok (.getfield 56, 3) := by decide +kernel
theorem dX4_leave_23 : decode cX4_leave 23 = .ok (.invokestatic 61, 3) := by decide +kernel
theorem dX4_leave_26 : decode cX4_leave 26 = .ok (.ireturn, 1) := by decide +kernel
theorem dX4_setPriority_0 : decode cX4_setPriority 0 = .ok (.iload_n 1, 1) := by decide +kernel
theorem dX4_setPriority_1 : decode cX4_setPriority 1 = .ok (.invokestatic 67, 3) := by decide +kernel
theorem dX4_setPriority_4 : decode cX4_setPriority 4 = .ok (.iload_n 2, 1) := by decide +kernel
theorem dX4_setPriority_5 : decode cX4_setPriority 5 = .ok (.ifCond .lt 8, 3) := by decide +kernel
theorem dX4_setPriority_8 : decode cX4_setPriority 8 = .ok (.iload_n 2, 1) := by decide +kernel
theorem dX4_setPriority_9 : decode cX4_setPriority 9 = .ok (.iconst 3, 1) := by decide +kernel
theorem dX4_setPriority_10 : decode cX4_setPriority 10 = .ok (.if_icmp .le 13, 3) := by decide +kernel
theorem dX4_setPriority_13 : decode cX4_setPriority 13 = .ok (.new 71, 3) := by decide +kernel
theorem dX4_setPriority_16 : decode cX4_setPriority 16 = .ok (.dup, 1) := by decide +kernel
theorem dX4_setPriority_17 : decode cX4_setPriority 17 = .ok (.ldc 73, 2) := by decide +kernel
theorem dX4_setPriority_19 : decode cX4_setPriority 19 = .ok (.invokespecial 75, 3) := by decide +kernel
theorem dX4_setPriority_22 : decode cX4_setPriority 22 = .ok (.athrow, 1) := by decide +kernel
theorem dX4_setPriority_23 : decode cX4_setPriority 23 = .ok (.aload_n 0, 1) := by decide +kernel
theorem dX4_setPriority_24 : decode cX4_setPriority 24 = .ok (.getfield 15, 3) := by decide +kernel
theorem dX4_setPriority_27 : decode cX4_setPriority 27 = .ok (.iload_n 1, 1) := by decide +kernel
theorem dX4_setPriority_28 : decode cX4_setPriority 28 = .ok (.iaload, 1) := by decide +kernel
theorem dX4_setPriority_29 : decode cX4_setPriority 29 = .ok (.istore_n 3, 1) := by decide +kernel
theorem dX4_setPriority_30 : decode cX4_setPriority 30 = .ok (.aload_n 0, 1) := by decide +kernel
theorem dX4_setPriority_31 : decode cX4_setPriority 31 = .ok (.getfield 15, 3) := by decide +kernel
theorem dX4_setPriority_34 : decode cX4_setPriority 34 = .ok (.iload_n 1, 1) := by decide +kernel
theorem dX4_setPriority_35 : decode cX4_setPriority 35 = .ok (.iload_n 2, 1) := by decide +kernel
theorem dX4_setPriority_36 : decode cX4_setPriority 36 = .ok (.iastore, 1) := by decide +kernel
theorem dX4_setPriority_37 : decode cX4_setPriority 37 = .ok (.iload_n 3, 1) := by decide +kernel
theorem dX4_setPriority_38 : decode cX4_setPriority 38 = .ok (.ireturn, 1) := by decide +kernel
theorem dX4_setSequence_0 : decode cX4_setSequence 0 = .ok (.aload_n 0, 1) := by decide +kernel
theorem dX4_setSequence_1 : decode cX4_setSequence 1 = .ok (.iload_n 1, 1) := by decide +kernel
theorem dX4_setSequence_2 : decode cX4_setSequence 2 = .ok (.invokevirtual 45, 3) := by decide +kernel
theorem dX4_setSequence_5 : decode cX4_setSequence 5 = .ok (.astore_n 3, 1) := by decide +kernel
theorem dX4_setSequence_6 : decode cX4_setSequence 6 = .ok (.aload_n 3, 1) := by decide +kernel
theorem dX4_setSequence_7 : decode cX4_setSequence 7 = .ok (.getfield 76, 3) := by decide +kernel
theorem dX4_setSequence_10 : decode cX4_setSequence 10 = .ok (.iload_n 2, 1) := by decide +kernel
theorem dX4_setSequence_11 : decode cX4_setSequence 11 = .ok (.if_icmp .eq 7, 3) := by decide +kernel
theorem dX4_setSequence_14 : decode cX4_setSequence 14 = .ok (.iconst 1, 1) := by decide +kernel
theorem dX4_setSequence_15 : decode cX4_setSequence 15 = .ok (.goto 4, 3) := by decide +kernel
theorem dX4_setSequence_18 : decode cX4_setSequence 18 = .ok (.iconst 0, 1) := by decide +kernel
theorem dX4_setSequence_19 : decode cX4_setSequence 19 = .ok (.istore 4, 2) := by decide +kernel
theorem dX4_setSequence_21 : decode cX4_setSequence 21 = .ok (.aload_n 3, 1) := by decide +kernel
theorem dX4_setSequence_22 : decode cX4_setSequence 22 = .ok (.iload_n 2, 1) := by decide +kernel
theorem dX4_setSequence_23 : decode cX4_setSequence 23 = .ok (.putfield 76, 3) := by decide +kernel
theorem dX4_setSequence_26 : decode cX4_setSequence 26 = .ok (.iload 4, 2) := by decide +kernel
theorem dX4_setSequence_28 : decode cX4_setSequence 28 = .ok (.ireturn, 1) := by decide +kernel
theorem dX4_setCareful_0 : decode cX4_setCareful 0 = .ok (.aload_n 0, 1) := by decide +kernel
theorem dX4_setCareful_1 : decode cX4_setCareful 1 = .ok (.iload_n 1, 1) := by decide +kernel
theorem dX4_setCareful_2 : decode cX4_setCareful 2 = .ok (.invokevirtual 45, 3) := by decide +kernel
theorem dX4_setCareful_5 : decode cX4_setCareful 5 = .ok (.astore_n 3, 1) := by decide +kernel
theorem dX4_setCareful_6 : decode cX4_setCareful 6 = .ok (.aload_n 3, 1) := by decide +kernel
theorem dX4_setCareful_7 : decode cX4_setCareful 7 = .ok (.getfield 80, 3) := by decide +kernel
theorem dX4_setCareful_10 : decode cX4_setCareful 10 = .ok (.iload_n 2, 1) := by decide +kernel
theorem dX4_setCareful_11 : decode cX4_setCareful 11 = .ok (.if_icmp .eq 7, 3) := by decide +kernel
theorem dX4_setCareful_14 : decode cX4_setCareful 14 = .ok (.iconst 1, 1) := by decide +kernel
theorem dX4_setCareful_15 : decode cX4_setCareful 15 = .ok (.goto 4, 3) := by decide +kernel
theorem dX4_setCareful_18 : decode cX4_setCareful 18 = .ok (.iconst 0, 1) := by decide +kernel
theorem dX4_setCareful_19 : decode cX4_setCareful 19 = .ok (.istore 4, 2) := by decide +kernel
theorem dX4_setCareful_21 : decode cX4_setCareful 21 = .ok (.aload_n 3, 1) := by decide +kernel
theorem dX4_setCareful_22 : decode cX4_setCareful 22 = .ok (.iload_n 2, 1) := by decide +kernel
theorem dX4_setCareful_23 : decode cX4_setCareful 23 = .ok (.putfield 80, 3) := by decide +kernel
theorem dX4_setCareful_26 : decode cX4_setCareful 26 = .ok (.iload 4, 2) := by decide +kernel
theorem dX4_setCareful_28 : decode cX4_setCareful 28 = .ok (.ireturn, 1) := by decide +kernel
theorem dX4_spoil_0 : decode cX4_spoil 0 = .ok (.aload_n 0, 1) := by decide +kernel
theorem dX4_spoil_1 : decode cX4_spoil 1 = .ok (.iload_n 1, 1) := by decide +kernel
theorem dX4_spoil_2 : decode cX4_spoil 2 = .ok (.invokevirtual 45, 3) := by decide +kernel
theorem dX4_spoil_5 : decode cX4_spoil 5 = .ok (.astore 4, 2) := by decide +kernel
theorem dX4_spoil_7 : decode cX4_spoil 7 = .ok (.iload_n 2, 1) := by decide +kernel
theorem dX4_spoil_8 : decode cX4_spoil 8 = .ok (.invokestatic 67, 3) := by decide +kernel
theorem dX4_spoil_11 : decode cX4_spoil 11 = .ok (.aload 4, 2) := by decide +kernel
theorem dX4_spoil_13 : decode cX4_spoil 13 = .ok (.getfield 83, 3) := by decide +kernel
theorem dX4_spoil_16 : decode cX4_spoil 16 = .ok (.i2l, 1) := by decide +kernel
theorem dX4_spoil_17 : decode cX4_spoil 17 = .ok (.iload_n 2, 1) := by decide +kernel
theorem dX4_spoil_18 : decode cX4_spoil 18 = .ok (.invokestatic 86, 3) := by decide +kernel
theorem dX4_spoil_21 : decode cX4_spoil 21 = .ok (.iload_n 3, 1) := by decide +kernel
theorem dX4_spoil_22 : decode cX4_spoil 22 = .ok (.if_icmp .eq 7, 3) := by decide +kernel
theorem dX4_spoil_25 : decode cX4_spoil 25 = .ok (.iconst 1, 1) := by decide +kernel
theorem dX4_spoil_26 : decode cX4_spoil 26 = .ok (.goto 4, 3) := by decide +kernel
theorem dX4_spoil_29 : decode cX4_spoil 29 = .ok (.iconst 0, 1) := by decide +kernel
theorem dX4_spoil_30 : decode cX4_spoil 30 = .ok (.istore 5, 2) := by decide +kernel
theorem dX4_spoil_32 : decode cX4_spoil 32 = .ok (.iload 5, 2) := by decide +kernel
theorem dX4_spoil_34 : decode cX4_spoil 34 = .ok (.ifCond .eq 16, 3) := by decide +kernel
theorem dX4_spoil_37 : decode cX4_spoil 37 = .ok (.aload 4, 2) := by decide +kernel
theorem dX4_spoil_39 : decode cX4_spoil 39 = .ok (.dup, 1) := by decide +kernel
theorem dX4_spoil_40 : decode cX4_spoil 40 = .ok (.getfield 83, 3) := by decide +kernel
theorem dX4_spoil_43 : decode cX4_spoil 43 = .ok (.iconst 1, 1) := by decide +kernel
theorem dX4_spoil_44 : decode cX4_spoil 44 = .ok (.iload_n 2, 1) := by decide +kernel
theorem dX4_spoil_45 : decode cX4_spoil 45 = .ok (.ishl, 1) := by decide +kernel
theorem dX4_spoil_46 : decode cX4_spoil 46 = .ok (.ixor, 1) := by decide +kernel
theorem dX4_spoil_47 : decode cX4_spoil 47 = .ok (.putfield 83, 3) := by decide +kernel
theorem dX4_spoil_50 : decode cX4_spoil 50 = .ok (.iload 5, 2) := by decide +kernel
theorem dX4_spoil_52 : decode cX4_spoil 52 = .ok (.ireturn, 1) := by decide +kernel
theorem dX4_run_0 : decode cX4_run 0 = .ok (.iload_n 1, 1) := by decide +kernel
theorem dX4_run_1 : decode cX4_run 1 = .ok (.iconst 1, 1) := by decide +kernel
theorem dX4_run_2 : decode cX4_run 2 = .ok (.if_icmp .lt 9, 3) := by decide +kernel
theorem dX4_run_5 : decode cX4_run 5 = .ok (.iload_n 1, 1) := by decide +kernel
theorem dX4_run_6 : decode cX4_run 6 = .ok (.bipush 20, 2) := by decide +kernel
theorem dX4_run_8 : decode cX4_run 8 = .ok (.if_icmp .le 13, 3) := by decide +kernel
theorem dX4_run_11 : decode cX4_run 11 = .ok (.new 71, 3) := by decide +kernel
theorem dX4_run_14 : decode cX4_run 14 = .ok (.dup, 1) := by decide +kernel
theorem dX4_run_15 : decode cX4_run 15 = .ok (.ldc 90, 2) := by decide +kernel
theorem dX4_run_17 : decode cX4_run 17 = .ok (.invokespecial 75, 3) := by decide +kernel
theorem dX4_run_20 : decode cX4_run 20 = .ok (.athrow, 1) := by decide +kernel
theorem dX4_run_21 : decode cX4_run 21 = .ok (.aload_n 0, 1) := by decide +kernel
theorem dX4_run_22 : decode cX4_run 22 = .ok (.getfield 26, 3) := by decide +kernel
theorem dX4_run_25 : decode cX4_run 25 = .ok (.iload_n 1, 1) := by decide +kernel
theorem dX4_run_26 : decode cX4_run 26 = .ok (.iadd, 1) := by decide +kernel
theorem dX4_run_27 : decode cX4_run 27 = .ok (.sipush 200, 3) := by decide +kernel
theorem dX4_run_30 : decode cX4_run 30 = .ok (.if_icmp .le 13, 3) := by decide +kernel
theorem dX4_run_33 : decode cX4_run 33 = .ok (.new 35, 3) := by decide +kernel
theorem dX4_run_36 : decode cX4_run 36 = .ok (.dup, 1) := by decide +kernel
theorem dX4_run_37 : decode cX4_run 37 = .ok (.ldc 92, 2) := by decide +kernel
theorem dX4_run_39 : decode cX4_run 39 = .ok (.invokespecial 39, 3) := by decide +kernel
theorem dX4_run_42 : decode cX4_run 42 = .ok (.athrow, 1) := by decide +kernel
theorem dX4_run_43 : decode cX4_run 43 = .ok (.iconst 0, 1) := by decide +kernel
theorem dX4_run_44 : decode cX4_run 44 = .ok (.istore_n 2, 1) := by decide +kernel
theorem dX4_run_45 : decode cX4_run 45 = .ok (.iconst 0, 1) := by decide +kernel
theorem dX4_run_46 : decode cX4_run 46 = .ok (.istore_n 3, 1) := by decide +kernel
theorem dX4_run_47 : decode cX4_run 47 = .ok (.iload_n 3, 1) := by decide +kernel
theorem dX4_run_48 : decode cX4_run 48 = .ok (.iload_n 1, 1) := by decide +kernel
theorem dX4_run_49 : decode cX4_run 49 = .ok (.if_icmp .ge 38, 3) := by decide +kernel
theorem dX4_run_52 : decode cX4_run 52 = .ok (.aload_n 0, 1) := by decide +kernel
theorem dX4_run_53 : decode cX4_run 53 = .ok (.invokevirtual 94, 3) := by decide +kernel
theorem dX4_run_56 : decode cX4_run 56 = .ok (.aload_n 0, 1) := by decide +kernel
theorem dX4_run_57 : decode cX4_run 57 = .ok (.invokevirtual 97, 3) := by decide +kernel
theorem dX4_run_60 : decode cX4_run 60 = .ok (.iload_n 2, 1) := by decide +kernel
theorem dX4_run_61 : decode cX4_run 61 = .ok (.aload_n 0, 1) := by decide +kernel
theorem dX4_run_62 : decode cX4_run 62 = .ok (.invokevirtual 100, 3) := by decide +kernel
theorem dX4_run_65 : decode cX4_run 65 = .ok (.iadd, 1) := by decide +kernel
theorem dX4_run_66 : decode cX4_run 66 = .ok (.istore_n 2, 1) := by decide +kernel
theorem dX4_run_67 : decode cX4_run 67 = .ok (.aload_n 0, 1) := by decide +kernel
theorem dX4_run_68 : decode cX4_run 68 = .ok (.invokevirtual 104, 3) := by decide +kernel
theorem dX4_run_71 : decode cX4_run 71 = .ok (.aload_n 0, 1) := by decide +kernel
theorem dX4_run_72 : decode cX4_run 72 = .ok (.dup, 1) := by decide +kernel
theorem dX4_run_73 : decode cX4_run 73 = .ok (.getfield 26, 3) := by decide +kernel
theorem dX4_run_76 : decode cX4_run 76 = .ok (.iconst 1, 1) := by decide +kernel
theorem dX4_run_77 : decode cX4_run 77 = .ok (.iadd, 1) := by decide +kernel
theorem dX4_run_78 : decode cX4_run 78 = .ok (.putfield 26, 3) := by decide +kernel
theorem dX4_run_81 : decode cX4_run 81 = .ok (.iinc 3 1, 3) := by decide +kernel
theorem dX4_run_84 : decode cX4_run 84 = .ok (.goto (-37), 3) := by decide +kernel
theorem dX4_run_87 : decode cX4_run 87 = .ok (.iload_n 2, 1) := by decide +kernel
theorem dX4_run_88 : decode cX4_run 88 = .ok (.ireturn, 1) := by decide +kernel
theorem dX4_rounds_0 : decode cX4_rounds 0 = .ok (.aload_n 0, 1) := by decide +kernel
theorem dX4_rounds_1 : decode cX4_rounds 1 = .ok (.getfield 26, 3) := by decide +kernel
theorem dX4_rounds_4 : decode cX4_rounds 4 = .ok (.ireturn, 1) := by decide +kernel
theorem dX4_peers_0 : decode cX4_peers 0 = .ok (.iconst 0, 1) := by decide +kernel
theorem dX4_peers_1 : decode cX4_peers 1 = .ok (.istore_n 1, 1) := by decide +kernel
theorem dX4_peers_2 : decode cX4_peers 2 = .ok (.iconst 0, 1) := by decide +kernel
theorem dX4_peers_3 : decode cX4_peers 3 = .ok (.istore_n 2, 1) := by decide +kernel
theorem dX4_peers_4 : decode cX4_peers 4 = .ok (.iload_n 2, 1) := by decide +kernel
theorem dX4_peers_5 : decode cX4_peers 5 = .ok (.aload_n 0, 1) := by decide +kernel
theorem dX4_peers_6 : decode cX4_peers 6 = .ok (.getfield 11, 3) := by decide +kernel
theorem dX4_peers_9 : decode cX4_peers 9 = .ok (.arraylength, 1) := by decide +kernel
theorem dX4_peers_10 : decode cX4_peers 10 = .ok (.if_icmp .ge 24, 3) := by decide +kernel
theorem dX4_peers_13 : decode cX4_peers 13 = .ok (.aload_n 0, 1) := by decide +kernel
theorem dX4_peers_14 : decode cX4_peers 14 = .ok (.getfield 11, 3) := by decide +kernel
theorem dX4_peers_17 : decode cX4_peers 17 = .ok (.iload_n 2, 1) := by decide +kernel
theorem dX4_peers_18 : decode cX4_peers 18 = .ok (.aaload, 1) := by decide +kernel
theorem dX4_peers_19 : decode cX4_peers 19 = .ok (.ifnull 9, 3) := by decide +kernel
theorem dX4_peers_22 : decode cX4_peers 22 = .ok (.iload_n 1, 1) := by decide +kernel
theorem dX4_peers_23 : decode cX4_peers 23 = .ok (.iconst 1, 1) := by decide +kernel
theorem dX4_peers_24 : decode cX4_peers 24 = .ok (.iload_n 2, 1) := by decide +kernel
theorem dX4_peers_25 : decode cX4_peers 25 = .ok (.ishl, 1) := by decide +kernel
theorem dX4_peers_26 : decode cX4_peers 26 = .ok (.ior, 1) := by decide +kernel
theorem dX4_peers_27 : decode cX4_peers 27 = .ok (.istore_n 1, 1) := by decide +kernel
theorem dX4_peers_28 : decode cX4_peers 28 = .ok (.iinc 2 1, 3) := by decide +kernel
theorem dX4_peers_31 : decode cX4_peers 31 = .ok (.goto (-27), 3) := by decide +kernel
theorem dX4_peers_34 : decode cX4_peers 34 = .ok (.iload_n 1, 1) := by decide +kernel
theorem dX4_peers_35 : decode cX4_peers 35 = .ok (.ireturn, 1) := by decide +kernel
theorem dX4_holds_0 : decode cX4_holds 0 = .ok (.aload_n 0, 1) := by decide +kernel
theorem dX4_holds_1 : decode cX4_holds 1 = .ok (.iload_n 1, 1) := by decide +kernel
theorem dX4_holds_2 : decode cX4_holds 2 = .ok (.invokevirtual 45, 3) := by decide +kernel
theorem dX4_holds_5 : decode cX4_holds 5 = .ok (.getfield 52, 3) := by decide +kernel
theorem dX4_holds_8 : decode cX4_holds 8 = .ok (.getfield 56, 3) := by decide +kernel
theorem dX4_holds_11 : decode cX4_holds 11 = .ok (.ireturn, 1) := by decide +kernel
theorem dX4_holdsByLog_0 : decode cX4_holdsByLog 0 = .ok (.aload_n 0, 1) := by decide +kernel
theorem dX4_holdsByLog_1 : decode cX4_holdsByLog 1 = .ok (.iload_n 1, 1) := by decide +kernel
theorem dX4_holdsByLog_2 : decode cX4_holdsByLog 2 = .ok (.invokevirtual 45, 3) := by decide +kernel
theorem dX4_holdsByLog_5 : decode cX4_holdsByLog 5 = .ok (.getfield 107, 3) := by decide +kernel
theorem dX4_holdsByLog_8 : decode cX4_holdsByLog 8 = .ok (.invokevirtual 111, 3) := by decide +kernel
theorem dX4_holdsByLog_11 : decode cX4_holdsByLog 11 = .ok (.ireturn, 1) := by decide +kernel
theorem dX4_blocks_0 : decode cX4_blocks 0 = .ok (.aload_n 0, 1) := by decide +kernel
theorem dX4_blocks_1 : decode cX4_blocks 1 = .ok (.iload_n 1, 1) := by decide +kernel
theorem dX4_blocks_2 : decode cX4_blocks 2 = .ok (.invokevirtual 45, 3) := by decide +kernel
theorem dX4_blocks_5 : decode cX4_blocks 5 = .ok (.getfield 52, 3) := by decide +kernel
theorem dX4_blocks_8 : decode cX4_blocks 8 = .ok (.astore_n 3, 1) := by decide +kernel
theorem dX4_blocks_9 : decode cX4_blocks 9 = .ok (.iload_n 2, 1) := by decide +kernel
theorem dX4_blocks_10 : decode cX4_blocks 10 = .ok (.invokestatic 67, 3) := by decide +kernel
theorem dX4_blocks_13 : decode cX4_blocks 13 = .ok (.aload_n 3, 1) := by decide +kernel
theorem dX4_blocks_14 : decode cX4_blocks 14 = .ok (.getfield 56, 3) := by decide +kernel
theorem dX4_blocks_17 : decode cX4_blocks 17 = .ok (.i2l, 1) := by decide +kernel
theorem dX4_blocks_18 : decode cX4_blocks 18 = .ok (.iload_n 2, 1) := by decide +kernel
theorem dX4_blocks_19 : decode cX4_blocks 19 = .ok (.invokestatic 86, 3) := by decide +kernel
theorem dX4_blocks_22 : decode cX4_blocks 22 = .ok (.ifCond .eq 6, 3) := by decide +kernel
theorem dX4_blocks_25 : decode cX4_blocks 25 = .ok (.bipush 15, 2) := by decide +kernel
theorem dX4_blocks_27 : decode cX4_blocks 27 = .ok (.ireturn, 1) := by decide +kernel
theorem dX4_blocks_28 : decode cX4_blocks 28 = .ok (.aload_n 3, 1) := by decide +kernel
theorem dX4_blocks_29 : decode cX4_blocks 29 = .ok (.getfield 116, 3) := by decide +kernel
theorem dX4_blocks_32 : decode cX4_blocks 32 = .ok (.iload_n 2, 1) := by decide +kernel
theorem dX4_blocks_33 : decode cX4_blocks 33 = .ok (.iconst 4, 1) := by decide +kernel
theorem dX4_blocks_34 : decode cX4_blocks 34 = .ok (.imul, 1) := by decide +kernel
theorem dX4_blocks_35 : decode cX4_blocks 35 = .ok (.lshr, 1) := by decide +kernel
theorem dX4_blocks_36 : decode cX4_blocks 36 = .ok (.l2i, 1) := by decide +kernel
theorem dX4_blocks_37 : decode cX4_blocks 37 = .ok (.bipush 15, 2) := by decide +kernel
theorem dX4_blocks_39 : decode cX4_blocks 39 = .ok (.iand, 1) := by decide +kernel
theorem dX4_blocks_40 : decode cX4_blocks 40 = .ok (.ireturn, 1) := by decide +kernel
theorem dX4_holders_0 : decode cX4_holders 0 = .ok (.iload_n 1, 1) := by decide +kernel
theorem dX4_holders_1 : decode cX4_holders 1 = .ok (.invokestatic 67, 3) := by decide +kernel
theorem dX4_holders_4 : decode cX4_holders 4 = .ok (.aload_n 0, 1) := by decide +kernel
theorem dX4_holders_5 : decode cX4_holders 5 = .ok (.iload_n 1, 1) := by decide +kernel
theorem dX4_holders_6 : decode cX4_holders 6 = .ok (.invokevirtual 120, 3) := by decide +kernel
theorem dX4_holders_9 : decode cX4_holders 9 = .ok (.ireturn, 1) := by decide +kernel
theorem dX4_shown_0 : decode cX4_shown 0 = .ok (.aload_n 0, 1) := by decide +kernel
theorem dX4_shown_1 : decode cX4_shown 1 = .ok (.aload_n 0, 1) := by decide +kernel
theorem dX4_shown_2 : decode cX4_shown 2 = .ok (.iload_n 1, 1) := by decide +kernel
theorem dX4_shown_3 : decode cX4_shown 3 = .ok (.invokevirtual 45, 3) := by decide +kernel
theorem dX4_shown_6 : decode cX4_shown 6 = .ok (.aload_n 0, 1) := by decide +kernel
theorem dX4_shown_7 : decode cX4_shown 7 = .ok (.iload_n 2, 1) := by decide +kernel
theorem dX4_shown_8 : decode cX4_shown 8 = .ok (.invokevirtual 45, 3) := by decide +kernel
theorem dX4_shown_11 : decode cX4_shown 11 = .ok (.invokevirtual 123, 3) := by decide +kernel
theorem dX4_shown_14 : decode cX4_shown 14 = .ok (.ireturn, 1) := by decide +kernel
theorem dX4_chosen_0 : decode cX4_chosen 0 = .ok (.aload_n 0, 1) := by decide +kernel
theorem dX4_chosen_1 : decode cX4_chosen 1 = .ok (.aload_n 0, 1) := by decide +kernel
theorem dX4_chosen_2 : decode cX4_chosen 2 = .ok (.iload_n 1, 1) := by decide +kernel
theorem dX4_chosen_3 : decode cX4_chosen 3 = .ok (.invokevirtual 45, 3) := by decide +kernel
theorem dX4_chosen_6 : decode cX4_chosen 6 = .ok (.invokevirtual 127, 3) := by decide +kernel
theorem dX4_chosen_9 : decode cX4_chosen 9 = .ok (.ireturn, 1) := by decide +kernel
theorem dX4_got_0 : decode cX4_got 0 = .ok (.aload_n 0, 1) := by decide +kernel
theorem dX4_got_1 : decode cX4_got 1 = .ok (.iload_n 1, 1) := by decide +kernel
theorem dX4_got_2 : decode cX4_got 2 = .ok (.invokevirtual 45, 3) := by decide +kernel
theorem dX4_got_5 : decode cX4_got 5 = .ok (.getfield 131, 3) := by decide +kernel
theorem dX4_got_8 : decode cX4_got 8 = .ok (.aload_n 0, 1) := by decide +kernel
theorem dX4_got_9 : decode cX4_got 9 = .ok (.iload_n 2, 1) := by decide +kernel
theorem dX4_got_10 : decode cX4_got 10 = .ok (.invokevirtual 45, 3) := by decide +kernel
theorem dX4_got_13 : decode cX4_got 13 = .ok (.getfield 49, 3) := by decide +kernel
theorem dX4_got_16 : decode cX4_got 16 = .ok (.iaload, 1) := by decide +kernel
theorem dX4_got_17 : decode cX4_got 17 = .ok (.ireturn, 1) := by decide +kernel
theorem dX4_doubles_0 : decode cX4_doubles 0 = .ok (.aload_n 0, 1) := by decide +kernel
theorem dX4_doubles_1 : decode cX4_doubles 1 = .ok (.iload_n 1, 1) := by decide +kernel
theorem dX4_doubles_2 : decode cX4_doubles 2 = .ok (.invokevirtual 45, 3) := by decide +kernel
theorem dX4_doubles_5 : decode cX4_doubles 5 = .ok (.getfield 134, 3) := by decide +kernel
theorem dX4_doubles_8 : decode cX4_doubles 8 = .ok (.ireturn, 1) := by decide +kernel
theorem dX4_strikes_0 : decode cX4_strikes 0 = .ok (.aload_n 0, 1) := by decide +kernel
theorem dX4_strikes_1 : decode cX4_strikes 1 = .ok (.iload_n 1, 1) := by decide +kernel
theorem dX4_strikes_2 : decode cX4_strikes 2 = .ok (.invokevirtual 45, 3) := by decide +kernel
theorem dX4_strikes_5 : decode cX4_strikes 5 = .ok (.getfield 137, 3) := by decide +kernel
theorem dX4_strikes_8 : decode cX4_strikes 8 = .ok (.aload_n 0, 1) := by decide +kernel
theorem dX4_strikes_9 : decode cX4_strikes 9 = .ok (.iload_n 2, 1) := by decide +kernel
theorem dX4_strikes_10 : decode cX4_strikes 10 = .ok (.invokevirtual 45, 3) := by decide +kernel
theorem dX4_strikes_13 : decode cX4_strikes 13 = .ok (.getfield 49, 3) := by decide +kernel
theorem dX4_strikes_16 : decode cX4_strikes 16 = .ok (.iaload, 1) := by decide +kernel
theorem dX4_strikes_17 : decode cX4_strikes 17 = .ok (.ireturn, 1) := by decide +kernel
theorem dX4_isBanned_0 : decode cX4_isBanned 0 = .ok (.aload_n 0, 1) := by decide +kernel
theorem dX4_isBanned_1 : decode cX4_isBanned 1 = .ok (.iload_n 1, 1) := by decide +kernel
theorem dX4_isBanned_2 : decode cX4_isBanned 2 = .ok (.invokevirtual 45, 3) := by decide +kernel
theorem dX4_isBanned_5 : decode cX4_isBanned 5 = .ok (.getfield 140, 3) := by decide +kernel
theorem dX4_isBanned_8 : decode cX4_isBanned 8 = .ok (.i2l, 1) := by decide +kernel
theorem dX4_isBanned_9 : decode cX4_isBanned 9 = .ok (.aload_n 0, 1) := by decide +kernel
theorem dX4_isBanned_10 : decode cX4_isBanned 10 = .ok (.iload_n 2, 1) := by decide +kernel
theorem dX4_isBanned_11 : decode cX4_isBanned 11 = .ok (.invokevirtual 45, 3) := by decide +kernel
theorem dX4_isBanned_14 : decode cX4_isBanned 14 = .ok (.getfield 49, 3) := by decide +kernel
theorem dX4_isBanned_17 : decode cX4_isBanned 17 = .ok (.invokestatic 86, 3) := by decide +kernel
theorem dX4_isBanned_20 : decode cX4_isBanned 20 = .ok (.ireturn, 1) := by decide +kernel
theorem dX4_known_0 : decode cX4_known 0 = .ok (.aload_n 0, 1) := by decide +kernel
theorem dX4_known_1 : decode cX4_known 1 = .ok (.iload_n 1, 1) := by decide +kernel
