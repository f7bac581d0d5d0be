theorem dX5_choiceOf_5 : decode cX5_choiceOf 5 = .ok (.aload_n 0, 1) := by decide +kernel
theorem dX5_choiceOf_6 : decode cX5_choiceOf 6 = .ok (.getfield 72, 3) := by decide +kernel
theorem dX5_choiceOf_9 : decode cX5_choiceOf 9 = .ok (.if_icmp .ge 28, 3) := by decide +kernel
theorem dX5_choiceOf_12 : decode cX5_choiceOf 12 = .ok (.iload_n 2, 1) := by decide +kernel
theorem dX5_choiceOf_13 : decode cX5_choiceOf 13 = .ok (.aload_n 0, 1) := by decide +kernel
theorem dX5_choiceOf_14 : decode cX5_choiceOf 14 = .ok (.iload_n 3, 1) := by decide +kernel
theorem dX5_choiceOf_15 : decode cX5_choiceOf 15 = .ok (.iload_n 1, 1) := by decide +kernel
theorem dX5_choiceOf_16 : decode cX5_choiceOf 16 = .ok (.invokevirtual 106, 3) := by decide +kernel
theorem dX5_choiceOf_19 : decode cX5_choiceOf 19 = .ok (.ifCond .eq 9, 3) := by decide +kernel
theorem dX5_choiceOf_22 : decode cX5_choiceOf 22 = .ok (.iconst 1, 1) := by decide +kernel
theorem dX5_choiceOf_23 : decode cX5_choiceOf 23 = .ok (.iload_n 3, 1) := by decide +kernel
theorem dX5_choiceOf_24 : decode cX5_choiceOf 24 = .ok (.ishl, 1) := by decide +kernel
theorem dX5_choiceOf_25 : decode cX5_choiceOf 25 = .ok (.goto 4, 3) := by decide +kernel
theorem dX5_choiceOf_28 : decode cX5_choiceOf 28 = .ok (.iconst 0, 1) := by decide +kernel
theorem dX5_choiceOf_29 : decode cX5_choiceOf 29 = .ok (.ior, 1) := by decide +kernel
theorem dX5_choiceOf_30 : decode cX5_choiceOf 30 = .ok (.istore_n 2, 1) := by decide +kernel
theorem dX5_choiceOf_31 : decode cX5_choiceOf 31 = .ok (.iinc 3 1, 3) := by decide +kernel
theorem dX5_choiceOf_34 : decode cX5_choiceOf 34 = .ok (.goto (-30), 3) := by decide +kernel
theorem dX5_choiceOf_37 : decode cX5_choiceOf 37 = .ok (.iconst 0, 1) := by decide +kernel
theorem dX5_choiceOf_38 : decode cX5_choiceOf 38 = .ok (.istore_n 3, 1) := by decide +kernel
theorem dX5_choiceOf_39 : decode cX5_choiceOf 39 = .ok (.iconst 0, 1) := by decide +kernel
theorem dX5_choiceOf_40 : decode cX5_choiceOf 40 = .ok (.istore 4, 2) := by decide +kernel
theorem dX5_choiceOf_42 : decode cX5_choiceOf 42 = .ok (.iload 4, 2) := by decide +kernel
theorem dX5_choiceOf_44 : decode cX5_choiceOf 44 = .ok (.iconst 2, 1) := by decide +kernel
theorem dX5_choiceOf_45 : decode cX5_choiceOf 45 = .ok (.if_icmp .ge 117, 3) := by decide +kernel
theorem dX5_choiceOf_48 : decode cX5_choiceOf 48 = .ok (.iconst (-1), 1) := by decide +kernel
theorem dX5_choiceOf_49 : decode cX5_choiceOf 49 = .ok (.istore 5, 2) := by decide +kernel
theorem dX5_choiceOf_51 : decode cX5_choiceOf 51 = .ok (.iconst 0, 1) := by decide +kernel
theorem dX5_choiceOf_52 : decode cX5_choiceOf 52 = .ok (.istore 6, 2) := by decide +kernel
theorem dX5_choiceOf_54 : decode cX5_choiceOf 54 = .ok (.iload 6, 2) := by decide +kernel
theorem dX5_choiceOf_56 : decode cX5_choiceOf 56 = .ok (.aload_n 0, 1) := by decide +kernel
theorem dX5_choiceOf_57 : decode cX5_choiceOf 57 = .ok (.getfield 72, 3) := by decide +kernel
theorem dX5_choiceOf_60 : decode cX5_choiceOf 60 = .ok (.if_icmp .ge 79, 3) := by decide +kernel
theorem dX5_choiceOf_63 : decode cX5_choiceOf 63 = .ok (.iload_n 2, 1) := by decide +kernel
theorem dX5_choiceOf_64 : decode cX5_choiceOf 64 = .ok (.iload 6, 2) := by decide +kernel
theorem dX5_choiceOf_66 : decode cX5_choiceOf 66 = .ok (.invokestatic 89, 3) := by decide +kernel
theorem dX5_choiceOf_69 : decode cX5_choiceOf 69 = .ok (.ifCond .eq 16, 3) := by decide +kernel
theorem dX5_choiceOf_72 : decode cX5_choiceOf 72 = .ok (.iload_n 3, 1) := by decide +kernel
theorem dX5_choiceOf_73 : decode cX5_choiceOf 73 = .ok (.iload 6, 2) := by decide +kernel
theorem dX5_choiceOf_75 : decode cX5_choiceOf 75 = .ok (.invokestatic 89, 3) := by decide +kernel
theorem dX5_choiceOf_78 : decode cX5_choiceOf 78 = .ok (.ifCond .ne 7, 3) := by decide +kernel
theorem dX5_choiceOf_81 : decode cX5_choiceOf 81 = .ok (.iconst 1, 1) := by decide +kernel
theorem dX5_choiceOf_82 : decode cX5_choiceOf 82 = .ok (.goto 4, 3) := by decide +kernel
theorem dX5_choiceOf_85 : decode cX5_choiceOf 85 = .ok (.iconst 0, 1) := by decide +kernel
theorem dX5_choiceOf_86 : decode cX5_choiceOf 86 = .ok (.istore 7, 2) := by decide +kernel
theorem dX5_choiceOf_88 : decode cX5_choiceOf 88 = .ok (.iload 7, 2) := by decide +kernel
theorem dX5_choiceOf_90 : decode cX5_choiceOf 90 = .ok (.ifCond .eq 39, 3) := by decide +kernel
theorem dX5_choiceOf_93 : decode cX5_choiceOf 93 = .ok (.iload 5, 2) := by decide +kernel
theorem dX5_choiceOf_95 : decode cX5_choiceOf 95 = .ok (.iconst (-1), 1) := by decide +kernel
theorem dX5_choiceOf_96 : decode cX5_choiceOf 96 = .ok (.if_icmp .eq 28, 3) := by decide +kernel
theorem dX5_choiceOf_99 : decode cX5_choiceOf 99 = .ok (.aload_n 0, 1) := by decide +kernel
theorem dX5_choiceOf_100 : decode cX5_choiceOf 100 = .ok (.getfield 44, 3) := by decide +kernel
theorem dX5_choiceOf_103 : decode cX5_choiceOf 103 = .ok (.iload_n 1, 1) := by decide +kernel
theorem dX5_choiceOf_104 : decode cX5_choiceOf 104 = .ok (.iload 6, 2) := by decide +kernel
theorem dX5_choiceOf_106 : decode cX5_choiceOf 106 = .ok (.invokestatic 96, 3) := by decide +kernel
theorem dX5_choiceOf_109 : decode cX5_choiceOf 109 = .ok (.iaload, 1) := by decide +kernel
theorem dX5_choiceOf_110 : decode cX5_choiceOf 110 = .ok (.aload_n 0, 1) := by decide +kernel
theorem dX5_choiceOf_111 : decode cX5_choiceOf 111 = .ok (.getfield 44, 3) := by decide +kernel
theorem dX5_choiceOf_114 : decode cX5_choiceOf 114 = .ok (.iload_n 1, 1) := by decide +kernel
theorem dX5_choiceOf_115 : decode cX5_choiceOf 115 = .ok (.iload 5, 2) := by decide +kernel
theorem dX5_choiceOf_117 : decode cX5_choiceOf 117 = .ok (.invokestatic 96, 3) := by decide +kernel
theorem dX5_choiceOf_120 : decode cX5_choiceOf 120 = .ok (.iaload, 1) := by decide +kernel
theorem dX5_choiceOf_121 : decode cX5_choiceOf 121 = .ok (.if_icmp .le 8, 3) := by decide +kernel
theorem dX5_choiceOf_124 : decode cX5_choiceOf 124 = .ok (.iload 6, 2) := by decide +kernel
theorem dX5_choiceOf_126 : decode cX5_choiceOf 126 = .ok (.goto 5, 3) := by decide +kernel
theorem dX5_choiceOf_129 : decode cX5_choiceOf 129 = .ok (.iload 5, 2) := by decide +kernel
theorem dX5_choiceOf_131 : decode cX5_choiceOf 131 = .ok (.istore 5, 2) := by decide +kernel
theorem dX5_choiceOf_133 : decode cX5_choiceOf 133 = .ok (.iinc 6 1, 3) := by decide +kernel
theorem dX5_choiceOf_136 : decode cX5_choiceOf 136 = .ok (.goto (-82), 3) := by decide +kernel
theorem dX5_choiceOf_139 : decode cX5_choiceOf 139 = .ok (.iload_n 3, 1) := by decide +kernel
theorem dX5_choiceOf_140 : decode cX5_choiceOf 140 = .ok (.iload 5, 2) := by decide +kernel
theorem dX5_choiceOf_142 : decode cX5_choiceOf 142 = .ok (.iconst (-1), 1) := by decide +kernel
theorem dX5_choiceOf_143 : decode cX5_choiceOf 143 = .ok (.if_icmp .ne 7, 3) := by decide +kernel
theorem dX5_choiceOf_146 : decode cX5_choiceOf 146 = .ok (.iconst 0, 1) := by decide +kernel
theorem dX5_choiceOf_147 : decode cX5_choiceOf 147 = .ok (.goto 7, 3) := by decide +kernel
theorem dX5_choiceOf_150 : decode cX5_choiceOf 150 = .ok (.iconst 1, 1) := by decide +kernel
theorem dX5_choiceOf_151 : decode cX5_choiceOf 151 = .ok (.iload 5, 2) := by decide +kernel
theorem dX5_choiceOf_153 : decode cX5_choiceOf 153 = .ok (.ishl, 1) := by decide +kernel
theorem dX5_choiceOf_154 : decode cX5_choiceOf 154 = .ok (.ior, 1) := by decide +kernel
theorem dX5_choiceOf_155 : decode cX5_choiceOf 155 = .ok (.istore_n 3, 1) := by decide +kernel
theorem dX5_choiceOf_156 : decode cX5_choiceOf 156 = .ok (.iinc 4 1, 3) := by decide +kernel
theorem dX5_choiceOf_159 : decode cX5_choiceOf 159 = .ok (.goto (-117), 3) := by decide +kernel
theorem dX5_choiceOf_162 : decode cX5_choiceOf 162 = .ok (.iconst 0, 1) := by decide +kernel
theorem dX5_choiceOf_163 : decode cX5_choiceOf 163 = .ok (.istore 4, 2) := by decide +kernel
theorem dX5_choiceOf_165 : decode cX5_choiceOf 165 = .ok (.iload 4, 2) := by decide +kernel
theorem dX5_choiceOf_167 : decode cX5_choiceOf 167 = .ok (.bipush 6, 2) := by decide +kernel
theorem dX5_choiceOf_169 : decode cX5_choiceOf 169 = .ok (.if_icmp .ge 46, 3) := by decide +kernel
theorem dX5_choiceOf_172 : decode cX5_choiceOf 172 = .ok (.aload_n 0, 1) := by decide +kernel
theorem dX5_choiceOf_173 : decode cX5_choiceOf 173 = .ok (.getfield 109, 3) := by decide +kernel
theorem dX5_choiceOf_176 : decode cX5_choiceOf 176 = .ok (.iload 4, 2) := by decide +kernel
theorem dX5_choiceOf_178 : decode cX5_choiceOf 178 = .ok (.iadd, 1) := by decide +kernel
theorem dX5_choiceOf_179 : decode cX5_choiceOf 179 = .ok (.bipush 6, 2) := by decide +kernel
theorem dX5_choiceOf_181 : decode cX5_choiceOf 181 = .ok (.irem, 1) := by decide +kernel
theorem dX5_choiceOf_182 : decode cX5_choiceOf 182 = .ok (.istore 5, 2) := by decide +kernel
theorem dX5_choiceOf_184 : decode cX5_choiceOf 184 = .ok (.iload_n 2, 1) := by decide +kernel
theorem dX5_choiceOf_185 : decode cX5_choiceOf 185 = .ok (.iload 5, 2) := by decide +kernel
theorem dX5_choiceOf_187 : decode cX5_choiceOf 187 = .ok (.invokestatic 89, 3) := by decide +kernel
theorem dX5_choiceOf_190 : decode cX5_choiceOf 190 = .ok (.ifCond .eq 19, 3) := by decide +kernel
theorem dX5_choiceOf_193 : decode cX5_choiceOf 193 = .ok (.iload_n 3, 1) := by decide +kernel
theorem dX5_choiceOf_194 : decode cX5_choiceOf 194 = .ok (.iload 5, 2) := by decide +kernel
theorem dX5_choiceOf_196 : decode cX5_choiceOf 196 = .ok (.invokestatic 89, 3) := by decide +kernel
theorem dX5_choiceOf_199 : decode cX5_choiceOf 199 = .ok (.ifCond .ne 10, 3) := by decide +kernel
theorem dX5_choiceOf_202 : decode cX5_choiceOf 202 = .ok (.iload_n 3, 1) := by decide +kernel
theorem dX5_choiceOf_203 : decode cX5_choiceOf 203 = .ok (.iconst 1, 1) := by decide +kernel
theorem dX5_choiceOf_204 : decode cX5_choiceOf 204 = .ok (.iload 5, 2) := by decide +kernel
theorem dX5_choiceOf_206 : decode cX5_choiceOf 206 = .ok (.ishl, 1) := by decide +kernel
theorem dX5_choiceOf_207 : decode cX5_choiceOf 207 = .ok (.ior, 1) := by decide +kernel
theorem dX5_choiceOf_208 : decode cX5_choiceOf 208 = .ok (.ireturn, 1) := by decide +kernel
theorem dX5_choiceOf_209 : decode cX5_choiceOf 209 = .ok (.iinc 4 1, 3) := by decide +kernel
theorem dX5_choiceOf_212 : decode cX5_choiceOf 212 = .ok (.goto (-47), 3) := by decide +kernel
theorem dX5_choiceOf_215 : decode cX5_choiceOf 215 = .ok (.iload_n 3, 1) := by decide +kernel
theorem dX5_choiceOf_216 : decode cX5_choiceOf 216 = .ok (.ireturn, 1) := by decide +kernel
theorem dX5_looks_0 : decode cX5_looks 0 = .ok (.iconst 0, 1) := by decide +kernel
theorem dX5_looks_1 : decode cX5_looks 1 = .ok (.istore_n 1, 1) := by decide +kernel
theorem dX5_looks_2 : decode cX5_looks 2 = .ok (.iload_n 1, 1) := by decide +kernel
theorem dX5_looks_3 : decode cX5_looks 3 = .ok (.aload_n 0, 1) := by decide +kernel
theorem dX5_looks_4 : decode cX5_looks 4 = .ok (.getfield 72, 3) := by decide +kernel
theorem dX5_looks_7 : decode cX5_looks 7 = .ok (.if_icmp .ge 87, 3) := by decide +kernel
theorem dX5_looks_10 : decode cX5_looks 10 = .ok (.aload_n 0, 1) := by decide +kernel
theorem dX5_looks_11 : decode cX5_looks 11 = .ok (.getfield 56, 3) := by decide +kernel
theorem dX5_looks_14 : decode cX5_looks 14 = .ok (.iload_n 1, 1) := by decide +kernel
theorem dX5_looks_15 : decode cX5_looks 15 = .ok (.aload_n 0, 1) := by decide +kernel
theorem dX5_looks_16 : decode cX5_looks 16 = .ok (.getfield 13, 3) := by decide +kernel
theorem dX5_looks_19 : decode cX5_looks 19 = .ok (.iload_n 1, 1) := by decide +kernel
theorem dX5_looks_20 : decode cX5_looks 20 = .ok (.baload, 1) := by decide +kernel
theorem dX5_looks_21 : decode cX5_looks 21 = .ok (.ifCond .eq 11, 3) := by decide +kernel
theorem dX5_looks_24 : decode cX5_looks 24 = .ok (.aload_n 0, 1) := by decide +kernel
theorem dX5_looks_25 : decode cX5_looks 25 = .ok (.iload_n 1, 1) := by decide +kernel
theorem dX5_looks_26 : decode cX5_looks 26 = .ok (.invokevirtual 112, 3) := by decide +kernel
theorem dX5_looks_29 : decode cX5_looks 29 = .ok (.goto 4, 3) := by decide +kernel
theorem dX5_looks_32 : decode cX5_looks 32 = .ok (.iconst 0, 1) := by decide +kernel
theorem dX5_looks_33 : decode cX5_looks 33 = .ok (.iastore, 1) := by decide +kernel
theorem dX5_looks_34 : decode cX5_looks 34 = .ok (.iconst 0, 1) := by decide +kernel
theorem dX5_looks_35 : decode cX5_looks 35 = .ok (.istore_n 2, 1) := by decide +kernel
theorem dX5_looks_36 : decode cX5_looks 36 = .ok (.iload_n 2, 1) := by decide +kernel
theorem dX5_looks_37 : decode cX5_looks 37 = .ok (.aload_n 0, 1) := by decide +kernel
theorem dX5_looks_38 : decode cX5_looks 38 = .ok (.getfield 72, 3) := by decide +kernel
theorem dX5_looks_41 : decode cX5_looks 41 = .ok (.if_icmp .ge 47, 3) := by decide +kernel
theorem dX5_looks_44 : decode cX5_looks 44 = .ok (.aload_n 0, 1) := by decide +kernel
theorem dX5_looks_45 : decode cX5_looks 45 = .ok (.getfield 53, 3) := by decide +kernel
theorem dX5_looks_48 : decode cX5_looks 48 = .ok (.iload_n 1, 1) := by decide +kernel
theorem dX5_looks_49 : decode cX5_looks 49 = .ok (.iload_n 2, 1) := by decide +kernel
theorem dX5_looks_50 : decode cX5_looks 50 = .ok (.invokestatic 96, 3) := by decide +kernel
theorem dX5_looks_53 : decode cX5_looks 53 = .ok (.aload_n 0, 1) := by decide +kernel
theorem dX5_looks_54 : decode cX5_looks 54 = .ok (.getfield 13, 3) := by decide +kernel
theorem dX5_looks_57 : decode cX5_looks 57 = .ok (.iload_n 1, 1) := by decide +kernel
theorem dX5_looks_58 : decode cX5_looks 58 = .ok (.baload, 1) := by decide +kernel
theorem dX5_looks_59 : decode cX5_looks 59 = .ok (.ifCond .eq 21, 3) := by decide +kernel
theorem dX5_looks_62 : decode cX5_looks 62 = .ok (.aload_n 0, 1) := by decide +kernel
theorem dX5_looks_63 : decode cX5_looks 63 = .ok (.getfield 13, 3) := by decide +kernel
theorem dX5_looks_66 : decode cX5_looks 66 = .ok (.iload_n 2, 1) := by decide +kernel
theorem dX5_looks_67 : decode cX5_looks 67 = .ok (.baload, 1) := by decide +kernel
theorem dX5_looks_68 : decode cX5_looks 68 = .ok (.ifCond .eq 12, 3) := by decide +kernel
theorem dX5_looks_71 : decode cX5_looks 71 = .ok (.aload_n 0, 1) := by decide +kernel
theorem dX5_looks_72 : decode cX5_looks 72 = .ok (.iload_n 1, 1) := by decide +kernel
theorem dX5_looks_73 : decode cX5_looks 73 = .ok (.iload_n 2, 1) := by decide +kernel
theorem dX5_looks_74 : decode cX5_looks 74 = .ok (.invokevirtual 100, 3) := by decide +kernel
theorem dX5_looks_77 : decode cX5_looks 77 = .ok (.goto 4, 3) := by decide +kernel
theorem dX5_looks_80 : decode cX5_looks 80 = .ok (.iconst 0, 1) := by decide +kernel
theorem dX5_looks_81 : decode cX5_looks 81 = .ok (.iastore, 1) := by decide +kernel
theorem dX5_looks_82 : decode cX5_looks 82 = .ok (.iinc 2 1, 3) := by decide +kernel
theorem dX5_looks_85 : decode cX5_looks 85 = .ok (.goto (-49), 3) := by decide +kernel
theorem dX5_looks_88 : decode cX5_looks 88 = .ok (.iinc 1 1, 3) := by decide +kernel
theorem dX5_looks_91 : decode cX5_looks 91 = .ok (.goto (-89), 3) := by decide +kernel
theorem dX5_looks_94 : decode cX5_looks 94 = .ok (.return_, 1) := by decide +kernel
theorem dX5_isBetter_0 : decode cX5_isBetter 0 = .ok (.aload_n 0, 1) := by decide +kernel
theorem dX5_isBetter_1 : decode cX5_isBetter 1 = .ok (.getfield 32, 3) := by decide +kernel
theorem dX5_isBetter_4 : decode cX5_isBetter 4 = .ok (.iload_n 1, 1) := by decide +kernel
theorem dX5_isBetter_5 : decode cX5_isBetter 5 = .ok (.iload_n 2, 1) := by decide +kernel
theorem dX5_isBetter_6 : decode cX5_isBetter 6 = .ok (.invokestatic 115, 3) := by decide +kernel
theorem dX5_isBetter_9 : decode cX5_isBetter 9 = .ok (.iaload, 1) := by decide +kernel
theorem dX5_isBetter_10 : decode cX5_isBetter 10 = .ok (.aload_n 0, 1) := by decide +kernel
theorem dX5_isBetter_11 : decode cX5_isBetter 11 = .ok (.getfield 38, 3) := by decide +kernel
theorem dX5_isBetter_14 : decode cX5_isBetter 14 = .ok (.iload_n 1, 1) := by decide +kernel
theorem dX5_isBetter_15 : decode cX5_isBetter 15 = .ok (.iload_n 2, 1) := by decide +kernel
theorem dX5_isBetter_16 : decode cX5_isBetter 16 = .ok (.invokestatic 115, 3) := by decide +kernel
theorem dX5_isBetter_19 : decode cX5_isBetter 19 = .ok (.iaload, 1) := by decide +kernel
theorem dX5_isBetter_20 : decode cX5_isBetter 20 = .ok (.ior, 1) := by decide +kernel
theorem dX5_isBetter_21 : decode cX5_isBetter 21 = .ok (.ifCond .eq 7, 3) := by decide +kernel
theorem dX5_isBetter_24 : decode cX5_isBetter 24 = .ok (.iconst 1, 1) := by decide +kernel
theorem dX5_isBetter_25 : decode cX5_isBetter 25 = .ok (.goto 4, 3) := by decide +kernel
theorem dX5_isBetter_28 : decode cX5_isBetter 28 = .ok (.iconst 0, 1) := by decide +kernel
theorem dX5_isBetter_29 : decode cX5_isBetter 29 = .ok (.istore 4, 2) := by decide +kernel
theorem dX5_isBetter_31 : decode cX5_isBetter 31 = .ok (.aload_n 0, 1) := by decide +kernel
theorem dX5_isBetter_32 : decode cX5_isBetter 32 = .ok (.getfield 32, 3) := by decide +kernel
theorem dX5_isBetter_35 : decode cX5_isBetter 35 = .ok (.iload_n 1, 1) := by decide +kernel
theorem dX5_isBetter_36 : decode cX5_isBetter 36 = .ok (.iload_n 3, 1) := by decide +kernel
theorem dX5_isBetter_37 : decode cX5_isBetter 37 = .ok (.invokestatic 115, 3) := by decide +kernel
theorem dX5_isBetter_40 : decode cX5_isBetter 40 = .ok (.iaload, 1) := by decide +kernel
theorem dX5_isBetter_41 : decode cX5_isBetter 41 = .ok (.aload_n 0, 1) := by decide +kernel
theorem dX5_isBetter_42 : decode cX5_isBetter 42 = .ok (.getfield 38, 3) := by decide +kernel
theorem dX5_isBetter_45 : decode cX5_isBetter 45 = .ok (.iload_n 1, 1) := by decide +kernel
theorem dX5_isBetter_46 : decode cX5_isBetter 46 = .ok (.iload_n 3, 1) := by decide +kernel
theorem dX5_isBetter_47 : decode cX5_isBetter 47 = .ok (.invokestatic 115, 3) := by decide +kernel
theorem dX5_isBetter_50 : decode cX5_isBetter 50 = .ok (.iaload, 1) := by decide +kernel
theorem dX5_isBetter_51 : decode cX5_isBetter 51 = .ok (.ior, 1) := by decide +kernel
theorem dX5_isBetter_52 : decode cX5_isBetter 52 = .ok (.ifCond .eq 7, 3) := by decide +kernel
theorem dX5_isBetter_55 : decode cX5_isBetter 55 = .ok (.iconst 1, 1) := by decide +kernel
theorem dX5_isBetter_56 : decode cX5_isBetter 56 = .ok (.goto 4, 3) := by decide +kernel
theorem dX5_isBetter_59 : decode cX5_isBetter 59 = .ok (.iconst 0, 1) := by decide +kernel
theorem dX5_isBetter_60 : decode cX5_isBetter 60 = .ok (.istore 5, 2) := by decide +kernel
theorem dX5_isBetter_62 : decode cX5_isBetter 62 = .ok (.iload 4, 2) := by decide +kernel
theorem dX5_isBetter_64 : decode cX5_isBetter 64 = .ok (.iload 5, 2) := by decide +kernel
theorem dX5_isBetter_66 : decode cX5_isBetter 66 = .ok (.if_icmp .eq 6, 3) := by decide +kernel
theorem dX5_isBetter_69 : decode cX5_isBetter 69 = .ok (.iload 4, 2) := by decide +kernel
theorem dX5_isBetter_71 : decode cX5_isBetter 71 = .ok (.ireturn, 1) := by decide +kernel
theorem dX5_isBetter_72 : decode cX5_isBetter 72 = .ok (.aload_n 0, 1) := by decide +kernel
theorem dX5_isBetter_73 : decode cX5_isBetter 73 = .ok (.getfield 7, 3) := by decide +kernel
theorem dX5_isBetter_76 : decode cX5_isBetter 76 = .ok (.iload_n 2, 1) := by decide +kernel
theorem dX5_isBetter_77 : decode cX5_isBetter 77 = .ok (.iaload, 1) := by decide +kernel
theorem dX5_isBetter_78 : decode cX5_isBetter 78 = .ok (.aload_n 0, 1) := by decide +kernel
theorem dX5_isBetter_79 : decode cX5_isBetter 79 = .ok (.getfield 7, 3) := by decide +kernel
theorem dX5_isBetter_82 : decode cX5_isBetter 82 = .ok (.iload_n 3, 1) := by decide +kernel
theorem dX5_isBetter_83 : decode cX5_isBetter 83 = .ok (.iaload, 1) := by decide +kernel
theorem dX5_isBetter_84 : decode cX5_isBetter 84 = .ok (.if_icmp .eq 24, 3) := by decide +kernel
theorem dX5_isBetter_87 : decode cX5_isBetter 87 = .ok (.aload_n 0, 1) := by decide +kernel
theorem dX5_isBetter_88 : decode cX5_isBetter 88 = .ok (.getfield 7, 3) := by decide +kernel
theorem dX5_isBetter_91 : decode cX5_isBetter 91 = .ok (.iload_n 2, 1) := by decide +kernel
theorem dX5_isBetter_92 : decode cX5_isBetter 92 = .ok (.iaload, 1) := by decide +kernel
theorem dX5_isBetter_93 : decode cX5_isBetter 93 = .ok (.aload_n 0, 1) := by decide +kernel
theorem dX5_isBetter_94 : decode cX5_isBetter 94 = .ok (.getfield 7, 3) := by decide +kernel
theorem dX5_isBetter_97 : decode cX5_isBetter 97 = .ok (.iload_n 3, 1) := by decide +kernel
theorem dX5_isBetter_98 : decode cX5_isBetter 98 = .ok (.iaload, 1) := by decide +kernel
theorem dX5_isBetter_99 : decode cX5_isBetter 99 = .ok (.if_icmp .le 7, 3) := by decide +kernel
theorem dX5_isBetter_102 : decode cX5_isBetter 102 = .ok (.iconst 1, 1) := by decide +kernel
theorem dX5_isBetter_103 : decode cX5_isBetter 103 = .ok (.goto 4, 3) := by decide +kernel
theorem dX5_isBetter_106 : decode cX5_isBetter 106 = .ok (.iconst 0, 1) := by decide +kernel
theorem dX5_isBetter_107 : decode cX5_isBetter 107 = .ok (.ireturn, 1) := by decide +kernel
theorem dX5_isBetter_108 : decode cX5_isBetter 108 = .ok (.aload_n 0, 1) := by decide +kernel
theorem dX5_isBetter_109 : decode cX5_isBetter 109 = .ok (.getfield 23, 3) := by decide +kernel
theorem dX5_isBetter_112 : decode cX5_isBetter 112 = .ok (.iload_n 1, 1) := by decide +kernel
theorem dX5_isBetter_113 : decode cX5_isBetter 113 = .ok (.baload, 1) := by decide +kernel
theorem dX5_isBetter_114 : decode cX5_isBetter 114 = .ok (.ifCond .eq 7, 3) := by decide +kernel
theorem dX5_isBetter_117 : decode cX5_isBetter 117 = .ok (.iconst 0, 1) := by decide +kernel
theorem dX5_isBetter_118 : decode cX5_isBetter 118 = .ok (.goto 14, 3) := by decide +kernel
theorem dX5_isBetter_121 : decode cX5_isBetter 121 = .ok (.aload_n 0, 1) := by decide +kernel
theorem dX5_isBetter_122 : decode cX5_isBetter 122 = .ok (.iload_n 2, 1) := by decide +kernel
theorem dX5_isBetter_123 : decode cX5_isBetter 123 = .ok (.invokevirtual 93, 3) := by decide +kernel
theorem dX5_isBetter_126 : decode cX5_isBetter 126 = .ok (.aload_n 0, 1) := by decide +kernel
theorem dX5_isBetter_127 : decode cX5_isBetter 127 = .ok (.iload_n 3, 1) := by decide +kernel
theorem dX5_isBetter_128 : decode cX5_isBetter 128 = .ok (.invokevirtual 93, 3) := by decide +kernel
theorem dX5_isBetter_131 : decode cX5_isBetter 131 = .ok (.isub, 1) := by decide +kernel
theorem dX5_isBetter_132 : decode cX5_isBetter 132 = .ok (.istore 6, 2) := by decide +kernel
theorem dX5_isBetter_134 : decode cX5_isBetter 134 = .ok (.iload 6, 2) := by decide +kernel
theorem dX5_isBetter_136 : decode cX5_isBetter 136 = .ok (.ifCond .lt 13, 3) := by decide +kernel
theorem dX5_isBetter_139 : decode cX5_isBetter 139 = .ok (.iload 6, 2) := by decide +kernel
theorem dX5_isBetter_141 : decode cX5_isBetter 141 = .ok (.ifCond .ne 12, 3) := by decide +kernel
theorem dX5_isBetter_144 : decode cX5_isBetter 144 = .ok (.iload_n 2, 1) := by decide +kernel
theorem dX5_isBetter_145 : decode cX5_isBetter 145 = .ok (.iload_n 3, 1) := by decide +kernel
theorem dX5_isBetter_146 : decode cX5_isBetter 146 = .ok (.if_icmp .ge 7, 3) := by decide +kernel
theorem dX5_isBetter_149 : decode cX5_isBetter 149 = .ok (.iconst 1, 1) := by decide +kernel
theorem dX5_isBetter_150 : decode cX5_isBetter 150 = .ok (.goto 4, 3) := by decide +kernel
theorem dX5_isBetter_153 : decode cX5_isBetter 153 = .ok (.iconst 0, 1) := by decide +kernel
theorem dX5_isBetter_154 : decode cX5_isBetter 154 = .ok (.ireturn, 1) := by decide +kernel
theorem dX5_lowest_0 : decode cX5_lowest 0 = .ok (.iconst 0, 1) := by decide +kernel
theorem dX5_lowest_1 : decode cX5_lowest 1 = .ok (.istore_n 1, 1) := by decide +kernel
theorem dX5_lowest_2 : decode cX5_lowest 2 = .ok (.iload_n 0, 1) := by decide +kernel
theorem dX5_lowest_3 : decode cX5_lowest 3 = .ok (.iload_n 1, 1) := by decide +kernel
theorem dX5_lowest_4 : decode cX5_lowest 4 = .ok (.invokestatic 89, 3) := by decide +kernel
theorem dX5_lowest_7 : decode cX5_lowest 7 = .ok (.ifCond .ne 9, 3) := by decide +kernel
theorem dX5_lowest_10 : decode cX5_lowest 10 = .ok (.iinc 1 1, 3) := by decide +kernel
theorem dX5_lowest_13 : decode cX5_lowest 13 = .ok (.goto (-11), 3) := by decide +kernel
theorem dX5_lowest_16 : decode cX5_lowest 16 = .ok (.iload_n 1, 1) := by decide +kernel
theorem dX5_lowest_17 : decode cX5_lowest 17 = .ok (.ireturn, 1) := by decide +kernel
theorem dX5_hasAskedAll_0 : decode cX5_hasAskedAll 0 = .ok (.aload_n 0, 1) := by decide +kernel
theorem dX5_hasAskedAll_1 : decode cX5_hasAskedAll 1 = .ok (.iload_n 1, 1) := by decide +kernel
theorem dX5_hasAskedAll_2 : decode cX5_hasAskedAll 2 = .ok (.invokevirtual 103, 3) := by decide +kernel
theorem dX5_hasAskedAll_5 : decode cX5_hasAskedAll 5 = .ok (.istore_n 2, 1) := by decide +kernel
theorem dX5_hasAskedAll_6 : decode cX5_hasAskedAll 6 = .ok (.iconst 1, 1) := by decide +kernel
theorem dX5_hasAskedAll_7 : decode cX5_hasAskedAll 7 = .ok (.istore_n 3, 1) := by decide +kernel
theorem dX5_hasAskedAll_8 : decode cX5_hasAskedAll 8 = .ok (.iconst 0, 1) := by decide +kernel
theorem dX5_hasAskedAll_9 : decode cX5_hasAskedAll 9 = .ok (.istore 4, 2) := by decide +kernel
theorem dX5_hasAskedAll_11 : decode cX5_hasAskedAll 11 = .ok (.iload 4, 2) := by decide +kernel
theorem dX5_hasAskedAll_13 : decode cX5_hasAskedAll 13 = .ok (.bipush 12, 2) := by decide +kernel
theorem dX5_hasAskedAll_15 : decode cX5_hasAskedAll 15 = .ok (.if_icmp .ge 56, 3) := by decide +kernel
theorem dX5_hasAskedAll_18 : decode cX5_hasAskedAll 18 = .ok (.iload_n 3, 1) := by decide +kernel
theorem dX5_hasAskedAll_19 : decode cX5_hasAskedAll 19 = .ok (.ifCond .eq 44, 3) := by decide +kernel
theorem dX5_hasAskedAll_22 : decode cX5_hasAskedAll 22 = .ok (.iload_n 2, 1) := by decide +kernel
theorem dX5_hasAskedAll_23 : decode cX5_hasAskedAll 23 = .ok (.iload 4, 2) := by decide +kernel
theorem dX5_hasAskedAll_25 : decode cX5_hasAskedAll 25 = .ok (.invokestatic 89, 3) := by decide +kernel
theorem dX5_hasAskedAll_28 : decode cX5_hasAskedAll 28 = .ok (.ifCond .eq 31, 3) := by decide +kernel
theorem dX5_hasAskedAll_31 : decode cX5_hasAskedAll 31 = .ok (.aload_n 0, 1) := by decide +kernel
theorem dX5_hasAskedAll_32 : decode cX5_hasAskedAll 32 = .ok (.getfield 32, 3) := by decide +kernel
theorem dX5_hasAskedAll_35 : decode cX5_hasAskedAll 35 = .ok (.iload_n 1, 1) := by decide +kernel
theorem dX5_hasAskedAll_36 : decode cX5_hasAskedAll 36 = .ok (.iload 4, 2) := by decide +kernel
theorem dX5_hasAskedAll_38 : decode cX5_hasAskedAll 38 = .ok (.invokestatic 115, 3) := by decide +kernel
theorem dX5_hasAskedAll_41 : decode cX5_hasAskedAll 41 = .ok (.iaload, 1) := by decide +kernel
theorem dX5_hasAskedAll_42 : decode cX5_hasAskedAll 42 = .ok (.aload_n 0, 1) := by decide +kernel
theorem dX5_hasAskedAll_43 : decode cX5_hasAskedAll 43 = .ok (.getfield 38, 3) := by decide +kernel
theorem dX5_hasAskedAll_46 : decode cX5_hasAskedAll 46 = .ok (.iload_n 1, 1) := by decide +kernel
theorem dX5_hasAskedAll_47 : decode cX5_hasAskedAll 47 = .ok (.iload 4, 2) := by decide +kernel
theorem dX5_hasAskedAll_49 : decode cX5_hasAskedAll 49 = .ok (.invokestatic 115, 3) := by decide +kernel
theorem dX5_hasAskedAll_52 : decode cX5_hasAskedAll 52 = .ok (.iaload, 1) := by decide +kernel
theorem dX5_hasAskedAll_53 : decode cX5_hasAskedAll 53 = .ok (.ior, 1) := by decide +kernel
theorem dX5_hasAskedAll_54 : decode cX5_hasAskedAll 54 = .ok (.bipush 15, 2) := by decide +kernel
theorem dX5_hasAskedAll_56 : decode cX5_hasAskedAll 56 = .ok (.if_icmp .ne 7, 3) := by decide +kernel
theorem dX5_hasAskedAll_59 : decode cX5_hasAskedAll 59 = .ok (.iconst 1, 1) := by decide +kernel
theorem dX5_hasAskedAll_60 : decode cX5_hasAskedAll 60 = .ok (.goto 4, 3) := by decide +kernel
theorem dX5_hasAskedAll_63 : decode cX5_hasAskedAll 63 = .ok (.iconst 0, 1) := by decide +kernel
theorem dX5_hasAskedAll_64 : decode cX5_hasAskedAll 64 = .ok (.istore_n 3, 1) := by decide +kernel
theorem dX5_hasAskedAll_65 : decode cX5_hasAskedAll 65 = .ok (.iinc 4 1, 3) := by decide +kernel
theorem dX5_hasAskedAll_68 : decode cX5_hasAskedAll 68 = .ok (.goto (-57), 3) := by decide +kernel
theorem dX5_hasAskedAll_71 : decode cX5_hasAskedAll 71 = .ok (.iload_n 3, 1) := by decide +kernel
theorem dX5_hasAskedAll_72 : decode cX5_hasAskedAll 72 = .ok (.ireturn, 1) := by decide +kernel
theorem dX5_blockFor_0 : decode cX5_blockFor 0 = .ok (.aload_n 0, 1) := by decide +kernel
theorem dX5_blockFor_1 : decode cX5_blockFor 1 = .ok (.getfield 53, 3) := by decide +kernel
theorem dX5_blockFor_4 : decode cX5_blockFor 4 = .ok (.iload_n 2, 1) := by decide +kernel
theorem dX5_blockFor_5 : decode cX5_blockFor 5 = .ok (.iload_n 1, 1) := by decide +kernel
theorem dX5_blockFor_6 : decode cX5_blockFor 6 = .ok (.invokestatic 96, 3) := by decide +kernel
theorem dX5_blockFor_9 : decode cX5_blockFor 9 = .ok (.iaload, 1) := by decide +kernel
theorem dX5_blockFor_10 : decode cX5_blockFor 10 = .ok (.aload_n 0, 1) := by decide +kernel
theorem dX5_blockFor_11 : decode cX5_blockFor 11 = .ok (.iload_n 1, 1) := by decide +kernel
theorem dX5_blockFor_12 : decode cX5_blockFor 12 = .ok (.invokevirtual 103, 3) := by decide +kernel
theorem dX5_blockFor_15 : decode cX5_blockFor 15 = .ok (.iand, 1) := by decide +kernel
theorem dX5_blockFor_16 : decode cX5_blockFor 16 = .ok (.istore_n 3, 1) := by decide +kernel
theorem dX5_blockFor_17 : decode cX5_blockFor 17 = .ok (.iconst (-1), 1) := by decide +kernel
theorem dX5_blockFor_18 : decode cX5_blockFor 18 = .ok (.istore 4, 2) := by decide +kernel
theorem dX5_blockFor_20 : decode cX5_blockFor 20 = .ok (.iconst (-1), 1) := by decide +kernel
theorem dX5_blockFor_21 : decode cX5_blockFor 21 = .ok (.istore 5, 2) := by decide +kernel
theorem dX5_blockFor_23 : decode cX5_blockFor 23 = .ok (.bipush 11, 2) := by decide +kernel
theorem dX5_blockFor_25 : decode cX5_blockFor 25 = .ok (.istore 6, 2) := by decide +kernel
theorem dX5_blockFor_27 : decode cX5_blockFor 27 = .ok (.iload 6, 2) := by decide +kernel
theorem dX5_blockFor_29 : decode cX5_blockFor 29 = .ok (.ifCond .lt 120, 3) := by decide +kernel
theorem dX5_blockFor_32 : decode cX5_blockFor 32 = .ok (.iload_n 3, 1) := by decide +kernel
theorem dX5_blockFor_33 : decode cX5_blockFor 33 = .ok (.iload 6, 2) := by decide +kernel
theorem dX5_blockFor_35 : decode cX5_blockFor 35 = .ok (.invokestatic 89, 3) := by decide +kernel
theorem dX5_blockFor_38 : decode cX5_blockFor 38 = .ok (.ifCond .eq 22, 3) := by decide +kernel
theorem dX5_blockFor_41 : decode cX5_blockFor 41 = .ok (.bipush 15, 2) := by decide +kernel
theorem dX5_blockFor_43 : decode cX5_blockFor 43 = .ok (.aload_n 0, 1) := by decide +kernel
theorem dX5_blockFor_44 : decode cX5_blockFor 44 = .ok (.getfield 32, 3) := by decide +kernel
theorem dX5_blockFor_47 : decode cX5_blockFor 47 = .ok (.iload_n 1, 1) := by decide +kernel
theorem dX5_blockFor_48 : decode cX5_blockFor 48 = .ok (.iload 6, 2) := by decide +kernel
theorem dX5_blockFor_50 : decode cX5_blockFor 50 = .ok (.invokestatic 115, 3) := by decide +kernel
theorem dX5_blockFor_53 : decode cX5_blockFor 53 = .ok (.iaload, 1) := by decide +kernel
theorem dX5_blockFor_54 : decode cX5_blockFor 54 = .ok (.iconst (-1), 1) := by decide +kernel
theorem dX5_blockFor_55 : decode cX5_blockFor 55 = .ok (.ixor, 1) := by decide +kernel
theorem dX5_blockFor_56 : decode cX5_blockFor 56 = .ok (.iand, 1) := by decide +kernel
theorem dX5_blockFor_57 : decode cX5_blockFor 57 = .ok (.goto 4, 3) := by decide +kernel
theorem dX5_blockFor_60 : decode cX5_blockFor 60 = .ok (.iconst 0, 1) := by decide +kernel
theorem dX5_blockFor_61 : decode cX5_blockFor 61 = .ok (.istore 7, 2) := by decide +kernel
theorem dX5_blockFor_63 : decode cX5_blockFor 63 = .ok (.iload 7, 2) := by decide +kernel
theorem dX5_blockFor_65 : decode cX5_blockFor 65 = .ok (.aload_n 0, 1) := by decide +kernel
theorem dX5_blockFor_66 : decode cX5_blockFor 66 = .ok (.getfield 38, 3) := by decide +kernel
theorem dX5_blockFor_69 : decode cX5_blockFor 69 = .ok (.iload_n 1, 1) := by decide +kernel
theorem dX5_blockFor_70 : decode cX5_blockFor 70 = .ok (.iload 6, 2) := by decide +kernel
theorem dX5_blockFor_72 : decode cX5_blockFor 72 = .ok (.invokestatic 115, 3) := by decide +kernel
theorem dX5_blockFor_75 : decode cX5_blockFor 75 = .ok (.iaload, 1) := by decide +kernel
theorem dX5_blockFor_76 : decode cX5_blockFor 76 = .ok (.iconst (-1), 1) := by decide +kernel
theorem dX5_blockFor_77 : decode cX5_blockFor 77 = .ok (.ixor, 1) := by decide +kernel
theorem dX5_blockFor_78 : decode cX5_blockFor 78 = .ok (.iand, 1) := by decide +kernel
theorem dX5_blockFor_79 : decode cX5_blockFor 79 = .ok (.ifCond .eq 7, 3) := by decide +kernel
theorem dX5_blockFor_82 : decode cX5_blockFor 82 = .ok (.iconst 1, 1) := by decide +kernel
theorem dX5_blockFor_83 : decode cX5_blockFor 83 = .ok (.goto 4, 3) := by decide +kernel
theorem dX5_blockFor_86 : decode cX5_blockFor 86 = .ok (.iconst 0, 1) := by decide +kernel
theorem dX5_blockFor_87 : decode cX5_blockFor 87 = .ok (.istore 8, 2) := by decide +kernel
theorem dX5_blockFor_89 : decode cX5_blockFor 89 = .ok (.iload 8, 2) := by decide +kernel
theorem dX5_blockFor_91 : decode cX5_blockFor 91 = .ok (.ifCond .eq 26, 3) := by decide +kernel
theorem dX5_blockFor_94 : decode cX5_blockFor 94 = .ok (.iload 4, 2) := by decide +kernel
theorem dX5_blockFor_96 : decode cX5_blockFor 96 = .ok (.iconst (-1), 1) := by decide +kernel
theorem dX5_blockFor_97 : decode cX5_blockFor 97 = .ok (.if_icmp .eq 15, 3) := by decide +kernel
theorem dX5_blockFor_100 : decode cX5_blockFor 100 = .ok (.aload_n 0, 1) := by decide +kernel
theorem dX5_blockFor_101 : decode cX5_blockFor 101 = .ok (.iload_n 1, 1) := by decide +kernel
theorem dX5_blockFor_102 : decode cX5_blockFor 102 = .ok (.iload 6, 2) := by decide +kernel
theorem dX5_blockFor_104 : decode cX5_blockFor 104 = .ok (.iload 4, 2) := by decide +kernel
theorem dX5_blockFor_106 : decode cX5_blockFor 106 = .ok (.invokevirtual 118, 3) := by decide +kernel
theorem dX5_blockFor_109 : decode cX5_blockFor 109 = .ok (.ifCond .eq 8, 3) := by decide +kernel
theorem dX5_blockFor_112 : decode cX5_blockFor 112 = .ok (.iload 6, 2) := by decide +kernel
theorem dX5_blockFor_114 : decode cX5_blockFor 114 = .ok (.goto 5, 3) := by decide +kernel
theorem dX5_blockFor_117 : decode cX5_blockFor 117 = .ok (.iload 4, 2) := by decide +kernel
theorem dX5_blockFor_119 : decode cX5_blockFor 119 = .ok (.istore 4, 2) := by decide +kernel
theorem dX5_blockFor_121 : decode cX5_blockFor 121 = .ok (.iload 7, 2) := by decide +kernel
theorem dX5_blockFor_123 : decode cX5_blockFor 123 = .ok (.ifCond .eq 16, 3) := by decide +kernel
theorem dX5_blockFor_126 : decode cX5_blockFor 126 = .ok (.iconst 4, 1) := by decide +kernel
theorem dX5_blockFor_127 : decode cX5_blockFor 127 = .ok (.iload 6, 2) := by decide +kernel
theorem dX5_blockFor_129 : decode cX5_blockFor 129 = .ok (.imul, 1) := by decide +kernel
theorem dX5_blockFor_130 : decode cX5_blockFor 130 = .ok (.iload 7, 2) := by decide +kernel
theorem dX5_blockFor_132 : decode cX5_blockFor 132 = .ok (.invokestatic 122, 3) := by decide +kernel
theorem dX5_blockFor_135 : decode cX5_blockFor 135 = .ok (.iadd, 1) := by decide +kernel
theorem dX5_blockFor_136 : decode cX5_blockFor 136 = .ok (.goto 5, 3) := by decide +kernel
theorem dX5_blockFor_139 : decode cX5_blockFor 139 = .ok (.iload 5, 2) := by decide +kernel
theorem dX5_blockFor_141 : decode cX5_blockFor 141 = .ok (.istore 5, 2) := by decide +kernel
theorem dX5_blockFor_143 : decode cX5_blockFor 143 = .ok (.iinc 6 (-1), 3) := by decide +kernel
theorem dX5_blockFor_146 : decode cX5_blockFor 146 = .ok (.goto (-119), 3) := by decide +kernel
theorem dX5_blockFor_149 : decode cX5_blockFor 149 = .ok (.iload 4, 2) := by decide +kernel
theorem dX5_blockFor_151 : decode cX5_blockFor 151 = .ok (.iconst (-1), 1) := by decide +kernel
theorem dX5_blockFor_152 : decode cX5_blockFor 152 = .ok (.if_icmp .eq 42, 3) := by decide +kernel
theorem dX5_blockFor_155 : decode cX5_blockFor 155 = .ok (.iconst 4, 1) := by decide +kernel
theorem dX5_blockFor_156 : decode cX5_blockFor 156 = .ok (.iload 4, 2) := by decide +kernel
theorem dX5_blockFor_158 : decode cX5_blockFor 158 = .ok (.imul, 1) := by decide +kernel
theorem dX5_blockFor_159 : decode cX5_blockFor 159 = .ok (.bipush 15, 2) := by decide +kernel
theorem dX5_blockFor_161 : decode cX5_blockFor 161 = .ok (.aload_n 0, 1) := by decide +kernel
theorem dX5_blockFor_162 : decode cX5_blockFor 162 = .ok (.getfield 32, 3) := by decide +kernel
theorem dX5_blockFor_165 : decode cX5_blockFor 165 = .ok (.iload_n 1, 1) := by decide +kernel
theorem dX5_blockFor_166 : decode cX5_blockFor 166 = .ok (.iload 4, 2) := by decide +kernel
theorem dX5_blockFor_168 : decode cX5_blockFor 168 = .ok (.invokestatic 115, 3) := by decide +kernel
theorem dX5_blockFor_171 : decode cX5_blockFor 171 = .ok (.iaload, 1) := by decide +kernel
theorem dX5_blockFor_172 : decode cX5_blockFor 172 = .ok (.iconst (-1), 1) := by decide +kernel
theorem dX5_blockFor_173 : decode cX5_blockFor 173 = .ok (.ixor, 1) := by decide +kernel
theorem dX5_blockFor_174 : decode cX5_blockFor 174 = .ok (.iand, 1) := by decide +kernel
theorem dX5_blockFor_175 : decode cX5_blockFor 175 = .ok (.aload_n 0, 1) := by decide +kernel
theorem dX5_blockFor_176 : decode cX5_blockFor 176 = .ok (.getfield 38, 3) := by decide +kernel
theorem dX5_blockFor_179 : decode cX5_blockFor 179 = .ok (.iload_n 1, 1) := by decide +kernel
theorem dX5_blockFor_180 : decode cX5_blockFor 180 = .ok (.iload 4, 2) := by decide +kernel
theorem dX5_blockFor_182 : decode cX5_blockFor 182 = .ok (.invokestatic 115, 3) := by decide +kernel
theorem dX5_blockFor_185 : decode cX5_blockFor 185 = .ok (.iaload, 1) := by decide +kernel
theorem dX5_blockFor_186 : decode cX5_blockFor 186 = .ok (.iconst (-1), 1) := by decide +kernel
theorem dX5_blockFor_187 : decode cX5_blockFor 187 = .ok (.ixor, 1) := by decide +kernel
theorem dX5_blockFor_188 : decode cX5_blockFor 188 = .ok (.iand, 1) := by decide +kernel
theorem dX5_blockFor_189 : decode cX5_blockFor 189 = .ok (.invokestatic 122, 3) := by decide +kernel
theorem dX5_blockFor_192 : decode cX5_blockFor 192 = .ok (.iadd, 1) := by decide +kernel
theorem dX5_blockFor_193 : decode cX5_blockFor 193 = .ok (.ireturn, 1) := by decide +kernel
theorem dX5_blockFor_194 : decode cX5_blockFor 194 = .ok (.aload_n 0, 1) := by decide +kernel
theorem dX5_blockFor_195 : decode cX5_blockFor 195 = .ok (.iload_n 1, 1) := by decide +kernel
theorem dX5_blockFor_196 : decode cX5_blockFor 196 = .ok (.invokevirtual 125, 3) := by decide +kernel
theorem dX5_blockFor_199 : decode cX5_blockFor 199 = .ok (.ifCond .eq 8, 3) := by decide +kernel
theorem dX5_blockFor_202 : decode cX5_blockFor 202 = .ok (.iload 5, 2) := by decide +kernel
theorem dX5_blockFor_204 : decode cX5_blockFor 204 = .ok (.goto 4, 3) := by decide +kernel
theorem dX5_blockFor_207 : decode cX5_blockFor 207 = .ok (.iconst (-1), 1) := by decide +kernel
theorem dX5_blockFor_208 : decode cX5_blockFor 208 = .ok (.ireturn, 1) := by decide +kernel
theorem dX5_asks_0 : decode cX5_asks 0 = .ok (.aload_n 0, 1) := by decide +kernel
theorem dX5_asks_1 : decode cX5_asks 1 = .ok (.iconst 0, 1) := by decide +kernel
theorem dX5_asks_2 : decode cX5_asks 2 = .ok (.putfield 128, 3) := by decide +kernel
theorem dX5_asks_5 : decode cX5_asks 5 = .ok (.iconst 0, 1) := by decide +kernel
theorem dX5_asks_6 : decode cX5_asks 6 = .ok (.istore_n 1, 1) := by decide +kernel
theorem dX5_asks_7 : decode cX5_asks 7 = .ok (.iload_n 1, 1) := by decide +kernel
theorem dX5_asks_8 : decode cX5_asks 8 = .ok (.bipush 72, 2) := by decide +kernel
theorem dX5_asks_10 : decode cX5_asks 10 = .ok (.if_icmp .ge 16, 3) := by decide +kernel
theorem dX5_asks_13 : decode cX5_asks 13 = .ok (.aload_n 0, 1) := by decide +kernel
theorem dX5_asks_14 : decode cX5_asks 14 = .ok (.getfield 38, 3) := by decide +kernel
theorem dX5_asks_17 : decode cX5_asks 17 = .ok (.iload_n 1, 1) := by decide +kernel
theorem dX5_asks_18 : decode cX5_asks 18 = .ok (.iconst 0, 1) := by decide +kernel
theorem dX5_asks_19 : decode cX5_asks 19 = .ok (.iastore, 1) := by decide +kernel
theorem dX5_asks_20 : decode cX5_asks 20 = .ok (.iinc 1 1, 3) := by decide +kernel
theorem dX5_asks_23 : decode cX5_asks 23 = .ok (.goto (-16), 3) := by decide +kernel
theorem dX5_asks_26 : decode cX5_asks 26 = .ok (.iconst 0, 1) := by decide +kernel
theorem dX5_asks_27 : decode cX5_asks 27 = .ok (.istore_n 1, 1) := by decide +kernel
theorem dX5_asks_28 : decode cX5_asks 28 = .ok (.iload_n 1, 1) := by decide +kernel
theorem dX5_asks_29 : decode cX5_asks 29 = .ok (.aload_n 0, 1) := by decide +kernel
theorem dX5_asks_30 : decode cX5_asks 30 = .ok (.getfield 72, 3) := by decide +kernel
theorem dX5_asks_33 : decode cX5_asks 33 = .ok (.if_icmp .ge 114, 3) := by decide +kernel
theorem dX5_asks_36 : decode cX5_asks 36 = .ok (.iconst 0, 1) := by decide +kernel
theorem dX5_asks_37 : decode cX5_asks 37 = .ok (.istore_n 2, 1) := by decide +kernel
theorem dX5_asks_38 : decode cX5_asks 38 = .ok (.iload_n 2, 1) := by decide +kernel
theorem dX5_asks_39 : decode cX5_asks 39 = .ok (.aload_n 0, 1) := by decide +kernel
theorem dX5_asks_40 : decode cX5_asks 40 = .ok (.getfield 72, 3) := by decide +kernel
theorem dX5_asks_43 : decode cX5_asks 43 = .ok (.if_icmp .ge 98, 3) := by decide +kernel
theorem dX5_asks_46 : decode cX5_asks 46 = .ok (.aload_n 0, 1) := by decide +kernel
theorem dX5_asks_47 : decode cX5_asks 47 = .ok (.getfield 56, 3) := by decide +kernel
theorem dX5_asks_50 : decode cX5_asks 50 = .ok (.iload_n 2, 1) := by decide +kernel
theorem dX5_asks_51 : decode cX5_asks 51 = .ok (.iaload, 1) := by decide +kernel
theorem dX5_asks_52 : decode cX5_asks 52 = .ok (.iload_n 1, 1) := by decide +kernel
theorem dX5_asks_53 : decode cX5_asks 53 = .ok (.invokestatic 89, 3) := by decide +kernel
theorem dX5_asks_56 : decode cX5_asks 56 = .ok (.ifCond .eq 12, 3) := by decide +kernel
theorem dX5_asks_59 : decode cX5_asks 59 = .ok (.aload_n 0, 1) := by decide +kernel
theorem dX5_asks_60 : decode cX5_asks 60 = .ok (.iload_n 1, 1) := by decide +kernel
theorem dX5_asks_61 : decode cX5_asks 61 = .ok (.iload_n 2, 1) := by decide +kernel
theorem dX5_asks_62 : decode cX5_asks 62 = .ok (.invokevirtual 131, 3) := by decide +kernel
theorem dX5_asks_65 : decode cX5_asks 65 = .ok (.goto 4, 3) := by decide +kernel
theorem dX5_asks_68 : decode cX5_asks 68 = .ok (.iconst (-1), 1) := by decide +kernel
theorem dX5_asks_69 : decode cX5_asks 69 = .ok (.istore_n 3, 1) := by decide +kernel
theorem dX5_asks_70 : decode cX5_asks 70 = .ok (.iload_n 3, 1) := by decide +kernel
theorem dX5_asks_71 : decode cX5_asks 71 = .ok (.iconst (-1), 1) := by decide +kernel
theorem dX5_asks_72 : decode cX5_asks 72 = .ok (.if_icmp .eq 63, 3) := by decide +kernel
theorem dX5_asks_75 : decode cX5_asks 75 = .ok (.aload_n 0, 1) := by decide +kernel
theorem dX5_asks_76 : decode cX5_asks 76 = .ok (.getfield 38, 3) := by decide +kernel
theorem dX5_asks_79 : decode cX5_asks 79 = .ok (.iload_n 1, 1) := by decide +kernel
theorem dX5_asks_80 : decode cX5_asks 80 = .ok (.iload_n 3, 1) := by decide +kernel
theorem dX5_asks_81 : decode cX5_asks 81 = .ok (.iconst 4, 1) := by decide +kernel
theorem dX5_asks_82 : decode cX5_asks 82 = .ok (.idiv, 1) := by decide +kernel
theorem dX5_asks_83 : decode cX5_asks 83 = .ok (.invokestatic 115, 3) := by decide +kernel
theorem dX5_asks_86 : decode cX5_asks 86 = .ok (.dup2, 1) := by decide +kernel
theorem dX5_asks_87 : decode cX5_asks 87 = .ok (.iaload, 1) := by decide +kernel
theorem dX5_asks_88 : decode cX5_asks 88 = .ok (.iconst 1, 1) := by decide +kernel
theorem dX5_asks_89 : decode cX5_asks 89 = .ok (.iload_n 3, 1) := by decide +kernel
theorem dX5_asks_90 : decode cX5_asks 90 = .ok (.iconst 4, 1) := by decide +kernel
theorem dX5_asks_91 : decode cX5_asks 91 = .ok (.irem, 1) := by decide +kernel
theorem dX5_asks_92 : decode cX5_asks 92 = .ok (.ishl, 1) := by decide +kernel
theorem dX5_asks_93 : decode cX5_asks 93 = .ok (.ior, 1) := by decide +kernel
theorem dX5_asks_94 : decode cX5_asks 94 = .ok (.iastore, 1) := by decide +kernel
theorem dX5_asks_95 : decode cX5_asks 95 = .ok (.aload_n 0, 1) := by decide +kernel
theorem dX5_asks_96 : decode cX5_asks 96 = .ok (.getfield 59, 3) := by decide +kernel
theorem dX5_asks_99 : decode cX5_asks 99 = .ok (.aload_n 0, 1) := by decide +kernel
theorem dX5_asks_100 : decode cX5_asks 100 = .ok (.getfield 128, 3) := by decide +kernel
theorem dX5_asks_103 : decode cX5_asks 103 = .ok (.iload_n 1, 1) := by decide +kernel
theorem dX5_asks_104 : decode cX5_asks 104 = .ok (.iastore, 1) := by decide +kernel
theorem dX5_asks_105 : decode cX5_asks 105 = .ok (.aload_n 0, 1) := by decide +kernel
theorem dX5_asks_106 : decode cX5_asks 106 = .ok (.getfield 62, 3) := by decide +kernel
theorem dX5_asks_109 : decode cX5_asks 109 = .ok (.aload_n 0, 1) := by decide +kernel
theorem dX5_asks_110 : decode cX5_asks 110 = .ok (.getfield 128, 3) := by decide +kernel
theorem dX5_asks_113 : decode cX5_asks 113 = .ok (.iload_n 2, 1) := by decide +kernel
theorem dX5_asks_114 : decode cX5_asks 114 = .ok (.iastore, 1) := by decide +kernel
theorem dX5_asks_115 : decode cX5_asks 115 = .ok (.aload_n 0, 1) := by decide +kernel
theorem dX5_asks_116 : decode cX5_asks 116 = .ok (.getfield 65, 3) := by decide +kernel
theorem dX5_asks_119 : decode cX5_asks 119 = .ok (.aload_n 0, 1) := by decide +kernel
theorem dX5_asks_120 : decode cX5_asks 120 = .ok (.getfield 128, 3) := by decide +kernel
theorem dX5_asks_123 : decode cX5_asks 123 = .ok (.iload_n 3, 1) := by decide +kernel
theorem dX5_asks_124 : decode cX5_asks 124 = .ok (.iastore, 1) := by decide +kernel
theorem dX5_asks_125 : decode cX5_asks 125 = .ok (.aload_n 0, 1) := by decide +kernel
theorem dX5_asks_126 : decode cX5_asks 126 = .ok (.dup, 1) := by decide +kernel
theorem dX5_asks_127 : decode cX5_asks 127 = .ok (.getfield 128, 3) := by decide +kernel
theorem dX5_asks_130 : decode cX5_asks 130 = .ok (.iconst 1, 1) := by decide +kernel
theorem dX5_asks_131 : decode cX5_asks 131 = .ok (.iadd, 1) := by decide +kernel
theorem dX5_asks_132 : decode cX5_asks 132 = .ok (.putfield 128, 3) := by decide +kernel
theorem dX5_asks_135 : decode cX5_asks 135 = .ok (.iinc 2 1, 3) := by decide +kernel
theorem dX5_asks_138 : decode cX5_asks 138 = .ok (.goto (-100), 3) := by decide +kernel
theorem dX5_asks_141 : decode cX5_asks 141 = .ok (.iinc 1 1, 3) := by decide +kernel
theorem dX5_asks_144 : decode cX5_asks 144 = .ok (.goto (-116), 3) := by decide +kernel
theorem dX5_asks_147 : decode cX5_asks 147 = .ok (.return_, 1) := by decide +kernel
theorem dX5_comes_0 : decode cX5_comes 0 = .ok (.iconst 0, 1) := by decide +kernel
theorem dX5_comes_1 : decode cX5_comes 1 = .ok (.istore_n 1, 1) := by decide +kernel
theorem dX5_comes_2 : decode cX5_comes 2 = .ok (.iconst 0, 1) := by decide +kernel
theorem dX5_comes_3 : decode cX5_comes 3 = .ok (.istore_n 2, 1) := by decide +kernel
theorem dX5_comes_4 : decode cX5_comes 4 = .ok (.iload_n 2, 1) := by decide +kernel
theorem dX5_comes_5 : decode cX5_comes 5 = .ok (.bipush 36, 2) := by decide +kernel
theorem dX5_comes_7 : decode cX5_comes 7 = .ok (.if_icmp .ge 16, 3) := by decide +kernel
theorem dX5_comes_10 : decode cX5_comes 10 = .ok (.aload_n 0, 1) := by decide +kernel
theorem dX5_comes_11 : decode cX5_comes 11 = .ok (.getfield 44, 3) := by decide +kernel
theorem dX5_comes_14 : decode cX5_comes 14 = .ok (.iload_n 2, 1) := by decide +kernel
theorem dX5_comes_15 : decode cX5_comes 15 = .ok (.iconst 0, 1) := by decide +kernel
theorem dX5_comes_16 : decode cX5_comes 16 = .ok (.iastore, 1) := by decide +kernel
theorem dX5_comes_17 : decode cX5_comes 17 = .ok (.iinc 2 1, 3) := by decide +kernel
theorem dX5_comes_20 : decode cX5_comes 20 = .ok (.goto (-16), 3) := by decide +kernel
theorem dX5_comes_23 : decode cX5_comes 23 = .ok (.iconst 0, 1) := by decide +kernel
theorem dX5_comes_24 : decode cX5_comes 24 = .ok (.istore_n 2, 1) := by decide +kernel
theorem dX5_comes_25 : decode cX5_comes 25 = .ok (.iload_n 2, 1) := by decide +kernel
theorem dX5_comes_26 : decode cX5_comes 26 = .ok (.aload_n 0, 1) := by decide +kernel
theorem dX5_comes_27 : decode cX5_comes 27 = .ok (.getfield 128, 3) := by decide +kernel
theorem dX5_comes_30 : decode cX5_comes 30 = .ok (.if_icmp .ge 174, 3) := by decide +kernel
theorem dX5_comes_33 : decode cX5_comes 33 = .ok (.aload_n 0, 1) := by decide +kernel
theorem dX5_comes_34 : decode cX5_comes 34 = .ok (.getfield 59, 3) := by decide +kernel
theorem dX5_comes_37 : decode cX5_comes 37 = .ok (.iload_n 2, 1) := by decide +kernel
theorem dX5_comes_38 : decode cX5_comes 38 = .ok (.iaload, 1) := by decide +kernel
theorem dX5_comes_39 : decode cX5_comes 39 = .ok (.aload_n 0, 1) := by decide +kernel
theorem dX5_comes_40 : decode cX5_comes 40 = .ok (.getfield 65, 3) := by decide +kernel
theorem dX5_comes_43 : decode cX5_comes 43 = .ok (.iload_n 2, 1) := by decide +kernel
theorem dX5_comes_44 : decode cX5_comes 44 = .ok (.iaload, 1) := by decide +kernel
theorem dX5_comes_45 : decode cX5_comes 45 = .ok (.iconst 4, 1) := by decide +kernel
theorem dX5_comes_46 : decode cX5_comes 46 = .ok (.idiv, 1) := by decide +kernel
theorem dX5_comes_47 : decode cX5_comes 47 = .ok (.invokestatic 115, 3) := by decide +kernel
theorem dX5_comes_50 : decode cX5_comes 50 = .ok (.istore_n 3, 1) := by decide +kernel
theorem dX5_comes_51 : decode cX5_comes 51 = .ok (.iconst 1, 1) := by decide +kernel
theorem dX5_comes_52 : decode cX5_comes 52 = .ok (.aload_n 0, 1) := by decide +kernel
theorem dX5_comes_53 : decode cX5_comes 53 = .ok (.getfield 65, 3) := by decide +kernel
theorem dX5_comes_56 : decode cX5_comes 56 = .ok (.iload_n 2, 1) := by decide +kernel
theorem dX5_comes_57 : decode cX5_comes 57 = .ok (.iaload, 1) := by decide +kernel
theorem dX5_comes_58 : decode cX5_comes 58 = .ok (.iconst 4, 1) := by decide +kernel
theorem dX5_comes_59 : decode cX5_comes 59 = .ok (.irem, 1) := by decide +kernel
theorem dX5_comes_60 : decode cX5_comes 60 = .ok (.ishl, 1) := by decide +kernel
theorem dX5_comes_61 : decode cX5_comes 61 = .ok (.istore 4, 2) := by decide +kernel
theorem dX5_comes_63 : decode cX5_comes 63 = .ok (.aload_n 0, 1) := by decide +kernel
theorem dX5_comes_64 : decode cX5_comes 64 = .ok (.getfield 32, 3) := by decide +kernel
theorem dX5_comes_67 : decode cX5_comes 67 = .ok (.iload_n 3, 1) := by decide +kernel
theorem dX5_comes_68 : decode cX5_comes 68 = .ok (.iaload, 1) := by decide +kernel
theorem dX5_comes_69 : decode cX5_comes 69 = .ok (.iload 4, 2) := by decide +kernel
theorem dX5_comes_71 : decode cX5_comes 71 = .ok (.iand, 1) := by decide +kernel
theorem dX5_comes_72 : decode cX5_comes 72 = .ok (.ifCond .eq 21, 3) := by decide +kernel
theorem dX5_comes_75 : decode cX5_comes 75 = .ok (.aload_n 0, 1) := by decide +kernel
theorem dX5_comes_76 : decode cX5_comes 76 = .ok (.getfield 29, 3) := by decide +kernel
theorem dX5_comes_79 : decode cX5_comes 79 = .ok (.aload_n 0, 1) := by decide +kernel
theorem dX5_comes_80 : decode cX5_comes 80 = .ok (.getfield 59, 3) := by decide +kernel
theorem dX5_comes_83 : decode cX5_comes 83 = .ok (.iload_n 2, 1) := by decide +kernel
theorem dX5_comes_84 : decode cX5_comes 84 = .ok (.iaload, 1) := by decide +kernel
theorem dX5_comes_85 : decode cX5_comes 85 = .ok (.dup2, 1) := by decide +kernel
theorem dX5_comes_86 : decode cX5_comes 86 = .ok (.iaload, 1) := by decide +kernel
theorem dX5_comes_87 : decode cX5_comes 87 = .ok (.iconst 1, 1) := by decide +kernel
theorem dX5_comes_88 : decode cX5_comes 88 = .ok (.iadd, 1) := by decide +kernel
theorem dX5_comes_89 : decode cX5_comes 89 = .ok (.iastore, 1) := by decide +kernel
theorem dX5_comes_90 : decode cX5_comes 90 = .ok (.goto 108, 3) := by decide +kernel
theorem dX5_comes_93 : decode cX5_comes 93 = .ok (.aload_n 0, 1) := by decide +kernel
theorem dX5_comes_94 : decode cX5_comes 94 = .ok (.getfield 32, 3) := by decide +kernel
theorem dX5_comes_97 : decode cX5_comes 97 = .ok (.iload_n 3, 1) := by decide +kernel
theorem dX5_comes_98 : decode cX5_comes 98 = .ok (.dup2, 1) := by decide +kernel
theorem dX5_comes_99 : decode cX5_comes 99 = .ok (.iaload, 1) := by decide +kernel
theorem dX5_comes_100 : decode cX5_comes 100 = .ok (.iload 4, 2) := by decide +kernel
theorem dX5_comes_102 : decode cX5_comes 102 = .ok (.ior, 1) := by decide +kernel
theorem dX5_comes_103 : decode cX5_comes 103 = .ok (.iastore, 1) := by decide +kernel
theorem dX5_comes_104 : decode cX5_comes 104 = .ok (.aload_n 0, 1) := by decide +kernel
theorem dX5_comes_105 : decode cX5_comes 105 = .ok (.getfield 35, 3) := by decide +kernel
theorem dX5_comes_108 : decode cX5_comes 108 = .ok (.iload_n 3, 1) := by decide +kernel
theorem dX5_comes_109 : decode cX5_comes 109 = .ok (.dup2, 1) := by decide +kernel
theorem dX5_comes_110 : decode cX5_comes 110 = .ok (.iaload, 1) := by decide +kernel
theorem dX5_comes_111 : decode cX5_comes 111 = .ok (.aload_n 0, 1) := by decide +kernel
theorem dX5_comes_112 : decode cX5_comes 112 = .ok (.getfield 26, 3) := by decide +kernel
theorem dX5_comes_115 : decode cX5_comes 115 = .ok (.aload_n 0, 1) := by decide +kernel
theorem dX5_comes_116 : decode cX5_comes 116 = .ok (.getfield 62, 3) := by decide +kernel
theorem dX5_comes_119 : decode cX5_comes 119 = .ok (.iload_n 2, 1) := by decide +kernel
theorem dX5_comes_120 : decode cX5_comes 120 = .ok (.iaload, 1) := by decide +kernel
theorem dX5_comes_121 : decode cX5_comes 121 = .ok (.iaload, 1) := by decide +kernel
theorem dX5_comes_122 : decode cX5_comes 122 = .ok (.aload_n 0, 1) := by decide +kernel
theorem dX5_comes_123 : decode cX5_comes 123 = .ok (.getfield 65, 3) := by decide +kernel
theorem dX5_comes_126 : decode cX5_comes 126 = .ok (.iload_n 2, 1) := by decide +kernel
theorem dX5_comes_127 : decode cX5_comes 127 = .ok (.iaload, 1) := by decide +kernel
theorem dX5_comes_128 : decode cX5_comes 128 = .ok (.iconst 4, 1) := by decide +kernel
theorem dX5_comes_129 : decode cX5_comes 129 = .ok (.idiv, 1) := by decide +kernel
theorem dX5_comes_130 : decode cX5_comes 130 = .ok (.invokestatic 89, 3) := by decide +kernel
theorem dX5_comes_133 : decode cX5_comes 133 = .ok (.ifCond .eq 8, 3) := by decide +kernel
theorem dX5_comes_136 : decode cX5_comes 136 = .ok (.iload 4, 2) := by decide +kernel
theorem dX5_comes_138 : decode cX5_comes 138 = .ok (.goto 4, 3) := by decide +kernel
theorem dX5_comes_141 : decode cX5_comes 141 = .ok (.iconst 0, 1) := by decide +kernel
theorem dX5_comes_142 : decode cX5_comes 142 = .ok (.ior, 1) := by decide +kernel
theorem dX5_comes_143 : decode cX5_comes 143 = .ok (.iastore, 1) := by decide +kernel
theorem dX5_comes_144 : decode cX5_comes 144 = .ok (.aload_n 0, 1) := by decide +kernel
theorem dX5_comes_145 : decode cX5_comes 145 = .ok (.getfield 41, 3) := by decide +kernel
theorem dX5_comes_148 : decode cX5_comes 148 = .ok (.bipush 48, 2) := by decide +kernel
theorem dX5_comes_150 : decode cX5_comes 150 = .ok (.aload_n 0, 1) := by decide +kernel
theorem dX5_comes_151 : decode cX5_comes 151 = .ok (.getfield 59, 3) := by decide +kernel
theorem dX5_comes_154 : decode cX5_comes 154 = .ok (.iload_n 2, 1) := by decide +kernel
theorem dX5_comes_155 : decode cX5_comes 155 = .ok (.iaload, 1) := by decide +kernel
theorem dX5_comes_156 : decode cX5_comes 156 = .ok (.imul, 1) := by decide +kernel
theorem dX5_comes_157 : decode cX5_comes 157 = .ok (.aload_n 0, 1) := by decide +kernel
theorem dX5_comes_158 : decode cX5_comes 158 = .ok (.getfield 65, 3) := by decide +kernel
theorem dX5_comes_161 : decode cX5_comes 161 = .ok (.iload_n 2, 1) := by decide +kernel
theorem dX5_comes_162 : decode cX5_comes 162 = .ok (.iaload, 1) := by decide +kernel
theorem dX5_comes_163 : decode cX5_comes 163 = .ok (.iadd, 1) := by decide +kernel
theorem dX5_comes_164 : decode cX5_comes 164 = .ok (.aload_n 0, 1) := by decide +kernel
theorem dX5_comes_165 : decode cX5_comes 165 = .ok (.getfield 62, 3) := by decide +kernel
theorem dX5_comes_168 : decode cX5_comes 168 = .ok (.iload_n 2, 1) := by decide +kernel
theorem dX5_comes_169 : decode cX5_comes 169 = .ok (.iaload, 1) := by decide +kernel
theorem dX5_comes_170 : decode cX5_comes 170 = .ok (.iastore, 1) := by decide +kernel
theorem dX5_comes_171 : decode cX5_comes 171 = .ok (.aload_n 0, 1) := by decide +kernel
theorem dX5_comes_172 : decode cX5_comes 172 = .ok (.getfield 44, 3) := by decide +kernel
theorem dX5_comes_175 : decode cX5_comes 175 = .ok (.aload_n 0, 1) := by decide +kernel
theorem dX5_comes_176 : decode cX5_comes 176 = .ok (.getfield 59, 3) := by decide +kernel
theorem dX5_comes_179 : decode cX5_comes 179 = .ok (.iload_n 2, 1) := by decide +kernel
theorem dX5_comes_180 : decode cX5_comes 180 = .ok (.iaload, 1) := by decide +kernel
theorem dX5_comes_181 : decode cX5_comes 181 = .ok (.aload_n 0, 1) := by decide +kernel
theorem dX5_comes_182 : decode cX5_comes 182 = .ok (.getfield 62, 3) := by decide +kernel
theorem dX5_comes_185 : decode cX5_comes 185 = .ok (.iload_n 2, 1) := by decide +kernel
theorem dX5_comes_186 : decode cX5_comes 186 = .ok (.iaload, 1) := by decide +kernel
theorem dX5_comes_187 : decode cX5_comes 187 = .ok (.invokestatic 96, 3) := by decide +kernel
theorem dX5_comes_190 : decode cX5_comes 190 = .ok (.dup2, 1) := by decide +kernel
theorem dX5_comes_191 : decode cX5_comes 191 = .ok (.iaload, 1) := by decide +kernel
theorem dX5_comes_192 : decode cX5_comes 192 = .ok (.iconst 1, 1) := by decide +kernel
theorem dX5_comes_193 : decode cX5_comes 193 = .ok (.iadd, 1) := by decide +kernel
theorem dX5_comes_194 : decode cX5_comes 194 = .ok (.iastore, 1) := by decide +kernel
theorem dX5_comes_195 : decode cX5_comes 195 = .ok (.iinc 1 1, 3) := by decide +kernel
theorem dX5_comes_198 : decode cX5_comes 198 = .ok (.iinc 2 1, 3) := by decide +kernel
theorem dX5_comes_201 : decode cX5_comes 201 = .ok (.goto (-176), 3) := by decide +kernel
theorem dX5_comes_204 : decode cX5_comes 204 = .ok (.iload_n 1, 1) := by decide +kernel
theorem dX5_comes_205 : decode cX5_comes 205 = .ok (.ireturn, 1) := by decide +kernel
theorem dX5_drops_0 : decode cX5_drops 0 = .ok (.iconst 0, 1) := by decide +kernel
theorem dX5_drops_1 : decode cX5_drops 1 = .ok (.istore_n 3, 1) := by decide +kernel
theorem dX5_drops_2 : decode cX5_drops 2 = .ok (.iload_n 3, 1) := by decide +kernel
theorem dX5_drops_3 : decode cX5_drops 3 = .ok (.aload_n 0, 1) := by decide +kernel
theorem dX5_drops_4 : decode cX5_drops 4 = .ok (.getfield 72, 3) := by decide +kernel
theorem dX5_drops_7 : decode cX5_drops 7 = .ok (.if_icmp .ge 123, 3) := by decide +kernel
theorem dX5_drops_10 : decode cX5_drops 10 = .ok (.iconst 0, 1) := by decide +kernel
theorem dX5_drops_11 : decode cX5_drops 11 = .ok (.istore 4, 2) := by decide +kernel
theorem dX5_drops_13 : decode cX5_drops 13 = .ok (.iconst 0, 1) := by decide +kernel
theorem dX5_drops_14 : decode cX5_drops 14 = .ok (.istore 5, 2) := by decide +kernel
theorem dX5_drops_16 : decode cX5_drops 16 = .ok (.iload 5, 2) := by decide +kernel
theorem dX5_drops_18 : decode cX5_drops 18 = .ok (.iconst 4, 1) := by decide +kernel
theorem dX5_drops_19 : decode cX5_drops 19 = .ok (.if_icmp .ge 39, 3) := by decide +kernel
theorem dX5_drops_22 : decode cX5_drops 22 = .ok (.iload 4, 2) := by decide +kernel
theorem dX5_drops_24 : decode cX5_drops 24 = .ok (.aload_n 0, 1) := by decide +kernel
theorem dX5_drops_25 : decode cX5_drops 25 = .ok (.getfield 41, 3) := by decide +kernel
theorem dX5_drops_28 : decode cX5_drops 28 = .ok (.bipush 48, 2) := by decide +kernel
theorem dX5_drops_30 : decode cX5_drops 30 = .ok (.iload_n 1, 1) := by decide +kernel
theorem dX5_drops_31 : decode cX5_drops 31 = .ok (.imul, 1) := by decide +kernel
theorem dX5_drops_32 : decode cX5_drops 32 = .ok (.iconst 4, 1) := by decide +kernel
theorem dX5_drops_33 : decode cX5_drops 33 = .ok (.iload_n 2, 1) := by decide +kernel
theorem dX5_drops_34 : decode cX5_drops 34 = .ok (.imul, 1) := by decide +kernel
theorem dX5_drops_35 : decode cX5_drops 35 = .ok (.iadd, 1) := by decide +kernel
theorem dX5_drops_36 : decode cX5_drops 36 = .ok (.iload 5, 2) := by decide +kernel
theorem dX5_drops_38 : decode cX5_drops 38 = .ok (.iadd, 1) := by decide +kernel
theorem dX5_drops_39 : decode cX5_drops 39 = .ok (.iaload, 1) := by decide +kernel
theorem dX5_drops_40 : decode cX5_drops 40 = .ok (.iload_n 3, 1) := by decide +kernel
theorem dX5_drops_41 : decode cX5_drops 41 = .ok (.if_icmp .ne 7, 3) := by decide +kernel
theorem dX5_drops_44 : decode cX5_drops 44 = .ok (.iconst 1, 1) := by decide +kernel
theorem dX5_drops_45 : decode cX5_drops 45 = .ok (.goto 4, 3) := by decide +kernel
theorem dX5_drops_48 : decode cX5_drops 48 = .ok (.iconst 0, 1) := by decide +kernel
theorem dX5_drops_49 : decode cX5_drops 49 = .ok (.iadd, 1) := by decide +kernel
theorem dX5_drops_50 : decode cX5_drops 50 = .ok (.istore 4, 2) := by decide +kernel
theorem dX5_drops_52 : decode cX5_drops 52 = .ok (.iinc 5 1, 3) := by decide +kernel
theorem dX5_drops_55 : decode cX5_drops 55 = .ok (.goto (-39), 3) := by decide +kernel
theorem dX5_drops_58 : decode cX5_drops 58 = .ok (.iload_n 1, 1) := by decide +kernel
theorem dX5_drops_59 : decode cX5_drops 59 = .ok (.iload_n 3, 1) := by decide +kernel
theorem dX5_drops_60 : decode cX5_drops 60 = .ok (.invokestatic 96, 3) := by decide +kernel
theorem dX5_drops_63 : decode cX5_drops 63 = .ok (.istore 5, 2) := by decide +kernel
theorem dX5_drops_65 : decode cX5_drops 65 = .ok (.aload_n 0, 1) := by decide +kernel
theorem dX5_drops_66 : decode cX5_drops 66 = .ok (.getfield 47, 3) := by decide +kernel
theorem dX5_drops_69 : decode cX5_drops 69 = .ok (.iload 5, 2) := by decide +kernel
theorem dX5_drops_71 : decode cX5_drops 71 = .ok (.dup2, 1) := by decide +kernel
theorem dX5_drops_72 : decode cX5_drops 72 = .ok (.iaload, 1) := by decide +kernel
theorem dX5_drops_73 : decode cX5_drops 73 = .ok (.iload 4, 2) := by decide +kernel
theorem dX5_drops_75 : decode cX5_drops 75 = .ok (.ifCond .le 7, 3) := by decide +kernel
theorem dX5_drops_78 : decode cX5_drops 78 = .ok (.iconst 1, 1) := by decide +kernel
theorem dX5_drops_79 : decode cX5_drops 79 = .ok (.goto 4, 3) := by decide +kernel
theorem dX5_drops_82 : decode cX5_drops 82 = .ok (.iconst 0, 1) := by decide +kernel
theorem dX5_drops_83 : decode cX5_drops 83 = .ok (.iadd, 1) := by decide +kernel
theorem dX5_drops_84 : decode cX5_drops 84 = .ok (.iastore, 1) := by decide +kernel
theorem dX5_drops_85 : decode cX5_drops 85 = .ok (.aload_n 0, 1) := by decide +kernel
theorem dX5_drops_86 : decode cX5_drops 86 = .ok (.getfield 50, 3) := by decide +kernel
theorem dX5_drops_89 : decode cX5_drops 89 = .ok (.iload 5, 2) := by decide +kernel
theorem dX5_drops_91 : decode cX5_drops 91 = .ok (.aload_n 0, 1) := by decide +kernel
theorem dX5_drops_92 : decode cX5_drops 92 = .ok (.getfield 50, 3) := by decide +kernel
theorem dX5_drops_95 : decode cX5_drops 95 = .ok (.iload 5, 2) := by decide +kernel
theorem dX5_drops_97 : decode cX5_drops 97 = .ok (.baload, 1) := by decide +kernel
theorem dX5_drops_98 : decode cX5_drops 98 = .ok (.ifCond .ne 20, 3) := by decide +kernel
theorem dX5_drops_101 : decode cX5_drops 101 = .ok (.iload 4, 2) := by decide +kernel
theorem dX5_drops_103 : decode cX5_drops 103 = .ok (.iconst 4, 1) := by decide +kernel
theorem dX5_drops_104 : decode cX5_drops 104 = .ok (.if_icmp .eq 14, 3) := by decide +kernel
theorem dX5_drops_107 : decode cX5_drops 107 = .ok (.aload_n 0, 1) := by decide +kernel
theorem dX5_drops_108 : decode cX5_drops 108 = .ok (.getfield 47, 3) := by decide +kernel
theorem dX5_drops_111 : decode cX5_drops 111 = .ok (.iload 5, 2) := by decide +kernel
theorem dX5_drops_113 : decode cX5_drops 113 = .ok (.iaload, 1) := by decide +kernel
theorem dX5_drops_114 : decode cX5_drops 114 = .ok (.iconst 3, 1) := by decide +kernel
theorem dX5_drops_115 : decode cX5_drops 115 = .ok (.if_icmp .lt 7, 3) := by decide +kernel
theorem dX5_drops_118 : decode cX5_drops 118 = .ok (.iconst 1, 1) := by decide +kernel
theorem dX5_drops_119 : decode cX5_drops 119 = .ok (.goto 4, 3) := by decide +kernel
theorem dX5_drops_122 : decode cX5_drops 122 = .ok (.iconst 0, 1) := by decide +kernel
theorem dX5_drops_123 : decode cX5_drops 123 = .ok (.bastore, 1) := by decide +kernel
theorem dX5_drops_124 : decode cX5_drops 124 = .ok (.iinc 3 1, 3) := by decide +kernel
theorem dX5_drops_127 : decode cX5_drops 127 = .ok (.goto (-125), 3) := by decide +kernel
theorem dX5_drops_130 : decode cX5_drops 130 = .ok (.aload_n 0, 1) := by decide +kernel
theorem dX5_drops_131 : decode cX5_drops 131 = .ok (.getfield 32, 3) := by decide +kernel
theorem dX5_drops_134 : decode cX5_drops 134 = .ok (.iload_n 1, 1) := by decide +kernel
theorem dX5_drops_135 : decode cX5_drops 135 = .ok (.iload_n 2, 1) := by decide +kernel
theorem dX5_drops_136 : decode cX5_drops 136 = .ok (.invokestatic 115, 3) := by decide +kernel
theorem dX5_drops_139 : decode cX5_drops 139 = .ok (.iconst 0, 1) := by decide +kernel
theorem dX5_drops_140 : decode cX5_drops 140 = .ok (.iastore, 1) := by decide +kernel
theorem dX5_drops_141 : decode cX5_drops 141 = .ok (.aload_n 0, 1) := by decide +kernel
theorem dX5_drops_142 : decode cX5_drops 142 = .ok (.getfield 35, 3) := by decide +kernel
theorem dX5_drops_145 : decode cX5_drops 145 = .ok (.iload_n 1, 1) := by decide +kernel
theorem dX5_drops_146 : decode cX5_drops 146 = .ok (.iload_n 2, 1) := by decide +kernel
theorem dX5_drops_147 : decode cX5_drops 147 = .ok (.invokestatic 115, 3) := by decide +kernel
theorem dX5_drops_150 : decode cX5_drops 150 = .ok (.iconst 0, 1) := by decide +kernel
theorem dX5_drops_151 : decode cX5_drops 151 = .ok (.iastore, 1) := by decide +kernel
theorem dX5_drops_152 : decode cX5_drops 152 = .ok (.return_, 1) := by decide +kernel
theorem dX5_ends_0 : decode cX5_ends 0 = .ok (.iconst 0, 1) := by decide +kernel
theorem dX5_ends_1 : decode cX5_ends 1 = .ok (.istore_n 1, 1) := by decide +kernel
theorem dX5_ends_2 : decode cX5_ends 2 = .ok (.iload_n 1, 1) := by decide +kernel
theorem dX5_ends_3 : decode cX5_ends 3 = .ok (.aload_n 0, 1) := by decide +kernel
theorem dX5_ends_4 : decode cX5_ends 4 = .ok (.getfield 72, 3) := by decide +kernel
theorem dX5_ends_7 : decode cX5_ends 7 = .ok (.if_icmp .ge 88, 3) := by decide +kernel
theorem dX5_ends_10 : decode cX5_ends 10 = .ok (.iconst 0, 1) := by decide +kernel
theorem dX5_ends_11 : decode cX5_ends 11 = .ok (.istore_n 2, 1) := by decide +kernel
theorem dX5_ends_12 : decode cX5_ends 12 = .ok (.iload_n 2, 1) := by decide +kernel
theorem dX5_ends_13 : decode cX5_ends 13 = .ok (.bipush 12, 2) := by decide +kernel
theorem dX5_ends_15 : decode cX5_ends 15 = .ok (.if_icmp .ge 74, 3) := by decide +kernel
theorem dX5_ends_18 : decode cX5_ends 18 = .ok (.iload_n 1, 1) := by decide +kernel
theorem dX5_ends_19 : decode cX5_ends 19 = .ok (.iload_n 2, 1) := by decide +kernel
theorem dX5_ends_20 : decode cX5_ends 20 = .ok (.invokestatic 115, 3) := by decide +kernel
theorem dX5_ends_23 : decode cX5_ends 23 = .ok (.istore_n 3, 1) := by decide +kernel
theorem dX5_ends_24 : decode cX5_ends 24 = .ok (.aload_n 0, 1) := by decide +kernel
theorem dX5_ends_25 : decode cX5_ends 25 = .ok (.getfield 32, 3) := by decide +kernel
theorem dX5_ends_28 : decode cX5_ends 28 = .ok (.iload_n 3, 1) := by decide +kernel
theorem dX5_ends_29 : decode cX5_ends 29 = .ok (.iaload, 1) := by decide +kernel
theorem dX5_ends_30 : decode cX5_ends 30 = .ok (.bipush 15, 2) := by decide +kernel
theorem dX5_ends_32 : decode cX5_ends 32 = .ok (.if_icmp .ne 21, 3) := by decide +kernel
theorem dX5_ends_35 : decode cX5_ends 35 = .ok (.aload_n 0, 1) := by decide +kernel
theorem dX5_ends_36 : decode cX5_ends 36 = .ok (.getfield 35, 3) := by decide +kernel
theorem dX5_ends_39 : decode cX5_ends 39 = .ok (.iload_n 3, 1) := by decide +kernel
theorem dX5_ends_40 : decode cX5_ends 40 = .ok (.iaload, 1) := by decide +kernel
theorem dX5_ends_41 : decode cX5_ends 41 = .ok (.ifCond .eq 12, 3) := by decide +kernel
theorem dX5_ends_44 : decode cX5_ends 44 = .ok (.aload_n 0, 1) := by decide +kernel
theorem dX5_ends_45 : decode cX5_ends 45 = .ok (.iload_n 1, 1) := by decide +kernel
theorem dX5_ends_46 : decode cX5_ends 46 = .ok (.iload_n 2, 1) := by decide +kernel
theorem dX5_ends_47 : decode cX5_ends 47 = .ok (.invokevirtual 134, 3) := by decide +kernel
theorem dX5_ends_50 : decode cX5_ends 50 = .ok (.goto 33, 3) := by decide +kernel
theorem dX5_ends_53 : decode cX5_ends 53 = .ok (.aload_n 0, 1) := by decide +kernel
theorem dX5_ends_54 : decode cX5_ends 54 = .ok (.getfield 32, 3) := by decide +kernel
theorem dX5_ends_57 : decode cX5_ends 57 = .ok (.iload_n 3, 1) := by decide +kernel
theorem dX5_ends_58 : decode cX5_ends 58 = .ok (.iaload, 1) := by decide +kernel
theorem dX5_ends_59 : decode cX5_ends 59 = .ok (.bipush 15, 2) := by decide +kernel
theorem dX5_ends_61 : decode cX5_ends 61 = .ok (.if_icmp .ne 22, 3) := by decide +kernel
theorem dX5_ends_64 : decode cX5_ends 64 = .ok (.aload_n 0, 1) := by decide +kernel
theorem dX5_ends_65 : decode cX5_ends 65 = .ok (.getfield 17, 3) := by decide +kernel
theorem dX5_ends_68 : decode cX5_ends 68 = .ok (.iload_n 1, 1) := by decide +kernel
theorem dX5_ends_69 : decode cX5_ends 69 = .ok (.dup2, 1) := by decide +kernel
theorem dX5_ends_70 : decode cX5_ends 70 = .ok (.iaload, 1) := by decide +kernel
theorem dX5_ends_71 : decode cX5_ends 71 = .ok (.iconst 1, 1) := by decide +kernel
theorem dX5_ends_72 : decode cX5_ends 72 = .ok (.iload_n 2, 1) := by decide +kernel
theorem dX5_ends_73 : decode cX5_ends 73 = .ok (.ishl, 1) := by decide +kernel
theorem dX5_ends_74 : decode cX5_ends 74 = .ok (.ior, 1) := by decide +kernel
theorem dX5_ends_75 : decode cX5_ends 75 = .ok (.iastore, 1) := by decide +kernel
theorem dX5_ends_76 : decode cX5_ends 76 = .ok (.aload_n 0, 1) := by decide +kernel
theorem dX5_ends_77 : decode cX5_ends 77 = .ok (.getfield 32, 3) := by decide +kernel
theorem dX5_ends_80 : decode cX5_ends 80 = .ok (.iload_n 3, 1) := by decide +kernel
theorem dX5_ends_81 : decode cX5_ends 81 = .ok (.iconst 0, 1) := by decide +kernel
theorem dX5_ends_82 : decode cX5_ends 82 = .ok (.iastore, 1) := by decide +kernel
theorem dX5_ends_83 : decode cX5_ends 83 = .ok (.iinc 2 1, 3) := by decide +kernel
theorem dX5_ends_86 : decode cX5_ends 86 = .ok (.goto (-74), 3) := by decide +kernel
theorem dX5_ends_89 : decode cX5_ends 89 = .ok (.iinc 1 1, 3) := by decide +kernel
theorem dX5_ends_92 : decode cX5_ends 92 = .ok (.goto (-90), 3) := by decide +kernel
theorem dX5_ends_95 : decode cX5_ends 95 = .ok (.return_, 1) := by decide +kernel
theorem dX5_run_0 : decode cX5_run 0 = .ok (.aload_n 0, 1) := by decide +kernel
theorem dX5_run_1 : decode cX5_run 1 = .ok (.iload_n 1, 1) := by decide +kernel
theorem dX5_run_2 : decode cX5_run 2 = .ok (.iconst 1, 1) := by decide +kernel
theorem dX5_run_3 : decode cX5_run 3 = .ok (.if_icmp .lt 9, 3) := by decide +kernel
theorem dX5_run_6 : decode cX5_run 6 = .ok (.iload_n 1, 1) := by decide +kernel
theorem dX5_run_7 : decode cX5_run 7 = .ok (.bipush 20, 2) := by decide +kernel
theorem dX5_run_9 : decode cX5_run 9 = .ok (.if_icmp .le 7, 3) := by decide +kernel
theorem dX5_run_12 : decode cX5_run 12 = .ok (.iconst 1, 1) := by decide +kernel
theorem dX5_run_13 : decode cX5_run 13 = .ok (.goto 20, 3) := by decide +kernel
theorem dX5_run_16 : decode cX5_run 16 = .ok (.aload_n 0, 1) := by decide +kernel
theorem dX5_run_17 : decode cX5_run 17 = .ok (.getfield 109, 3) := by decide +kernel
theorem dX5_run_20 : decode cX5_run 20 = .ok (.iload_n 1, 1) := by decide +kernel
theorem dX5_run_21 : decode cX5_run 21 = .ok (.iadd, 1) := by decide +kernel
theorem dX5_run_22 : decode cX5_run 22 = .ok (.sipush 200, 3) := by decide +kernel
theorem dX5_run_25 : decode cX5_run 25 = .ok (.if_icmp .le 7, 3) := by decide +kernel
theorem dX5_run_28 : decode cX5_run 28 = .ok (.iconst 2, 1) := by decide +kernel
theorem dX5_run_29 : decode cX5_run 29 = .ok (.goto 4, 3) := by decide +kernel
theorem dX5_run_32 : decode cX5_run 32 = .ok (.iconst 0, 1) := by decide +kernel
theorem dX5_run_33 : decode cX5_run 33 = .ok (.invokevirtual 75, 3) := by decide +kernel
theorem dX5_run_36 : decode cX5_run 36 = .ok (.ifCond .ne 5, 3) := by decide +kernel
theorem dX5_run_39 : decode cX5_run 39 = .ok (.iconst 0, 1) := by decide +kernel
theorem dX5_run_40 : decode cX5_run 40 = .ok (.ireturn, 1) := by decide +kernel
theorem dX5_run_41 : decode cX5_run 41 = .ok (.iconst 0, 1) := by decide +kernel
theorem dX5_run_42 : decode cX5_run 42 = .ok (.istore_n 2, 1) := by decide +kernel
theorem dX5_run_43 : decode cX5_run 43 = .ok (.iconst 0, 1) := by decide +kernel
theorem dX5_run_44 : decode cX5_run 44 = .ok (.istore_n 3, 1) := by decide +kernel
theorem dX5_run_45 : decode cX5_run 45 = .ok (.iload_n 3, 1) := by decide +kernel
theorem dX5_run_46 : decode cX5_run 46 = .ok (.iload_n 1, 1) := by decide +kernel
theorem dX5_run_47 : decode cX5_run 47 = .ok (.if_icmp .ge 38, 3) := by decide +kernel
theorem dX5_run_50 : decode cX5_run 50 = .ok (.aload_n 0, 1) := by decide +kernel
theorem dX5_run_51 : decode cX5_run 51 = .ok (.invokevirtual 138, 3) := by decide +kernel
theorem dX5_run_54 : decode cX5_run 54 = .ok (.aload_n 0, 1) := by decide +kernel
theorem dX5_run_55 : decode cX5_run 55 = .ok (.invokevirtual 141, 3) := by decide +kernel
theorem dX5_run_58 : decode cX5_run 58 = .ok (.iload_n 2, 1) := by decide +kernel
theorem dX5_run_59 : decode cX5_run 59 = .ok (.aload_n 0, 1) := by decide +kernel
theorem dX5_run_60 : decode cX5_run 60 = .ok (.invokevirtual 144, 3) := by decide +kernel
theorem dX5_run_63 : decode cX5_run 63 = .ok (.iadd, 1) := by decide +kernel
theorem dX5_run_64 : decode cX5_run 64 = .ok (.istore_n 2, 1) := by decide +kernel
theorem dX5_run_65 : decode cX5_run 65 = .ok (.aload_n 0, 1) := by decide +kernel
theorem dX5_run_66 : decode cX5_run 66 = .ok (.invokevirtual 148, 3) := by decide +kernel
theorem dX5_run_69 : decode cX5_run 69 = .ok (.aload_n 0, 1) := by decide +kernel
theorem dX5_run_70 : decode cX5_run 70 = .ok (.dup, 1) := by decide +kernel
theorem dX5_run_71 : decode cX5_run 71 = .ok (.getfield 109, 3) := by decide +kernel
theorem dX5_run_74 : decode cX5_run 74 = .ok (.iconst 1, 1) := by decide +kernel
theorem dX5_run_75 : decode cX5_run 75 = .ok (.iadd, 1) := by decide +kernel
theorem dX5_run_76 : decode cX5_run 76 = .ok (.putfield 109, 3) := by decide +kernel
theorem dX5_run_79 : decode cX5_run 79 = .ok (.iinc 3 1, 3) := by decide +kernel
theorem dX5_run_82 : decode cX5_run 82 = .ok (.goto (-37), 3) := by decide +kernel
theorem dX5_run_85 : decode cX5_run 85 = .ok (.iload_n 2, 1) := by decide +kernel
theorem dX5_run_86 : decode cX5_run 86 = .ok (.ireturn, 1) := by decide +kernel
theorem dX5_rounds_0 : decode cX5_rounds 0 = .ok (.aload_n 0, 1) := by decide +kernel
theorem dX5_rounds_1 : decode cX5_rounds 1 = .ok (.iconst 0, 1) := by decide +kernel
theorem dX5_rounds_2 : decode cX5_rounds 2 = .ok (.putfield 68, 3) := by decide +kernel
theorem dX5_rounds_5 : decode cX5_rounds 5 = .ok (.aload_n 0, 1) := by decide +kernel
theorem dX5_rounds_6 : decode cX5_rounds 6 = .ok (.getfield 109, 3) := by decide +kernel
theorem dX5_rounds_9 : decode cX5_rounds 9 = .ok (.ireturn, 1) := by decide +kernel
theorem dX5_peers_0 : decode cX5_peers 0 = .ok (.aload_n 0, 1) := by decide +kernel
theorem dX5_peers_1 : decode cX5_peers 1 = .ok (.iconst 0, 1) := by decide +kernel
theorem dX5_peers_2 : decode cX5_peers 2 = .ok (.putfield 68, 3) := by decide +kernel
theorem dX5_peers_5 : decode cX5_peers 5 = .ok (.iconst 0, 1) := by decide +kernel
theorem dX5_peers_6 : decode cX5_peers 6 = .ok (.istore_n 1, 1) := by decide +kernel
theorem dX5_peers_7 : decode cX5_peers 7 = .ok (.iconst 0, 1) := by decide +kernel
theorem dX5_peers_8 : decode cX5_peers 8 = .ok (.istore_n 2, 1) := by decide +kernel
theorem dX5_peers_9 : decode cX5_peers 9 = .ok (.iload_n 2, 1) := by decide +kernel
theorem dX5_peers_10 : decode cX5_peers 10 = .ok (.aload_n 0, 1) := by decide +kernel
theorem dX5_peers_11 : decode cX5_peers 11 = .ok (.getfield 72, 3) := by decide +kernel
theorem dX5_peers_14 : decode cX5_peers 14 = .ok (.if_icmp .ge 28, 3) := by decide +kernel
theorem dX5_peers_17 : decode cX5_peers 17 = .ok (.iload_n 1, 1) := by decide +kernel
theorem dX5_peers_18 : decode cX5_peers 18 = .ok (.aload_n 0, 1) := by decide +kernel
theorem dX5_peers_19 : decode cX5_peers 19 = .ok (.getfield 13, 3) := by decide +kernel
theorem dX5_peers_22 : decode cX5_peers 22 = .ok (.iload_n 2, 1) := by decide +kernel
theorem dX5_peers_23 : decode cX5_peers 23 = .ok (.baload, 1) := by decide +kernel
theorem dX5_peers_24 : decode cX5_peers 24 = .ok (.ifCond .eq 9, 3) := by decide +kernel
theorem dX5_peers_27 : decode cX5_peers 27 = .ok (.iconst 1, 1) := by decide +kernel
theorem dX5_peers_28 : decode cX5_peers 28 = .ok (.iload_n 2, 1) := by decide +kernel
theorem dX5_peers_29 : decode cX5_peers 29 = .ok (.ishl, 1) := by decide +kernel
theorem dX5_peers_30 : decode cX5_peers 30 = .ok (.goto 4, 3) := by decide +kernel
theorem dX5_peers_33 : decode cX5_peers 33 = .ok (.iconst 0, 1) := by decide +kernel
theorem dX5_peers_34 : decode cX5_peers 34 = .ok (.ior, 1) := by decide +kernel
theorem dX5_peers_35 : decode cX5_peers 35 = .ok (.istore_n 1, 1) := by decide +kernel
theorem dX5_peers_36 : decode cX5_peers 36 = .ok (.iinc 2 1, 3) := by decide +kernel
theorem dX5_peers_39 : decode cX5_peers 39 = .ok (.goto (-30), 3) := by decide +kernel
theorem dX5_peers_42 : decode cX5_peers 42 = .ok (.iload_n 1, 1) := by decide +kernel
theorem dX5_peers_43 : decode cX5_peers 43 = .ok (.ireturn, 1) := by decide +kernel
theorem dX5_holds_0 : decode cX5_holds 0 = .ok (.aload_n 0, 1) := by decide +kernel
theorem dX5_holds_1 : decode cX5_holds 1 = .ok (.aload_n 0, 1) := by decide +kernel
theorem dX5_holds_2 : decode cX5_holds 2 = .ok (.iload_n 1, 1) := by decide +kernel
theorem dX5_holds_3 : decode cX5_holds 3 = .ok (.invokevirtual 79, 3) := by decide +kernel
theorem dX5_holds_6 : decode cX5_holds 6 = .ok (.ifCond .eq 7, 3) := by decide +kernel
theorem dX5_holds_9 : decode cX5_holds 9 = .ok (.iconst 0, 1) := by decide +kernel
theorem dX5_holds_10 : decode cX5_holds 10 = .ok (.goto 4, 3) := by decide +kernel
theorem dX5_holds_13 : decode cX5_holds 13 = .ok (.iconst 1, 1) := by decide +kernel
theorem dX5_holds_14 : decode cX5_holds 14 = .ok (.invokevirtual 75, 3) := by decide +kernel
theorem dX5_holds_17 : decode cX5_holds 17 = .ok (.ifCond .eq 12, 3) := by decide +kernel
theorem dX5_holds_20 : decode cX5_holds 20 = .ok (.aload_n 0, 1) := by decide +kernel
theorem dX5_holds_21 : decode cX5_holds 21 = .ok (.getfield 17, 3) := by decide +kernel
theorem dX5_holds_24 : decode cX5_holds 24 = .ok (.iload_n 1, 1) := by decide +kernel
theorem dX5_holds_25 : decode cX5_holds 25 = .ok (.iaload, 1) := by decide +kernel
theorem dX5_holds_26 : decode cX5_holds 26 = .ok (.goto 4, 3) := by decide +kernel
theorem dX5_holds_29 : decode cX5_holds 29 = .ok (.iconst 0, 1) := by decide +kernel
theorem dX5_holds_30 : decode cX5_holds 30 = .ok (.ireturn, 1) := by decide +kernel
theorem dX5_holdsByLog_0 : decode cX5_holdsByLog 0 = .ok (.aload_n 0, 1) := by decide +kernel
theorem dX5_holdsByLog_1 : decode cX5_holdsByLog 1 = .ok (.aload_n 0, 1) := by decide +kernel
theorem dX5_holdsByLog_2 : decode cX5_holdsByLog 2 = .ok (.iload_n 1, 1) := by decide +kernel
theorem dX5_holdsByLog_3 : decode cX5_holdsByLog 3 = .ok (.invokevirtual 79, 3) := by decide +kernel
theorem dX5_holdsByLog_6 : decode cX5_holdsByLog 6 = .ok (.ifCond .eq 7, 3) := by decide +kernel
theorem dX5_holdsByLog_9 : decode cX5_holdsByLog 9 = .ok (.iconst 0, 1) := by decide +kernel
theorem dX5_holdsByLog_10 : decode cX5_holdsByLog 10 = .ok (.goto 4, 3) := by decide +kernel
theorem dX5_holdsByLog_13 : decode cX5_holdsByLog 13 = .ok (.iconst 1, 1) := by decide +kernel
theorem dX5_holdsByLog_14 : decode cX5_holdsByLog 14 = .ok (.invokevirtual 75, 3) := by decide +kernel
theorem dX5_holdsByLog_17 : decode cX5_holdsByLog 17 = .ok (.ifCond .eq 12, 3) := by decide +kernel
theorem dX5_holdsByLog_20 : decode cX5_holdsByLog 20 = .ok (.aload_n 0, 1) := by decide +kernel
theorem dX5_holdsByLog_21 : decode cX5_holdsByLog 21 = .ok (.getfield 17, 3) := by decide +kernel
theorem dX5_holdsByLog_24 : decode cX5_holdsByLog 24 = .ok (.iload_n 1, 1) := by decide +kernel
theorem dX5_holdsByLog_25 : decode cX5_holdsByLog 25 = .ok (.iaload, 1) := by decide +kernel
theorem dX5_holdsByLog_26 : decode cX5_holdsByLog 26 = .ok (.goto 4, 3) := by decide +kernel
theorem dX5_holdsByLog_29 : decode cX5_holdsByLog 29 = .ok (.iconst 0, 1) := by decide +kernel
theorem dX5_holdsByLog_30 : decode cX5_holdsByLog 30 = .ok (.ireturn, 1) := by decide +kernel
theorem dX5_blocks_0 : decode cX5_blocks 0 = .ok (.aload_n 0, 1) := by decide +kernel
theorem dX5_blocks_1 : decode cX5_blocks 1 = .ok (.aload_n 0, 1) := by decide +kernel
theorem dX5_blocks_2 : decode cX5_blocks 2 = .ok (.iload_n 1, 1) := by decide +kernel
theorem dX5_blocks_3 : decode cX5_blocks 3 = .ok (.invokevirtual 79, 3) := by decide +kernel
theorem dX5_blocks_6 : decode cX5_blocks 6 = .ok (.ifCond .eq 14, 3) := by decide +kernel
theorem dX5_blocks_9 : decode cX5_blocks 9 = .ok (.iload_n 2, 1) := by decide +kernel
theorem dX5_blocks_10 : decode cX5_blocks 10 = .ok (.invokestatic 86, 3) := by decide +kernel
theorem dX5_blocks_13 : decode cX5_blocks 13 = .ok (.ifCond .eq 7, 3) := by decide +kernel
theorem dX5_blocks_16 : decode cX5_blocks 16 = .ok (.iconst 0, 1) := by decide +kernel
theorem dX5_blocks_17 : decode cX5_blocks 17 = .ok (.goto 4, 3) := by decide +kernel
theorem dX5_blocks_20 : decode cX5_blocks 20 = .ok (.iconst 1, 1) := by decide +kernel
theorem dX5_blocks_21 : decode cX5_blocks 21 = .ok (.invokevirtual 75, 3) := by decide +kernel
theorem dX5_blocks_24 : decode cX5_blocks 24 = .ok (.ifCond .ne 5, 3) := by decide +kernel
theorem dX5_blocks_27 : decode cX5_blocks 27 = .ok (.iconst 0, 1) := by decide +kernel
theorem dX5_blocks_28 : decode cX5_blocks 28 = .ok (.ireturn, 1) := by decide +kernel
theorem dX5_blocks_29 : decode cX5_blocks 29 = .ok (.aload_n 0, 1) := by decide +kernel
theorem dX5_blocks_30 : decode cX5_blocks 30 = .ok (.getfield 17, 3) := by decide +kernel
theorem dX5_blocks_33 : decode cX5_blocks 33 = .ok (.iload_n 1, 1) := by decide +kernel
theorem dX5_blocks_34 : decode cX5_blocks 34 = .ok (.iaload, 1) := by decide +kernel
theorem dX5_blocks_35 : decode cX5_blocks 35 = .ok (.iload_n 2, 1) := by decide +kernel
theorem dX5_blocks_36 : decode cX5_blocks 36 = .ok (.invokestatic 89, 3) := by decide +kernel
theorem dX5_blocks_39 : decode cX5_blocks 39 = .ok (.ifCond .eq 8, 3) := by decide +kernel
theorem dX5_blocks_42 : decode cX5_blocks 42 = .ok (.bipush 15, 2) := by decide +kernel
theorem dX5_blocks_44 : decode cX5_blocks 44 = .ok (.goto 13, 3) := by decide +kernel
theorem dX5_blocks_47 : decode cX5_blocks 47 = .ok (.aload_n 0, 1) := by decide +kernel
theorem dX5_blocks_48 : decode cX5_blocks 48 = .ok (.getfield 32, 3) := by decide +kernel
theorem dX5_blocks_51 : decode cX5_blocks 51 = .ok (.iload_n 1, 1) := by decide +kernel
theorem dX5_blocks_52 : decode cX5_blocks 52 = .ok (.iload_n 2, 1) := by decide +kernel
theorem dX5_blocks_53 : decode cX5_blocks 53 = .ok (.invokestatic 115, 3) := by decide +kernel
theorem dX5_blocks_56 : decode cX5_blocks 56 = .ok (.iaload, 1) := by decide +kernel
theorem dX5_blocks_57 : decode cX5_blocks 57 = .ok (.ireturn, 1) := by decide +kernel
theorem dX5_holders_0 : decode cX5_holders 0 = .ok (.aload_n 0, 1) := by decide +kernel
theorem dX5_holders_1 : decode cX5_holders 1 = .ok (.iload_n 1, 1) := by decide +kernel
theorem dX5_holders_2 : decode cX5_holders 2 = .ok (.invokestatic 86, 3) := by decide +kernel
theorem dX5_holders_5 : decode cX5_holders 5 = .ok (.ifCond .eq 7, 3) := by decide +kernel
theorem dX5_holders_8 : decode cX5_holders 8 = .ok (.iconst 0, 1) := by decide +kernel
theorem dX5_holders_9 : decode cX5_holders 9 = .ok (.goto 4, 3) := by decide +kernel
theorem dX5_holders_12 : decode cX5_holders 12 = .ok (.iconst 1, 1) := by decide +kernel
theorem dX5_holders_13 : decode cX5_holders 13 = .ok (.invokevirtual 75, 3) := by decide +kernel
theorem dX5_holders_16 : decode cX5_holders 16 = .ok (.ifCond .eq 11, 3) := by decide +kernel
theorem dX5_holders_19 : decode cX5_holders 19 = .ok (.aload_n 0, 1) := by decide +kernel
theorem dX5_holders_20 : decode cX5_holders 20 = .ok (.iload_n 1, 1) := by decide +kernel
theorem dX5_holders_21 : decode cX5_holders 21 = .ok (.invokevirtual 93, 3) := by decide +kernel
theorem dX5_holders_24 : decode cX5_holders 24 = .ok (.goto 4, 3) := by decide +kernel
theorem dX5_holders_27 : decode cX5_holders 27 = .ok (.iconst 0, 1) := by decide +kernel
theorem dX5_holders_28 : decode cX5_holders 28 = .ok (.ireturn, 1) := by decide +kernel
theorem dX5_arePeers_0 : decode cX5_arePeers 0 = .ok (.aload_n 0, 1) := by decide +kernel
theorem dX5_arePeers_1 : decode cX5_arePeers 1 = .ok (.aload_n 0, 1) := by decide +kernel
theorem dX5_arePeers_2 : decode cX5_arePeers 2 = .ok (.iload_n 1, 1) := by decide +kernel
theorem dX5_arePeers_3 : decode cX5_arePeers 3 = .ok (.invokevirtual 79, 3) := by decide +kernel
theorem dX5_arePeers_6 : decode cX5_arePeers 6 = .ok (.ifCond .eq 15, 3) := by decide +kernel
theorem dX5_arePeers_9 : decode cX5_arePeers 9 = .ok (.aload_n 0, 1) := by decide +kernel
theorem dX5_arePeers_10 : decode cX5_arePeers 10 = .ok (.iload_n 2, 1) := by decide +kernel
theorem dX5_arePeers_11 : decode cX5_arePeers 11 = .ok (.invokevirtual 79, 3) := by decide +kernel
theorem dX5_arePeers_14 : decode cX5_arePeers 14 = .ok (.ifCond .eq 7, 3) := by decide +kernel
theorem dX5_arePeers_17 : decode cX5_arePeers 17 = .ok (.iconst 0, 1) := by decide +kernel
theorem dX5_arePeers_18 : decode cX5_arePeers 18 = .ok (.goto 4, 3) := by decide +kernel
theorem dX5_arePeers_21 : decode cX5_arePeers 21 = .ok (.iconst 1, 1) := by decide +kernel
theorem dX5_arePeers_22 : decode cX5_arePeers 22 = .ok (.invokevirtual 75, 3) := by decide +kernel
theorem dX5_arePeers_25 : decode cX5_arePeers 25 = .ok (.ireturn, 1) := by decide +kernel
theorem dX5_shown_0 : decode cX5_shown 0 = .ok (.aload_n 0, 1) := by decide +kernel
theorem dX5_shown_1 : decode cX5_shown 1 = .ok (.iload_n 1, 1) := by decide +kernel
theorem dX5_shown_2 : decode cX5_shown 2 = .ok (.iload_n 2, 1) := by decide +kernel
theorem dX5_shown_3 : decode cX5_shown 3 = .ok (.invokevirtual 151, 3) := by decide +kernel
theorem dX5_shown_6 : decode cX5_shown 6 = .ok (.ifCond .eq 12, 3) := by decide +kernel
theorem dX5_shown_9 : decode cX5_shown 9 = .ok (.aload_n 0, 1) := by decide +kernel
theorem dX5_shown_10 : decode cX5_shown 10 = .ok (.iload_n 1, 1) := by decide +kernel
theorem dX5_shown_11 : decode cX5_shown 11 = .ok (.iload_n 2, 1) := by decide +kernel
theorem dX5_shown_12 : decode cX5_shown 12 = .ok (.invokevirtual 100, 3) := by decide +kernel
theorem dX5_shown_15 : decode cX5_shown 15 = .ok (.goto 4, 3) := by decide +kernel
theorem dX5_shown_18 : decode cX5_shown 18 = .ok (.iconst 0, 1) := by decide +kernel
theorem dX5_shown_19 : decode cX5_shown 19 = .ok (.ireturn, 1) := by decide +kernel
theorem dX5_chosen_0 : decode cX5_chosen 0 = .ok (.aload_n 0, 1) := by decide +kernel
theorem dX5_chosen_1 : decode cX5_chosen 1 = .ok (.aload_n 0, 1) := by decide +kernel
theorem dX5_chosen_2 : decode cX5_chosen 2 = .ok (.iload_n 1, 1) := by decide +kernel
theorem dX5_chosen_3 : decode cX5_chosen 3 = .ok (.invokevirtual 79, 3) := by decide +kernel
theorem dX5_chosen_6 : decode cX5_chosen 6 = .ok (.ifCond .eq 7, 3) := by decide +kernel
theorem dX5_chosen_9 : decode cX5_chosen 9 = .ok (.iconst 0, 1) := by decide +kernel
theorem dX5_chosen_10 : decode cX5_chosen 10 = .ok (.goto 4, 3) := by decide +kernel
theorem dX5_chosen_13 : decode cX5_chosen 13 = .ok (.iconst 1, 1) := by decide +kernel
theorem dX5_chosen_14 : decode cX5_chosen 14 = .ok (.invokevirtual 75, 3) := by decide +kernel
theorem dX5_chosen_17 : decode cX5_chosen 17 = .ok (.ifCond .eq 11, 3) := by decide +kernel
theorem dX5_chosen_20 : decode cX5_chosen 20 = .ok (.aload_n 0, 1) := by decide +kernel
theorem dX5_chosen_21 : decode cX5_chosen 21 = .ok (.iload_n 1, 1) := by decide +kernel
theorem dX5_chosen_22 : decode cX5_chosen 22 = .ok (.invokevirtual 112, 3) := by decide +kernel
theorem dX5_chosen_25 : decode cX5_chosen 25 = .ok (.goto 4, 3) := by decide +kernel
theorem dX5_chosen_28 : decode cX5_chosen 28 = .ok (.iconst 0, 1) := by decide +kernel
theorem dX5_chosen_29 : decode cX5_chosen 29 = .ok (.ireturn, 1) := by decide +kernel
theorem dX5_got_0 : decode cX5_got 0 = .ok (.aload_n 0, 1) := by decide +kernel
theorem dX5_got_1 : decode cX5_got 1 = .ok (.iload_n 1, 1) := by decide +kernel
theorem dX5_got_2 : decode cX5_got 2 = .ok (.iload_n 2, 1) := by decide +kernel
theorem dX5_got_3 : decode cX5_got 3 = .ok (.invokevirtual 151, 3) := by decide +kernel
theorem dX5_got_6 : decode cX5_got 6 = .ok (.ifCond .eq 16, 3) := by decide +kernel
theorem dX5_got_9 : decode cX5_got 9 = .ok (.aload_n 0, 1) := by decide +kernel
theorem dX5_got_10 : decode cX5_got 10 = .ok (.getfield 44, 3) := by decide +kernel
theorem dX5_got_13 : decode cX5_got 13 = .ok (.iload_n 1, 1) := by decide +kernel
theorem dX5_got_14 : decode cX5_got 14 = .ok (.iload_n 2, 1) := by decide +kernel
theorem dX5_got_15 : decode cX5_got 15 = .ok (.invokestatic 96, 3) := by decide +kernel
theorem dX5_got_18 : decode cX5_got 18 = .ok (.iaload, 1) := by decide +kernel
theorem dX5_got_19 : decode cX5_got 19 = .ok (.goto 4, 3) := by decide +kernel
theorem dX5_got_22 : decode cX5_got 22 = .ok (.iconst 0, 1) := by decide +kernel
theorem dX5_got_23 : decode cX5_got 23 = .ok (.ireturn, 1) := by decide +kernel
theorem dX5_doubles_0 : decode cX5_doubles 0 = .ok (.aload_n 0, 1) := by decide +kernel
theorem dX5_doubles_1 : decode cX5_doubles 1 = .ok (.aload_n 0, 1) := by decide +kernel
theorem dX5_doubles_2 : decode cX5_doubles 2 = .ok (.iload_n 1, 1) := by decide +kernel
theorem dX5_doubles_3 : decode cX5_doubles 3 = .ok (.invokevirtual 79, 3) := by decide +kernel
theorem dX5_doubles_6 : decode cX5_doubles 6 = .ok (.ifCond .eq 7, 3) := by decide +kernel
theorem dX5_doubles_9 : decode cX5_doubles 9 = .ok (.iconst 0, 1) := by decide +kernel
theorem dX5_doubles_10 : decode cX5_doubles 10 = .ok (.goto 4, 3) := by decide +kernel
theorem dX5_doubles_13 : decode cX5_doubles 13 = .ok (.iconst 1, 1) := by decide +kernel
theorem dX5_doubles_14 : decode cX5_doubles 14 = .ok (.invokevirtual 75, 3) := by decide +kernel
theorem dX5_doubles_17 : decode cX5_doubles 17 = .ok (.ifCond .eq 12, 3) := by decide +kernel
theorem dX5_doubles_20 : decode cX5_doubles 20 = .ok (.aload_n 0, 1) := by decide +kernel
theorem dX5_doubles_21 : decode cX5_doubles 21 = .ok (.getfield 29, 3) := by decide +kernel
theorem dX5_doubles_24 : decode cX5_doubles 24 = .ok (.iload_n 1, 1) := by decide +kernel
theorem dX5_doubles_25 : decode cX5_doubles 25 = .ok (.iaload, 1) := by decide +kernel
theorem dX5_doubles_26 : decode cX5_doubles 26 = .ok (.goto 4, 3) := by decide +kernel
theorem dX5_doubles_29 : decode cX5_doubles 29 = .ok (.iconst 0, 1) := by decide +kernel
theorem dX5_doubles_30 : decode cX5_doubles 30 = .ok (.ireturn, 1) := by decide +kernel
theorem dX5_strikes_0 : decode cX5_strikes 0 = .ok (.aload_n 0, 1) := by decide +kernel
theorem dX5_strikes_1 : decode cX5_strikes 1 = .ok (.iload_n 1, 1) := by decide +kernel
theorem dX5_strikes_2 : decode cX5_strikes 2 = .ok (.iload_n 2, 1) := by decide +kernel
theorem dX5_strikes_3 : decode cX5_strikes 3 = .ok (.invokevirtual 151, 3) := by decide +kernel
theorem dX5_strikes_6 : decode cX5_strikes 6 = .ok (.ifCond .eq 16, 3) := by decide +kernel
theorem dX5_strikes_9 : decode cX5_strikes 9 = .ok (.aload_n 0, 1) := by decide +kernel
theorem dX5_strikes_10 : decode cX5_strikes 10 = .ok (.getfield 47, 3) := by decide +kernel
theorem dX5_strikes_13 : decode cX5_strikes 13 = .ok (.iload_n 1, 1) := by decide +kernel
theorem dX5_strikes_14 : decode cX5_strikes 14 = .ok (.iload_n 2, 1) := by decide +kernel
theorem dX5_strikes_15 : decode cX5_strikes 15 = .ok (.invokestatic 96, 3) := by decide +kernel
theorem dX5_strikes_18 : decode cX5_strikes 18 = .ok (.iaload, 1) := by decide +kernel
theorem dX5_strikes_19 : decode cX5_strikes 19 = .ok (.goto 4, 3) := by decide +kernel
theorem dX5_strikes_22 : decode cX5_strikes 22 = .ok (.iconst 0, 1) := by decide +kernel
theorem dX5_strikes_23 : decode cX5_strikes 23 = .ok (.ireturn, 1) := by decide +kernel
theorem dX5_isBanned_0 : decode cX5_isBanned 0 = .ok (.aload_n 0, 1) := by decide +kernel
theorem dX5_isBanned_1 : decode cX5_isBanned 1 = .ok (.iload_n 1, 1) := by decide +kernel
theorem dX5_isBanned_2 : decode cX5_isBanned 2 = .ok (.iload_n 2, 1) := by decide +kernel
theorem dX5_isBanned_3 : decode cX5_isBanned 3 = .ok (.invokevirtual 151, 3) := by decide +kernel
theorem dX5_isBanned_6 : decode cX5_isBanned 6 = .ok (.ifCond .eq 20, 3) := by decide +kernel
theorem dX5_isBanned_9 : decode cX5_isBanned 9 = .ok (.aload_n 0, 1) := by decide +kernel
theorem dX5_isBanned_10 : decode cX5_isBanned 10 = .ok (.getfield 50, 3) := by decide +kernel
theorem dX5_isBanned_13 : decode cX5_isBanned 13 = .ok (.iload_n 1, 1) := by decide +kernel
theorem dX5_isBanned_14 : decode cX5_isBanned 14 = .ok (.iload_n 2, 1) := by decide +kernel
theorem dX5_isBanned_15 : decode cX5_isBanned 15 = .ok (.invokestatic 96, 3) := by decide +kernel
theorem dX5_isBanned_18 : decode cX5_isBanned 18 = .ok (.baload, 1) := by decide +kernel
theorem dX5_isBanned_19 : decode cX5_isBanned 19 = .ok (.ifCond .eq 7, 3) := by decide +kernel
theorem dX5_isBanned_22 : decode cX5_isBanned 22 = .ok (.iconst 1, 1) := by decide +kernel
theorem dX5_isBanned_23 : decode cX5_isBanned 23 = .ok (.goto 4, 3) := by decide +kernel
theorem dX5_isBanned_26 : decode cX5_isBanned 26 = .ok (.iconst 0, 1) := by decide +kernel
theorem dX5_isBanned_27 : decode cX5_isBanned 27 = .ok (.ireturn, 1) := by decide +kernel
theorem dJ6_bitCount_0f7a4_0 : decode cJ6_bitCount_0f7a4 0 = .ok (.iload_n 0, 1) := by decide +kernel
theorem dJ6_bitCount_0f7a4_1 : decode cJ6_bitCount_0f7a4 1 = .ok (.iload_n 0, 1) := by decide +kernel
theorem dJ6_bitCount_0f7a4_2 : decode cJ6_bitCount_0f7a4 2 = .ok (.iconst 1, 1) := by decide +kernel
theorem dJ6_bitCount_0f7a4_3 : decode cJ6_bitCount_0f7a4 3 = .ok (.iushr, 1) := by decide +kernel
theorem dJ6_bitCount_0f7a4_4 : decode cJ6_bitCount_0f7a4 4 = .ok (.ldc_w 265, 3) := by decide +kernel
theorem dJ6_bitCount_0f7a4_7 : decode cJ6_bitCount_0f7a4 7 = .ok (.iand, 1) := by decide +kernel
theorem dJ6_bitCount_0f7a4_8 : decode cJ6_bitCount_0f7a4 8 = .ok (.isub, 1) := by decide +kernel
theorem dJ6_bitCount_0f7a4_9 : decode cJ6_bitCount_0f7a4 9 = .ok (.istore_n 0, 1) := by decide +kernel
theorem dJ6_bitCount_0f7a4_10 : decode cJ6_bitCount_0f7a4 10 = .ok (.iload_n 0, 1) := by decide +kernel
theorem dJ6_bitCount_0f7a4_11 : decode cJ6_bitCount_0f7a4 11 = .ok (.ldc_w 266, 3) := by decide +kernel
theorem dJ6_bitCount_0f7a4_14 : decode cJ6_bitCount_0f7a4 14 = .ok (.iand, 1) := by decide +kernel
theorem dJ6_bitCount_0f7a4_15 : decode cJ6_bitCount_0f7a4 15 = .ok (.iload_n 0, 1) := by decide +kernel
theorem dJ6_bitCount_0f7a4_16 : decode cJ6_bitCount_0f7a4 16 = .ok (.iconst 2, 1) := by decide +kernel
theorem dJ6_bitCount_0f7a4_17 : decode cJ6_bitCount_0f7a4 17 = .ok (.iushr, 1) := by decide +kernel
theorem dJ6_bitCount_0f7a4_18 : decode cJ6_bitCount_0f7a4 18 = .ok (.ldc_w 266, 3) := by decide +kernel
theorem dJ6_bitCount_0f7a4_21 : decode cJ6_bitCount_0f7a4 21 = .ok (.iand, 1) := by decide +kernel
theorem dJ6_bitCount_0f7a4_22 : decode cJ6_bitCount_0f7a4 22 = .ok (.iadd, 1) := by decide +kernel
theorem dJ6_bitCount_0f7a4_23 : decode cJ6_bitCount_0f7a4 23 = .ok (.istore_n 0, 1) := by decide +kernel
