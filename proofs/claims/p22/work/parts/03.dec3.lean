theorem dL_areShown_126 : decode cL_areShown 126 = .ok (.iand, 1) := by decide +kernel
theorem dL_areShown_127 : decode cL_areShown 127 = .ok (.ifCond .ne 41, 3) := by decide +kernel
theorem dL_areShown_130 : decode cL_areShown 130 = .ok (.iload 6, 2) := by decide +kernel
theorem dL_areShown_132 : decode cL_areShown 132 = .ok (.iload 6, 2) := by decide +kernel
theorem dL_areShown_134 : decode cL_areShown 134 = .ok (.iconst 1, 1) := by decide +kernel
theorem dL_areShown_135 : decode cL_areShown 135 = .ok (.isub, 1) := by decide +kernel
theorem dL_areShown_136 : decode cL_areShown 136 = .ok (.iand, 1) := by decide +kernel
theorem dL_areShown_137 : decode cL_areShown 137 = .ok (.ifCond .ne 31, 3) := by decide +kernel
theorem dL_areShown_140 : decode cL_areShown 140 = .ok (.iload 6, 2) := by decide +kernel
theorem dL_areShown_142 : decode cL_areShown 142 = .ok (.ifCond .ne 22, 3) := by decide +kernel
theorem dL_areShown_145 : decode cL_areShown 145 = .ok (.iload 7, 2) := by decide +kernel
theorem dL_areShown_147 : decode cL_areShown 147 = .ok (.ifCond .ne 21, 3) := by decide +kernel
theorem dL_areShown_150 : decode cL_areShown 150 = .ok (.goto 14, 3) := by decide +kernel
theorem dL_areShown_153 : decode cL_areShown 153 = .ok (.iload 6, 2) := by decide +kernel
theorem dL_areShown_155 : decode cL_areShown 155 = .ok (.aload_n 1, 1) := by decide +kernel
theorem dL_areShown_156 : decode cL_areShown 156 = .ok (.bipush 23, 2) := by decide +kernel
theorem dL_areShown_158 : decode cL_areShown 158 = .ok (.iload_n 2, 1) := by decide +kernel
theorem dL_areShown_159 : decode cL_areShown 159 = .ok (.iadd, 1) := by decide +kernel
theorem dL_areShown_160 : decode cL_areShown 160 = .ok (.iaload, 1) := by decide +kernel
theorem dL_areShown_161 : decode cL_areShown 161 = .ok (.if_icmp .ne 7, 3) := by decide +kernel
theorem dL_areShown_164 : decode cL_areShown 164 = .ok (.iconst 1, 1) := by decide +kernel
theorem dL_areShown_165 : decode cL_areShown 165 = .ok (.goto 4, 3) := by decide +kernel
theorem dL_areShown_168 : decode cL_areShown 168 = .ok (.iconst 0, 1) := by decide +kernel
theorem dL_areShown_169 : decode cL_areShown 169 = .ok (.istore_n 3, 1) := by decide +kernel
theorem dL_areShown_170 : decode cL_areShown 170 = .ok (.iinc 4 1, 3) := by decide +kernel
theorem dL_areShown_173 : decode cL_areShown 173 = .ok (.goto (-155), 3) := by decide +kernel
theorem dL_areShown_176 : decode cL_areShown 176 = .ok (.iload_n 3, 1) := by decide +kernel
theorem dL_areShown_177 : decode cL_areShown 177 = .ok (.ireturn, 1) := by decide +kernel
theorem dL_wanted_0 : decode cL_wanted 0 = .ok (.iconst 0, 1) := by decide +kernel
theorem dL_wanted_1 : decode cL_wanted 1 = .ok (.istore_n 1, 1) := by decide +kernel
theorem dL_wanted_2 : decode cL_wanted 2 = .ok (.iconst 0, 1) := by decide +kernel
theorem dL_wanted_3 : decode cL_wanted 3 = .ok (.istore_n 2, 1) := by decide +kernel
theorem dL_wanted_4 : decode cL_wanted 4 = .ok (.iload_n 2, 1) := by decide +kernel
theorem dL_wanted_5 : decode cL_wanted 5 = .ok (.bipush 12, 2) := by decide +kernel
theorem dL_wanted_7 : decode cL_wanted 7 = .ok (.if_icmp .ge 27, 3) := by decide +kernel
theorem dL_wanted_10 : decode cL_wanted 10 = .ok (.iload_n 1, 1) := by decide +kernel
theorem dL_wanted_11 : decode cL_wanted 11 = .ok (.aload_n 0, 1) := by decide +kernel
theorem dL_wanted_12 : decode cL_wanted 12 = .ok (.iconst 3, 1) := by decide +kernel
theorem dL_wanted_13 : decode cL_wanted 13 = .ok (.iload_n 2, 1) := by decide +kernel
theorem dL_wanted_14 : decode cL_wanted 14 = .ok (.iadd, 1) := by decide +kernel
theorem dL_wanted_15 : decode cL_wanted 15 = .ok (.iaload, 1) := by decide +kernel
theorem dL_wanted_16 : decode cL_wanted 16 = .ok (.ifCond .le 9, 3) := by decide +kernel
theorem dL_wanted_19 : decode cL_wanted 19 = .ok (.iconst 1, 1) := by decide +kernel
theorem dL_wanted_20 : decode cL_wanted 20 = .ok (.iload_n 2, 1) := by decide +kernel
theorem dL_wanted_21 : decode cL_wanted 21 = .ok (.ishl, 1) := by decide +kernel
theorem dL_wanted_22 : decode cL_wanted 22 = .ok (.goto 4, 3) := by decide +kernel
theorem dL_wanted_25 : decode cL_wanted 25 = .ok (.iconst 0, 1) := by decide +kernel
theorem dL_wanted_26 : decode cL_wanted 26 = .ok (.ior, 1) := by decide +kernel
theorem dL_wanted_27 : decode cL_wanted 27 = .ok (.istore_n 1, 1) := by decide +kernel
theorem dL_wanted_28 : decode cL_wanted 28 = .ok (.iinc 2 1, 3) := by decide +kernel
theorem dL_wanted_31 : decode cL_wanted 31 = .ok (.goto (-27), 3) := by decide +kernel
theorem dL_wanted_34 : decode cL_wanted 34 = .ok (.iload_n 1, 1) := by decide +kernel
theorem dL_wanted_35 : decode cL_wanted 35 = .ok (.ireturn, 1) := by decide +kernel
theorem dL_areChosen_0 : decode cL_areChosen 0 = .ok (.iconst 0, 1) := by decide +kernel
theorem dL_areChosen_1 : decode cL_areChosen 1 = .ok (.istore_n 3, 1) := by decide +kernel
theorem dL_areChosen_2 : decode cL_areChosen 2 = .ok (.iconst 0, 1) := by decide +kernel
theorem dL_areChosen_3 : decode cL_areChosen 3 = .ok (.istore 4, 2) := by decide +kernel
theorem dL_areChosen_5 : decode cL_areChosen 5 = .ok (.iload 4, 2) := by decide +kernel
theorem dL_areChosen_7 : decode cL_areChosen 7 = .ok (.aload_n 1, 1) := by decide +kernel
theorem dL_areChosen_8 : decode cL_areChosen 8 = .ok (.iconst 0, 1) := by decide +kernel
theorem dL_areChosen_9 : decode cL_areChosen 9 = .ok (.iaload, 1) := by decide +kernel
theorem dL_areChosen_10 : decode cL_areChosen 10 = .ok (.if_icmp .ge 97, 3) := by decide +kernel
theorem dL_areChosen_13 : decode cL_areChosen 13 = .ok (.iload 4, 2) := by decide +kernel
theorem dL_areChosen_15 : decode cL_areChosen 15 = .ok (.iload_n 2, 1) := by decide +kernel
theorem dL_areChosen_16 : decode cL_areChosen 16 = .ok (.if_icmp .eq 19, 3) := by decide +kernel
theorem dL_areChosen_19 : decode cL_areChosen 19 = .ok (.aload_n 1, 1) := by decide +kernel
theorem dL_areChosen_20 : decode cL_areChosen 20 = .ok (.iconst 1, 1) := by decide +kernel
theorem dL_areChosen_21 : decode cL_areChosen 21 = .ok (.iaload, 1) := by decide +kernel
theorem dL_areChosen_22 : decode cL_areChosen 22 = .ok (.iload 4, 2) := by decide +kernel
theorem dL_areChosen_24 : decode cL_areChosen 24 = .ok (.ishr, 1) := by decide +kernel
theorem dL_areChosen_25 : decode cL_areChosen 25 = .ok (.iconst 1, 1) := by decide +kernel
theorem dL_areChosen_26 : decode cL_areChosen 26 = .ok (.iand, 1) := by decide +kernel
theorem dL_areChosen_27 : decode cL_areChosen 27 = .ok (.iconst 1, 1) := by decide +kernel
theorem dL_areChosen_28 : decode cL_areChosen 28 = .ok (.if_icmp .ne 7, 3) := by decide +kernel
theorem dL_areChosen_31 : decode cL_areChosen 31 = .ok (.iconst 1, 1) := by decide +kernel
theorem dL_areChosen_32 : decode cL_areChosen 32 = .ok (.goto 4, 3) := by decide +kernel
theorem dL_areChosen_35 : decode cL_areChosen 35 = .ok (.iconst 0, 1) := by decide +kernel
theorem dL_areChosen_36 : decode cL_areChosen 36 = .ok (.istore 5, 2) := by decide +kernel
theorem dL_areChosen_38 : decode cL_areChosen 38 = .ok (.iload 5, 2) := by decide +kernel
theorem dL_areChosen_40 : decode cL_areChosen 40 = .ok (.ifCond .eq 42, 3) := by decide +kernel
theorem dL_areChosen_43 : decode cL_areChosen 43 = .ok (.aload_n 0, 1) := by decide +kernel
theorem dL_areChosen_44 : decode cL_areChosen 44 = .ok (.iload 4, 2) := by decide +kernel
theorem dL_areChosen_46 : decode cL_areChosen 46 = .ok (.iload_n 2, 1) := by decide +kernel
theorem dL_areChosen_47 : decode cL_areChosen 47 = .ok (.invokevirtual 63, 3) := by decide +kernel
theorem dL_areChosen_50 : decode cL_areChosen 50 = .ok (.ifCond .ne 32, 3) := by decide +kernel
theorem dL_areChosen_53 : decode cL_areChosen 53 = .ok (.aload_n 0, 1) := by decide +kernel
theorem dL_areChosen_54 : decode cL_areChosen 54 = .ok (.iload_n 2, 1) := by decide +kernel
theorem dL_areChosen_55 : decode cL_areChosen 55 = .ok (.iload 4, 2) := by decide +kernel
theorem dL_areChosen_57 : decode cL_areChosen 57 = .ok (.invokevirtual 60, 3) := by decide +kernel
theorem dL_areChosen_60 : decode cL_areChosen 60 = .ok (.aload_n 1, 1) := by decide +kernel
theorem dL_areChosen_61 : decode cL_areChosen 61 = .ok (.invokestatic 67, 3) := by decide +kernel
theorem dL_areChosen_64 : decode cL_areChosen 64 = .ok (.iand, 1) := by decide +kernel
theorem dL_areChosen_65 : decode cL_areChosen 65 = .ok (.aload_n 1, 1) := by decide +kernel
theorem dL_areChosen_66 : decode cL_areChosen 66 = .ok (.bipush 23, 2) := by decide +kernel
theorem dL_areChosen_68 : decode cL_areChosen 68 = .ok (.iload 4, 2) := by decide +kernel
theorem dL_areChosen_70 : decode cL_areChosen 70 = .ok (.iadd, 1) := by decide +kernel
theorem dL_areChosen_71 : decode cL_areChosen 71 = .ok (.iaload, 1) := by decide +kernel
theorem dL_areChosen_72 : decode cL_areChosen 72 = .ok (.iconst (-1), 1) := by decide +kernel
theorem dL_areChosen_73 : decode cL_areChosen 73 = .ok (.ixor, 1) := by decide +kernel
theorem dL_areChosen_74 : decode cL_areChosen 74 = .ok (.iand, 1) := by decide +kernel
theorem dL_areChosen_75 : decode cL_areChosen 75 = .ok (.ifCond .eq 7, 3) := by decide +kernel
theorem dL_areChosen_78 : decode cL_areChosen 78 = .ok (.iconst 1, 1) := by decide +kernel
theorem dL_areChosen_79 : decode cL_areChosen 79 = .ok (.goto 4, 3) := by decide +kernel
theorem dL_areChosen_82 : decode cL_areChosen 82 = .ok (.iconst 0, 1) := by decide +kernel
theorem dL_areChosen_83 : decode cL_areChosen 83 = .ok (.istore 6, 2) := by decide +kernel
theorem dL_areChosen_85 : decode cL_areChosen 85 = .ok (.iload_n 3, 1) := by decide +kernel
theorem dL_areChosen_86 : decode cL_areChosen 86 = .ok (.iload 6, 2) := by decide +kernel
theorem dL_areChosen_88 : decode cL_areChosen 88 = .ok (.ifCond .eq 10, 3) := by decide +kernel
theorem dL_areChosen_91 : decode cL_areChosen 91 = .ok (.iconst 1, 1) := by decide +kernel
theorem dL_areChosen_92 : decode cL_areChosen 92 = .ok (.iload 4, 2) := by decide +kernel
theorem dL_areChosen_94 : decode cL_areChosen 94 = .ok (.ishl, 1) := by decide +kernel
theorem dL_areChosen_95 : decode cL_areChosen 95 = .ok (.goto 4, 3) := by decide +kernel
theorem dL_areChosen_98 : decode cL_areChosen 98 = .ok (.iconst 0, 1) := by decide +kernel
theorem dL_areChosen_99 : decode cL_areChosen 99 = .ok (.ior, 1) := by decide +kernel
theorem dL_areChosen_100 : decode cL_areChosen 100 = .ok (.istore_n 3, 1) := by decide +kernel
theorem dL_areChosen_101 : decode cL_areChosen 101 = .ok (.iinc 4 1, 3) := by decide +kernel
theorem dL_areChosen_104 : decode cL_areChosen 104 = .ok (.goto (-99), 3) := by decide +kernel
theorem dL_areChosen_107 : decode cL_areChosen 107 = .ok (.aload_n 0, 1) := by decide +kernel
theorem dL_areChosen_108 : decode cL_areChosen 108 = .ok (.iload_n 2, 1) := by decide +kernel
theorem dL_areChosen_109 : decode cL_areChosen 109 = .ok (.invokevirtual 71, 3) := by decide +kernel
theorem dL_areChosen_112 : decode cL_areChosen 112 = .ok (.istore 4, 2) := by decide +kernel
theorem dL_areChosen_114 : decode cL_areChosen 114 = .ok (.iload_n 3, 1) := by decide +kernel
theorem dL_areChosen_115 : decode cL_areChosen 115 = .ok (.invokestatic 34, 3) := by decide +kernel
theorem dL_areChosen_118 : decode cL_areChosen 118 = .ok (.iconst 3, 1) := by decide +kernel
theorem dL_areChosen_119 : decode cL_areChosen 119 = .ok (.if_icmp .ge 10, 3) := by decide +kernel
theorem dL_areChosen_122 : decode cL_areChosen 122 = .ok (.iload_n 3, 1) := by decide +kernel
theorem dL_areChosen_123 : decode cL_areChosen 123 = .ok (.invokestatic 34, 3) := by decide +kernel
theorem dL_areChosen_126 : decode cL_areChosen 126 = .ok (.goto 4, 3) := by decide +kernel
theorem dL_areChosen_129 : decode cL_areChosen 129 = .ok (.iconst 3, 1) := by decide +kernel
theorem dL_areChosen_130 : decode cL_areChosen 130 = .ok (.istore 5, 2) := by decide +kernel
theorem dL_areChosen_132 : decode cL_areChosen 132 = .ok (.iload 4, 2) := by decide +kernel
theorem dL_areChosen_134 : decode cL_areChosen 134 = .ok (.iload_n 3, 1) := by decide +kernel
theorem dL_areChosen_135 : decode cL_areChosen 135 = .ok (.iconst (-1), 1) := by decide +kernel
theorem dL_areChosen_136 : decode cL_areChosen 136 = .ok (.ixor, 1) := by decide +kernel
theorem dL_areChosen_137 : decode cL_areChosen 137 = .ok (.iand, 1) := by decide +kernel
theorem dL_areChosen_138 : decode cL_areChosen 138 = .ok (.ifCond .ne 17, 3) := by decide +kernel
theorem dL_areChosen_141 : decode cL_areChosen 141 = .ok (.iload 4, 2) := by decide +kernel
theorem dL_areChosen_143 : decode cL_areChosen 143 = .ok (.invokestatic 34, 3) := by decide +kernel
theorem dL_areChosen_146 : decode cL_areChosen 146 = .ok (.iload 5, 2) := by decide +kernel
theorem dL_areChosen_148 : decode cL_areChosen 148 = .ok (.if_icmp .ne 7, 3) := by decide +kernel
theorem dL_areChosen_151 : decode cL_areChosen 151 = .ok (.iconst 1, 1) := by decide +kernel
theorem dL_areChosen_152 : decode cL_areChosen 152 = .ok (.goto 4, 3) := by decide +kernel
theorem dL_areChosen_155 : decode cL_areChosen 155 = .ok (.iconst 0, 1) := by decide +kernel
theorem dL_areChosen_156 : decode cL_areChosen 156 = .ok (.istore 6, 2) := by decide +kernel
theorem dL_areChosen_158 : decode cL_areChosen 158 = .ok (.iconst 0, 1) := by decide +kernel
theorem dL_areChosen_159 : decode cL_areChosen 159 = .ok (.istore 7, 2) := by decide +kernel
theorem dL_areChosen_161 : decode cL_areChosen 161 = .ok (.iload 7, 2) := by decide +kernel
theorem dL_areChosen_163 : decode cL_areChosen 163 = .ok (.aload_n 1, 1) := by decide +kernel
theorem dL_areChosen_164 : decode cL_areChosen 164 = .ok (.iconst 0, 1) := by decide +kernel
theorem dL_areChosen_165 : decode cL_areChosen 165 = .ok (.iaload, 1) := by decide +kernel
theorem dL_areChosen_166 : decode cL_areChosen 166 = .ok (.if_icmp .ge 115, 3) := by decide +kernel
theorem dL_areChosen_169 : decode cL_areChosen 169 = .ok (.iload 6, 2) := by decide +kernel
theorem dL_areChosen_171 : decode cL_areChosen 171 = .ok (.ifCond .eq 110, 3) := by decide +kernel
theorem dL_areChosen_174 : decode cL_areChosen 174 = .ok (.iconst 0, 1) := by decide +kernel
theorem dL_areChosen_175 : decode cL_areChosen 175 = .ok (.istore 8, 2) := by decide +kernel
theorem dL_areChosen_177 : decode cL_areChosen 177 = .ok (.iconst 0, 1) := by decide +kernel
theorem dL_areChosen_178 : decode cL_areChosen 178 = .ok (.istore 9, 2) := by decide +kernel
theorem dL_areChosen_180 : decode cL_areChosen 180 = .ok (.iload 9, 2) := by decide +kernel
theorem dL_areChosen_182 : decode cL_areChosen 182 = .ok (.aload_n 1, 1) := by decide +kernel
theorem dL_areChosen_183 : decode cL_areChosen 183 = .ok (.iconst 0, 1) := by decide +kernel
theorem dL_areChosen_184 : decode cL_areChosen 184 = .ok (.iaload, 1) := by decide +kernel
theorem dL_areChosen_185 : decode cL_areChosen 185 = .ok (.if_icmp .ge 57, 3) := by decide +kernel
theorem dL_areChosen_188 : decode cL_areChosen 188 = .ok (.iload_n 3, 1) := by decide +kernel
theorem dL_areChosen_189 : decode cL_areChosen 189 = .ok (.iload 7, 2) := by decide +kernel
theorem dL_areChosen_191 : decode cL_areChosen 191 = .ok (.ishr, 1) := by decide +kernel
theorem dL_areChosen_192 : decode cL_areChosen 192 = .ok (.iconst 1, 1) := by decide +kernel
theorem dL_areChosen_193 : decode cL_areChosen 193 = .ok (.iand, 1) := by decide +kernel
theorem dL_areChosen_194 : decode cL_areChosen 194 = .ok (.iconst 1, 1) := by decide +kernel
theorem dL_areChosen_195 : decode cL_areChosen 195 = .ok (.if_icmp .ne 47, 3) := by decide +kernel
theorem dL_areChosen_198 : decode cL_areChosen 198 = .ok (.iload 8, 2) := by decide +kernel
theorem dL_areChosen_200 : decode cL_areChosen 200 = .ok (.iload 4, 2) := by decide +kernel
theorem dL_areChosen_202 : decode cL_areChosen 202 = .ok (.iload 9, 2) := by decide +kernel
theorem dL_areChosen_204 : decode cL_areChosen 204 = .ok (.ishr, 1) := by decide +kernel
theorem dL_areChosen_205 : decode cL_areChosen 205 = .ok (.iconst 1, 1) := by decide +kernel
theorem dL_areChosen_206 : decode cL_areChosen 206 = .ok (.iand, 1) := by decide +kernel
theorem dL_areChosen_207 : decode cL_areChosen 207 = .ok (.iconst 1, 1) := by decide +kernel
theorem dL_areChosen_208 : decode cL_areChosen 208 = .ok (.if_icmp .ne 24, 3) := by decide +kernel
theorem dL_areChosen_211 : decode cL_areChosen 211 = .ok (.aload_n 0, 1) := by decide +kernel
theorem dL_areChosen_212 : decode cL_areChosen 212 = .ok (.iload_n 2, 1) := by decide +kernel
theorem dL_areChosen_213 : decode cL_areChosen 213 = .ok (.iload 9, 2) := by decide +kernel
theorem dL_areChosen_215 : decode cL_areChosen 215 = .ok (.invokevirtual 24, 3) := by decide +kernel
theorem dL_areChosen_218 : decode cL_areChosen 218 = .ok (.aload_n 0, 1) := by decide +kernel
theorem dL_areChosen_219 : decode cL_areChosen 219 = .ok (.iload_n 2, 1) := by decide +kernel
theorem dL_areChosen_220 : decode cL_areChosen 220 = .ok (.iload 7, 2) := by decide +kernel
theorem dL_areChosen_222 : decode cL_areChosen 222 = .ok (.invokevirtual 24, 3) := by decide +kernel
theorem dL_areChosen_225 : decode cL_areChosen 225 = .ok (.if_icmp .lt 7, 3) := by decide +kernel
theorem dL_areChosen_228 : decode cL_areChosen 228 = .ok (.iconst 1, 1) := by decide +kernel
theorem dL_areChosen_229 : decode cL_areChosen 229 = .ok (.goto 4, 3) := by decide +kernel
theorem dL_areChosen_232 : decode cL_areChosen 232 = .ok (.iconst 0, 1) := by decide +kernel
theorem dL_areChosen_233 : decode cL_areChosen 233 = .ok (.iadd, 1) := by decide +kernel
theorem dL_areChosen_234 : decode cL_areChosen 234 = .ok (.istore 8, 2) := by decide +kernel
theorem dL_areChosen_236 : decode cL_areChosen 236 = .ok (.iinc 9 1, 3) := by decide +kernel
theorem dL_areChosen_239 : decode cL_areChosen 239 = .ok (.goto (-59), 3) := by decide +kernel
theorem dL_areChosen_242 : decode cL_areChosen 242 = .ok (.iload_n 3, 1) := by decide +kernel
theorem dL_areChosen_243 : decode cL_areChosen 243 = .ok (.iload 7, 2) := by decide +kernel
theorem dL_areChosen_245 : decode cL_areChosen 245 = .ok (.ishr, 1) := by decide +kernel
theorem dL_areChosen_246 : decode cL_areChosen 246 = .ok (.iconst 1, 1) := by decide +kernel
theorem dL_areChosen_247 : decode cL_areChosen 247 = .ok (.iand, 1) := by decide +kernel
theorem dL_areChosen_248 : decode cL_areChosen 248 = .ok (.ifCond .eq 20, 3) := by decide +kernel
theorem dL_areChosen_251 : decode cL_areChosen 251 = .ok (.iload 4, 2) := by decide +kernel
theorem dL_areChosen_253 : decode cL_areChosen 253 = .ok (.iload 7, 2) := by decide +kernel
theorem dL_areChosen_255 : decode cL_areChosen 255 = .ok (.ishr, 1) := by decide +kernel
theorem dL_areChosen_256 : decode cL_areChosen 256 = .ok (.iconst 1, 1) := by decide +kernel
theorem dL_areChosen_257 : decode cL_areChosen 257 = .ok (.iand, 1) := by decide +kernel
theorem dL_areChosen_258 : decode cL_areChosen 258 = .ok (.iconst 1, 1) := by decide +kernel
theorem dL_areChosen_259 : decode cL_areChosen 259 = .ok (.if_icmp .eq 9, 3) := by decide +kernel
theorem dL_areChosen_262 : decode cL_areChosen 262 = .ok (.iload 8, 2) := by decide +kernel
theorem dL_areChosen_264 : decode cL_areChosen 264 = .ok (.iconst 2, 1) := by decide +kernel
theorem dL_areChosen_265 : decode cL_areChosen 265 = .ok (.if_icmp .lt 7, 3) := by decide +kernel
theorem dL_areChosen_268 : decode cL_areChosen 268 = .ok (.iconst 1, 1) := by decide +kernel
theorem dL_areChosen_269 : decode cL_areChosen 269 = .ok (.goto 4, 3) := by decide +kernel
theorem dL_areChosen_272 : decode cL_areChosen 272 = .ok (.iconst 0, 1) := by decide +kernel
theorem dL_areChosen_273 : decode cL_areChosen 273 = .ok (.istore 6, 2) := by decide +kernel
theorem dL_areChosen_275 : decode cL_areChosen 275 = .ok (.iinc 7 1, 3) := by decide +kernel
theorem dL_areChosen_278 : decode cL_areChosen 278 = .ok (.goto (-117), 3) := by decide +kernel
theorem dL_areChosen_281 : decode cL_areChosen 281 = .ok (.iload 6, 2) := by decide +kernel
theorem dL_areChosen_283 : decode cL_areChosen 283 = .ok (.ireturn, 1) := by decide +kernel
theorem dL_runs_0 : decode cL_runs 0 = .ok (.aload_n 1, 1) := by decide +kernel
theorem dL_runs_1 : decode cL_runs 1 = .ok (.iconst 2, 1) := by decide +kernel
theorem dL_runs_2 : decode cL_runs 2 = .ok (.iaload, 1) := by decide +kernel
theorem dL_runs_3 : decode cL_runs 3 = .ok (.iload_n 2, 1) := by decide +kernel
theorem dL_runs_4 : decode cL_runs 4 = .ok (.iadd, 1) := by decide +kernel
theorem dL_runs_5 : decode cL_runs 5 = .ok (.sipush 200, 3) := by decide +kernel
theorem dL_runs_8 : decode cL_runs 8 = .ok (.if_icmp .le 19, 3) := by decide +kernel
theorem dL_runs_11 : decode cL_runs 11 = .ok (.aload_n 0, 1) := by decide +kernel
theorem dL_runs_12 : decode cL_runs 12 = .ok (.invokevirtual 74, 3) := by decide +kernel
theorem dL_runs_15 : decode cL_runs 15 = .ok (.aload_n 1, 1) := by decide +kernel
theorem dL_runs_16 : decode cL_runs 16 = .ok (.iconst 2, 1) := by decide +kernel
theorem dL_runs_17 : decode cL_runs 17 = .ok (.iaload, 1) := by decide +kernel
theorem dL_runs_18 : decode cL_runs 18 = .ok (.if_icmp .ne 7, 3) := by decide +kernel
theorem dL_runs_21 : decode cL_runs 21 = .ok (.iconst 1, 1) := by decide +kernel
theorem dL_runs_22 : decode cL_runs 22 = .ok (.goto 4, 3) := by decide +kernel
theorem dL_runs_25 : decode cL_runs 25 = .ok (.iconst 0, 1) := by decide +kernel
theorem dL_runs_26 : decode cL_runs 26 = .ok (.ireturn, 1) := by decide +kernel
theorem dL_runs_27 : decode cL_runs 27 = .ok (.iconst 0, 1) := by decide +kernel
theorem dL_runs_28 : decode cL_runs 28 = .ok (.istore_n 3, 1) := by decide +kernel
theorem dL_runs_29 : decode cL_runs 29 = .ok (.iconst 0, 1) := by decide +kernel
theorem dL_runs_30 : decode cL_runs 30 = .ok (.istore 4, 2) := by decide +kernel
theorem dL_runs_32 : decode cL_runs 32 = .ok (.iload 4, 2) := by decide +kernel
theorem dL_runs_34 : decode cL_runs 34 = .ok (.aload_n 1, 1) := by decide +kernel
theorem dL_runs_35 : decode cL_runs 35 = .ok (.iconst 0, 1) := by decide +kernel
theorem dL_runs_36 : decode cL_runs 36 = .ok (.iaload, 1) := by decide +kernel
theorem dL_runs_37 : decode cL_runs 37 = .ok (.if_icmp .ge 37, 3) := by decide +kernel
theorem dL_runs_40 : decode cL_runs 40 = .ok (.iload_n 3, 1) := by decide +kernel
theorem dL_runs_41 : decode cL_runs 41 = .ok (.aload_n 1, 1) := by decide +kernel
theorem dL_runs_42 : decode cL_runs 42 = .ok (.iconst 1, 1) := by decide +kernel
theorem dL_runs_43 : decode cL_runs 43 = .ok (.iaload, 1) := by decide +kernel
theorem dL_runs_44 : decode cL_runs 44 = .ok (.iload 4, 2) := by decide +kernel
theorem dL_runs_46 : decode cL_runs 46 = .ok (.ishr, 1) := by decide +kernel
theorem dL_runs_47 : decode cL_runs 47 = .ok (.iconst 1, 1) := by decide +kernel
theorem dL_runs_48 : decode cL_runs 48 = .ok (.iand, 1) := by decide +kernel
theorem dL_runs_49 : decode cL_runs 49 = .ok (.iconst 1, 1) := by decide +kernel
theorem dL_runs_50 : decode cL_runs 50 = .ok (.if_icmp .ne 15, 3) := by decide +kernel
theorem dL_runs_53 : decode cL_runs 53 = .ok (.aload_n 0, 1) := by decide +kernel
theorem dL_runs_54 : decode cL_runs 54 = .ok (.iload 4, 2) := by decide +kernel
theorem dL_runs_56 : decode cL_runs 56 = .ok (.invokevirtual 71, 3) := by decide +kernel
theorem dL_runs_59 : decode cL_runs 59 = .ok (.invokestatic 34, 3) := by decide +kernel
theorem dL_runs_62 : decode cL_runs 62 = .ok (.goto 4, 3) := by decide +kernel
theorem dL_runs_65 : decode cL_runs 65 = .ok (.iconst 0, 1) := by decide +kernel
theorem dL_runs_66 : decode cL_runs 66 = .ok (.iadd, 1) := by decide +kernel
theorem dL_runs_67 : decode cL_runs 67 = .ok (.istore_n 3, 1) := by decide +kernel
theorem dL_runs_68 : decode cL_runs 68 = .ok (.iinc 4 1, 3) := by decide +kernel
theorem dL_runs_71 : decode cL_runs 71 = .ok (.goto (-39), 3) := by decide +kernel
theorem dL_runs_74 : decode cL_runs 74 = .ok (.aload_n 0, 1) := by decide +kernel
theorem dL_runs_75 : decode cL_runs 75 = .ok (.iload_n 2, 1) := by decide +kernel
theorem dL_runs_76 : decode cL_runs 76 = .ok (.invokevirtual 77, 3) := by decide +kernel
theorem dL_runs_79 : decode cL_runs 79 = .ok (.istore 4, 2) := by decide +kernel
theorem dL_runs_81 : decode cL_runs 81 = .ok (.aload_n 1, 1) := by decide +kernel
theorem dL_runs_82 : decode cL_runs 82 = .ok (.iconst 2, 1) := by decide +kernel
theorem dL_runs_83 : decode cL_runs 83 = .ok (.dup2, 1) := by decide +kernel
theorem dL_runs_84 : decode cL_runs 84 = .ok (.iaload, 1) := by decide +kernel
theorem dL_runs_85 : decode cL_runs 85 = .ok (.iload_n 2, 1) := by decide +kernel
theorem dL_runs_86 : decode cL_runs 86 = .ok (.iadd, 1) := by decide +kernel
theorem dL_runs_87 : decode cL_runs 87 = .ok (.iastore, 1) := by decide +kernel
theorem dL_runs_88 : decode cL_runs 88 = .ok (.iconst 0, 1) := by decide +kernel
theorem dL_runs_89 : decode cL_runs 89 = .ok (.istore 5, 2) := by decide +kernel
theorem dL_runs_91 : decode cL_runs 91 = .ok (.aload_n 0, 1) := by decide +kernel
theorem dL_runs_92 : decode cL_runs 92 = .ok (.invokevirtual 74, 3) := by decide +kernel
theorem dL_runs_95 : decode cL_runs 95 = .ok (.aload_n 1, 1) := by decide +kernel
theorem dL_runs_96 : decode cL_runs 96 = .ok (.iconst 2, 1) := by decide +kernel
theorem dL_runs_97 : decode cL_runs 97 = .ok (.iaload, 1) := by decide +kernel
theorem dL_runs_98 : decode cL_runs 98 = .ok (.if_icmp .ne 23, 3) := by decide +kernel
theorem dL_runs_101 : decode cL_runs 101 = .ok (.iload 4, 2) := by decide +kernel
theorem dL_runs_103 : decode cL_runs 103 = .ok (.ifCond .lt 18, 3) := by decide +kernel
theorem dL_runs_106 : decode cL_runs 106 = .ok (.iload_n 2, 1) := by decide +kernel
theorem dL_runs_107 : decode cL_runs 107 = .ok (.iconst 1, 1) := by decide +kernel
theorem dL_runs_108 : decode cL_runs 108 = .ok (.if_icmp .gt 9, 3) := by decide +kernel
theorem dL_runs_111 : decode cL_runs 111 = .ok (.iload 4, 2) := by decide +kernel
theorem dL_runs_113 : decode cL_runs 113 = .ok (.iload_n 3, 1) := by decide +kernel
theorem dL_runs_114 : decode cL_runs 114 = .ok (.if_icmp .gt 7, 3) := by decide +kernel
theorem dL_runs_117 : decode cL_runs 117 = .ok (.iconst 1, 1) := by decide +kernel
theorem dL_runs_118 : decode cL_runs 118 = .ok (.goto 4, 3) := by decide +kernel
theorem dL_runs_121 : decode cL_runs 121 = .ok (.iconst 0, 1) := by decide +kernel
theorem dL_runs_122 : decode cL_runs 122 = .ok (.istore 6, 2) := by decide +kernel
theorem dL_runs_124 : decode cL_runs 124 = .ok (.iconst 0, 1) := by decide +kernel
theorem dL_runs_125 : decode cL_runs 125 = .ok (.istore 7, 2) := by decide +kernel
theorem dL_runs_127 : decode cL_runs 127 = .ok (.iload 7, 2) := by decide +kernel
theorem dL_runs_129 : decode cL_runs 129 = .ok (.aload_n 1, 1) := by decide +kernel
theorem dL_runs_130 : decode cL_runs 130 = .ok (.iconst 0, 1) := by decide +kernel
theorem dL_runs_131 : decode cL_runs 131 = .ok (.iaload, 1) := by decide +kernel
theorem dL_runs_132 : decode cL_runs 132 = .ok (.if_icmp .ge 137, 3) := by decide +kernel
theorem dL_runs_135 : decode cL_runs 135 = .ok (.iconst 0, 1) := by decide +kernel
theorem dL_runs_136 : decode cL_runs 136 = .ok (.istore 8, 2) := by decide +kernel
theorem dL_runs_138 : decode cL_runs 138 = .ok (.iload 8, 2) := by decide +kernel
theorem dL_runs_140 : decode cL_runs 140 = .ok (.aload_n 1, 1) := by decide +kernel
theorem dL_runs_141 : decode cL_runs 141 = .ok (.iconst 0, 1) := by decide +kernel
theorem dL_runs_142 : decode cL_runs 142 = .ok (.iaload, 1) := by decide +kernel
theorem dL_runs_143 : decode cL_runs 143 = .ok (.if_icmp .ge 120, 3) := by decide +kernel
theorem dL_runs_146 : decode cL_runs 146 = .ok (.aload_n 1, 1) := by decide +kernel
theorem dL_runs_147 : decode cL_runs 147 = .ok (.iconst 1, 1) := by decide +kernel
theorem dL_runs_148 : decode cL_runs 148 = .ok (.iaload, 1) := by decide +kernel
theorem dL_runs_149 : decode cL_runs 149 = .ok (.iload 7, 2) := by decide +kernel
theorem dL_runs_151 : decode cL_runs 151 = .ok (.ishr, 1) := by decide +kernel
theorem dL_runs_152 : decode cL_runs 152 = .ok (.iconst 1, 1) := by decide +kernel
theorem dL_runs_153 : decode cL_runs 153 = .ok (.iand, 1) := by decide +kernel
theorem dL_runs_154 : decode cL_runs 154 = .ok (.iconst 1, 1) := by decide +kernel
theorem dL_runs_155 : decode cL_runs 155 = .ok (.if_icmp .ne 19, 3) := by decide +kernel
theorem dL_runs_158 : decode cL_runs 158 = .ok (.aload_n 1, 1) := by decide +kernel
theorem dL_runs_159 : decode cL_runs 159 = .ok (.iconst 1, 1) := by decide +kernel
theorem dL_runs_160 : decode cL_runs 160 = .ok (.iaload, 1) := by decide +kernel
theorem dL_runs_161 : decode cL_runs 161 = .ok (.iload 8, 2) := by decide +kernel
theorem dL_runs_163 : decode cL_runs 163 = .ok (.ishr, 1) := by decide +kernel
theorem dL_runs_164 : decode cL_runs 164 = .ok (.iconst 1, 1) := by decide +kernel
theorem dL_runs_165 : decode cL_runs 165 = .ok (.iand, 1) := by decide +kernel
theorem dL_runs_166 : decode cL_runs 166 = .ok (.iconst 1, 1) := by decide +kernel
theorem dL_runs_167 : decode cL_runs 167 = .ok (.if_icmp .ne 7, 3) := by decide +kernel
theorem dL_runs_170 : decode cL_runs 170 = .ok (.iconst 1, 1) := by decide +kernel
theorem dL_runs_171 : decode cL_runs 171 = .ok (.goto 4, 3) := by decide +kernel
theorem dL_runs_174 : decode cL_runs 174 = .ok (.iconst 0, 1) := by decide +kernel
theorem dL_runs_175 : decode cL_runs 175 = .ok (.istore 9, 2) := by decide +kernel
theorem dL_runs_177 : decode cL_runs 177 = .ok (.iload 5, 2) := by decide +kernel
theorem dL_runs_179 : decode cL_runs 179 = .ok (.iload 9, 2) := by decide +kernel
theorem dL_runs_181 : decode cL_runs 181 = .ok (.ifCond .eq 14, 3) := by decide +kernel
theorem dL_runs_184 : decode cL_runs 184 = .ok (.aload_n 0, 1) := by decide +kernel
theorem dL_runs_185 : decode cL_runs 185 = .ok (.iload 7, 2) := by decide +kernel
theorem dL_runs_187 : decode cL_runs 187 = .ok (.iload 8, 2) := by decide +kernel
theorem dL_runs_189 : decode cL_runs 189 = .ok (.invokevirtual 24, 3) := by decide +kernel
theorem dL_runs_192 : decode cL_runs 192 = .ok (.goto 4, 3) := by decide +kernel
theorem dL_runs_195 : decode cL_runs 195 = .ok (.iconst 0, 1) := by decide +kernel
theorem dL_runs_196 : decode cL_runs 196 = .ok (.iadd, 1) := by decide +kernel
theorem dL_runs_197 : decode cL_runs 197 = .ok (.istore 5, 2) := by decide +kernel
theorem dL_runs_199 : decode cL_runs 199 = .ok (.iload 6, 2) := by decide +kernel
theorem dL_runs_201 : decode cL_runs 201 = .ok (.ifCond .eq 53, 3) := by decide +kernel
theorem dL_runs_204 : decode cL_runs 204 = .ok (.iload 9, 2) := by decide +kernel
theorem dL_runs_206 : decode cL_runs 206 = .ok (.ifCond .eq 44, 3) := by decide +kernel
theorem dL_runs_209 : decode cL_runs 209 = .ok (.aload_n 0, 1) := by decide +kernel
theorem dL_runs_210 : decode cL_runs 210 = .ok (.iload 7, 2) := by decide +kernel
theorem dL_runs_212 : decode cL_runs 212 = .ok (.iload 8, 2) := by decide +kernel
theorem dL_runs_214 : decode cL_runs 214 = .ok (.invokevirtual 24, 3) := by decide +kernel
theorem dL_runs_217 : decode cL_runs 217 = .ok (.iconst 1, 1) := by decide +kernel
theorem dL_runs_218 : decode cL_runs 218 = .ok (.if_icmp .gt 36, 3) := by decide +kernel
theorem dL_runs_221 : decode cL_runs 221 = .ok (.iload 7, 2) := by decide +kernel
theorem dL_runs_223 : decode cL_runs 223 = .ok (.iload 8, 2) := by decide +kernel
theorem dL_runs_225 : decode cL_runs 225 = .ok (.if_icmp .ne 25, 3) := by decide +kernel
theorem dL_runs_228 : decode cL_runs 228 = .ok (.aload_n 0, 1) := by decide +kernel
theorem dL_runs_229 : decode cL_runs 229 = .ok (.iload 7, 2) := by decide +kernel
theorem dL_runs_231 : decode cL_runs 231 = .ok (.iload 8, 2) := by decide +kernel
theorem dL_runs_233 : decode cL_runs 233 = .ok (.invokevirtual 24, 3) := by decide +kernel
theorem dL_runs_236 : decode cL_runs 236 = .ok (.ifCond .ne 18, 3) := by decide +kernel
theorem dL_runs_239 : decode cL_runs 239 = .ok (.aload_n 0, 1) := by decide +kernel
theorem dL_runs_240 : decode cL_runs 240 = .ok (.iload 7, 2) := by decide +kernel
theorem dL_runs_242 : decode cL_runs 242 = .ok (.iload 8, 2) := by decide +kernel
theorem dL_runs_244 : decode cL_runs 244 = .ok (.invokevirtual 80, 3) := by decide +kernel
theorem dL_runs_247 : decode cL_runs 247 = .ok (.ifCond .ne 7, 3) := by decide +kernel
theorem dL_runs_250 : decode cL_runs 250 = .ok (.iconst 1, 1) := by decide +kernel
theorem dL_runs_251 : decode cL_runs 251 = .ok (.goto 4, 3) := by decide +kernel
theorem dL_runs_254 : decode cL_runs 254 = .ok (.iconst 0, 1) := by decide +kernel
theorem dL_runs_255 : decode cL_runs 255 = .ok (.istore 6, 2) := by decide +kernel
theorem dL_runs_257 : decode cL_runs 257 = .ok (.iinc 8 1, 3) := by decide +kernel
theorem dL_runs_260 : decode cL_runs 260 = .ok (.goto (-122), 3) := by decide +kernel
theorem dL_runs_263 : decode cL_runs 263 = .ok (.iinc 7 1, 3) := by decide +kernel
theorem dL_runs_266 : decode cL_runs 266 = .ok (.goto (-139), 3) := by decide +kernel
theorem dL_runs_269 : decode cL_runs 269 = .ok (.iload 6, 2) := by decide +kernel
theorem dL_runs_271 : decode cL_runs 271 = .ok (.ifCond .eq 29, 3) := by decide +kernel
theorem dL_runs_274 : decode cL_runs 274 = .ok (.iload_n 2, 1) := by decide +kernel
theorem dL_runs_275 : decode cL_runs 275 = .ok (.iconst 1, 1) := by decide +kernel
theorem dL_runs_276 : decode cL_runs 276 = .ok (.if_icmp .ne 13, 3) := by decide +kernel
theorem dL_runs_279 : decode cL_runs 279 = .ok (.iload 5, 2) := by decide +kernel
theorem dL_runs_281 : decode cL_runs 281 = .ok (.iload 4, 2) := by decide +kernel
theorem dL_runs_283 : decode cL_runs 283 = .ok (.if_icmp .ne 17, 3) := by decide +kernel
theorem dL_runs_286 : decode cL_runs 286 = .ok (.goto 10, 3) := by decide +kernel
theorem dL_runs_289 : decode cL_runs 289 = .ok (.iload 5, 2) := by decide +kernel
theorem dL_runs_291 : decode cL_runs 291 = .ok (.iload 4, 2) := by decide +kernel
theorem dL_runs_293 : decode cL_runs 293 = .ok (.if_icmp .gt 7, 3) := by decide +kernel
theorem dL_runs_296 : decode cL_runs 296 = .ok (.iconst 1, 1) := by decide +kernel
theorem dL_runs_297 : decode cL_runs 297 = .ok (.goto 4, 3) := by decide +kernel
theorem dL_runs_300 : decode cL_runs 300 = .ok (.iconst 0, 1) := by decide +kernel
theorem dL_runs_301 : decode cL_runs 301 = .ok (.ireturn, 1) := by decide +kernel
theorem dL_areHeld_0 : decode cL_areHeld 0 = .ok (.aload_n 0, 1) := by decide +kernel
theorem dL_areHeld_1 : decode cL_areHeld 1 = .ok (.invokevirtual 10, 3) := by decide +kernel
theorem dL_areHeld_4 : decode cL_areHeld 4 = .ok (.aload_n 1, 1) := by decide +kernel
theorem dL_areHeld_5 : decode cL_areHeld 5 = .ok (.iconst 1, 1) := by decide +kernel
theorem dL_areHeld_6 : decode cL_areHeld 6 = .ok (.iaload, 1) := by decide +kernel
theorem dL_areHeld_7 : decode cL_areHeld 7 = .ok (.if_icmp .ne 7, 3) := by decide +kernel
theorem dL_areHeld_10 : decode cL_areHeld 10 = .ok (.iconst 1, 1) := by decide +kernel
theorem dL_areHeld_11 : decode cL_areHeld 11 = .ok (.goto 4, 3) := by decide +kernel
theorem dL_areHeld_14 : decode cL_areHeld 14 = .ok (.iconst 0, 1) := by decide +kernel
theorem dL_areHeld_15 : decode cL_areHeld 15 = .ok (.istore_n 2, 1) := by decide +kernel
theorem dL_areHeld_16 : decode cL_areHeld 16 = .ok (.bipush 12, 2) := by decide +kernel
theorem dL_areHeld_18 : decode cL_areHeld 18 = .ok (.newarray .int, 2) := by decide +kernel
theorem dL_areHeld_20 : decode cL_areHeld 20 = .ok (.astore_n 3, 1) := by decide +kernel
theorem dL_areHeld_21 : decode cL_areHeld 21 = .ok (.iconst 0, 1) := by decide +kernel
theorem dL_areHeld_22 : decode cL_areHeld 22 = .ok (.istore 4, 2) := by decide +kernel
theorem dL_areHeld_24 : decode cL_areHeld 24 = .ok (.iload 4, 2) := by decide +kernel
theorem dL_areHeld_26 : decode cL_areHeld 26 = .ok (.aload_n 1, 1) := by decide +kernel
theorem dL_areHeld_27 : decode cL_areHeld 27 = .ok (.iconst 0, 1) := by decide +kernel
theorem dL_areHeld_28 : decode cL_areHeld 28 = .ok (.iaload, 1) := by decide +kernel
theorem dL_areHeld_29 : decode cL_areHeld 29 = .ok (.if_icmp .ge 177, 3) := by decide +kernel
theorem dL_areHeld_32 : decode cL_areHeld 32 = .ok (.iload_n 2, 1) := by decide +kernel
theorem dL_areHeld_33 : decode cL_areHeld 33 = .ok (.ifCond .eq 173, 3) := by decide +kernel
theorem dL_areHeld_36 : decode cL_areHeld 36 = .ok (.aload_n 1, 1) := by decide +kernel
theorem dL_areHeld_37 : decode cL_areHeld 37 = .ok (.iconst 1, 1) := by decide +kernel
theorem dL_areHeld_38 : decode cL_areHeld 38 = .ok (.iaload, 1) := by decide +kernel
theorem dL_areHeld_39 : decode cL_areHeld 39 = .ok (.iload 4, 2) := by decide +kernel
theorem dL_areHeld_41 : decode cL_areHeld 41 = .ok (.ishr, 1) := by decide +kernel
theorem dL_areHeld_42 : decode cL_areHeld 42 = .ok (.iconst 1, 1) := by decide +kernel
theorem dL_areHeld_43 : decode cL_areHeld 43 = .ok (.iand, 1) := by decide +kernel
theorem dL_areHeld_44 : decode cL_areHeld 44 = .ok (.iconst 1, 1) := by decide +kernel
theorem dL_areHeld_45 : decode cL_areHeld 45 = .ok (.if_icmp .ne 155, 3) := by decide +kernel
theorem dL_areHeld_48 : decode cL_areHeld 48 = .ok (.aload_n 0, 1) := by decide +kernel
theorem dL_areHeld_49 : decode cL_areHeld 49 = .ok (.iload 4, 2) := by decide +kernel
theorem dL_areHeld_51 : decode cL_areHeld 51 = .ok (.invokevirtual 20, 3) := by decide +kernel
theorem dL_areHeld_54 : decode cL_areHeld 54 = .ok (.istore 5, 2) := by decide +kernel
theorem dL_areHeld_56 : decode cL_areHeld 56 = .ok (.aload_n 1, 1) := by decide +kernel
theorem dL_areHeld_57 : decode cL_areHeld 57 = .ok (.bipush 23, 2) := by decide +kernel
theorem dL_areHeld_59 : decode cL_areHeld 59 = .ok (.iload 4, 2) := by decide +kernel
theorem dL_areHeld_61 : decode cL_areHeld 61 = .ok (.iadd, 1) := by decide +kernel
theorem dL_areHeld_62 : decode cL_areHeld 62 = .ok (.iaload, 1) := by decide +kernel
theorem dL_areHeld_63 : decode cL_areHeld 63 = .ok (.iload 5, 2) := by decide +kernel
theorem dL_areHeld_65 : decode cL_areHeld 65 = .ok (.iconst (-1), 1) := by decide +kernel
theorem dL_areHeld_66 : decode cL_areHeld 66 = .ok (.ixor, 1) := by decide +kernel
theorem dL_areHeld_67 : decode cL_areHeld 67 = .ok (.iand, 1) := by decide +kernel
theorem dL_areHeld_68 : decode cL_areHeld 68 = .ok (.ifCond .ne 18, 3) := by decide +kernel
theorem dL_areHeld_71 : decode cL_areHeld 71 = .ok (.aload_n 0, 1) := by decide +kernel
theorem dL_areHeld_72 : decode cL_areHeld 72 = .ok (.iload 4, 2) := by decide +kernel
theorem dL_areHeld_74 : decode cL_areHeld 74 = .ok (.invokevirtual 83, 3) := by decide +kernel
theorem dL_areHeld_77 : decode cL_areHeld 77 = .ok (.iload 5, 2) := by decide +kernel
theorem dL_areHeld_79 : decode cL_areHeld 79 = .ok (.if_icmp .ne 7, 3) := by decide +kernel
theorem dL_areHeld_82 : decode cL_areHeld 82 = .ok (.iconst 1, 1) := by decide +kernel
theorem dL_areHeld_83 : decode cL_areHeld 83 = .ok (.goto 4, 3) := by decide +kernel
theorem dL_areHeld_86 : decode cL_areHeld 86 = .ok (.iconst 0, 1) := by decide +kernel
theorem dL_areHeld_87 : decode cL_areHeld 87 = .ok (.istore_n 2, 1) := by decide +kernel
theorem dL_areHeld_88 : decode cL_areHeld 88 = .ok (.aload_n 1, 1) := by decide +kernel
theorem dL_areHeld_89 : decode cL_areHeld 89 = .ok (.bipush 23, 2) := by decide +kernel
theorem dL_areHeld_91 : decode cL_areHeld 91 = .ok (.iload 4, 2) := by decide +kernel
theorem dL_areHeld_93 : decode cL_areHeld 93 = .ok (.iadd, 1) := by decide +kernel
theorem dL_areHeld_94 : decode cL_areHeld 94 = .ok (.iload 5, 2) := by decide +kernel
theorem dL_areHeld_96 : decode cL_areHeld 96 = .ok (.iastore, 1) := by decide +kernel
theorem dL_areHeld_97 : decode cL_areHeld 97 = .ok (.iconst 0, 1) := by decide +kernel
theorem dL_areHeld_98 : decode cL_areHeld 98 = .ok (.istore 6, 2) := by decide +kernel
theorem dL_areHeld_100 : decode cL_areHeld 100 = .ok (.iload 6, 2) := by decide +kernel
theorem dL_areHeld_102 : decode cL_areHeld 102 = .ok (.bipush 12, 2) := by decide +kernel
theorem dL_areHeld_104 : decode cL_areHeld 104 = .ok (.if_icmp .ge 96, 3) := by decide +kernel
theorem dL_areHeld_107 : decode cL_areHeld 107 = .ok (.iload_n 2, 1) := by decide +kernel
theorem dL_areHeld_108 : decode cL_areHeld 108 = .ok (.ifCond .eq 92, 3) := by decide +kernel
theorem dL_areHeld_111 : decode cL_areHeld 111 = .ok (.iload 5, 2) := by decide +kernel
theorem dL_areHeld_113 : decode cL_areHeld 113 = .ok (.iload 6, 2) := by decide +kernel
theorem dL_areHeld_115 : decode cL_areHeld 115 = .ok (.ishr, 1) := by decide +kernel
theorem dL_areHeld_116 : decode cL_areHeld 116 = .ok (.iconst 1, 1) := by decide +kernel
theorem dL_areHeld_117 : decode cL_areHeld 117 = .ok (.iand, 1) := by decide +kernel
theorem dL_areHeld_118 : decode cL_areHeld 118 = .ok (.iconst 1, 1) := by decide +kernel
theorem dL_areHeld_119 : decode cL_areHeld 119 = .ok (.if_icmp .ne 7, 3) := by decide +kernel
theorem dL_areHeld_122 : decode cL_areHeld 122 = .ok (.iconst 1, 1) := by decide +kernel
theorem dL_areHeld_123 : decode cL_areHeld 123 = .ok (.goto 4, 3) := by decide +kernel
theorem dL_areHeld_126 : decode cL_areHeld 126 = .ok (.iconst 0, 1) := by decide +kernel
theorem dL_areHeld_127 : decode cL_areHeld 127 = .ok (.istore 7, 2) := by decide +kernel
theorem dL_areHeld_129 : decode cL_areHeld 129 = .ok (.aload_n 0, 1) := by decide +kernel
theorem dL_areHeld_130 : decode cL_areHeld 130 = .ok (.iload 4, 2) := by decide +kernel
theorem dL_areHeld_132 : decode cL_areHeld 132 = .ok (.iload 6, 2) := by decide +kernel
theorem dL_areHeld_134 : decode cL_areHeld 134 = .ok (.invokevirtual 86, 3) := by decide +kernel
theorem dL_areHeld_137 : decode cL_areHeld 137 = .ok (.istore 8, 2) := by decide +kernel
theorem dL_areHeld_139 : decode cL_areHeld 139 = .ok (.aload_n 3, 1) := by decide +kernel
theorem dL_areHeld_140 : decode cL_areHeld 140 = .ok (.iload 6, 2) := by decide +kernel
theorem dL_areHeld_142 : decode cL_areHeld 142 = .ok (.dup2, 1) := by decide +kernel
theorem dL_areHeld_143 : decode cL_areHeld 143 = .ok (.iaload, 1) := by decide +kernel
theorem dL_areHeld_144 : decode cL_areHeld 144 = .ok (.iload 7, 2) := by decide +kernel
theorem dL_areHeld_146 : decode cL_areHeld 146 = .ok (.ifCond .eq 7, 3) := by decide +kernel
theorem dL_areHeld_149 : decode cL_areHeld 149 = .ok (.iconst 1, 1) := by decide +kernel
theorem dL_areHeld_150 : decode cL_areHeld 150 = .ok (.goto 4, 3) := by decide +kernel
theorem dL_areHeld_153 : decode cL_areHeld 153 = .ok (.iconst 0, 1) := by decide +kernel
theorem dL_areHeld_154 : decode cL_areHeld 154 = .ok (.iadd, 1) := by decide +kernel
theorem dL_areHeld_155 : decode cL_areHeld 155 = .ok (.iastore, 1) := by decide +kernel
theorem dL_areHeld_156 : decode cL_areHeld 156 = .ok (.iload 7, 2) := by decide +kernel
theorem dL_areHeld_158 : decode cL_areHeld 158 = .ok (.ifCond .eq 18, 3) := by decide +kernel
theorem dL_areHeld_161 : decode cL_areHeld 161 = .ok (.iload 8, 2) := by decide +kernel
theorem dL_areHeld_163 : decode cL_areHeld 163 = .ok (.bipush 15, 2) := by decide +kernel
theorem dL_areHeld_165 : decode cL_areHeld 165 = .ok (.if_icmp .ne 7, 3) := by decide +kernel
theorem dL_areHeld_168 : decode cL_areHeld 168 = .ok (.iconst 1, 1) := by decide +kernel
theorem dL_areHeld_169 : decode cL_areHeld 169 = .ok (.goto 24, 3) := by decide +kernel
theorem dL_areHeld_172 : decode cL_areHeld 172 = .ok (.iconst 0, 1) := by decide +kernel
theorem dL_areHeld_173 : decode cL_areHeld 173 = .ok (.goto 20, 3) := by decide +kernel
theorem dL_areHeld_176 : decode cL_areHeld 176 = .ok (.iload 8, 2) := by decide +kernel
theorem dL_areHeld_178 : decode cL_areHeld 178 = .ok (.ifCond .lt 14, 3) := by decide +kernel
theorem dL_areHeld_181 : decode cL_areHeld 181 = .ok (.iload 8, 2) := by decide +kernel
theorem dL_areHeld_183 : decode cL_areHeld 183 = .ok (.bipush 15, 2) := by decide +kernel
theorem dL_areHeld_185 : decode cL_areHeld 185 = .ok (.if_icmp .ge 7, 3) := by decide +kernel
theorem dL_areHeld_188 : decode cL_areHeld 188 = .ok (.iconst 1, 1) := by decide +kernel
theorem dL_areHeld_189 : decode cL_areHeld 189 = .ok (.goto 4, 3) := by decide +kernel
theorem dL_areHeld_192 : decode cL_areHeld 192 = .ok (.iconst 0, 1) := by decide +kernel
theorem dL_areHeld_193 : decode cL_areHeld 193 = .ok (.istore_n 2, 1) := by decide +kernel
theorem dL_areHeld_194 : decode cL_areHeld 194 = .ok (.iinc 6 1, 3) := by decide +kernel
theorem dL_areHeld_197 : decode cL_areHeld 197 = .ok (.goto (-97), 3) := by decide +kernel
theorem dL_areHeld_200 : decode cL_areHeld 200 = .ok (.iinc 4 1, 3) := by decide +kernel
theorem dL_areHeld_203 : decode cL_areHeld 203 = .ok (.goto (-179), 3) := by decide +kernel
theorem dL_areHeld_206 : decode cL_areHeld 206 = .ok (.iconst 0, 1) := by decide +kernel
theorem dL_areHeld_207 : decode cL_areHeld 207 = .ok (.istore 4, 2) := by decide +kernel
theorem dL_areHeld_209 : decode cL_areHeld 209 = .ok (.iload 4, 2) := by decide +kernel
theorem dL_areHeld_211 : decode cL_areHeld 211 = .ok (.aload_n 1, 1) := by decide +kernel
theorem dL_areHeld_212 : decode cL_areHeld 212 = .ok (.iconst 0, 1) := by decide +kernel
theorem dL_areHeld_213 : decode cL_areHeld 213 = .ok (.iaload, 1) := by decide +kernel
theorem dL_areHeld_214 : decode cL_areHeld 214 = .ok (.if_icmp .ge 40, 3) := by decide +kernel
theorem dL_areHeld_217 : decode cL_areHeld 217 = .ok (.iload_n 2, 1) := by decide +kernel
theorem dL_areHeld_218 : decode cL_areHeld 218 = .ok (.ifCond .eq 36, 3) := by decide +kernel
theorem dL_areHeld_221 : decode cL_areHeld 221 = .ok (.aload_n 1, 1) := by decide +kernel
theorem dL_areHeld_222 : decode cL_areHeld 222 = .ok (.iconst 1, 1) := by decide +kernel
theorem dL_areHeld_223 : decode cL_areHeld 223 = .ok (.iaload, 1) := by decide +kernel
theorem dL_areHeld_224 : decode cL_areHeld 224 = .ok (.iload 4, 2) := by decide +kernel
theorem dL_areHeld_226 : decode cL_areHeld 226 = .ok (.ishr, 1) := by decide +kernel
theorem dL_areHeld_227 : decode cL_areHeld 227 = .ok (.iconst 1, 1) := by decide +kernel
theorem dL_areHeld_228 : decode cL_areHeld 228 = .ok (.iand, 1) := by decide +kernel
theorem dL_areHeld_229 : decode cL_areHeld 229 = .ok (.ifCond .eq 13, 3) := by decide +kernel
theorem dL_areHeld_232 : decode cL_areHeld 232 = .ok (.aload_n 0, 1) := by decide +kernel
theorem dL_areHeld_233 : decode cL_areHeld 233 = .ok (.aload_n 1, 1) := by decide +kernel
theorem dL_areHeld_234 : decode cL_areHeld 234 = .ok (.iload 4, 2) := by decide +kernel
theorem dL_areHeld_236 : decode cL_areHeld 236 = .ok (.invokestatic 49, 3) := by decide +kernel
theorem dL_areHeld_239 : decode cL_areHeld 239 = .ok (.ifCond .eq 7, 3) := by decide +kernel
theorem dL_areHeld_242 : decode cL_areHeld 242 = .ok (.iconst 1, 1) := by decide +kernel
theorem dL_areHeld_243 : decode cL_areHeld 243 = .ok (.goto 4, 3) := by decide +kernel
theorem dL_areHeld_246 : decode cL_areHeld 246 = .ok (.iconst 0, 1) := by decide +kernel
theorem dL_areHeld_247 : decode cL_areHeld 247 = .ok (.istore_n 2, 1) := by decide +kernel
theorem dL_areHeld_248 : decode cL_areHeld 248 = .ok (.iinc 4 1, 3) := by decide +kernel
theorem dL_areHeld_251 : decode cL_areHeld 251 = .ok (.goto (-42), 3) := by decide +kernel
theorem dL_areHeld_254 : decode cL_areHeld 254 = .ok (.iconst 0, 1) := by decide +kernel
theorem dL_areHeld_255 : decode cL_areHeld 255 = .ok (.istore 4, 2) := by decide +kernel
theorem dL_areHeld_257 : decode cL_areHeld 257 = .ok (.iload 4, 2) := by decide +kernel
theorem dL_areHeld_259 : decode cL_areHeld 259 = .ok (.bipush 12, 2) := by decide +kernel
theorem dL_areHeld_261 : decode cL_areHeld 261 = .ok (.if_icmp .ge 32, 3) := by decide +kernel
theorem dL_areHeld_264 : decode cL_areHeld 264 = .ok (.iload_n 2, 1) := by decide +kernel
theorem dL_areHeld_265 : decode cL_areHeld 265 = .ok (.ifCond .eq 28, 3) := by decide +kernel
theorem dL_areHeld_268 : decode cL_areHeld 268 = .ok (.aload_n 0, 1) := by decide +kernel
theorem dL_areHeld_269 : decode cL_areHeld 269 = .ok (.iload 4, 2) := by decide +kernel
theorem dL_areHeld_271 : decode cL_areHeld 271 = .ok (.invokevirtual 89, 3) := by decide +kernel
theorem dL_areHeld_274 : decode cL_areHeld 274 = .ok (.aload_n 3, 1) := by decide +kernel
theorem dL_areHeld_275 : decode cL_areHeld 275 = .ok (.iload 4, 2) := by decide +kernel
theorem dL_areHeld_277 : decode cL_areHeld 277 = .ok (.iaload, 1) := by decide +kernel
theorem dL_areHeld_278 : decode cL_areHeld 278 = .ok (.if_icmp .ne 7, 3) := by decide +kernel
theorem dL_areHeld_281 : decode cL_areHeld 281 = .ok (.iconst 1, 1) := by decide +kernel
theorem dL_areHeld_282 : decode cL_areHeld 282 = .ok (.goto 4, 3) := by decide +kernel
theorem dL_areHeld_285 : decode cL_areHeld 285 = .ok (.iconst 0, 1) := by decide +kernel
theorem dL_areHeld_286 : decode cL_areHeld 286 = .ok (.istore_n 2, 1) := by decide +kernel
theorem dL_areHeld_287 : decode cL_areHeld 287 = .ok (.iinc 4 1, 3) := by decide +kernel
theorem dL_areHeld_290 : decode cL_areHeld 290 = .ok (.goto (-33), 3) := by decide +kernel
theorem dL_areHeld_293 : decode cL_areHeld 293 = .ok (.iload_n 2, 1) := by decide +kernel
theorem dL_areHeld_294 : decode cL_areHeld 294 = .ok (.ireturn, 1) := by decide +kernel
theorem dL_areBans_0 : decode cL_areBans 0 = .ok (.aload_n 1, 1) := by decide +kernel
theorem dL_areBans_1 : decode cL_areBans 1 = .ok (.iconst 1, 1) := by decide +kernel
theorem dL_areBans_2 : decode cL_areBans 2 = .ok (.iaload, 1) := by decide +kernel
theorem dL_areBans_3 : decode cL_areBans 3 = .ok (.iload_n 2, 1) := by decide +kernel
theorem dL_areBans_4 : decode cL_areBans 4 = .ok (.ishr, 1) := by decide +kernel
theorem dL_areBans_5 : decode cL_areBans 5 = .ok (.iconst 1, 1) := by decide +kernel
theorem dL_areBans_6 : decode cL_areBans 6 = .ok (.iand, 1) := by decide +kernel
theorem dL_areBans_7 : decode cL_areBans 7 = .ok (.iconst 1, 1) := by decide +kernel
theorem dL_areBans_8 : decode cL_areBans 8 = .ok (.if_icmp .ne 18, 3) := by decide +kernel
theorem dL_areBans_11 : decode cL_areBans 11 = .ok (.aload_n 1, 1) := by decide +kernel
theorem dL_areBans_12 : decode cL_areBans 12 = .ok (.iconst 1, 1) := by decide +kernel
theorem dL_areBans_13 : decode cL_areBans 13 = .ok (.iaload, 1) := by decide +kernel
theorem dL_areBans_14 : decode cL_areBans 14 = .ok (.iload_n 3, 1) := by decide +kernel
theorem dL_areBans_15 : decode cL_areBans 15 = .ok (.ishr, 1) := by decide +kernel
theorem dL_areBans_16 : decode cL_areBans 16 = .ok (.iconst 1, 1) := by decide +kernel
theorem dL_areBans_17 : decode cL_areBans 17 = .ok (.iand, 1) := by decide +kernel
theorem dL_areBans_18 : decode cL_areBans 18 = .ok (.iconst 1, 1) := by decide +kernel
theorem dL_areBans_19 : decode cL_areBans 19 = .ok (.if_icmp .ne 7, 3) := by decide +kernel
theorem dL_areBans_22 : decode cL_areBans 22 = .ok (.iconst 1, 1) := by decide +kernel
theorem dL_areBans_23 : decode cL_areBans 23 = .ok (.goto 4, 3) := by decide +kernel
theorem dL_areBans_26 : decode cL_areBans 26 = .ok (.iconst 0, 1) := by decide +kernel
theorem dL_areBans_27 : decode cL_areBans 27 = .ok (.istore 4, 2) := by decide +kernel
theorem dL_areBans_29 : decode cL_areBans 29 = .ok (.iload 4, 2) := by decide +kernel
theorem dL_areBans_31 : decode cL_areBans 31 = .ok (.ifCond .eq 59, 3) := by decide +kernel
theorem dL_areBans_34 : decode cL_areBans 34 = .ok (.aload_n 0, 1) := by decide +kernel
theorem dL_areBans_35 : decode cL_areBans 35 = .ok (.iload_n 2, 1) := by decide +kernel
theorem dL_areBans_36 : decode cL_areBans 36 = .ok (.iload_n 3, 1) := by decide +kernel
theorem dL_areBans_37 : decode cL_areBans 37 = .ok (.invokevirtual 80, 3) := by decide +kernel
theorem dL_areBans_40 : decode cL_areBans 40 = .ok (.ifCond .lt 54, 3) := by decide +kernel
theorem dL_areBans_43 : decode cL_areBans 43 = .ok (.aload_n 0, 1) := by decide +kernel
theorem dL_areBans_44 : decode cL_areBans 44 = .ok (.iload_n 2, 1) := by decide +kernel
theorem dL_areBans_45 : decode cL_areBans 45 = .ok (.iload_n 3, 1) := by decide +kernel
theorem dL_areBans_46 : decode cL_areBans 46 = .ok (.invokevirtual 63, 3) := by decide +kernel
theorem dL_areBans_49 : decode cL_areBans 49 = .ok (.ifCond .eq 13, 3) := by decide +kernel
theorem dL_areBans_52 : decode cL_areBans 52 = .ok (.aload_n 0, 1) := by decide +kernel
theorem dL_areBans_53 : decode cL_areBans 53 = .ok (.iload_n 2, 1) := by decide +kernel
theorem dL_areBans_54 : decode cL_areBans 54 = .ok (.iload_n 3, 1) := by decide +kernel
theorem dL_areBans_55 : decode cL_areBans 55 = .ok (.invokevirtual 80, 3) := by decide +kernel
theorem dL_areBans_58 : decode cL_areBans 58 = .ok (.iconst 1, 1) := by decide +kernel
theorem dL_areBans_59 : decode cL_areBans 59 = .ok (.if_icmp .lt 35, 3) := by decide +kernel
theorem dL_areBans_62 : decode cL_areBans 62 = .ok (.aload_n 0, 1) := by decide +kernel
theorem dL_areBans_63 : decode cL_areBans 63 = .ok (.iload_n 2, 1) := by decide +kernel
theorem dL_areBans_64 : decode cL_areBans 64 = .ok (.iload_n 3, 1) := by decide +kernel
theorem dL_areBans_65 : decode cL_areBans 65 = .ok (.invokevirtual 63, 3) := by decide +kernel
theorem dL_areBans_68 : decode cL_areBans 68 = .ok (.ifCond .ne 13, 3) := by decide +kernel
theorem dL_areBans_71 : decode cL_areBans 71 = .ok (.aload_n 0, 1) := by decide +kernel
theorem dL_areBans_72 : decode cL_areBans 72 = .ok (.iload_n 2, 1) := by decide +kernel
theorem dL_areBans_73 : decode cL_areBans 73 = .ok (.iload_n 3, 1) := by decide +kernel
theorem dL_areBans_74 : decode cL_areBans 74 = .ok (.invokevirtual 80, 3) := by decide +kernel
theorem dL_areBans_77 : decode cL_areBans 77 = .ok (.iconst 3, 1) := by decide +kernel
theorem dL_areBans_78 : decode cL_areBans 78 = .ok (.if_icmp .ge 16, 3) := by decide +kernel
theorem dL_areBans_81 : decode cL_areBans 81 = .ok (.aload_n 0, 1) := by decide +kernel
theorem dL_areBans_82 : decode cL_areBans 82 = .ok (.aload_n 1, 1) := by decide +kernel
theorem dL_areBans_83 : decode cL_areBans 83 = .ok (.iload_n 2, 1) := by decide +kernel
theorem dL_areBans_84 : decode cL_areBans 84 = .ok (.invokestatic 92, 3) := by decide +kernel
theorem dL_areBans_87 : decode cL_areBans 87 = .ok (.ifCond .eq 7, 3) := by decide +kernel
theorem dL_areBans_90 : decode cL_areBans 90 = .ok (.iconst 1, 1) := by decide +kernel
theorem dL_areBans_91 : decode cL_areBans 91 = .ok (.goto 4, 3) := by decide +kernel
theorem dL_areBans_94 : decode cL_areBans 94 = .ok (.iconst 0, 1) := by decide +kernel
theorem dL_areBans_95 : decode cL_areBans 95 = .ok (.ireturn, 1) := by decide +kernel
theorem dL_law_0 : decode cL_law 0 = .ok (.new 11, 3) := by decide +kernel
theorem dL_law_3 : decode cL_law 3 = .ok (.dup, 1) := by decide +kernel
theorem dL_law_4 : decode cL_law 4 = .ok (.invokespecial 95, 3) := by decide +kernel
theorem dL_law_7 : decode cL_law 7 = .ok (.astore_n 1, 1) := by decide +kernel
theorem dL_law_8 : decode cL_law 8 = .ok (.bipush 29, 2) := by decide +kernel
theorem dL_law_10 : decode cL_law 10 = .ok (.newarray .int, 2) := by decide +kernel
theorem dL_law_12 : decode cL_law 12 = .ok (.astore_n 2, 1) := by decide +kernel
theorem dL_law_13 : decode cL_law 13 = .ok (.iconst 0, 1) := by decide +kernel
theorem dL_law_14 : decode cL_law 14 = .ok (.istore_n 3, 1) := by decide +kernel
theorem dL_law_15 : decode cL_law 15 = .ok (.iload_n 3, 1) := by decide +kernel
theorem dL_law_16 : decode cL_law 16 = .ok (.bipush 12, 2) := by decide +kernel
theorem dL_law_18 : decode cL_law 18 = .ok (.if_icmp .ge 15, 3) := by decide +kernel
theorem dL_law_21 : decode cL_law 21 = .ok (.aload_n 2, 1) := by decide +kernel
theorem dL_law_22 : decode cL_law 22 = .ok (.iconst 3, 1) := by decide +kernel
theorem dL_law_23 : decode cL_law 23 = .ok (.iload_n 3, 1) := by decide +kernel
theorem dL_law_24 : decode cL_law 24 = .ok (.iadd, 1) := by decide +kernel
theorem dL_law_25 : decode cL_law 25 = .ok (.iconst 1, 1) := by decide +kernel
theorem dL_law_26 : decode cL_law 26 = .ok (.iastore, 1) := by decide +kernel
theorem dL_law_27 : decode cL_law 27 = .ok (.iinc 3 1, 3) := by decide +kernel
theorem dL_law_30 : decode cL_law 30 = .ok (.goto (-15), 3) := by decide +kernel
theorem dL_law_33 : decode cL_law 33 = .ok (.aload_n 1, 1) := by decide +kernel
theorem dL_law_34 : decode cL_law 34 = .ok (.invokevirtual 10, 3) := by decide +kernel
theorem dL_law_37 : decode cL_law 37 = .ok (.ifCond .ne 23, 3) := by decide +kernel
theorem dL_law_40 : decode cL_law 40 = .ok (.aload_n 1, 1) := by decide +kernel
theorem dL_law_41 : decode cL_law 41 = .ok (.invokevirtual 74, 3) := by decide +kernel
theorem dL_law_44 : decode cL_law 44 = .ok (.ifCond .ne 16, 3) := by decide +kernel
theorem dL_law_47 : decode cL_law 47 = .ok (.aload_n 1, 1) := by decide +kernel
theorem dL_law_48 : decode cL_law 48 = .ok (.bipush 11, 2) := by decide +kernel
theorem dL_law_50 : decode cL_law 50 = .ok (.invokevirtual 89, 3) := by decide +kernel
theorem dL_law_53 : decode cL_law 53 = .ok (.ifCond .ne 7, 3) := by decide +kernel
theorem dL_law_56 : decode cL_law 56 = .ok (.iconst 1, 1) := by decide +kernel
theorem dL_law_57 : decode cL_law 57 = .ok (.goto 4, 3) := by decide +kernel
theorem dL_law_60 : decode cL_law 60 = .ok (.iconst 0, 1) := by decide +kernel
theorem dL_law_61 : decode cL_law 61 = .ok (.istore_n 3, 1) := by decide +kernel
theorem dL_law_62 : decode cL_law 62 = .ok (.aload_n 0, 1) := by decide +kernel
theorem dL_law_63 : decode cL_law 63 = .ok (.arraylength, 1) := by decide +kernel
theorem dL_law_64 : decode cL_law 64 = .ok (.iconst 3, 1) := by decide +kernel
theorem dL_law_65 : decode cL_law 65 = .ok (.idiv, 1) := by decide +kernel
theorem dL_law_66 : decode cL_law 66 = .ok (.bipush 60, 2) := by decide +kernel
theorem dL_law_68 : decode cL_law 68 = .ok (.if_icmp .le 8, 3) := by decide +kernel
theorem dL_law_71 : decode cL_law 71 = .ok (.bipush 60, 2) := by decide +kernel
theorem dL_law_73 : decode cL_law 73 = .ok (.goto 7, 3) := by decide +kernel
theorem dL_law_76 : decode cL_law 76 = .ok (.aload_n 0, 1) := by decide +kernel
theorem dL_law_77 : decode cL_law 77 = .ok (.arraylength, 1) := by decide +kernel
theorem dL_law_78 : decode cL_law 78 = .ok (.iconst 3, 1) := by decide +kernel
theorem dL_law_79 : decode cL_law 79 = .ok (.idiv, 1) := by decide +kernel
theorem dL_law_80 : decode cL_law 80 = .ok (.istore 4, 2) := by decide +kernel
theorem dL_law_82 : decode cL_law 82 = .ok (.iconst 0, 1) := by decide +kernel
theorem dL_law_83 : decode cL_law 83 = .ok (.istore 5, 2) := by decide +kernel
theorem dL_law_85 : decode cL_law 85 = .ok (.iload 5, 2) := by decide +kernel
theorem dL_law_87 : decode cL_law 87 = .ok (.iload 4, 2) := by decide +kernel
theorem dL_law_89 : decode cL_law 89 = .ok (.if_icmp .ge 97, 3) := by decide +kernel
theorem dL_law_92 : decode cL_law 92 = .ok (.iload_n 3, 1) := by decide +kernel
theorem dL_law_93 : decode cL_law 93 = .ok (.ifCond .eq 93, 3) := by decide +kernel
theorem dL_law_96 : decode cL_law 96 = .ok (.aload_n 0, 1) := by decide +kernel
theorem dL_law_97 : decode cL_law 97 = .ok (.iconst 3, 1) := by decide +kernel
theorem dL_law_98 : decode cL_law 98 = .ok (.iload 5, 2) := by decide +kernel
theorem dL_law_100 : decode cL_law 100 = .ok (.imul, 1) := by decide +kernel
theorem dL_law_101 : decode cL_law 101 = .ok (.iconst 1, 1) := by decide +kernel
theorem dL_law_102 : decode cL_law 102 = .ok (.iadd, 1) := by decide +kernel
theorem dL_law_103 : decode cL_law 103 = .ok (.invokestatic 96, 3) := by decide +kernel
theorem dL_law_106 : decode cL_law 106 = .ok (.istore 6, 2) := by decide +kernel
theorem dL_law_108 : decode cL_law 108 = .ok (.aload_n 0, 1) := by decide +kernel
theorem dL_law_109 : decode cL_law 109 = .ok (.iconst 3, 1) := by decide +kernel
theorem dL_law_110 : decode cL_law 110 = .ok (.iload 5, 2) := by decide +kernel
theorem dL_law_112 : decode cL_law 112 = .ok (.imul, 1) := by decide +kernel
theorem dL_law_113 : decode cL_law 113 = .ok (.iconst 2, 1) := by decide +kernel
theorem dL_law_114 : decode cL_law 114 = .ok (.iadd, 1) := by decide +kernel
theorem dL_law_115 : decode cL_law 115 = .ok (.invokestatic 96, 3) := by decide +kernel
theorem dL_law_118 : decode cL_law 118 = .ok (.istore 7, 2) := by decide +kernel
theorem dL_law_120 : decode cL_law 120 = .ok (.aload_n 1, 1) := by decide +kernel
theorem dL_law_121 : decode cL_law 121 = .ok (.aload_n 2, 1) := by decide +kernel
theorem dL_law_122 : decode cL_law 122 = .ok (.aload_n 0, 1) := by decide +kernel
theorem dL_law_123 : decode cL_law 123 = .ok (.iconst 3, 1) := by decide +kernel
theorem dL_law_124 : decode cL_law 124 = .ok (.iload 5, 2) := by decide +kernel
theorem dL_law_126 : decode cL_law 126 = .ok (.imul, 1) := by decide +kernel
theorem dL_law_127 : decode cL_law 127 = .ok (.invokestatic 96, 3) := by decide +kernel
theorem dL_law_130 : decode cL_law 130 = .ok (.iload 6, 2) := by decide +kernel
theorem dL_law_132 : decode cL_law 132 = .ok (.iload 7, 2) := by decide +kernel
theorem dL_law_134 : decode cL_law 134 = .ok (.invokestatic 100, 3) := by decide +kernel
theorem dL_law_137 : decode cL_law 137 = .ok (.ifCond .eq 41, 3) := by decide +kernel
theorem dL_law_140 : decode cL_law 140 = .ok (.aload_n 1, 1) := by decide +kernel
theorem dL_law_141 : decode cL_law 141 = .ok (.aload_n 2, 1) := by decide +kernel
theorem dL_law_142 : decode cL_law 142 = .ok (.invokestatic 104, 3) := by decide +kernel
theorem dL_law_145 : decode cL_law 145 = .ok (.ifCond .eq 33, 3) := by decide +kernel
theorem dL_law_148 : decode cL_law 148 = .ok (.aload_n 2, 1) := by decide +kernel
theorem dL_law_149 : decode cL_law 149 = .ok (.iconst 0, 1) := by decide +kernel
theorem dL_law_150 : decode cL_law 150 = .ok (.iaload, 1) := by decide +kernel
theorem dL_law_151 : decode cL_law 151 = .ok (.ifCond .eq 23, 3) := by decide +kernel
theorem dL_law_154 : decode cL_law 154 = .ok (.aload_n 1, 1) := by decide +kernel
theorem dL_law_155 : decode cL_law 155 = .ok (.aload_n 2, 1) := by decide +kernel
theorem dL_law_156 : decode cL_law 156 = .ok (.iload 6, 2) := by decide +kernel
theorem dL_law_158 : decode cL_law 158 = .ok (.aload_n 2, 1) := by decide +kernel
theorem dL_law_159 : decode cL_law 159 = .ok (.iconst 0, 1) := by decide +kernel
theorem dL_law_160 : decode cL_law 160 = .ok (.iaload, 1) := by decide +kernel
theorem dL_law_161 : decode cL_law 161 = .ok (.irem, 1) := by decide +kernel
theorem dL_law_162 : decode cL_law 162 = .ok (.iload 7, 2) := by decide +kernel
theorem dL_law_164 : decode cL_law 164 = .ok (.aload_n 2, 1) := by decide +kernel
theorem dL_law_165 : decode cL_law 165 = .ok (.iconst 0, 1) := by decide +kernel
theorem dL_law_166 : decode cL_law 166 = .ok (.iaload, 1) := by decide +kernel
theorem dL_law_167 : decode cL_law 167 = .ok (.irem, 1) := by decide +kernel
theorem dL_law_168 : decode cL_law 168 = .ok (.invokestatic 108, 3) := by decide +kernel
theorem dL_law_171 : decode cL_law 171 = .ok (.ifCond .eq 7, 3) := by decide +kernel
theorem dL_law_174 : decode cL_law 174 = .ok (.iconst 1, 1) := by decide +kernel
theorem dL_law_175 : decode cL_law 175 = .ok (.goto 4, 3) := by decide +kernel
theorem dL_law_178 : decode cL_law 178 = .ok (.iconst 0, 1) := by decide +kernel
theorem dL_law_179 : decode cL_law 179 = .ok (.istore_n 3, 1) := by decide +kernel
theorem dL_law_180 : decode cL_law 180 = .ok (.iinc 5 1, 3) := by decide +kernel
theorem dL_law_183 : decode cL_law 183 = .ok (.goto (-98), 3) := by decide +kernel
theorem dL_law_186 : decode cL_law 186 = .ok (.iload_n 3, 1) := by decide +kernel
theorem dL_law_187 : decode cL_law 187 = .ok (.ireturn, 1) := by decide +kernel
