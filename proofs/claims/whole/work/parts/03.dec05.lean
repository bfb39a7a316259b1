theorem dX10_puts_118 : decode cX10_puts 118 = .ok (.iload 5, 2) := by decide +kernel
theorem dX10_puts_120 : decode cX10_puts 120 = .ok (.ifCond .eq 15, 3) := by decide +kernel
theorem dX10_puts_123 : decode cX10_puts 123 = .ok (.aload_n 0, 1) := by decide +kernel
theorem dX10_puts_124 : decode cX10_puts 124 = .ok (.iload 4, 2) := by decide +kernel
theorem dX10_puts_126 : decode cX10_puts 126 = .ok (.aload_n 0, 1) := by decide +kernel
theorem dX10_puts_127 : decode cX10_puts 127 = .ok (.iload 4, 2) := by decide +kernel
theorem dX10_puts_129 : decode cX10_puts 129 = .ok (.invokevirtual 172, 3) := by decide +kernel
theorem dX10_puts_132 : decode cX10_puts 132 = .ok (.invokevirtual 175, 3) := by decide +kernel
theorem dX10_puts_135 : decode cX10_puts 135 = .ok (.aload_n 0, 1) := by decide +kernel
theorem dX10_puts_136 : decode cX10_puts 136 = .ok (.getfield 7, 3) := by decide +kernel
theorem dX10_puts_139 : decode cX10_puts 139 = .ok (.bipush 7, 2) := by decide +kernel
theorem dX10_puts_141 : decode cX10_puts 141 = .ok (.iaload, 1) := by decide +kernel
theorem dX10_puts_142 : decode cX10_puts 142 = .ok (.istore_n 3, 1) := by decide +kernel
theorem dX10_puts_143 : decode cX10_puts 143 = .ok (.aload_n 0, 1) := by decide +kernel
theorem dX10_puts_144 : decode cX10_puts 144 = .ok (.getfield 7, 3) := by decide +kernel
theorem dX10_puts_147 : decode cX10_puts 147 = .ok (.bipush 40, 2) := by decide +kernel
theorem dX10_puts_149 : decode cX10_puts 149 = .ok (.iload_n 3, 1) := by decide +kernel
theorem dX10_puts_150 : decode cX10_puts 150 = .ok (.iadd, 1) := by decide +kernel
theorem dX10_puts_151 : decode cX10_puts 151 = .ok (.iload_n 1, 1) := by decide +kernel
theorem dX10_puts_152 : decode cX10_puts 152 = .ok (.iastore, 1) := by decide +kernel
theorem dX10_puts_153 : decode cX10_puts 153 = .ok (.aload_n 0, 1) := by decide +kernel
theorem dX10_puts_154 : decode cX10_puts 154 = .ok (.getfield 7, 3) := by decide +kernel
theorem dX10_puts_157 : decode cX10_puts 157 = .ok (.sipush 340, 3) := by decide +kernel
theorem dX10_puts_160 : decode cX10_puts 160 = .ok (.iload_n 3, 1) := by decide +kernel
theorem dX10_puts_161 : decode cX10_puts 161 = .ok (.iadd, 1) := by decide +kernel
theorem dX10_puts_162 : decode cX10_puts 162 = .ok (.iload_n 2, 1) := by decide +kernel
theorem dX10_puts_163 : decode cX10_puts 163 = .ok (.iastore, 1) := by decide +kernel
theorem dX10_puts_164 : decode cX10_puts 164 = .ok (.aload_n 0, 1) := by decide +kernel
theorem dX10_puts_165 : decode cX10_puts 165 = .ok (.iload_n 3, 1) := by decide +kernel
theorem dX10_puts_166 : decode cX10_puts 166 = .ok (.iload 4, 2) := by decide +kernel
theorem dX10_puts_168 : decode cX10_puts 168 = .ok (.invokevirtual 199, 3) := by decide +kernel
theorem dX10_puts_171 : decode cX10_puts 171 = .ok (.aload_n 0, 1) := by decide +kernel
theorem dX10_puts_172 : decode cX10_puts 172 = .ok (.getfield 7, 3) := by decide +kernel
theorem dX10_puts_175 : decode cX10_puts 175 = .ok (.bipush 7, 2) := by decide +kernel
theorem dX10_puts_177 : decode cX10_puts 177 = .ok (.iload_n 3, 1) := by decide +kernel
theorem dX10_puts_178 : decode cX10_puts 178 = .ok (.iconst 1, 1) := by decide +kernel
theorem dX10_puts_179 : decode cX10_puts 179 = .ok (.iadd, 1) := by decide +kernel
theorem dX10_puts_180 : decode cX10_puts 180 = .ok (.iastore, 1) := by decide +kernel
theorem dX10_puts_181 : decode cX10_puts 181 = .ok (.aload_n 0, 1) := by decide +kernel
theorem dX10_puts_182 : decode cX10_puts 182 = .ok (.getfield 7, 3) := by decide +kernel
theorem dX10_puts_185 : decode cX10_puts 185 = .ok (.bipush 9, 2) := by decide +kernel
theorem dX10_puts_187 : decode cX10_puts 187 = .ok (.aload_n 0, 1) := by decide +kernel
theorem dX10_puts_188 : decode cX10_puts 188 = .ok (.getfield 7, 3) := by decide +kernel
theorem dX10_puts_191 : decode cX10_puts 191 = .ok (.bipush 9, 2) := by decide +kernel
theorem dX10_puts_193 : decode cX10_puts 193 = .ok (.iaload, 1) := by decide +kernel
theorem dX10_puts_194 : decode cX10_puts 194 = .ok (.iload 5, 2) := by decide +kernel
theorem dX10_puts_196 : decode cX10_puts 196 = .ok (.ifCond .eq 7, 3) := by decide +kernel
theorem dX10_puts_199 : decode cX10_puts 199 = .ok (.iconst 2, 1) := by decide +kernel
theorem dX10_puts_200 : decode cX10_puts 200 = .ok (.goto 4, 3) := by decide +kernel
theorem dX10_puts_203 : decode cX10_puts 203 = .ok (.iconst 1, 1) := by decide +kernel
theorem dX10_puts_204 : decode cX10_puts 204 = .ok (.iadd, 1) := by decide +kernel
theorem dX10_puts_205 : decode cX10_puts 205 = .ok (.iastore, 1) := by decide +kernel
theorem dX10_puts_206 : decode cX10_puts 206 = .ok (.aload_n 0, 1) := by decide +kernel
theorem dX10_puts_207 : decode cX10_puts 207 = .ok (.getfield 7, 3) := by decide +kernel
theorem dX10_puts_210 : decode cX10_puts 210 = .ok (.iconst 4, 1) := by decide +kernel
theorem dX10_puts_211 : decode cX10_puts 211 = .ok (.iaload, 1) := by decide +kernel
theorem dX10_puts_212 : decode cX10_puts 212 = .ok (.iconst 1, 1) := by decide +kernel
theorem dX10_puts_213 : decode cX10_puts 213 = .ok (.if_icmp .ne 24, 3) := by decide +kernel
theorem dX10_puts_216 : decode cX10_puts 216 = .ok (.aload_n 0, 1) := by decide +kernel
theorem dX10_puts_217 : decode cX10_puts 217 = .ok (.invokevirtual 223, 3) := by decide +kernel
theorem dX10_puts_220 : decode cX10_puts 220 = .ok (.aload_n 0, 1) := by decide +kernel
theorem dX10_puts_221 : decode cX10_puts 221 = .ok (.getfield 7, 3) := by decide +kernel
theorem dX10_puts_224 : decode cX10_puts 224 = .ok (.iconst 2, 1) := by decide +kernel
theorem dX10_puts_225 : decode cX10_puts 225 = .ok (.iaload, 1) := by decide +kernel
theorem dX10_puts_226 : decode cX10_puts 226 = .ok (.if_icmp .le 7, 3) := by decide +kernel
theorem dX10_puts_229 : decode cX10_puts 229 = .ok (.iconst 1, 1) := by decide +kernel
theorem dX10_puts_230 : decode cX10_puts 230 = .ok (.goto 27, 3) := by decide +kernel
theorem dX10_puts_233 : decode cX10_puts 233 = .ok (.iconst 0, 1) := by decide +kernel
theorem dX10_puts_234 : decode cX10_puts 234 = .ok (.goto 23, 3) := by decide +kernel
theorem dX10_puts_237 : decode cX10_puts 237 = .ok (.aload_n 0, 1) := by decide +kernel
theorem dX10_puts_238 : decode cX10_puts 238 = .ok (.getfield 7, 3) := by decide +kernel
theorem dX10_puts_241 : decode cX10_puts 241 = .ok (.iconst 4, 1) := by decide +kernel
theorem dX10_puts_242 : decode cX10_puts 242 = .ok (.iaload, 1) := by decide +kernel
theorem dX10_puts_243 : decode cX10_puts 243 = .ok (.iconst 2, 1) := by decide +kernel
theorem dX10_puts_244 : decode cX10_puts 244 = .ok (.if_icmp .ne 12, 3) := by decide +kernel
theorem dX10_puts_247 : decode cX10_puts 247 = .ok (.iload 5, 2) := by decide +kernel
theorem dX10_puts_249 : decode cX10_puts 249 = .ok (.ifCond .eq 7, 3) := by decide +kernel
theorem dX10_puts_252 : decode cX10_puts 252 = .ok (.iconst 1, 1) := by decide +kernel
theorem dX10_puts_253 : decode cX10_puts 253 = .ok (.goto 4, 3) := by decide +kernel
theorem dX10_puts_256 : decode cX10_puts 256 = .ok (.iconst 0, 1) := by decide +kernel
theorem dX10_puts_257 : decode cX10_puts 257 = .ok (.istore 6, 2) := by decide +kernel
theorem dX10_puts_259 : decode cX10_puts 259 = .ok (.iload 6, 2) := by decide +kernel
theorem dX10_puts_261 : decode cX10_puts 261 = .ok (.ifCond .eq 17, 3) := by decide +kernel
theorem dX10_puts_264 : decode cX10_puts 264 = .ok (.aload_n 0, 1) := by decide +kernel
theorem dX10_puts_265 : decode cX10_puts 265 = .ok (.invokevirtual 178, 3) := by decide +kernel
theorem dX10_puts_268 : decode cX10_puts 268 = .ok (.bipush 64, 2) := by decide +kernel
theorem dX10_puts_270 : decode cX10_puts 270 = .ok (.if_icmp .ge 8, 3) := by decide +kernel
theorem dX10_puts_273 : decode cX10_puts 273 = .ok (.aload_n 0, 1) := by decide +kernel
theorem dX10_puts_274 : decode cX10_puts 274 = .ok (.invokevirtual 205, 3) := by decide +kernel
theorem dX10_puts_277 : decode cX10_puts 277 = .ok (.pop, 1) := by decide +kernel
theorem dX10_puts_278 : decode cX10_puts 278 = .ok (.iconst 0, 1) := by decide +kernel
theorem dX10_puts_279 : decode cX10_puts 279 = .ok (.ireturn, 1) := by decide +kernel
theorem dX10_put_0 : decode cX10_put 0 = .ok (.iload_n 1, 1) := by decide +kernel
theorem dX10_put_1 : decode cX10_put 1 = .ok (.invokestatic 226, 3) := by decide +kernel
theorem dX10_put_4 : decode cX10_put 4 = .ok (.ifCond .eq 23, 3) := by decide +kernel
theorem dX10_put_7 : decode cX10_put 7 = .ok (.iload_n 2, 1) := by decide +kernel
theorem dX10_put_8 : decode cX10_put 8 = .ok (.iconst 0, 1) := by decide +kernel
theorem dX10_put_9 : decode cX10_put 9 = .ok (.sipush 255, 3) := by decide +kernel
theorem dX10_put_12 : decode cX10_put 12 = .ok (.invokestatic 67, 3) := by decide +kernel
theorem dX10_put_15 : decode cX10_put 15 = .ok (.ifCond .eq 12, 3) := by decide +kernel
theorem dX10_put_18 : decode cX10_put 18 = .ok (.aload_n 0, 1) := by decide +kernel
theorem dX10_put_19 : decode cX10_put 19 = .ok (.iload_n 1, 1) := by decide +kernel
theorem dX10_put_20 : decode cX10_put 20 = .ok (.iload_n 2, 1) := by decide +kernel
theorem dX10_put_21 : decode cX10_put 21 = .ok (.invokevirtual 229, 3) := by decide +kernel
theorem dX10_put_24 : decode cX10_put 24 = .ok (.goto 4, 3) := by decide +kernel
theorem dX10_put_27 : decode cX10_put 27 = .ok (.iconst (-1), 1) := by decide +kernel
theorem dX10_put_28 : decode cX10_put 28 = .ok (.ireturn, 1) := by decide +kernel
theorem dX10_finds0_0 : decode cX10_finds0 0 = .ok (.aload_n 0, 1) := by decide +kernel
theorem dX10_finds0_1 : decode cX10_finds0 1 = .ok (.iconst 0, 1) := by decide +kernel
theorem dX10_finds0_2 : decode cX10_finds0 2 = .ok (.iload_n 1, 1) := by decide +kernel
theorem dX10_finds0_3 : decode cX10_finds0 3 = .ok (.invokevirtual 211, 3) := by decide +kernel
theorem dX10_finds0_6 : decode cX10_finds0 6 = .ok (.istore_n 2, 1) := by decide +kernel
theorem dX10_finds0_7 : decode cX10_finds0 7 = .ok (.aload_n 0, 1) := by decide +kernel
theorem dX10_finds0_8 : decode cX10_finds0 8 = .ok (.getfield 7, 3) := by decide +kernel
theorem dX10_finds0_11 : decode cX10_finds0 11 = .ok (.bipush 8, 2) := by decide +kernel
theorem dX10_finds0_13 : decode cX10_finds0 13 = .ok (.aload_n 0, 1) := by decide +kernel
theorem dX10_finds0_14 : decode cX10_finds0 14 = .ok (.getfield 7, 3) := by decide +kernel
theorem dX10_finds0_17 : decode cX10_finds0 17 = .ok (.bipush 8, 2) := by decide +kernel
theorem dX10_finds0_19 : decode cX10_finds0 19 = .ok (.iaload, 1) := by decide +kernel
theorem dX10_finds0_20 : decode cX10_finds0 20 = .ok (.aload_n 0, 1) := by decide +kernel
theorem dX10_finds0_21 : decode cX10_finds0 21 = .ok (.iload_n 1, 1) := by decide +kernel
theorem dX10_finds0_22 : decode cX10_finds0 22 = .ok (.invokevirtual 220, 3) := by decide +kernel
theorem dX10_finds0_25 : decode cX10_finds0 25 = .ok (.iadd, 1) := by decide +kernel
theorem dX10_finds0_26 : decode cX10_finds0 26 = .ok (.iastore, 1) := by decide +kernel
theorem dX10_finds0_27 : decode cX10_finds0 27 = .ok (.iload_n 2, 1) := by decide +kernel
theorem dX10_finds0_28 : decode cX10_finds0 28 = .ok (.iconst (-1), 1) := by decide +kernel
theorem dX10_finds0_29 : decode cX10_finds0 29 = .ok (.if_icmp .ne 8, 3) := by decide +kernel
theorem dX10_finds0_32 : decode cX10_finds0 32 = .ok (.bipush (-2), 2) := by decide +kernel
theorem dX10_finds0_34 : decode cX10_finds0 34 = .ok (.goto 13, 3) := by decide +kernel
theorem dX10_finds0_37 : decode cX10_finds0 37 = .ok (.aload_n 0, 1) := by decide +kernel
theorem dX10_finds0_38 : decode cX10_finds0 38 = .ok (.getfield 7, 3) := by decide +kernel
theorem dX10_finds0_41 : decode cX10_finds0 41 = .ok (.sipush 340, 3) := by decide +kernel
theorem dX10_finds0_44 : decode cX10_finds0 44 = .ok (.iload_n 2, 1) := by decide +kernel
theorem dX10_finds0_45 : decode cX10_finds0 45 = .ok (.iadd, 1) := by decide +kernel
theorem dX10_finds0_46 : decode cX10_finds0 46 = .ok (.iaload, 1) := by decide +kernel
theorem dX10_finds0_47 : decode cX10_finds0 47 = .ok (.ireturn, 1) := by decide +kernel
theorem dX10_find_0 : decode cX10_find 0 = .ok (.iload_n 1, 1) := by decide +kernel
theorem dX10_find_1 : decode cX10_find 1 = .ok (.invokestatic 226, 3) := by decide +kernel
theorem dX10_find_4 : decode cX10_find 4 = .ok (.ifCond .eq 11, 3) := by decide +kernel
theorem dX10_find_7 : decode cX10_find 7 = .ok (.aload_n 0, 1) := by decide +kernel
theorem dX10_find_8 : decode cX10_find 8 = .ok (.iload_n 1, 1) := by decide +kernel
theorem dX10_find_9 : decode cX10_find 9 = .ok (.invokevirtual 232, 3) := by decide +kernel
theorem dX10_find_12 : decode cX10_find 12 = .ok (.goto 4, 3) := by decide +kernel
theorem dX10_find_15 : decode cX10_find 15 = .ok (.iconst (-1), 1) := by decide +kernel
theorem dX10_find_16 : decode cX10_find 16 = .ok (.ireturn, 1) := by decide +kernel
theorem dX10_leaves_0 : decode cX10_leaves 0 = .ok (.aload_n 0, 1) := by decide +kernel
theorem dX10_leaves_1 : decode cX10_leaves 1 = .ok (.getfield 7, 3) := by decide +kernel
theorem dX10_leaves_4 : decode cX10_leaves 4 = .ok (.bipush 7, 2) := by decide +kernel
theorem dX10_leaves_6 : decode cX10_leaves 6 = .ok (.iaload, 1) := by decide +kernel
theorem dX10_leaves_7 : decode cX10_leaves 7 = .ok (.iconst 1, 1) := by decide +kernel
theorem dX10_leaves_8 : decode cX10_leaves 8 = .ok (.isub, 1) := by decide +kernel
theorem dX10_leaves_9 : decode cX10_leaves 9 = .ok (.istore_n 2, 1) := by decide +kernel
theorem dX10_leaves_10 : decode cX10_leaves 10 = .ok (.aload_n 0, 1) := by decide +kernel
theorem dX10_leaves_11 : decode cX10_leaves 11 = .ok (.getfield 7, 3) := by decide +kernel
theorem dX10_leaves_14 : decode cX10_leaves 14 = .ok (.bipush 40, 2) := by decide +kernel
theorem dX10_leaves_16 : decode cX10_leaves 16 = .ok (.iload_n 1, 1) := by decide +kernel
theorem dX10_leaves_17 : decode cX10_leaves 17 = .ok (.iadd, 1) := by decide +kernel
theorem dX10_leaves_18 : decode cX10_leaves 18 = .ok (.aload_n 0, 1) := by decide +kernel
theorem dX10_leaves_19 : decode cX10_leaves 19 = .ok (.getfield 7, 3) := by decide +kernel
theorem dX10_leaves_22 : decode cX10_leaves 22 = .ok (.bipush 40, 2) := by decide +kernel
theorem dX10_leaves_24 : decode cX10_leaves 24 = .ok (.iload_n 2, 1) := by decide +kernel
theorem dX10_leaves_25 : decode cX10_leaves 25 = .ok (.iadd, 1) := by decide +kernel
theorem dX10_leaves_26 : decode cX10_leaves 26 = .ok (.iaload, 1) := by decide +kernel
theorem dX10_leaves_27 : decode cX10_leaves 27 = .ok (.iastore, 1) := by decide +kernel
theorem dX10_leaves_28 : decode cX10_leaves 28 = .ok (.aload_n 0, 1) := by decide +kernel
theorem dX10_leaves_29 : decode cX10_leaves 29 = .ok (.getfield 7, 3) := by decide +kernel
theorem dX10_leaves_32 : decode cX10_leaves 32 = .ok (.sipush 340, 3) := by decide +kernel
theorem dX10_leaves_35 : decode cX10_leaves 35 = .ok (.iload_n 1, 1) := by decide +kernel
theorem dX10_leaves_36 : decode cX10_leaves 36 = .ok (.iadd, 1) := by decide +kernel
theorem dX10_leaves_37 : decode cX10_leaves 37 = .ok (.aload_n 0, 1) := by decide +kernel
theorem dX10_leaves_38 : decode cX10_leaves 38 = .ok (.getfield 7, 3) := by decide +kernel
theorem dX10_leaves_41 : decode cX10_leaves 41 = .ok (.sipush 340, 3) := by decide +kernel
theorem dX10_leaves_44 : decode cX10_leaves 44 = .ok (.iload_n 2, 1) := by decide +kernel
theorem dX10_leaves_45 : decode cX10_leaves 45 = .ok (.iadd, 1) := by decide +kernel
theorem dX10_leaves_46 : decode cX10_leaves 46 = .ok (.iaload, 1) := by decide +kernel
theorem dX10_leaves_47 : decode cX10_leaves 47 = .ok (.iastore, 1) := by decide +kernel
theorem dX10_leaves_48 : decode cX10_leaves 48 = .ok (.aload_n 0, 1) := by decide +kernel
theorem dX10_leaves_49 : decode cX10_leaves 49 = .ok (.getfield 7, 3) := by decide +kernel
theorem dX10_leaves_52 : decode cX10_leaves 52 = .ok (.sipush 640, 3) := by decide +kernel
theorem dX10_leaves_55 : decode cX10_leaves 55 = .ok (.iload_n 1, 1) := by decide +kernel
theorem dX10_leaves_56 : decode cX10_leaves 56 = .ok (.iadd, 1) := by decide +kernel
theorem dX10_leaves_57 : decode cX10_leaves 57 = .ok (.aload_n 0, 1) := by decide +kernel
theorem dX10_leaves_58 : decode cX10_leaves 58 = .ok (.getfield 7, 3) := by decide +kernel
theorem dX10_leaves_61 : decode cX10_leaves 61 = .ok (.sipush 640, 3) := by decide +kernel
theorem dX10_leaves_64 : decode cX10_leaves 64 = .ok (.iload_n 2, 1) := by decide +kernel
theorem dX10_leaves_65 : decode cX10_leaves 65 = .ok (.iadd, 1) := by decide +kernel
theorem dX10_leaves_66 : decode cX10_leaves 66 = .ok (.iaload, 1) := by decide +kernel
theorem dX10_leaves_67 : decode cX10_leaves 67 = .ok (.iastore, 1) := by decide +kernel
theorem dX10_leaves_68 : decode cX10_leaves 68 = .ok (.aload_n 0, 1) := by decide +kernel
theorem dX10_leaves_69 : decode cX10_leaves 69 = .ok (.getfield 7, 3) := by decide +kernel
theorem dX10_leaves_72 : decode cX10_leaves 72 = .ok (.sipush 940, 3) := by decide +kernel
theorem dX10_leaves_75 : decode cX10_leaves 75 = .ok (.iload_n 1, 1) := by decide +kernel
theorem dX10_leaves_76 : decode cX10_leaves 76 = .ok (.iadd, 1) := by decide +kernel
theorem dX10_leaves_77 : decode cX10_leaves 77 = .ok (.aload_n 0, 1) := by decide +kernel
theorem dX10_leaves_78 : decode cX10_leaves 78 = .ok (.getfield 7, 3) := by decide +kernel
theorem dX10_leaves_81 : decode cX10_leaves 81 = .ok (.sipush 940, 3) := by decide +kernel
theorem dX10_leaves_84 : decode cX10_leaves 84 = .ok (.iload_n 2, 1) := by decide +kernel
theorem dX10_leaves_85 : decode cX10_leaves 85 = .ok (.iadd, 1) := by decide +kernel
theorem dX10_leaves_86 : decode cX10_leaves 86 = .ok (.iaload, 1) := by decide +kernel
theorem dX10_leaves_87 : decode cX10_leaves 87 = .ok (.iastore, 1) := by decide +kernel
theorem dX10_leaves_88 : decode cX10_leaves 88 = .ok (.aload_n 0, 1) := by decide +kernel
theorem dX10_leaves_89 : decode cX10_leaves 89 = .ok (.getfield 7, 3) := by decide +kernel
theorem dX10_leaves_92 : decode cX10_leaves 92 = .ok (.bipush 7, 2) := by decide +kernel
theorem dX10_leaves_94 : decode cX10_leaves 94 = .ok (.iload_n 2, 1) := by decide +kernel
theorem dX10_leaves_95 : decode cX10_leaves 95 = .ok (.iastore, 1) := by decide +kernel
theorem dX10_leaves_96 : decode cX10_leaves 96 = .ok (.return_, 1) := by decide +kernel
theorem dX10_drops_0 : decode cX10_drops 0 = .ok (.aload_n 0, 1) := by decide +kernel
theorem dX10_drops_1 : decode cX10_drops 1 = .ok (.iconst 0, 1) := by decide +kernel
theorem dX10_drops_2 : decode cX10_drops 2 = .ok (.iload_n 1, 1) := by decide +kernel
theorem dX10_drops_3 : decode cX10_drops 3 = .ok (.invokevirtual 211, 3) := by decide +kernel
theorem dX10_drops_6 : decode cX10_drops 6 = .ok (.istore_n 2, 1) := by decide +kernel
theorem dX10_drops_7 : decode cX10_drops 7 = .ok (.iload_n 2, 1) := by decide +kernel
theorem dX10_drops_8 : decode cX10_drops 8 = .ok (.iconst (-1), 1) := by decide +kernel
theorem dX10_drops_9 : decode cX10_drops 9 = .ok (.if_icmp .ne 26, 3) := by decide +kernel
theorem dX10_drops_12 : decode cX10_drops 12 = .ok (.aload_n 0, 1) := by decide +kernel
theorem dX10_drops_13 : decode cX10_drops 13 = .ok (.getfield 7, 3) := by decide +kernel
theorem dX10_drops_16 : decode cX10_drops 16 = .ok (.bipush 8, 2) := by decide +kernel
theorem dX10_drops_18 : decode cX10_drops 18 = .ok (.aload_n 0, 1) := by decide +kernel
theorem dX10_drops_19 : decode cX10_drops 19 = .ok (.getfield 7, 3) := by decide +kernel
theorem dX10_drops_22 : decode cX10_drops 22 = .ok (.bipush 8, 2) := by decide +kernel
theorem dX10_drops_24 : decode cX10_drops 24 = .ok (.iaload, 1) := by decide +kernel
theorem dX10_drops_25 : decode cX10_drops 25 = .ok (.aload_n 0, 1) := by decide +kernel
theorem dX10_drops_26 : decode cX10_drops 26 = .ok (.iload_n 1, 1) := by decide +kernel
theorem dX10_drops_27 : decode cX10_drops 27 = .ok (.invokevirtual 220, 3) := by decide +kernel
theorem dX10_drops_30 : decode cX10_drops 30 = .ok (.iadd, 1) := by decide +kernel
theorem dX10_drops_31 : decode cX10_drops 31 = .ok (.iastore, 1) := by decide +kernel
theorem dX10_drops_32 : decode cX10_drops 32 = .ok (.bipush (-2), 2) := by decide +kernel
theorem dX10_drops_34 : decode cX10_drops 34 = .ok (.ireturn, 1) := by decide +kernel
theorem dX10_drops_35 : decode cX10_drops 35 = .ok (.aload_n 0, 1) := by decide +kernel
theorem dX10_drops_36 : decode cX10_drops 36 = .ok (.getfield 7, 3) := by decide +kernel
theorem dX10_drops_39 : decode cX10_drops 39 = .ok (.sipush 640, 3) := by decide +kernel
theorem dX10_drops_42 : decode cX10_drops 42 = .ok (.iload_n 2, 1) := by decide +kernel
theorem dX10_drops_43 : decode cX10_drops 43 = .ok (.iadd, 1) := by decide +kernel
theorem dX10_drops_44 : decode cX10_drops 44 = .ok (.iaload, 1) := by decide +kernel
theorem dX10_drops_45 : decode cX10_drops 45 = .ok (.istore_n 3, 1) := by decide +kernel
theorem dX10_drops_46 : decode cX10_drops 46 = .ok (.aload_n 0, 1) := by decide +kernel
theorem dX10_drops_47 : decode cX10_drops 47 = .ok (.iload_n 3, 1) := by decide +kernel
theorem dX10_drops_48 : decode cX10_drops 48 = .ok (.invokevirtual 202, 3) := by decide +kernel
theorem dX10_drops_51 : decode cX10_drops 51 = .ok (.istore 4, 2) := by decide +kernel
theorem dX10_drops_53 : decode cX10_drops 53 = .ok (.aload_n 0, 1) := by decide +kernel
theorem dX10_drops_54 : decode cX10_drops 54 = .ok (.iload_n 3, 1) := by decide +kernel
theorem dX10_drops_55 : decode cX10_drops 55 = .ok (.iload 4, 2) := by decide +kernel
theorem dX10_drops_57 : decode cX10_drops 57 = .ok (.iconst 1, 1) := by decide +kernel
theorem dX10_drops_58 : decode cX10_drops 58 = .ok (.isub, 1) := by decide +kernel
theorem dX10_drops_59 : decode cX10_drops 59 = .ok (.invokevirtual 235, 3) := by decide +kernel
theorem dX10_drops_62 : decode cX10_drops 62 = .ok (.istore 5, 2) := by decide +kernel
theorem dX10_drops_64 : decode cX10_drops 64 = .ok (.aload_n 0, 1) := by decide +kernel
theorem dX10_drops_65 : decode cX10_drops 65 = .ok (.getfield 7, 3) := by decide +kernel
theorem dX10_drops_68 : decode cX10_drops 68 = .ok (.sipush 340, 3) := by decide +kernel
theorem dX10_drops_71 : decode cX10_drops 71 = .ok (.iload_n 2, 1) := by decide +kernel
theorem dX10_drops_72 : decode cX10_drops 72 = .ok (.iadd, 1) := by decide +kernel
theorem dX10_drops_73 : decode cX10_drops 73 = .ok (.iaload, 1) := by decide +kernel
theorem dX10_drops_74 : decode cX10_drops 74 = .ok (.istore 6, 2) := by decide +kernel
theorem dX10_drops_76 : decode cX10_drops 76 = .ok (.aload_n 0, 1) := by decide +kernel
theorem dX10_drops_77 : decode cX10_drops 77 = .ok (.getfield 7, 3) := by decide +kernel
theorem dX10_drops_80 : decode cX10_drops 80 = .ok (.bipush 8, 2) := by decide +kernel
theorem dX10_drops_82 : decode cX10_drops 82 = .ok (.aload_n 0, 1) := by decide +kernel
theorem dX10_drops_83 : decode cX10_drops 83 = .ok (.getfield 7, 3) := by decide +kernel
theorem dX10_drops_86 : decode cX10_drops 86 = .ok (.bipush 8, 2) := by decide +kernel
theorem dX10_drops_88 : decode cX10_drops 88 = .ok (.iaload, 1) := by decide +kernel
theorem dX10_drops_89 : decode cX10_drops 89 = .ok (.aload_n 0, 1) := by decide +kernel
theorem dX10_drops_90 : decode cX10_drops 90 = .ok (.iload_n 3, 1) := by decide +kernel
theorem dX10_drops_91 : decode cX10_drops 91 = .ok (.invokevirtual 172, 3) := by decide +kernel
theorem dX10_drops_94 : decode cX10_drops 94 = .ok (.iadd, 1) := by decide +kernel
theorem dX10_drops_95 : decode cX10_drops 95 = .ok (.iastore, 1) := by decide +kernel
theorem dX10_drops_96 : decode cX10_drops 96 = .ok (.aload_n 0, 1) := by decide +kernel
theorem dX10_drops_97 : decode cX10_drops 97 = .ok (.getfield 7, 3) := by decide +kernel
theorem dX10_drops_100 : decode cX10_drops 100 = .ok (.bipush 9, 2) := by decide +kernel
theorem dX10_drops_102 : decode cX10_drops 102 = .ok (.aload_n 0, 1) := by decide +kernel
theorem dX10_drops_103 : decode cX10_drops 103 = .ok (.getfield 7, 3) := by decide +kernel
theorem dX10_drops_106 : decode cX10_drops 106 = .ok (.bipush 9, 2) := by decide +kernel
theorem dX10_drops_108 : decode cX10_drops 108 = .ok (.iaload, 1) := by decide +kernel
theorem dX10_drops_109 : decode cX10_drops 109 = .ok (.aload_n 0, 1) := by decide +kernel
theorem dX10_drops_110 : decode cX10_drops 110 = .ok (.iload 5, 2) := by decide +kernel
theorem dX10_drops_112 : decode cX10_drops 112 = .ok (.invokevirtual 217, 3) := by decide +kernel
theorem dX10_drops_115 : decode cX10_drops 115 = .ok (.aload_n 0, 1) := by decide +kernel
theorem dX10_drops_116 : decode cX10_drops 116 = .ok (.iload_n 2, 1) := by decide +kernel
theorem dX10_drops_117 : decode cX10_drops 117 = .ok (.invokevirtual 217, 3) := by decide +kernel
theorem dX10_drops_120 : decode cX10_drops 120 = .ok (.if_icmp .ne 7, 3) := by decide +kernel
theorem dX10_drops_123 : decode cX10_drops 123 = .ok (.iconst 1, 1) := by decide +kernel
theorem dX10_drops_124 : decode cX10_drops 124 = .ok (.goto 4, 3) := by decide +kernel
theorem dX10_drops_127 : decode cX10_drops 127 = .ok (.iconst 2, 1) := by decide +kernel
theorem dX10_drops_128 : decode cX10_drops 128 = .ok (.iadd, 1) := by decide +kernel
theorem dX10_drops_129 : decode cX10_drops 129 = .ok (.iastore, 1) := by decide +kernel
theorem dX10_drops_130 : decode cX10_drops 130 = .ok (.aload_n 0, 1) := by decide +kernel
theorem dX10_drops_131 : decode cX10_drops 131 = .ok (.getfield 7, 3) := by decide +kernel
theorem dX10_drops_134 : decode cX10_drops 134 = .ok (.sipush 940, 3) := by decide +kernel
theorem dX10_drops_137 : decode cX10_drops 137 = .ok (.iload 5, 2) := by decide +kernel
theorem dX10_drops_139 : decode cX10_drops 139 = .ok (.iadd, 1) := by decide +kernel
theorem dX10_drops_140 : decode cX10_drops 140 = .ok (.aload_n 0, 1) := by decide +kernel
theorem dX10_drops_141 : decode cX10_drops 141 = .ok (.getfield 7, 3) := by decide +kernel
theorem dX10_drops_144 : decode cX10_drops 144 = .ok (.sipush 940, 3) := by decide +kernel
theorem dX10_drops_147 : decode cX10_drops 147 = .ok (.iload_n 2, 1) := by decide +kernel
theorem dX10_drops_148 : decode cX10_drops 148 = .ok (.iadd, 1) := by decide +kernel
theorem dX10_drops_149 : decode cX10_drops 149 = .ok (.iaload, 1) := by decide +kernel
theorem dX10_drops_150 : decode cX10_drops 150 = .ok (.iastore, 1) := by decide +kernel
theorem dX10_drops_151 : decode cX10_drops 151 = .ok (.aload_n 0, 1) := by decide +kernel
theorem dX10_drops_152 : decode cX10_drops 152 = .ok (.iload_n 2, 1) := by decide +kernel
theorem dX10_drops_153 : decode cX10_drops 153 = .ok (.invokevirtual 238, 3) := by decide +kernel
theorem dX10_drops_156 : decode cX10_drops 156 = .ok (.aload_n 0, 1) := by decide +kernel
theorem dX10_drops_157 : decode cX10_drops 157 = .ok (.iload_n 3, 1) := by decide +kernel
theorem dX10_drops_158 : decode cX10_drops 158 = .ok (.invokevirtual 172, 3) := by decide +kernel
theorem dX10_drops_161 : decode cX10_drops 161 = .ok (.iconst 1, 1) := by decide +kernel
theorem dX10_drops_162 : decode cX10_drops 162 = .ok (.if_icmp .le 29, 3) := by decide +kernel
theorem dX10_drops_165 : decode cX10_drops 165 = .ok (.iload 4, 2) := by decide +kernel
theorem dX10_drops_167 : decode cX10_drops 167 = .ok (.iconst 1, 1) := by decide +kernel
theorem dX10_drops_168 : decode cX10_drops 168 = .ok (.isub, 1) := by decide +kernel
theorem dX10_drops_169 : decode cX10_drops 169 = .ok (.aload_n 0, 1) := by decide +kernel
theorem dX10_drops_170 : decode cX10_drops 170 = .ok (.getfield 7, 3) := by decide +kernel
theorem dX10_drops_173 : decode cX10_drops 173 = .ok (.iconst 1, 1) := by decide +kernel
theorem dX10_drops_174 : decode cX10_drops 174 = .ok (.iaload, 1) := by decide +kernel
theorem dX10_drops_175 : decode cX10_drops 175 = .ok (.irem, 1) := by decide +kernel
theorem dX10_drops_176 : decode cX10_drops 176 = .ok (.ifCond .ne 15, 3) := by decide +kernel
theorem dX10_drops_179 : decode cX10_drops 179 = .ok (.aload_n 0, 1) := by decide +kernel
theorem dX10_drops_180 : decode cX10_drops 180 = .ok (.iload_n 3, 1) := by decide +kernel
theorem dX10_drops_181 : decode cX10_drops 181 = .ok (.aload_n 0, 1) := by decide +kernel
theorem dX10_drops_182 : decode cX10_drops 182 = .ok (.iload_n 3, 1) := by decide +kernel
theorem dX10_drops_183 : decode cX10_drops 183 = .ok (.invokevirtual 172, 3) := by decide +kernel
theorem dX10_drops_186 : decode cX10_drops 186 = .ok (.iconst 1, 1) := by decide +kernel
theorem dX10_drops_187 : decode cX10_drops 187 = .ok (.isub, 1) := by decide +kernel
theorem dX10_drops_188 : decode cX10_drops 188 = .ok (.invokevirtual 190, 3) := by decide +kernel
theorem dX10_drops_191 : decode cX10_drops 191 = .ok (.aload_n 0, 1) := by decide +kernel
theorem dX10_drops_192 : decode cX10_drops 192 = .ok (.getfield 7, 3) := by decide +kernel
theorem dX10_drops_195 : decode cX10_drops 195 = .ok (.iconst 4, 1) := by decide +kernel
theorem dX10_drops_196 : decode cX10_drops 196 = .ok (.iaload, 1) := by decide +kernel
theorem dX10_drops_197 : decode cX10_drops 197 = .ok (.ifCond .le 34, 3) := by decide +kernel
theorem dX10_drops_200 : decode cX10_drops 200 = .ok (.aload_n 0, 1) := by decide +kernel
theorem dX10_drops_201 : decode cX10_drops 201 = .ok (.invokevirtual 223, 3) := by decide +kernel
theorem dX10_drops_204 : decode cX10_drops 204 = .ok (.aload_n 0, 1) := by decide +kernel
theorem dX10_drops_205 : decode cX10_drops 205 = .ok (.getfield 7, 3) := by decide +kernel
theorem dX10_drops_208 : decode cX10_drops 208 = .ok (.iconst 3, 1) := by decide +kernel
theorem dX10_drops_209 : decode cX10_drops 209 = .ok (.iaload, 1) := by decide +kernel
theorem dX10_drops_210 : decode cX10_drops 210 = .ok (.if_icmp .ge 21, 3) := by decide +kernel
theorem dX10_drops_213 : decode cX10_drops 213 = .ok (.aload_n 0, 1) := by decide +kernel
theorem dX10_drops_214 : decode cX10_drops 214 = .ok (.invokevirtual 178, 3) := by decide +kernel
theorem dX10_drops_217 : decode cX10_drops 217 = .ok (.aload_n 0, 1) := by decide +kernel
theorem dX10_drops_218 : decode cX10_drops 218 = .ok (.getfield 7, 3) := by decide +kernel
theorem dX10_drops_221 : decode cX10_drops 221 = .ok (.iconst 0, 1) := by decide +kernel
theorem dX10_drops_222 : decode cX10_drops 222 = .ok (.iaload, 1) := by decide +kernel
theorem dX10_drops_223 : decode cX10_drops 223 = .ok (.if_icmp .le 8, 3) := by decide +kernel
theorem dX10_drops_226 : decode cX10_drops 226 = .ok (.aload_n 0, 1) := by decide +kernel
theorem dX10_drops_227 : decode cX10_drops 227 = .ok (.invokevirtual 208, 3) := by decide +kernel
theorem dX10_drops_230 : decode cX10_drops 230 = .ok (.pop, 1) := by decide +kernel
theorem dX10_drops_231 : decode cX10_drops 231 = .ok (.iload 6, 2) := by decide +kernel
theorem dX10_drops_233 : decode cX10_drops 233 = .ok (.ireturn, 1) := by decide +kernel
theorem dX10_drop_0 : decode cX10_drop 0 = .ok (.iload_n 1, 1) := by decide +kernel
theorem dX10_drop_1 : decode cX10_drop 1 = .ok (.invokestatic 226, 3) := by decide +kernel
theorem dX10_drop_4 : decode cX10_drop 4 = .ok (.ifCond .eq 11, 3) := by decide +kernel
theorem dX10_drop_7 : decode cX10_drop 7 = .ok (.aload_n 0, 1) := by decide +kernel
theorem dX10_drop_8 : decode cX10_drop 8 = .ok (.iload_n 1, 1) := by decide +kernel
theorem dX10_drop_9 : decode cX10_drop 9 = .ok (.invokevirtual 241, 3) := by decide +kernel
theorem dX10_drop_12 : decode cX10_drop 12 = .ok (.goto 4, 3) := by decide +kernel
theorem dX10_drop_15 : decode cX10_drop 15 = .ok (.iconst (-1), 1) := by decide +kernel
theorem dX10_drop_16 : decode cX10_drop 16 = .ok (.ireturn, 1) := by decide +kernel
theorem dX10_readsNext_0 : decode cX10_readsNext 0 = .ok (.aload_n 0, 1) := by decide +kernel
theorem dX10_readsNext_1 : decode cX10_readsNext 1 = .ok (.invokevirtual 88, 3) := by decide +kernel
theorem dX10_readsNext_4 : decode cX10_readsNext 4 = .ok (.bipush 44, 2) := by decide +kernel
theorem dX10_readsNext_6 : decode cX10_readsNext 6 = .ok (.if_icmp .eq 13, 3) := by decide +kernel
theorem dX10_readsNext_9 : decode cX10_readsNext 9 = .ok (.aload_n 0, 1) := by decide +kernel
theorem dX10_readsNext_10 : decode cX10_readsNext 10 = .ok (.iconst 1, 1) := by decide +kernel
theorem dX10_readsNext_11 : decode cX10_readsNext 11 = .ok (.aload_n 0, 1) := by decide +kernel
theorem dX10_readsNext_12 : decode cX10_readsNext 12 = .ok (.getfield 79, 3) := by decide +kernel
theorem dX10_readsNext_15 : decode cX10_readsNext 15 = .ok (.invokevirtual 96, 3) := by decide +kernel
theorem dX10_readsNext_18 : decode cX10_readsNext 18 = .ok (.ireturn, 1) := by decide +kernel
theorem dX10_readsNext_19 : decode cX10_readsNext 19 = .ok (.aload_n 0, 1) := by decide +kernel
theorem dX10_readsNext_20 : decode cX10_readsNext 20 = .ok (.aload_n 0, 1) := by decide +kernel
theorem dX10_readsNext_21 : decode cX10_readsNext 21 = .ok (.getfield 79, 3) := by decide +kernel
theorem dX10_readsNext_24 : decode cX10_readsNext 24 = .ok (.iconst 1, 1) := by decide +kernel
theorem dX10_readsNext_25 : decode cX10_readsNext 25 = .ok (.iadd, 1) := by decide +kernel
theorem dX10_readsNext_26 : decode cX10_readsNext 26 = .ok (.putfield 79, 3) := by decide +kernel
theorem dX10_readsNext_29 : decode cX10_readsNext 29 = .ok (.aload_n 0, 1) := by decide +kernel
theorem dX10_readsNext_30 : decode cX10_readsNext 30 = .ok (.iload_n 1, 1) := by decide +kernel
theorem dX10_readsNext_31 : decode cX10_readsNext 31 = .ok (.iload_n 2, 1) := by decide +kernel
theorem dX10_readsNext_32 : decode cX10_readsNext 32 = .ok (.invokevirtual 130, 3) := by decide +kernel
theorem dX10_readsNext_35 : decode cX10_readsNext 35 = .ok (.ireturn, 1) := by decide +kernel
theorem dX10_readsNumbers_0 : decode cX10_readsNumbers 0 = .ok (.iload_n 1, 1) := by decide +kernel
theorem dX10_readsNumbers_1 : decode cX10_readsNumbers 1 = .ok (.bipush 115, 2) := by decide +kernel
theorem dX10_readsNumbers_3 : decode cX10_readsNumbers 3 = .ok (.if_icmp .eq 9, 3) := by decide +kernel
theorem dX10_readsNumbers_6 : decode cX10_readsNumbers 6 = .ok (.iload_n 1, 1) := by decide +kernel
theorem dX10_readsNumbers_7 : decode cX10_readsNumbers 7 = .ok (.bipush 106, 2) := by decide +kernel
theorem dX10_readsNumbers_9 : decode cX10_readsNumbers 9 = .ok (.if_icmp .ne 5, 3) := by decide +kernel
theorem dX10_readsNumbers_12 : decode cX10_readsNumbers 12 = .ok (.iconst 1, 1) := by decide +kernel
theorem dX10_readsNumbers_13 : decode cX10_readsNumbers 13 = .ok (.ireturn, 1) := by decide +kernel
theorem dX10_readsNumbers_14 : decode cX10_readsNumbers 14 = .ok (.aload_n 0, 1) := by decide +kernel
theorem dX10_readsNumbers_15 : decode cX10_readsNumbers 15 = .ok (.iload_n 1, 1) := by decide +kernel
theorem dX10_readsNumbers_16 : decode cX10_readsNumbers 16 = .ok (.bipush 120, 2) := by decide +kernel
theorem dX10_readsNumbers_18 : decode cX10_readsNumbers 18 = .ok (.if_icmp .eq 9, 3) := by decide +kernel
theorem dX10_readsNumbers_21 : decode cX10_readsNumbers 21 = .ok (.iload_n 1, 1) := by decide +kernel
theorem dX10_readsNumbers_22 : decode cX10_readsNumbers 22 = .ok (.bipush 121, 2) := by decide +kernel
theorem dX10_readsNumbers_24 : decode cX10_readsNumbers 24 = .ok (.if_icmp .ne 7, 3) := by decide +kernel
theorem dX10_readsNumbers_27 : decode cX10_readsNumbers 27 = .ok (.iconst 1, 1) := by decide +kernel
theorem dX10_readsNumbers_28 : decode cX10_readsNumbers 28 = .ok (.goto 4, 3) := by decide +kernel
theorem dX10_readsNumbers_31 : decode cX10_readsNumbers 31 = .ok (.iconst 0, 1) := by decide +kernel
theorem dX10_readsNumbers_32 : decode cX10_readsNumbers 32 = .ok (.iload_n 1, 1) := by decide +kernel
theorem dX10_readsNumbers_33 : decode cX10_readsNumbers 33 = .ok (.bipush 120, 2) := by decide +kernel
theorem dX10_readsNumbers_35 : decode cX10_readsNumbers 35 = .ok (.if_icmp .eq 9, 3) := by decide +kernel
theorem dX10_readsNumbers_38 : decode cX10_readsNumbers 38 = .ok (.iload_n 1, 1) := by decide +kernel
theorem dX10_readsNumbers_39 : decode cX10_readsNumbers 39 = .ok (.bipush 121, 2) := by decide +kernel
theorem dX10_readsNumbers_41 : decode cX10_readsNumbers 41 = .ok (.if_icmp .ne 8, 3) := by decide +kernel
theorem dX10_readsNumbers_44 : decode cX10_readsNumbers 44 = .ok (.bipush 60, 2) := by decide +kernel
theorem dX10_readsNumbers_46 : decode cX10_readsNumbers 46 = .ok (.goto 5, 3) := by decide +kernel
theorem dX10_readsNumbers_49 : decode cX10_readsNumbers 49 = .ok (.ldc 129, 2) := by decide +kernel
theorem dX10_readsNumbers_51 : decode cX10_readsNumbers 51 = .ok (.invokevirtual 130, 3) := by decide +kernel
theorem dX10_readsNumbers_54 : decode cX10_readsNumbers 54 = .ok (.ifCond .ne 5, 3) := by decide +kernel
theorem dX10_readsNumbers_57 : decode cX10_readsNumbers 57 = .ok (.iconst 0, 1) := by decide +kernel
theorem dX10_readsNumbers_58 : decode cX10_readsNumbers 58 = .ok (.ireturn, 1) := by decide +kernel
theorem dX10_readsNumbers_59 : decode cX10_readsNumbers 59 = .ok (.aload_n 0, 1) := by decide +kernel
theorem dX10_readsNumbers_60 : decode cX10_readsNumbers 60 = .ok (.getfield 32, 3) := by decide +kernel
theorem dX10_readsNumbers_63 : decode cX10_readsNumbers 63 = .ok (.aload_n 0, 1) := by decide +kernel
theorem dX10_readsNumbers_64 : decode cX10_readsNumbers 64 = .ok (.getfield 244, 3) := by decide +kernel
theorem dX10_readsNumbers_67 : decode cX10_readsNumbers 67 = .ok (.aload_n 0, 1) := by decide +kernel
theorem dX10_readsNumbers_68 : decode cX10_readsNumbers 68 = .ok (.getfield 100, 3) := by decide +kernel
theorem dX10_readsNumbers_71 : decode cX10_readsNumbers 71 = .ok (.iastore, 1) := by decide +kernel
theorem dX10_readsNumbers_72 : decode cX10_readsNumbers 72 = .ok (.iload_n 1, 1) := by decide +kernel
theorem dX10_readsNumbers_73 : decode cX10_readsNumbers 73 = .ok (.bipush 112, 2) := by decide +kernel
theorem dX10_readsNumbers_75 : decode cX10_readsNumbers 75 = .ok (.if_icmp .ne 29, 3) := by decide +kernel
theorem dX10_readsNumbers_78 : decode cX10_readsNumbers 78 = .ok (.aload_n 0, 1) := by decide +kernel
theorem dX10_readsNumbers_79 : decode cX10_readsNumbers 79 = .ok (.iconst 0, 1) := by decide +kernel
theorem dX10_readsNumbers_80 : decode cX10_readsNumbers 80 = .ok (.sipush 255, 3) := by decide +kernel
theorem dX10_readsNumbers_83 : decode cX10_readsNumbers 83 = .ok (.invokevirtual 247, 3) := by decide +kernel
theorem dX10_readsNumbers_86 : decode cX10_readsNumbers 86 = .ok (.ifCond .ne 5, 3) := by decide +kernel
theorem dX10_readsNumbers_89 : decode cX10_readsNumbers 89 = .ok (.iconst 0, 1) := by decide +kernel
theorem dX10_readsNumbers_90 : decode cX10_readsNumbers 90 = .ok (.ireturn, 1) := by decide +kernel
theorem dX10_readsNumbers_91 : decode cX10_readsNumbers 91 = .ok (.aload_n 0, 1) := by decide +kernel
theorem dX10_readsNumbers_92 : decode cX10_readsNumbers 92 = .ok (.getfield 35, 3) := by decide +kernel
theorem dX10_readsNumbers_95 : decode cX10_readsNumbers 95 = .ok (.aload_n 0, 1) := by decide +kernel
theorem dX10_readsNumbers_96 : decode cX10_readsNumbers 96 = .ok (.getfield 244, 3) := by decide +kernel
theorem dX10_readsNumbers_99 : decode cX10_readsNumbers 99 = .ok (.aload_n 0, 1) := by decide +kernel
theorem dX10_readsNumbers_100 : decode cX10_readsNumbers 100 = .ok (.getfield 100, 3) := by decide +kernel
theorem dX10_readsNumbers_103 : decode cX10_readsNumbers 103 = .ok (.iastore, 1) := by decide +kernel
theorem dX10_readsNumbers_104 : decode cX10_readsNumbers 104 = .ok (.iload_n 1, 1) := by decide +kernel
theorem dX10_readsNumbers_105 : decode cX10_readsNumbers 105 = .ok (.bipush 110, 2) := by decide +kernel
theorem dX10_readsNumbers_107 : decode cX10_readsNumbers 107 = .ok (.if_icmp .ne 54, 3) := by decide +kernel
theorem dX10_readsNumbers_110 : decode cX10_readsNumbers 110 = .ok (.aload_n 0, 1) := by decide +kernel
theorem dX10_readsNumbers_111 : decode cX10_readsNumbers 111 = .ok (.iconst 1, 1) := by decide +kernel
theorem dX10_readsNumbers_112 : decode cX10_readsNumbers 112 = .ok (.bipush 60, 2) := by decide +kernel
theorem dX10_readsNumbers_114 : decode cX10_readsNumbers 114 = .ok (.invokevirtual 247, 3) := by decide +kernel
theorem dX10_readsNumbers_117 : decode cX10_readsNumbers 117 = .ok (.ifCond .ne 5, 3) := by decide +kernel
theorem dX10_readsNumbers_120 : decode cX10_readsNumbers 120 = .ok (.iconst 0, 1) := by decide +kernel
theorem dX10_readsNumbers_121 : decode cX10_readsNumbers 121 = .ok (.ireturn, 1) := by decide +kernel
theorem dX10_readsNumbers_122 : decode cX10_readsNumbers 122 = .ok (.aload_n 0, 1) := by decide +kernel
theorem dX10_readsNumbers_123 : decode cX10_readsNumbers 123 = .ok (.getfield 35, 3) := by decide +kernel
theorem dX10_readsNumbers_126 : decode cX10_readsNumbers 126 = .ok (.aload_n 0, 1) := by decide +kernel
theorem dX10_readsNumbers_127 : decode cX10_readsNumbers 127 = .ok (.getfield 244, 3) := by decide +kernel
theorem dX10_readsNumbers_130 : decode cX10_readsNumbers 130 = .ok (.aload_n 0, 1) := by decide +kernel
theorem dX10_readsNumbers_131 : decode cX10_readsNumbers 131 = .ok (.getfield 100, 3) := by decide +kernel
theorem dX10_readsNumbers_134 : decode cX10_readsNumbers 134 = .ok (.iastore, 1) := by decide +kernel
theorem dX10_readsNumbers_135 : decode cX10_readsNumbers 135 = .ok (.aload_n 0, 1) := by decide +kernel
theorem dX10_readsNumbers_136 : decode cX10_readsNumbers 136 = .ok (.iconst 0, 1) := by decide +kernel
theorem dX10_readsNumbers_137 : decode cX10_readsNumbers 137 = .ok (.sipush 9999, 3) := by decide +kernel
theorem dX10_readsNumbers_140 : decode cX10_readsNumbers 140 = .ok (.invokevirtual 247, 3) := by decide +kernel
theorem dX10_readsNumbers_143 : decode cX10_readsNumbers 143 = .ok (.ifCond .ne 5, 3) := by decide +kernel
theorem dX10_readsNumbers_146 : decode cX10_readsNumbers 146 = .ok (.iconst 0, 1) := by decide +kernel
theorem dX10_readsNumbers_147 : decode cX10_readsNumbers 147 = .ok (.ireturn, 1) := by decide +kernel
theorem dX10_readsNumbers_148 : decode cX10_readsNumbers 148 = .ok (.aload_n 0, 1) := by decide +kernel
theorem dX10_readsNumbers_149 : decode cX10_readsNumbers 149 = .ok (.getfield 38, 3) := by decide +kernel
theorem dX10_readsNumbers_152 : decode cX10_readsNumbers 152 = .ok (.aload_n 0, 1) := by decide +kernel
theorem dX10_readsNumbers_153 : decode cX10_readsNumbers 153 = .ok (.getfield 244, 3) := by decide +kernel
theorem dX10_readsNumbers_156 : decode cX10_readsNumbers 156 = .ok (.aload_n 0, 1) := by decide +kernel
theorem dX10_readsNumbers_157 : decode cX10_readsNumbers 157 = .ok (.getfield 100, 3) := by decide +kernel
theorem dX10_readsNumbers_160 : decode cX10_readsNumbers 160 = .ok (.iastore, 1) := by decide +kernel
theorem dX10_readsNumbers_161 : decode cX10_readsNumbers 161 = .ok (.iconst 1, 1) := by decide +kernel
theorem dX10_readsNumbers_162 : decode cX10_readsNumbers 162 = .ok (.ireturn, 1) := by decide +kernel
theorem dX10_readsStep_0 : decode cX10_readsStep 0 = .ok (.aload_n 0, 1) := by decide +kernel
theorem dX10_readsStep_1 : decode cX10_readsStep 1 = .ok (.getfield 244, 3) := by decide +kernel
theorem dX10_readsStep_4 : decode cX10_readsStep 4 = .ok (.bipush 20, 2) := by decide +kernel
theorem dX10_readsStep_6 : decode cX10_readsStep 6 = .ok (.if_icmp .ne 13, 3) := by decide +kernel
theorem dX10_readsStep_9 : decode cX10_readsStep 9 = .ok (.aload_n 0, 1) := by decide +kernel
theorem dX10_readsStep_10 : decode cX10_readsStep 10 = .ok (.iconst 4, 1) := by decide +kernel
theorem dX10_readsStep_11 : decode cX10_readsStep 11 = .ok (.aload_n 0, 1) := by decide +kernel
theorem dX10_readsStep_12 : decode cX10_readsStep 12 = .ok (.getfield 79, 3) := by decide +kernel
theorem dX10_readsStep_15 : decode cX10_readsStep 15 = .ok (.invokevirtual 96, 3) := by decide +kernel
theorem dX10_readsStep_18 : decode cX10_readsStep 18 = .ok (.ireturn, 1) := by decide +kernel
theorem dX10_readsStep_19 : decode cX10_readsStep 19 = .ok (.aload_n 0, 1) := by decide +kernel
theorem dX10_readsStep_20 : decode cX10_readsStep 20 = .ok (.invokevirtual 88, 3) := by decide +kernel
theorem dX10_readsStep_23 : decode cX10_readsStep 23 = .ok (.istore_n 1, 1) := by decide +kernel
theorem dX10_readsStep_24 : decode cX10_readsStep 24 = .ok (.iload_n 1, 1) := by decide +kernel
theorem dX10_readsStep_25 : decode cX10_readsStep 25 = .ok (.bipush 112, 2) := by decide +kernel
theorem dX10_readsStep_27 : decode cX10_readsStep 27 = .ok (.if_icmp .eq 45, 3) := by decide +kernel
theorem dX10_readsStep_30 : decode cX10_readsStep 30 = .ok (.iload_n 1, 1) := by decide +kernel
theorem dX10_readsStep_31 : decode cX10_readsStep 31 = .ok (.bipush 100, 2) := by decide +kernel
theorem dX10_readsStep_33 : decode cX10_readsStep 33 = .ok (.if_icmp .eq 39, 3) := by decide +kernel
theorem dX10_readsStep_36 : decode cX10_readsStep 36 = .ok (.iload_n 1, 1) := by decide +kernel
theorem dX10_readsStep_37 : decode cX10_readsStep 37 = .ok (.bipush 103, 2) := by decide +kernel
theorem dX10_readsStep_39 : decode cX10_readsStep 39 = .ok (.if_icmp .eq 33, 3) := by decide +kernel
theorem dX10_readsStep_42 : decode cX10_readsStep 42 = .ok (.iload_n 1, 1) := by decide +kernel
theorem dX10_readsStep_43 : decode cX10_readsStep 43 = .ok (.bipush 115, 2) := by decide +kernel
theorem dX10_readsStep_45 : decode cX10_readsStep 45 = .ok (.if_icmp .eq 27, 3) := by decide +kernel
theorem dX10_readsStep_48 : decode cX10_readsStep 48 = .ok (.iload_n 1, 1) := by decide +kernel
theorem dX10_readsStep_49 : decode cX10_readsStep 49 = .ok (.bipush 106, 2) := by decide +kernel
theorem dX10_readsStep_51 : decode cX10_readsStep 51 = .ok (.if_icmp .eq 21, 3) := by decide +kernel
theorem dX10_readsStep_54 : decode cX10_readsStep 54 = .ok (.iload_n 1, 1) := by decide +kernel
theorem dX10_readsStep_55 : decode cX10_readsStep 55 = .ok (.bipush 110, 2) := by decide +kernel
theorem dX10_readsStep_57 : decode cX10_readsStep 57 = .ok (.if_icmp .eq 15, 3) := by decide +kernel
theorem dX10_readsStep_60 : decode cX10_readsStep 60 = .ok (.iload_n 1, 1) := by decide +kernel
theorem dX10_readsStep_61 : decode cX10_readsStep 61 = .ok (.bipush 120, 2) := by decide +kernel
theorem dX10_readsStep_63 : decode cX10_readsStep 63 = .ok (.if_icmp .eq 9, 3) := by decide +kernel
theorem dX10_readsStep_66 : decode cX10_readsStep 66 = .ok (.iload_n 1, 1) := by decide +kernel
theorem dX10_readsStep_67 : decode cX10_readsStep 67 = .ok (.bipush 121, 2) := by decide +kernel
theorem dX10_readsStep_69 : decode cX10_readsStep 69 = .ok (.if_icmp .ne 7, 3) := by decide +kernel
theorem dX10_readsStep_72 : decode cX10_readsStep 72 = .ok (.iconst 1, 1) := by decide +kernel
theorem dX10_readsStep_73 : decode cX10_readsStep 73 = .ok (.goto 4, 3) := by decide +kernel
theorem dX10_readsStep_76 : decode cX10_readsStep 76 = .ok (.iconst 0, 1) := by decide +kernel
theorem dX10_readsStep_77 : decode cX10_readsStep 77 = .ok (.istore_n 2, 1) := by decide +kernel
theorem dX10_readsStep_78 : decode cX10_readsStep 78 = .ok (.iload_n 2, 1) := by decide +kernel
theorem dX10_readsStep_79 : decode cX10_readsStep 79 = .ok (.ifCond .ne 13, 3) := by decide +kernel
theorem dX10_readsStep_82 : decode cX10_readsStep 82 = .ok (.aload_n 0, 1) := by decide +kernel
theorem dX10_readsStep_83 : decode cX10_readsStep 83 = .ok (.iconst 1, 1) := by decide +kernel
theorem dX10_readsStep_84 : decode cX10_readsStep 84 = .ok (.aload_n 0, 1) := by decide +kernel
theorem dX10_readsStep_85 : decode cX10_readsStep 85 = .ok (.getfield 79, 3) := by decide +kernel
theorem dX10_readsStep_88 : decode cX10_readsStep 88 = .ok (.invokevirtual 96, 3) := by decide +kernel
theorem dX10_readsStep_91 : decode cX10_readsStep 91 = .ok (.ireturn, 1) := by decide +kernel
theorem dX10_readsStep_92 : decode cX10_readsStep 92 = .ok (.aload_n 0, 1) := by decide +kernel
theorem dX10_readsStep_93 : decode cX10_readsStep 93 = .ok (.aload_n 0, 1) := by decide +kernel
theorem dX10_readsStep_94 : decode cX10_readsStep 94 = .ok (.getfield 79, 3) := by decide +kernel
theorem dX10_readsStep_97 : decode cX10_readsStep 97 = .ok (.iconst 1, 1) := by decide +kernel
theorem dX10_readsStep_98 : decode cX10_readsStep 98 = .ok (.iadd, 1) := by decide +kernel
theorem dX10_readsStep_99 : decode cX10_readsStep 99 = .ok (.putfield 79, 3) := by decide +kernel
theorem dX10_readsStep_102 : decode cX10_readsStep 102 = .ok (.aload_n 0, 1) := by decide +kernel
theorem dX10_readsStep_103 : decode cX10_readsStep 103 = .ok (.iload_n 1, 1) := by decide +kernel
theorem dX10_readsStep_104 : decode cX10_readsStep 104 = .ok (.invokevirtual 250, 3) := by decide +kernel
theorem dX10_readsStep_107 : decode cX10_readsStep 107 = .ok (.ifCond .ne 5, 3) := by decide +kernel
theorem dX10_readsStep_110 : decode cX10_readsStep 110 = .ok (.iconst 0, 1) := by decide +kernel
theorem dX10_readsStep_111 : decode cX10_readsStep 111 = .ok (.ireturn, 1) := by decide +kernel
theorem dX10_readsStep_112 : decode cX10_readsStep 112 = .ok (.aload_n 0, 1) := by decide +kernel
theorem dX10_readsStep_113 : decode cX10_readsStep 113 = .ok (.getfield 29, 3) := by decide +kernel
theorem dX10_readsStep_116 : decode cX10_readsStep 116 = .ok (.aload_n 0, 1) := by decide +kernel
theorem dX10_readsStep_117 : decode cX10_readsStep 117 = .ok (.getfield 244, 3) := by decide +kernel
theorem dX10_readsStep_120 : decode cX10_readsStep 120 = .ok (.iload_n 1, 1) := by decide +kernel
theorem dX10_readsStep_121 : decode cX10_readsStep 121 = .ok (.iastore, 1) := by decide +kernel
theorem dX10_readsStep_122 : decode cX10_readsStep 122 = .ok (.aload_n 0, 1) := by decide +kernel
theorem dX10_readsStep_123 : decode cX10_readsStep 123 = .ok (.aload_n 0, 1) := by decide +kernel
theorem dX10_readsStep_124 : decode cX10_readsStep 124 = .ok (.getfield 244, 3) := by decide +kernel
theorem dX10_readsStep_127 : decode cX10_readsStep 127 = .ok (.iconst 1, 1) := by decide +kernel
theorem dX10_readsStep_128 : decode cX10_readsStep 128 = .ok (.iadd, 1) := by decide +kernel
theorem dX10_readsStep_129 : decode cX10_readsStep 129 = .ok (.putfield 244, 3) := by decide +kernel
theorem dX10_readsStep_132 : decode cX10_readsStep 132 = .ok (.iconst 1, 1) := by decide +kernel
theorem dX10_readsStep_133 : decode cX10_readsStep 133 = .ok (.ireturn, 1) := by decide +kernel
theorem dX10_lotGoes_0 : decode cX10_lotGoes 0 = .ok (.aload_n 0, 1) := by decide +kernel
theorem dX10_lotGoes_1 : decode cX10_lotGoes 1 = .ok (.getfield 7, 3) := by decide +kernel
theorem dX10_lotGoes_4 : decode cX10_lotGoes 4 = .ok (.bipush 12, 2) := by decide +kernel
theorem dX10_lotGoes_6 : decode cX10_lotGoes 6 = .ok (.sipush 25173, 3) := by decide +kernel
theorem dX10_lotGoes_9 : decode cX10_lotGoes 9 = .ok (.aload_n 0, 1) := by decide +kernel
theorem dX10_lotGoes_10 : decode cX10_lotGoes 10 = .ok (.getfield 7, 3) := by decide +kernel
theorem dX10_lotGoes_13 : decode cX10_lotGoes 13 = .ok (.bipush 12, 2) := by decide +kernel
theorem dX10_lotGoes_15 : decode cX10_lotGoes 15 = .ok (.iaload, 1) := by decide +kernel
theorem dX10_lotGoes_16 : decode cX10_lotGoes 16 = .ok (.imul, 1) := by decide +kernel
theorem dX10_lotGoes_17 : decode cX10_lotGoes 17 = .ok (.sipush 13849, 3) := by decide +kernel
theorem dX10_lotGoes_20 : decode cX10_lotGoes 20 = .ok (.iadd, 1) := by decide +kernel
theorem dX10_lotGoes_21 : decode cX10_lotGoes 21 = .ok (.ldc 62, 2) := by decide +kernel
theorem dX10_lotGoes_23 : decode cX10_lotGoes 23 = .ok (.irem, 1) := by decide +kernel
theorem dX10_lotGoes_24 : decode cX10_lotGoes 24 = .ok (.iastore, 1) := by decide +kernel
theorem dX10_lotGoes_25 : decode cX10_lotGoes 25 = .ok (.return_, 1) := by decide +kernel
theorem dX10_putsDrawn_0 : decode cX10_putsDrawn 0 = .ok (.iconst 0, 1) := by decide +kernel
theorem dX10_putsDrawn_1 : decode cX10_putsDrawn 1 = .ok (.istore_n 2, 1) := by decide +kernel
theorem dX10_putsDrawn_2 : decode cX10_putsDrawn 2 = .ok (.iload_n 2, 1) := by decide +kernel
theorem dX10_putsDrawn_3 : decode cX10_putsDrawn 3 = .ok (.iload_n 1, 1) := by decide +kernel
theorem dX10_putsDrawn_4 : decode cX10_putsDrawn 4 = .ok (.if_icmp .ge 36, 3) := by decide +kernel
theorem dX10_putsDrawn_7 : decode cX10_putsDrawn 7 = .ok (.aload_n 0, 1) := by decide +kernel
theorem dX10_putsDrawn_8 : decode cX10_putsDrawn 8 = .ok (.invokevirtual 253, 3) := by decide +kernel
theorem dX10_putsDrawn_11 : decode cX10_putsDrawn 11 = .ok (.aload_n 0, 1) := by decide +kernel
theorem dX10_putsDrawn_12 : decode cX10_putsDrawn 12 = .ok (.aload_n 0, 1) := by decide +kernel
theorem dX10_putsDrawn_13 : decode cX10_putsDrawn 13 = .ok (.getfield 7, 3) := by decide +kernel
theorem dX10_putsDrawn_16 : decode cX10_putsDrawn 16 = .ok (.bipush 12, 2) := by decide +kernel
theorem dX10_putsDrawn_18 : decode cX10_putsDrawn 18 = .ok (.iaload, 1) := by decide +kernel
theorem dX10_putsDrawn_19 : decode cX10_putsDrawn 19 = .ok (.aload_n 0, 1) := by decide +kernel
theorem dX10_putsDrawn_20 : decode cX10_putsDrawn 20 = .ok (.getfield 7, 3) := by decide +kernel
theorem dX10_putsDrawn_23 : decode cX10_putsDrawn 23 = .ok (.bipush 12, 2) := by decide +kernel
theorem dX10_putsDrawn_25 : decode cX10_putsDrawn 25 = .ok (.iaload, 1) := by decide +kernel
theorem dX10_putsDrawn_26 : decode cX10_putsDrawn 26 = .ok (.sipush 256, 3) := by decide +kernel
theorem dX10_putsDrawn_29 : decode cX10_putsDrawn 29 = .ok (.irem, 1) := by decide +kernel
theorem dX10_putsDrawn_30 : decode cX10_putsDrawn 30 = .ok (.invokevirtual 229, 3) := by decide +kernel
theorem dX10_putsDrawn_33 : decode cX10_putsDrawn 33 = .ok (.pop, 1) := by decide +kernel
theorem dX10_putsDrawn_34 : decode cX10_putsDrawn 34 = .ok (.iinc 2 1, 3) := by decide +kernel
theorem dX10_putsDrawn_37 : decode cX10_putsDrawn 37 = .ok (.goto (-35), 3) := by decide +kernel
theorem dX10_putsDrawn_40 : decode cX10_putsDrawn 40 = .ok (.return_, 1) := by decide +kernel
theorem dX10_dropsDrawn_0 : decode cX10_dropsDrawn 0 = .ok (.iconst 0, 1) := by decide +kernel
theorem dX10_dropsDrawn_1 : decode cX10_dropsDrawn 1 = .ok (.istore_n 2, 1) := by decide +kernel
theorem dX10_dropsDrawn_2 : decode cX10_dropsDrawn 2 = .ok (.iload_n 2, 1) := by decide +kernel
theorem dX10_dropsDrawn_3 : decode cX10_dropsDrawn 3 = .ok (.iload_n 1, 1) := by decide +kernel
theorem dX10_dropsDrawn_4 : decode cX10_dropsDrawn 4 = .ok (.if_icmp .ge 63, 3) := by decide +kernel
theorem dX10_dropsDrawn_7 : decode cX10_dropsDrawn 7 = .ok (.aload_n 0, 1) := by decide +kernel
theorem dX10_dropsDrawn_8 : decode cX10_dropsDrawn 8 = .ok (.invokevirtual 253, 3) := by decide +kernel
theorem dX10_dropsDrawn_11 : decode cX10_dropsDrawn 11 = .ok (.aload_n 0, 1) := by decide +kernel
theorem dX10_dropsDrawn_12 : decode cX10_dropsDrawn 12 = .ok (.getfield 7, 3) := by decide +kernel
theorem dX10_dropsDrawn_15 : decode cX10_dropsDrawn 15 = .ok (.bipush 7, 2) := by decide +kernel
theorem dX10_dropsDrawn_17 : decode cX10_dropsDrawn 17 = .ok (.iaload, 1) := by decide +kernel
theorem dX10_dropsDrawn_18 : decode cX10_dropsDrawn 18 = .ok (.ifCond .ne 6, 3) := by decide +kernel
theorem dX10_dropsDrawn_21 : decode cX10_dropsDrawn 21 = .ok (.goto 40, 3) := by decide +kernel
theorem dX10_dropsDrawn_24 : decode cX10_dropsDrawn 24 = .ok (.aload_n 0, 1) := by decide +kernel
theorem dX10_dropsDrawn_25 : decode cX10_dropsDrawn 25 = .ok (.invokevirtual 256, 3) := by decide +kernel
theorem dX10_dropsDrawn_28 : decode cX10_dropsDrawn 28 = .ok (.aload_n 0, 1) := by decide +kernel
theorem dX10_dropsDrawn_29 : decode cX10_dropsDrawn 29 = .ok (.aload_n 0, 1) := by decide +kernel
theorem dX10_dropsDrawn_30 : decode cX10_dropsDrawn 30 = .ok (.getfield 7, 3) := by decide +kernel
theorem dX10_dropsDrawn_33 : decode cX10_dropsDrawn 33 = .ok (.bipush 40, 2) := by decide +kernel
theorem dX10_dropsDrawn_35 : decode cX10_dropsDrawn 35 = .ok (.aload_n 0, 1) := by decide +kernel
theorem dX10_dropsDrawn_36 : decode cX10_dropsDrawn 36 = .ok (.getfield 41, 3) := by decide +kernel
theorem dX10_dropsDrawn_39 : decode cX10_dropsDrawn 39 = .ok (.aload_n 0, 1) := by decide +kernel
theorem dX10_dropsDrawn_40 : decode cX10_dropsDrawn 40 = .ok (.getfield 7, 3) := by decide +kernel
theorem dX10_dropsDrawn_43 : decode cX10_dropsDrawn 43 = .ok (.bipush 12, 2) := by decide +kernel
theorem dX10_dropsDrawn_45 : decode cX10_dropsDrawn 45 = .ok (.iaload, 1) := by decide +kernel
theorem dX10_dropsDrawn_46 : decode cX10_dropsDrawn 46 = .ok (.aload_n 0, 1) := by decide +kernel
theorem dX10_dropsDrawn_47 : decode cX10_dropsDrawn 47 = .ok (.getfield 7, 3) := by decide +kernel
theorem dX10_dropsDrawn_50 : decode cX10_dropsDrawn 50 = .ok (.bipush 7, 2) := by decide +kernel
theorem dX10_dropsDrawn_52 : decode cX10_dropsDrawn 52 = .ok (.iaload, 1) := by decide +kernel
theorem dX10_dropsDrawn_53 : decode cX10_dropsDrawn 53 = .ok (.irem, 1) := by decide +kernel
theorem dX10_dropsDrawn_54 : decode cX10_dropsDrawn 54 = .ok (.iaload, 1) := by decide +kernel
theorem dX10_dropsDrawn_55 : decode cX10_dropsDrawn 55 = .ok (.iadd, 1) := by decide +kernel
theorem dX10_dropsDrawn_56 : decode cX10_dropsDrawn 56 = .ok (.iaload, 1) := by decide +kernel
theorem dX10_dropsDrawn_57 : decode cX10_dropsDrawn 57 = .ok (.invokevirtual 241, 3) := by decide +kernel
theorem dX10_dropsDrawn_60 : decode cX10_dropsDrawn 60 = .ok (.pop, 1) := by decide +kernel
theorem dX10_dropsDrawn_61 : decode cX10_dropsDrawn 61 = .ok (.iinc 2 1, 3) := by decide +kernel
theorem dX10_dropsDrawn_64 : decode cX10_dropsDrawn 64 = .ok (.goto (-62), 3) := by decide +kernel
theorem dX10_dropsDrawn_67 : decode cX10_dropsDrawn 67 = .ok (.return_, 1) := by decide +kernel
theorem dX10_does_0 : decode cX10_does 0 = .ok (.aload_n 0, 1) := by decide +kernel
theorem dX10_does_1 : decode cX10_does 1 = .ok (.getfield 29, 3) := by decide +kernel
theorem dX10_does_4 : decode cX10_does 4 = .ok (.iload_n 1, 1) := by decide +kernel
theorem dX10_does_5 : decode cX10_does 5 = .ok (.iaload, 1) := by decide +kernel
theorem dX10_does_6 : decode cX10_does 6 = .ok (.tableswitch 224 100 120 #[116, 224, 224, 128, 224, 224, 146, 224, 224, 224, 152, 224, 98, 224, 224, 140, 224, 224, 224, 224, 213], 98) := by decide +kernel
theorem dX10_does_104 : decode cX10_does 104 = .ok (.aload_n 0, 1) := by decide +kernel
theorem dX10_does_105 : decode cX10_does 105 = .ok (.aload_n 0, 1) := by decide +kernel
theorem dX10_does_106 : decode cX10_does 106 = .ok (.getfield 32, 3) := by decide +kernel
theorem dX10_does_109 : decode cX10_does 109 = .ok (.iload_n 1, 1) := by decide +kernel
theorem dX10_does_110 : decode cX10_does 110 = .ok (.iaload, 1) := by decide +kernel
theorem dX10_does_111 : decode cX10_does 111 = .ok (.aload_n 0, 1) := by decide +kernel
theorem dX10_does_112 : decode cX10_does 112 = .ok (.getfield 35, 3) := by decide +kernel
theorem dX10_does_115 : decode cX10_does 115 = .ok (.iload_n 1, 1) := by decide +kernel
theorem dX10_does_116 : decode cX10_does 116 = .ok (.iaload, 1) := by decide +kernel
theorem dX10_does_117 : decode cX10_does 117 = .ok (.invokevirtual 229, 3) := by decide +kernel
theorem dX10_does_120 : decode cX10_does 120 = .ok (.pop, 1) := by decide +kernel
theorem dX10_does_121 : decode cX10_does 121 = .ok (.return_, 1) := by decide +kernel
theorem dX10_does_122 : decode cX10_does 122 = .ok (.aload_n 0, 1) := by decide +kernel
theorem dX10_does_123 : decode cX10_does 123 = .ok (.aload_n 0, 1) := by decide +kernel
theorem dX10_does_124 : decode cX10_does 124 = .ok (.getfield 32, 3) := by decide +kernel
theorem dX10_does_127 : decode cX10_does 127 = .ok (.iload_n 1, 1) := by decide +kernel
theorem dX10_does_128 : decode cX10_does 128 = .ok (.iaload, 1) := by decide +kernel
theorem dX10_does_129 : decode cX10_does 129 = .ok (.invokevirtual 241, 3) := by decide +kernel
theorem dX10_does_132 : decode cX10_does 132 = .ok (.pop, 1) := by decide +kernel
theorem dX10_does_133 : decode cX10_does 133 = .ok (.return_, 1) := by decide +kernel
theorem dX10_does_134 : decode cX10_does 134 = .ok (.aload_n 0, 1) := by decide +kernel
theorem dX10_does_135 : decode cX10_does 135 = .ok (.aload_n 0, 1) := by decide +kernel
theorem dX10_does_136 : decode cX10_does 136 = .ok (.getfield 32, 3) := by decide +kernel
theorem dX10_does_139 : decode cX10_does 139 = .ok (.iload_n 1, 1) := by decide +kernel
theorem dX10_does_140 : decode cX10_does 140 = .ok (.iaload, 1) := by decide +kernel
theorem dX10_does_141 : decode cX10_does 141 = .ok (.invokevirtual 232, 3) := by decide +kernel
theorem dX10_does_144 : decode cX10_does 144 = .ok (.pop, 1) := by decide +kernel
theorem dX10_does_145 : decode cX10_does 145 = .ok (.return_, 1) := by decide +kernel
theorem dX10_does_146 : decode cX10_does 146 = .ok (.aload_n 0, 1) := by decide +kernel
theorem dX10_does_147 : decode cX10_does 147 = .ok (.invokevirtual 259, 3) := by decide +kernel
theorem dX10_does_150 : decode cX10_does 150 = .ok (.pop, 1) := by decide +kernel
theorem dX10_does_151 : decode cX10_does 151 = .ok (.return_, 1) := by decide +kernel
theorem dX10_does_152 : decode cX10_does 152 = .ok (.aload_n 0, 1) := by decide +kernel
theorem dX10_does_153 : decode cX10_does 153 = .ok (.invokevirtual 262, 3) := by decide +kernel
theorem dX10_does_156 : decode cX10_does 156 = .ok (.pop, 1) := by decide +kernel
theorem dX10_does_157 : decode cX10_does 157 = .ok (.return_, 1) := by decide +kernel
theorem dX10_does_158 : decode cX10_does 158 = .ok (.iconst 0, 1) := by decide +kernel
theorem dX10_does_159 : decode cX10_does 159 = .ok (.istore_n 2, 1) := by decide +kernel
theorem dX10_does_160 : decode cX10_does 160 = .ok (.iload_n 2, 1) := by decide +kernel
theorem dX10_does_161 : decode cX10_does 161 = .ok (.aload_n 0, 1) := by decide +kernel
theorem dX10_does_162 : decode cX10_does 162 = .ok (.getfield 35, 3) := by decide +kernel
theorem dX10_does_165 : decode cX10_does 165 = .ok (.iload_n 1, 1) := by decide +kernel
theorem dX10_does_166 : decode cX10_does 166 = .ok (.iaload, 1) := by decide +kernel
theorem dX10_does_167 : decode cX10_does 167 = .ok (.if_icmp .ge 51, 3) := by decide +kernel
theorem dX10_does_170 : decode cX10_does 170 = .ok (.aload_n 0, 1) := by decide +kernel
theorem dX10_does_171 : decode cX10_does 171 = .ok (.aload_n 0, 1) := by decide +kernel
theorem dX10_does_172 : decode cX10_does 172 = .ok (.getfield 32, 3) := by decide +kernel
theorem dX10_does_175 : decode cX10_does 175 = .ok (.iload_n 1, 1) := by decide +kernel
theorem dX10_does_176 : decode cX10_does 176 = .ok (.iaload, 1) := by decide +kernel
theorem dX10_does_177 : decode cX10_does 177 = .ok (.iload_n 2, 1) := by decide +kernel
theorem dX10_does_178 : decode cX10_does 178 = .ok (.aload_n 0, 1) := by decide +kernel
theorem dX10_does_179 : decode cX10_does 179 = .ok (.getfield 38, 3) := by decide +kernel
theorem dX10_does_182 : decode cX10_does 182 = .ok (.iload_n 1, 1) := by decide +kernel
theorem dX10_does_183 : decode cX10_does 183 = .ok (.iaload, 1) := by decide +kernel
theorem dX10_does_184 : decode cX10_does 184 = .ok (.imul, 1) := by decide +kernel
theorem dX10_does_185 : decode cX10_does 185 = .ok (.iadd, 1) := by decide +kernel
theorem dX10_does_186 : decode cX10_does 186 = .ok (.ldc 62, 2) := by decide +kernel
theorem dX10_does_188 : decode cX10_does 188 = .ok (.irem, 1) := by decide +kernel
theorem dX10_does_189 : decode cX10_does 189 = .ok (.aload_n 0, 1) := by decide +kernel
theorem dX10_does_190 : decode cX10_does 190 = .ok (.getfield 32, 3) := by decide +kernel
theorem dX10_does_193 : decode cX10_does 193 = .ok (.iload_n 1, 1) := by decide +kernel
theorem dX10_does_194 : decode cX10_does 194 = .ok (.iaload, 1) := by decide +kernel
theorem dX10_does_195 : decode cX10_does 195 = .ok (.iload_n 2, 1) := by decide +kernel
theorem dX10_does_196 : decode cX10_does 196 = .ok (.aload_n 0, 1) := by decide +kernel
theorem dX10_does_197 : decode cX10_does 197 = .ok (.getfield 38, 3) := by decide +kernel
theorem dX10_does_200 : decode cX10_does 200 = .ok (.iload_n 1, 1) := by decide +kernel
theorem dX10_does_201 : decode cX10_does 201 = .ok (.iaload, 1) := by decide +kernel
theorem dX10_does_202 : decode cX10_does 202 = .ok (.imul, 1) := by decide +kernel
theorem dX10_does_203 : decode cX10_does 203 = .ok (.iadd, 1) := by decide +kernel
theorem dX10_does_204 : decode cX10_does 204 = .ok (.sipush 256, 3) := by decide +kernel
theorem dX10_does_207 : decode cX10_does 207 = .ok (.irem, 1) := by decide +kernel
theorem dX10_does_208 : decode cX10_does 208 = .ok (.invokevirtual 229, 3) := by decide +kernel
theorem dX10_does_211 : decode cX10_does 211 = .ok (.pop, 1) := by decide +kernel
theorem dX10_does_212 : decode cX10_does 212 = .ok (.iinc 2 1, 3) := by decide +kernel
theorem dX10_does_215 : decode cX10_does 215 = .ok (.goto (-55), 3) := by decide +kernel
theorem dX10_does_218 : decode cX10_does 218 = .ok (.return_, 1) := by decide +kernel
theorem dX10_does_219 : decode cX10_does 219 = .ok (.aload_n 0, 1) := by decide +kernel
theorem dX10_does_220 : decode cX10_does 220 = .ok (.aload_n 0, 1) := by decide +kernel
theorem dX10_does_221 : decode cX10_does 221 = .ok (.getfield 32, 3) := by decide +kernel
theorem dX10_does_224 : decode cX10_does 224 = .ok (.iload_n 1, 1) := by decide +kernel
theorem dX10_does_225 : decode cX10_does 225 = .ok (.iaload, 1) := by decide +kernel
theorem dX10_does_226 : decode cX10_does 226 = .ok (.invokevirtual 265, 3) := by decide +kernel
theorem dX10_does_229 : decode cX10_does 229 = .ok (.return_, 1) := by decide +kernel
theorem dX10_does_230 : decode cX10_does 230 = .ok (.aload_n 0, 1) := by decide +kernel
theorem dX10_does_231 : decode cX10_does 231 = .ok (.aload_n 0, 1) := by decide +kernel
theorem dX10_does_232 : decode cX10_does 232 = .ok (.getfield 32, 3) := by decide +kernel
theorem dX10_does_235 : decode cX10_does 235 = .ok (.iload_n 1, 1) := by decide +kernel
theorem dX10_does_236 : decode cX10_does 236 = .ok (.iaload, 1) := by decide +kernel
theorem dX10_does_237 : decode cX10_does 237 = .ok (.invokevirtual 268, 3) := by decide +kernel
theorem dX10_does_240 : decode cX10_does 240 = .ok (.return_, 1) := by decide +kernel
theorem dX10_work_0 : decode cX10_work 0 = .ok (.iload_n 1, 1) := by decide +kernel
theorem dX10_work_1 : decode cX10_work 1 = .ok (.iconst 1, 1) := by decide +kernel
theorem dX10_work_2 : decode cX10_work 2 = .ok (.bipush 120, 2) := by decide +kernel
theorem dX10_work_4 : decode cX10_work 4 = .ok (.invokestatic 67, 3) := by decide +kernel
theorem dX10_work_7 : decode cX10_work 7 = .ok (.ifCond .eq 11, 3) := by decide +kernel
theorem dX10_work_10 : decode cX10_work 10 = .ok (.iload_n 1, 1) := by decide +kernel
theorem dX10_work_11 : decode cX10_work 11 = .ok (.aload_n 0, 1) := by decide +kernel
theorem dX10_work_12 : decode cX10_work 12 = .ok (.getfield 71, 3) := by decide +kernel
theorem dX10_work_15 : decode cX10_work 15 = .ok (.if_icmp .le 5, 3) := by decide +kernel
theorem dX10_work_18 : decode cX10_work 18 = .ok (.iconst (-1), 1) := by decide +kernel
theorem dX10_work_19 : decode cX10_work 19 = .ok (.ireturn, 1) := by decide +kernel
theorem dX10_work_20 : decode cX10_work 20 = .ok (.aload_n 0, 1) := by decide +kernel
theorem dX10_work_21 : decode cX10_work 21 = .ok (.iconst 0, 1) := by decide +kernel
theorem dX10_work_22 : decode cX10_work 22 = .ok (.putfield 79, 3) := by decide +kernel
theorem dX10_work_25 : decode cX10_work 25 = .ok (.aload_n 0, 1) := by decide +kernel
theorem dX10_work_26 : decode cX10_work 26 = .ok (.iload_n 1, 1) := by decide +kernel
theorem dX10_work_27 : decode cX10_work 27 = .ok (.putfield 82, 3) := by decide +kernel
theorem dX10_work_30 : decode cX10_work 30 = .ok (.aload_n 0, 1) := by decide +kernel
theorem dX10_work_31 : decode cX10_work 31 = .ok (.iconst 0, 1) := by decide +kernel
theorem dX10_work_32 : decode cX10_work 32 = .ok (.putfield 244, 3) := by decide +kernel
theorem dX10_work_35 : decode cX10_work 35 = .ok (.aload_n 0, 1) := by decide +kernel
theorem dX10_work_36 : decode cX10_work 36 = .ok (.invokevirtual 271, 3) := by decide +kernel
theorem dX10_work_39 : decode cX10_work 39 = .ok (.istore_n 2, 1) := by decide +kernel
theorem dX10_work_40 : decode cX10_work 40 = .ok (.iload_n 2, 1) := by decide +kernel
theorem dX10_work_41 : decode cX10_work 41 = .ok (.ifCond .eq 66, 3) := by decide +kernel
theorem dX10_work_44 : decode cX10_work 44 = .ok (.aload_n 0, 1) := by decide +kernel
theorem dX10_work_45 : decode cX10_work 45 = .ok (.getfield 79, 3) := by decide +kernel
theorem dX10_work_48 : decode cX10_work 48 = .ok (.aload_n 0, 1) := by decide +kernel
theorem dX10_work_49 : decode cX10_work 49 = .ok (.getfield 82, 3) := by decide +kernel
theorem dX10_work_52 : decode cX10_work 52 = .ok (.if_icmp .ge 55, 3) := by decide +kernel
theorem dX10_work_55 : decode cX10_work 55 = .ok (.aload_n 0, 1) := by decide +kernel
theorem dX10_work_56 : decode cX10_work 56 = .ok (.invokevirtual 88, 3) := by decide +kernel
theorem dX10_work_59 : decode cX10_work 59 = .ok (.bipush 59, 2) := by decide +kernel
theorem dX10_work_61 : decode cX10_work 61 = .ok (.if_icmp .ne 16, 3) := by decide +kernel
theorem dX10_work_64 : decode cX10_work 64 = .ok (.aload_n 0, 1) := by decide +kernel
theorem dX10_work_65 : decode cX10_work 65 = .ok (.aload_n 0, 1) := by decide +kernel
theorem dX10_work_66 : decode cX10_work 66 = .ok (.getfield 79, 3) := by decide +kernel
theorem dX10_work_69 : decode cX10_work 69 = .ok (.iconst 1, 1) := by decide +kernel
theorem dX10_work_70 : decode cX10_work 70 = .ok (.iadd, 1) := by decide +kernel
theorem dX10_work_71 : decode cX10_work 71 = .ok (.putfield 79, 3) := by decide +kernel
theorem dX10_work_74 : decode cX10_work 74 = .ok (.goto 13, 3) := by decide +kernel
theorem dX10_work_77 : decode cX10_work 77 = .ok (.aload_n 0, 1) := by decide +kernel
theorem dX10_work_78 : decode cX10_work 78 = .ok (.iconst 1, 1) := by decide +kernel
theorem dX10_work_79 : decode cX10_work 79 = .ok (.aload_n 0, 1) := by decide +kernel
theorem dX10_work_80 : decode cX10_work 80 = .ok (.getfield 79, 3) := by decide +kernel
theorem dX10_work_83 : decode cX10_work 83 = .ok (.invokevirtual 96, 3) := by decide +kernel
theorem dX10_work_86 : decode cX10_work 86 = .ok (.istore_n 2, 1) := by decide +kernel
theorem dX10_work_87 : decode cX10_work 87 = .ok (.iload_n 2, 1) := by decide +kernel
theorem dX10_work_88 : decode cX10_work 88 = .ok (.ifCond .eq 14, 3) := by decide +kernel
theorem dX10_work_91 : decode cX10_work 91 = .ok (.aload_n 0, 1) := by decide +kernel
theorem dX10_work_92 : decode cX10_work 92 = .ok (.invokevirtual 271, 3) := by decide +kernel
theorem dX10_work_95 : decode cX10_work 95 = .ok (.ifCond .eq 7, 3) := by decide +kernel
theorem dX10_work_98 : decode cX10_work 98 = .ok (.iconst 1, 1) := by decide +kernel
theorem dX10_work_99 : decode cX10_work 99 = .ok (.goto 4, 3) := by decide +kernel
theorem dX10_work_102 : decode cX10_work 102 = .ok (.iconst 0, 1) := by decide +kernel
theorem dX10_work_103 : decode cX10_work 103 = .ok (.istore_n 2, 1) := by decide +kernel
theorem dX10_work_104 : decode cX10_work 104 = .ok (.goto (-64), 3) := by decide +kernel
theorem dX10_work_107 : decode cX10_work 107 = .ok (.aload_n 0, 1) := by decide +kernel
theorem dX10_work_108 : decode cX10_work 108 = .ok (.iconst 0, 1) := by decide +kernel
theorem dX10_work_109 : decode cX10_work 109 = .ok (.putfield 71, 3) := by decide +kernel
theorem dX10_work_112 : decode cX10_work 112 = .ok (.iload_n 2, 1) := by decide +kernel
theorem dX10_work_113 : decode cX10_work 113 = .ok (.ifCond .ne 8, 3) := by decide +kernel
theorem dX10_work_116 : decode cX10_work 116 = .ok (.aload_n 0, 1) := by decide +kernel
theorem dX10_work_117 : decode cX10_work 117 = .ok (.getfield 85, 3) := by decide +kernel
theorem dX10_work_120 : decode cX10_work 120 = .ok (.ireturn, 1) := by decide +kernel
theorem dX10_work_121 : decode cX10_work 121 = .ok (.iconst 0, 1) := by decide +kernel
theorem dX10_work_122 : decode cX10_work 122 = .ok (.istore_n 3, 1) := by decide +kernel
theorem dX10_work_123 : decode cX10_work 123 = .ok (.iload_n 3, 1) := by decide +kernel
theorem dX10_work_124 : decode cX10_work 124 = .ok (.aload_n 0, 1) := by decide +kernel
theorem dX10_work_125 : decode cX10_work 125 = .ok (.getfield 244, 3) := by decide +kernel
theorem dX10_work_128 : decode cX10_work 128 = .ok (.if_icmp .ge 14, 3) := by decide +kernel
theorem dX10_work_131 : decode cX10_work 131 = .ok (.aload_n 0, 1) := by decide +kernel
theorem dX10_work_132 : decode cX10_work 132 = .ok (.iload_n 3, 1) := by decide +kernel
theorem dX10_work_133 : decode cX10_work 133 = .ok (.invokevirtual 274, 3) := by decide +kernel
theorem dX10_work_136 : decode cX10_work 136 = .ok (.iinc 3 1, 3) := by decide +kernel
theorem dX10_work_139 : decode cX10_work 139 = .ok (.goto (-16), 3) := by decide +kernel
theorem dX10_work_142 : decode cX10_work 142 = .ok (.aload_n 0, 1) := by decide +kernel
theorem dX10_work_143 : decode cX10_work 143 = .ok (.getfield 244, 3) := by decide +kernel
theorem dX10_work_146 : decode cX10_work 146 = .ok (.ireturn, 1) := by decide +kernel
theorem dX10_rankOf_0 : decode cX10_rankOf 0 = .ok (.aload_n 0, 1) := by decide +kernel
theorem dX10_rankOf_1 : decode cX10_rankOf 1 = .ok (.iload_n 1, 1) := by decide +kernel
theorem dX10_rankOf_2 : decode cX10_rankOf 2 = .ok (.invokevirtual 184, 3) := by decide +kernel
theorem dX10_rankOf_5 : decode cX10_rankOf 5 = .ok (.istore_n 2, 1) := by decide +kernel
theorem dX10_rankOf_6 : decode cX10_rankOf 6 = .ok (.iload_n 2, 1) := by decide +kernel
theorem dX10_rankOf_7 : decode cX10_rankOf 7 = .ok (.aload_n 0, 1) := by decide +kernel
theorem dX10_rankOf_8 : decode cX10_rankOf 8 = .ok (.getfield 7, 3) := by decide +kernel
theorem dX10_rankOf_11 : decode cX10_rankOf 11 = .ok (.iconst 0, 1) := by decide +kernel
theorem dX10_rankOf_12 : decode cX10_rankOf 12 = .ok (.iaload, 1) := by decide +kernel
theorem dX10_rankOf_13 : decode cX10_rankOf 13 = .ok (.irem, 1) := by decide +kernel
theorem dX10_rankOf_14 : decode cX10_rankOf 14 = .ok (.ldc 62, 2) := by decide +kernel
theorem dX10_rankOf_16 : decode cX10_rankOf 16 = .ok (.imul, 1) := by decide +kernel
theorem dX10_rankOf_17 : decode cX10_rankOf 17 = .ok (.iload_n 2, 1) := by decide +kernel
theorem dX10_rankOf_18 : decode cX10_rankOf 18 = .ok (.aload_n 0, 1) := by decide +kernel
theorem dX10_rankOf_19 : decode cX10_rankOf 19 = .ok (.getfield 7, 3) := by decide +kernel
theorem dX10_rankOf_22 : decode cX10_rankOf 22 = .ok (.iconst 0, 1) := by decide +kernel
theorem dX10_rankOf_23 : decode cX10_rankOf 23 = .ok (.iaload, 1) := by decide +kernel
theorem dX10_rankOf_24 : decode cX10_rankOf 24 = .ok (.idiv, 1) := by decide +kernel
theorem dX10_rankOf_25 : decode cX10_rankOf 25 = .ok (.invokestatic 149, 3) := by decide +kernel
theorem dX10_rankOf_28 : decode cX10_rankOf 28 = .ok (.iadd, 1) := by decide +kernel
theorem dX10_rankOf_29 : decode cX10_rankOf 29 = .ok (.ireturn, 1) := by decide +kernel
theorem dX10_isBehind_0 : decode cX10_isBehind 0 = .ok (.iload_n 1, 1) := by decide +kernel
theorem dX10_isBehind_1 : decode cX10_isBehind 1 = .ok (.iload_n 3, 1) := by decide +kernel
theorem dX10_isBehind_2 : decode cX10_isBehind 2 = .ok (.if_icmp .eq 16, 3) := by decide +kernel
theorem dX10_isBehind_5 : decode cX10_isBehind 5 = .ok (.iload_n 1, 1) := by decide +kernel
theorem dX10_isBehind_6 : decode cX10_isBehind 6 = .ok (.iload_n 3, 1) := by decide +kernel
theorem dX10_isBehind_7 : decode cX10_isBehind 7 = .ok (.if_icmp .le 7, 3) := by decide +kernel
theorem dX10_isBehind_10 : decode cX10_isBehind 10 = .ok (.iconst 1, 1) := by decide +kernel
theorem dX10_isBehind_11 : decode cX10_isBehind 11 = .ok (.goto 18, 3) := by decide +kernel
theorem dX10_isBehind_14 : decode cX10_isBehind 14 = .ok (.iconst 0, 1) := by decide +kernel
theorem dX10_isBehind_15 : decode cX10_isBehind 15 = .ok (.goto 14, 3) := by decide +kernel
theorem dX10_isBehind_18 : decode cX10_isBehind 18 = .ok (.iload_n 2, 1) := by decide +kernel
theorem dX10_isBehind_19 : decode cX10_isBehind 19 = .ok (.iload 4, 2) := by decide +kernel
theorem dX10_isBehind_21 : decode cX10_isBehind 21 = .ok (.if_icmp .le 7, 3) := by decide +kernel
theorem dX10_isBehind_24 : decode cX10_isBehind 24 = .ok (.iconst 1, 1) := by decide +kernel
theorem dX10_isBehind_25 : decode cX10_isBehind 25 = .ok (.goto 4, 3) := by decide +kernel
theorem dX10_isBehind_28 : decode cX10_isBehind 28 = .ok (.iconst 0, 1) := by decide +kernel
theorem dX10_isBehind_29 : decode cX10_isBehind 29 = .ok (.ireturn, 1) := by decide +kernel
theorem dX10_orders_0 : decode cX10_orders 0 = .ok (.iconst 0, 1) := by decide +kernel
theorem dX10_orders_1 : decode cX10_orders 1 = .ok (.istore_n 1, 1) := by decide +kernel
theorem dX10_orders_2 : decode cX10_orders 2 = .ok (.iload_n 1, 1) := by decide +kernel
theorem dX10_orders_3 : decode cX10_orders 3 = .ok (.aload_n 0, 1) := by decide +kernel
theorem dX10_orders_4 : decode cX10_orders 4 = .ok (.getfield 7, 3) := by decide +kernel
theorem dX10_orders_7 : decode cX10_orders 7 = .ok (.bipush 7, 2) := by decide +kernel
theorem dX10_orders_9 : decode cX10_orders 9 = .ok (.iaload, 1) := by decide +kernel
theorem dX10_orders_10 : decode cX10_orders 10 = .ok (.if_icmp .ge 28, 3) := by decide +kernel
theorem dX10_orders_13 : decode cX10_orders 13 = .ok (.aload_n 0, 1) := by decide +kernel
theorem dX10_orders_14 : decode cX10_orders 14 = .ok (.getfield 44, 3) := by decide +kernel
theorem dX10_orders_17 : decode cX10_orders 17 = .ok (.iload_n 1, 1) := by decide +kernel
theorem dX10_orders_18 : decode cX10_orders 18 = .ok (.aload_n 0, 1) := by decide +kernel
theorem dX10_orders_19 : decode cX10_orders 19 = .ok (.aload_n 0, 1) := by decide +kernel
theorem dX10_orders_20 : decode cX10_orders 20 = .ok (.getfield 7, 3) := by decide +kernel
theorem dX10_orders_23 : decode cX10_orders 23 = .ok (.bipush 40, 2) := by decide +kernel
theorem dX10_orders_25 : decode cX10_orders 25 = .ok (.iload_n 1, 1) := by decide +kernel
theorem dX10_orders_26 : decode cX10_orders 26 = .ok (.iadd, 1) := by decide +kernel
theorem dX10_orders_27 : decode cX10_orders 27 = .ok (.iaload, 1) := by decide +kernel
theorem dX10_orders_28 : decode cX10_orders 28 = .ok (.invokevirtual 277, 3) := by decide +kernel
theorem dX10_orders_31 : decode cX10_orders 31 = .ok (.iastore, 1) := by decide +kernel
theorem dX10_orders_32 : decode cX10_orders 32 = .ok (.iinc 1 1, 3) := by decide +kernel
theorem dX10_orders_35 : decode cX10_orders 35 = .ok (.goto (-33), 3) := by decide +kernel
theorem dX10_orders_38 : decode cX10_orders 38 = .ok (.iconst 0, 1) := by decide +kernel
theorem dX10_orders_39 : decode cX10_orders 39 = .ok (.istore_n 1, 1) := by decide +kernel
theorem dX10_orders_40 : decode cX10_orders 40 = .ok (.iload_n 1, 1) := by decide +kernel
theorem dX10_orders_41 : decode cX10_orders 41 = .ok (.aload_n 0, 1) := by decide +kernel
theorem dX10_orders_42 : decode cX10_orders 42 = .ok (.getfield 7, 3) := by decide +kernel
theorem dX10_orders_45 : decode cX10_orders 45 = .ok (.bipush 7, 2) := by decide +kernel
theorem dX10_orders_47 : decode cX10_orders 47 = .ok (.iaload, 1) := by decide +kernel
theorem dX10_orders_48 : decode cX10_orders 48 = .ok (.if_icmp .ge 94, 3) := by decide +kernel
theorem dX10_orders_51 : decode cX10_orders 51 = .ok (.iload_n 1, 1) := by decide +kernel
theorem dX10_orders_52 : decode cX10_orders 52 = .ok (.istore_n 2, 1) := by decide +kernel
theorem dX10_orders_53 : decode cX10_orders 53 = .ok (.iload_n 2, 1) := by decide +kernel
theorem dX10_orders_54 : decode cX10_orders 54 = .ok (.ifCond .le 75, 3) := by decide +kernel
theorem dX10_orders_57 : decode cX10_orders 57 = .ok (.aload_n 0, 1) := by decide +kernel
theorem dX10_orders_58 : decode cX10_orders 58 = .ok (.aload_n 0, 1) := by decide +kernel
theorem dX10_orders_59 : decode cX10_orders 59 = .ok (.getfield 44, 3) := by decide +kernel
theorem dX10_orders_62 : decode cX10_orders 62 = .ok (.aload_n 0, 1) := by decide +kernel
theorem dX10_orders_63 : decode cX10_orders 63 = .ok (.getfield 41, 3) := by decide +kernel
theorem dX10_orders_66 : decode cX10_orders 66 = .ok (.iload_n 2, 1) := by decide +kernel
theorem dX10_orders_67 : decode cX10_orders 67 = .ok (.iconst 1, 1) := by decide +kernel
theorem dX10_orders_68 : decode cX10_orders 68 = .ok (.isub, 1) := by decide +kernel
theorem dX10_orders_69 : decode cX10_orders 69 = .ok (.iaload, 1) := by decide +kernel
theorem dX10_orders_70 : decode cX10_orders 70 = .ok (.iaload, 1) := by decide +kernel
theorem dX10_orders_71 : decode cX10_orders 71 = .ok (.aload_n 0, 1) := by decide +kernel
theorem dX10_orders_72 : decode cX10_orders 72 = .ok (.getfield 7, 3) := by decide +kernel
theorem dX10_orders_75 : decode cX10_orders 75 = .ok (.bipush 40, 2) := by decide +kernel
theorem dX10_orders_77 : decode cX10_orders 77 = .ok (.aload_n 0, 1) := by decide +kernel
theorem dX10_orders_78 : decode cX10_orders 78 = .ok (.getfield 41, 3) := by decide +kernel
theorem dX10_orders_81 : decode cX10_orders 81 = .ok (.iload_n 2, 1) := by decide +kernel
theorem dX10_orders_82 : decode cX10_orders 82 = .ok (.iconst 1, 1) := by decide +kernel
theorem dX10_orders_83 : decode cX10_orders 83 = .ok (.isub, 1) := by decide +kernel
theorem dX10_orders_84 : decode cX10_orders 84 = .ok (.iaload, 1) := by decide +kernel
theorem dX10_orders_85 : decode cX10_orders 85 = .ok (.iadd, 1) := by decide +kernel
theorem dX10_orders_86 : decode cX10_orders 86 = .ok (.iaload, 1) := by decide +kernel
theorem dX10_orders_87 : decode cX10_orders 87 = .ok (.aload_n 0, 1) := by decide +kernel
theorem dX10_orders_88 : decode cX10_orders 88 = .ok (.getfield 44, 3) := by decide +kernel
theorem dX10_orders_91 : decode cX10_orders 91 = .ok (.iload_n 1, 1) := by decide +kernel
theorem dX10_orders_92 : decode cX10_orders 92 = .ok (.iaload, 1) := by decide +kernel
theorem dX10_orders_93 : decode cX10_orders 93 = .ok (.aload_n 0, 1) := by decide +kernel
theorem dX10_orders_94 : decode cX10_orders 94 = .ok (.getfield 7, 3) := by decide +kernel
theorem dX10_orders_97 : decode cX10_orders 97 = .ok (.bipush 40, 2) := by decide +kernel
theorem dX10_orders_99 : decode cX10_orders 99 = .ok (.iload_n 1, 1) := by decide +kernel
theorem dX10_orders_100 : decode cX10_orders 100 = .ok (.iadd, 1) := by decide +kernel
theorem dX10_orders_101 : decode cX10_orders 101 = .ok (.iaload, 1) := by decide +kernel
theorem dX10_orders_102 : decode cX10_orders 102 = .ok (.invokevirtual 280, 3) := by decide +kernel
theorem dX10_orders_105 : decode cX10_orders 105 = .ok (.ifCond .eq 24, 3) := by decide +kernel
theorem dX10_orders_108 : decode cX10_orders 108 = .ok (.aload_n 0, 1) := by decide +kernel
theorem dX10_orders_109 : decode cX10_orders 109 = .ok (.getfield 41, 3) := by decide +kernel
theorem dX10_orders_112 : decode cX10_orders 112 = .ok (.iload_n 2, 1) := by decide +kernel
theorem dX10_orders_113 : decode cX10_orders 113 = .ok (.aload_n 0, 1) := by decide +kernel
theorem dX10_orders_114 : decode cX10_orders 114 = .ok (.getfield 41, 3) := by decide +kernel
theorem dX10_orders_117 : decode cX10_orders 117 = .ok (.iload_n 2, 1) := by decide +kernel
theorem dX10_orders_118 : decode cX10_orders 118 = .ok (.iconst 1, 1) := by decide +kernel
theorem dX10_orders_119 : decode cX10_orders 119 = .ok (.isub, 1) := by decide +kernel
theorem dX10_orders_120 : decode cX10_orders 120 = .ok (.iaload, 1) := by decide +kernel
theorem dX10_orders_121 : decode cX10_orders 121 = .ok (.iastore, 1) := by decide +kernel
theorem dX10_orders_122 : decode cX10_orders 122 = .ok (.iload_n 2, 1) := by decide +kernel
theorem dX10_orders_123 : decode cX10_orders 123 = .ok (.iconst 1, 1) := by decide +kernel
theorem dX10_orders_124 : decode cX10_orders 124 = .ok (.isub, 1) := by decide +kernel
theorem dX10_orders_125 : decode cX10_orders 125 = .ok (.istore_n 2, 1) := by decide +kernel
theorem dX10_orders_126 : decode cX10_orders 126 = .ok (.goto (-73), 3) := by decide +kernel
theorem dX10_orders_129 : decode cX10_orders 129 = .ok (.aload_n 0, 1) := by decide +kernel
theorem dX10_orders_130 : decode cX10_orders 130 = .ok (.getfield 41, 3) := by decide +kernel
theorem dX10_orders_133 : decode cX10_orders 133 = .ok (.iload_n 2, 1) := by decide +kernel
theorem dX10_orders_134 : decode cX10_orders 134 = .ok (.iload_n 1, 1) := by decide +kernel
theorem dX10_orders_135 : decode cX10_orders 135 = .ok (.iastore, 1) := by decide +kernel
theorem dX10_orders_136 : decode cX10_orders 136 = .ok (.iinc 1 1, 3) := by decide +kernel
theorem dX10_orders_139 : decode cX10_orders 139 = .ok (.goto (-99), 3) := by decide +kernel
theorem dX10_orders_142 : decode cX10_orders 142 = .ok (.return_, 1) := by decide +kernel
theorem dX10_inOrder_0 : decode cX10_inOrder 0 = .ok (.iload_n 1, 1) := by decide +kernel
theorem dX10_inOrder_1 : decode cX10_inOrder 1 = .ok (.ifCond .ge 5, 3) := by decide +kernel
theorem dX10_inOrder_4 : decode cX10_inOrder 4 = .ok (.iconst (-1), 1) := by decide +kernel
theorem dX10_inOrder_5 : decode cX10_inOrder 5 = .ok (.ireturn, 1) := by decide +kernel
theorem dX10_inOrder_6 : decode cX10_inOrder 6 = .ok (.iload_n 1, 1) := by decide +kernel
theorem dX10_inOrder_7 : decode cX10_inOrder 7 = .ok (.aload_n 0, 1) := by decide +kernel
theorem dX10_inOrder_8 : decode cX10_inOrder 8 = .ok (.getfield 7, 3) := by decide +kernel
theorem dX10_inOrder_11 : decode cX10_inOrder 11 = .ok (.bipush 7, 2) := by decide +kernel
theorem dX10_inOrder_13 : decode cX10_inOrder 13 = .ok (.iaload, 1) := by decide +kernel
theorem dX10_inOrder_14 : decode cX10_inOrder 14 = .ok (.if_icmp .lt 6, 3) := by decide +kernel
theorem dX10_inOrder_17 : decode cX10_inOrder 17 = .ok (.bipush (-4), 2) := by decide +kernel
theorem dX10_inOrder_19 : decode cX10_inOrder 19 = .ok (.ireturn, 1) := by decide +kernel
theorem dX10_inOrder_20 : decode cX10_inOrder 20 = .ok (.aload_n 0, 1) := by decide +kernel
theorem dX10_inOrder_21 : decode cX10_inOrder 21 = .ok (.invokevirtual 256, 3) := by decide +kernel
theorem dX10_inOrder_24 : decode cX10_inOrder 24 = .ok (.aload_n 0, 1) := by decide +kernel
theorem dX10_inOrder_25 : decode cX10_inOrder 25 = .ok (.getfield 7, 3) := by decide +kernel
theorem dX10_inOrder_28 : decode cX10_inOrder 28 = .ok (.bipush 40, 2) := by decide +kernel
theorem dX10_inOrder_30 : decode cX10_inOrder 30 = .ok (.aload_n 0, 1) := by decide +kernel
theorem dX10_inOrder_31 : decode cX10_inOrder 31 = .ok (.getfield 41, 3) := by decide +kernel
theorem dX10_inOrder_34 : decode cX10_inOrder 34 = .ok (.iload_n 1, 1) := by decide +kernel
theorem dX10_inOrder_35 : decode cX10_inOrder 35 = .ok (.iaload, 1) := by decide +kernel
theorem dX10_inOrder_36 : decode cX10_inOrder 36 = .ok (.iadd, 1) := by decide +kernel
theorem dX10_inOrder_37 : decode cX10_inOrder 37 = .ok (.iaload, 1) := by decide +kernel
theorem dX10_inOrder_38 : decode cX10_inOrder 38 = .ok (.ireturn, 1) := by decide +kernel
theorem dX10_isOpen_0 : decode cX10_isOpen 0 = .ok (.iload_n 1, 1) := by decide +kernel
theorem dX10_isOpen_1 : decode cX10_isOpen 1 = .ok (.iconst 0, 1) := by decide +kernel
theorem dX10_isOpen_2 : decode cX10_isOpen 2 = .ok (.iconst 3, 1) := by decide +kernel
theorem dX10_isOpen_3 : decode cX10_isOpen 3 = .ok (.invokestatic 67, 3) := by decide +kernel
theorem dX10_isOpen_6 : decode cX10_isOpen 6 = .ok (.ifCond .eq 21, 3) := by decide +kernel
theorem dX10_isOpen_9 : decode cX10_isOpen 9 = .ok (.aload_n 0, 1) := by decide +kernel
theorem dX10_isOpen_10 : decode cX10_isOpen 10 = .ok (.getfield 7, 3) := by decide +kernel
theorem dX10_isOpen_13 : decode cX10_isOpen 13 = .ok (.bipush 14, 2) := by decide +kernel
theorem dX10_isOpen_15 : decode cX10_isOpen 15 = .ok (.iaload, 1) := by decide +kernel
theorem dX10_isOpen_16 : decode cX10_isOpen 16 = .ok (.iload_n 1, 1) := by decide +kernel
theorem dX10_isOpen_17 : decode cX10_isOpen 17 = .ok (.invokestatic 284, 3) := by decide +kernel
theorem dX10_isOpen_20 : decode cX10_isOpen 20 = .ok (.ifCond .eq 7, 3) := by decide +kernel
theorem dX10_isOpen_23 : decode cX10_isOpen 23 = .ok (.iconst 1, 1) := by decide +kernel
theorem dX10_isOpen_24 : decode cX10_isOpen 24 = .ok (.goto 4, 3) := by decide +kernel
theorem dX10_isOpen_27 : decode cX10_isOpen 27 = .ok (.iconst 0, 1) := by decide +kernel
theorem dX10_isOpen_28 : decode cX10_isOpen 28 = .ok (.ireturn, 1) := by decide +kernel
theorem dX10_scan_0 : decode cX10_scan 0 = .ok (.iconst 0, 1) := by decide +kernel
theorem dX10_scan_1 : decode cX10_scan 1 = .ok (.istore_n 1, 1) := by decide +kernel
theorem dX10_scan_2 : decode cX10_scan 2 = .ok (.iload_n 1, 1) := by decide +kernel
theorem dX10_scan_3 : decode cX10_scan 3 = .ok (.iconst 4, 1) := by decide +kernel
theorem dX10_scan_4 : decode cX10_scan 4 = .ok (.if_icmp .ge 66, 3) := by decide +kernel
theorem dX10_scan_7 : decode cX10_scan 7 = .ok (.aload_n 0, 1) := by decide +kernel
theorem dX10_scan_8 : decode cX10_scan 8 = .ok (.getfield 7, 3) := by decide +kernel
theorem dX10_scan_11 : decode cX10_scan 11 = .ok (.bipush 14, 2) := by decide +kernel
theorem dX10_scan_13 : decode cX10_scan 13 = .ok (.iaload, 1) := by decide +kernel
theorem dX10_scan_14 : decode cX10_scan 14 = .ok (.iload_n 1, 1) := by decide +kernel
theorem dX10_scan_15 : decode cX10_scan 15 = .ok (.invokestatic 284, 3) := by decide +kernel
theorem dX10_scan_18 : decode cX10_scan 18 = .ok (.ifCond .eq 6, 3) := by decide +kernel
theorem dX10_scan_21 : decode cX10_scan 21 = .ok (.goto 43, 3) := by decide +kernel
theorem dX10_scan_24 : decode cX10_scan 24 = .ok (.aload_n 0, 1) := by decide +kernel
theorem dX10_scan_25 : decode cX10_scan 25 = .ok (.getfield 7, 3) := by decide +kernel
theorem dX10_scan_28 : decode cX10_scan 28 = .ok (.bipush 14, 2) := by decide +kernel
theorem dX10_scan_30 : decode cX10_scan 30 = .ok (.aload_n 0, 1) := by decide +kernel
theorem dX10_scan_31 : decode cX10_scan 31 = .ok (.getfield 7, 3) := by decide +kernel
theorem dX10_scan_34 : decode cX10_scan 34 = .ok (.bipush 14, 2) := by decide +kernel
theorem dX10_scan_36 : decode cX10_scan 36 = .ok (.iaload, 1) := by decide +kernel
theorem dX10_scan_37 : decode cX10_scan 37 = .ok (.iconst 1, 1) := by decide +kernel
theorem dX10_scan_38 : decode cX10_scan 38 = .ok (.iload_n 1, 1) := by decide +kernel
theorem dX10_scan_39 : decode cX10_scan 39 = .ok (.ishl, 1) := by decide +kernel
theorem dX10_scan_40 : decode cX10_scan 40 = .ok (.ior, 1) := by decide +kernel
theorem dX10_scan_41 : decode cX10_scan 41 = .ok (.iastore, 1) := by decide +kernel
theorem dX10_scan_42 : decode cX10_scan 42 = .ok (.aload_n 0, 1) := by decide +kernel
theorem dX10_scan_43 : decode cX10_scan 43 = .ok (.getfield 7, 3) := by decide +kernel
theorem dX10_scan_46 : decode cX10_scan 46 = .ok (.bipush 15, 2) := by decide +kernel
theorem dX10_scan_48 : decode cX10_scan 48 = .ok (.iload_n 1, 1) := by decide +kernel
theorem dX10_scan_49 : decode cX10_scan 49 = .ok (.iadd, 1) := by decide +kernel
theorem dX10_scan_50 : decode cX10_scan 50 = .ok (.iconst (-1), 1) := by decide +kernel
theorem dX10_scan_51 : decode cX10_scan 51 = .ok (.iastore, 1) := by decide +kernel
theorem dX10_scan_52 : decode cX10_scan 52 = .ok (.aload_n 0, 1) := by decide +kernel
theorem dX10_scan_53 : decode cX10_scan 53 = .ok (.getfield 7, 3) := by decide +kernel
theorem dX10_scan_56 : decode cX10_scan 56 = .ok (.bipush 19, 2) := by decide +kernel
theorem dX10_scan_58 : decode cX10_scan 58 = .ok (.iload_n 1, 1) := by decide +kernel
theorem dX10_scan_59 : decode cX10_scan 59 = .ok (.iadd, 1) := by decide +kernel
theorem dX10_scan_60 : decode cX10_scan 60 = .ok (.iconst 0, 1) := by decide +kernel
theorem dX10_scan_61 : decode cX10_scan 61 = .ok (.iastore, 1) := by decide +kernel
theorem dX10_scan_62 : decode cX10_scan 62 = .ok (.iload_n 1, 1) := by decide +kernel
theorem dX10_scan_63 : decode cX10_scan 63 = .ok (.ireturn, 1) := by decide +kernel
theorem dX10_scan_64 : decode cX10_scan 64 = .ok (.iinc 1 1, 3) := by decide +kernel
theorem dX10_scan_67 : decode cX10_scan 67 = .ok (.goto (-65), 3) := by decide +kernel
theorem dX10_scan_70 : decode cX10_scan 70 = .ok (.bipush (-3), 2) := by decide +kernel
theorem dX10_scan_72 : decode cX10_scan 72 = .ok (.ireturn, 1) := by decide +kernel
theorem dX10_isToCome_0 : decode cX10_isToCome 0 = .ok (.aload_n 0, 1) := by decide +kernel
theorem dX10_isToCome_1 : decode cX10_isToCome 1 = .ok (.getfield 7, 3) := by decide +kernel
theorem dX10_isToCome_4 : decode cX10_isToCome 4 = .ok (.bipush 15, 2) := by decide +kernel
theorem dX10_isToCome_6 : decode cX10_isToCome 6 = .ok (.iload_n 1, 1) := by decide +kernel
theorem dX10_isToCome_7 : decode cX10_isToCome 7 = .ok (.iadd, 1) := by decide +kernel
theorem dX10_isToCome_8 : decode cX10_isToCome 8 = .ok (.iaload, 1) := by decide +kernel
theorem dX10_isToCome_9 : decode cX10_isToCome 9 = .ok (.istore_n 3, 1) := by decide +kernel
theorem dX10_isToCome_10 : decode cX10_isToCome 10 = .ok (.iload_n 3, 1) := by decide +kernel
theorem dX10_isToCome_11 : decode cX10_isToCome 11 = .ok (.iconst (-1), 1) := by decide +kernel
theorem dX10_isToCome_12 : decode cX10_isToCome 12 = .ok (.if_icmp .eq 38, 3) := by decide +kernel
theorem dX10_isToCome_15 : decode cX10_isToCome 15 = .ok (.aload_n 0, 1) := by decide +kernel
theorem dX10_isToCome_16 : decode cX10_isToCome 16 = .ok (.aload_n 0, 1) := by decide +kernel
theorem dX10_isToCome_17 : decode cX10_isToCome 17 = .ok (.aload_n 0, 1) := by decide +kernel
theorem dX10_isToCome_18 : decode cX10_isToCome 18 = .ok (.getfield 7, 3) := by decide +kernel
theorem dX10_isToCome_21 : decode cX10_isToCome 21 = .ok (.bipush 40, 2) := by decide +kernel
theorem dX10_isToCome_23 : decode cX10_isToCome 23 = .ok (.iload_n 2, 1) := by decide +kernel
theorem dX10_isToCome_24 : decode cX10_isToCome 24 = .ok (.iadd, 1) := by decide +kernel
theorem dX10_isToCome_25 : decode cX10_isToCome 25 = .ok (.iaload, 1) := by decide +kernel
theorem dX10_isToCome_26 : decode cX10_isToCome 26 = .ok (.invokevirtual 277, 3) := by decide +kernel
theorem dX10_isToCome_29 : decode cX10_isToCome 29 = .ok (.aload_n 0, 1) := by decide +kernel
theorem dX10_isToCome_30 : decode cX10_isToCome 30 = .ok (.getfield 7, 3) := by decide +kernel
theorem dX10_isToCome_33 : decode cX10_isToCome 33 = .ok (.bipush 40, 2) := by decide +kernel
theorem dX10_isToCome_35 : decode cX10_isToCome 35 = .ok (.iload_n 2, 1) := by decide +kernel
theorem dX10_isToCome_36 : decode cX10_isToCome 36 = .ok (.iadd, 1) := by decide +kernel
theorem dX10_isToCome_37 : decode cX10_isToCome 37 = .ok (.iaload, 1) := by decide +kernel
theorem dX10_isToCome_38 : decode cX10_isToCome 38 = .ok (.aload_n 0, 1) := by decide +kernel
theorem dX10_isToCome_39 : decode cX10_isToCome 39 = .ok (.iload_n 3, 1) := by decide +kernel
theorem dX10_isToCome_40 : decode cX10_isToCome 40 = .ok (.invokevirtual 277, 3) := by decide +kernel
theorem dX10_isToCome_43 : decode cX10_isToCome 43 = .ok (.iload_n 3, 1) := by decide +kernel
theorem dX10_isToCome_44 : decode cX10_isToCome 44 = .ok (.invokevirtual 280, 3) := by decide +kernel
theorem dX10_isToCome_47 : decode cX10_isToCome 47 = .ok (.ifCond .eq 7, 3) := by decide +kernel
theorem dX10_isToCome_50 : decode cX10_isToCome 50 = .ok (.iconst 1, 1) := by decide +kernel
theorem dX10_isToCome_51 : decode cX10_isToCome 51 = .ok (.goto 4, 3) := by decide +kernel
theorem dX10_isToCome_54 : decode cX10_isToCome 54 = .ok (.iconst 0, 1) := by decide +kernel
theorem dX10_isToCome_55 : decode cX10_isToCome 55 = .ok (.ireturn, 1) := by decide +kernel
theorem dX10_tell_0 : decode cX10_tell 0 = .ok (.aload_n 0, 1) := by decide +kernel
theorem dX10_tell_1 : decode cX10_tell 1 = .ok (.iload_n 1, 1) := by decide +kernel
theorem dX10_tell_2 : decode cX10_tell 2 = .ok (.invokevirtual 287, 3) := by decide +kernel
theorem dX10_tell_5 : decode cX10_tell 5 = .ok (.ifCond .ne 5, 3) := by decide +kernel
theorem dX10_tell_8 : decode cX10_tell 8 = .ok (.iconst (-1), 1) := by decide +kernel
theorem dX10_tell_9 : decode cX10_tell 9 = .ok (.ireturn, 1) := by decide +kernel
theorem dX10_tell_10 : decode cX10_tell 10 = .ok (.iconst (-1), 1) := by decide +kernel
theorem dX10_tell_11 : decode cX10_tell 11 = .ok (.istore_n 2, 1) := by decide +kernel
theorem dX10_tell_12 : decode cX10_tell 12 = .ok (.iconst 0, 1) := by decide +kernel
theorem dX10_tell_13 : decode cX10_tell 13 = .ok (.istore_n 3, 1) := by decide +kernel
theorem dX10_tell_14 : decode cX10_tell 14 = .ok (.iload_n 3, 1) := by decide +kernel
theorem dX10_tell_15 : decode cX10_tell 15 = .ok (.aload_n 0, 1) := by decide +kernel
theorem dX10_tell_16 : decode cX10_tell 16 = .ok (.getfield 7, 3) := by decide +kernel
theorem dX10_tell_19 : decode cX10_tell 19 = .ok (.bipush 7, 2) := by decide +kernel
theorem dX10_tell_21 : decode cX10_tell 21 = .ok (.iaload, 1) := by decide +kernel
theorem dX10_tell_22 : decode cX10_tell 22 = .ok (.if_icmp .ge 76, 3) := by decide +kernel
theorem dX10_tell_25 : decode cX10_tell 25 = .ok (.aload_n 0, 1) := by decide +kernel
theorem dX10_tell_26 : decode cX10_tell 26 = .ok (.iload_n 1, 1) := by decide +kernel
theorem dX10_tell_27 : decode cX10_tell 27 = .ok (.iload_n 3, 1) := by decide +kernel
theorem dX10_tell_28 : decode cX10_tell 28 = .ok (.invokevirtual 290, 3) := by decide +kernel
theorem dX10_tell_31 : decode cX10_tell 31 = .ok (.ifCond .eq 61, 3) := by decide +kernel
theorem dX10_tell_34 : decode cX10_tell 34 = .ok (.iload_n 2, 1) := by decide +kernel
theorem dX10_tell_35 : decode cX10_tell 35 = .ok (.iconst (-1), 1) := by decide +kernel
theorem dX10_tell_36 : decode cX10_tell 36 = .ok (.if_icmp .eq 54, 3) := by decide +kernel
theorem dX10_tell_39 : decode cX10_tell 39 = .ok (.aload_n 0, 1) := by decide +kernel
theorem dX10_tell_40 : decode cX10_tell 40 = .ok (.aload_n 0, 1) := by decide +kernel
theorem dX10_tell_41 : decode cX10_tell 41 = .ok (.aload_n 0, 1) := by decide +kernel
theorem dX10_tell_42 : decode cX10_tell 42 = .ok (.getfield 7, 3) := by decide +kernel
theorem dX10_tell_45 : decode cX10_tell 45 = .ok (.bipush 40, 2) := by decide +kernel
theorem dX10_tell_47 : decode cX10_tell 47 = .ok (.iload_n 2, 1) := by decide +kernel
theorem dX10_tell_48 : decode cX10_tell 48 = .ok (.iadd, 1) := by decide +kernel
theorem dX10_tell_49 : decode cX10_tell 49 = .ok (.iaload, 1) := by decide +kernel
theorem dX10_tell_50 : decode cX10_tell 50 = .ok (.invokevirtual 277, 3) := by decide +kernel
theorem dX10_tell_53 : decode cX10_tell 53 = .ok (.aload_n 0, 1) := by decide +kernel
theorem dX10_tell_54 : decode cX10_tell 54 = .ok (.getfield 7, 3) := by decide +kernel
theorem dX10_tell_57 : decode cX10_tell 57 = .ok (.bipush 40, 2) := by decide +kernel
theorem dX10_tell_59 : decode cX10_tell 59 = .ok (.iload_n 2, 1) := by decide +kernel
theorem dX10_tell_60 : decode cX10_tell 60 = .ok (.iadd, 1) := by decide +kernel
theorem dX10_tell_61 : decode cX10_tell 61 = .ok (.iaload, 1) := by decide +kernel
theorem dX10_tell_62 : decode cX10_tell 62 = .ok (.aload_n 0, 1) := by decide +kernel
theorem dX10_tell_63 : decode cX10_tell 63 = .ok (.aload_n 0, 1) := by decide +kernel
theorem dX10_tell_64 : decode cX10_tell 64 = .ok (.getfield 7, 3) := by decide +kernel
theorem dX10_tell_67 : decode cX10_tell 67 = .ok (.bipush 40, 2) := by decide +kernel
theorem dX10_tell_69 : decode cX10_tell 69 = .ok (.iload_n 3, 1) := by decide +kernel
theorem dX10_tell_70 : decode cX10_tell 70 = .ok (.iadd, 1) := by decide +kernel
theorem dX10_tell_71 : decode cX10_tell 71 = .ok (.iaload, 1) := by decide +kernel
theorem dX10_tell_72 : decode cX10_tell 72 = .ok (.invokevirtual 277, 3) := by decide +kernel
theorem dX10_tell_75 : decode cX10_tell 75 = .ok (.aload_n 0, 1) := by decide +kernel
theorem dX10_tell_76 : decode cX10_tell 76 = .ok (.getfield 7, 3) := by decide +kernel
theorem dX10_tell_79 : decode cX10_tell 79 = .ok (.bipush 40, 2) := by decide +kernel
theorem dX10_tell_81 : decode cX10_tell 81 = .ok (.iload_n 3, 1) := by decide +kernel
theorem dX10_tell_82 : decode cX10_tell 82 = .ok (.iadd, 1) := by decide +kernel
theorem dX10_tell_83 : decode cX10_tell 83 = .ok (.iaload, 1) := by decide +kernel
theorem dX10_tell_84 : decode cX10_tell 84 = .ok (.invokevirtual 280, 3) := by decide +kernel
theorem dX10_tell_87 : decode cX10_tell 87 = .ok (.ifCond .eq 5, 3) := by decide +kernel
theorem dX10_tell_90 : decode cX10_tell 90 = .ok (.iload_n 3, 1) := by decide +kernel
theorem dX10_tell_91 : decode cX10_tell 91 = .ok (.istore_n 2, 1) := by decide +kernel
theorem dX10_tell_92 : decode cX10_tell 92 = .ok (.iinc 3 1, 3) := by decide +kernel
theorem dX10_tell_95 : decode cX10_tell 95 = .ok (.goto (-81), 3) := by decide +kernel
theorem dX10_tell_98 : decode cX10_tell 98 = .ok (.iload_n 2, 1) := by decide +kernel
theorem dX10_tell_99 : decode cX10_tell 99 = .ok (.iconst (-1), 1) := by decide +kernel
theorem dX10_tell_100 : decode cX10_tell 100 = .ok (.if_icmp .ne 6, 3) := by decide +kernel
theorem dX10_tell_103 : decode cX10_tell 103 = .ok (.bipush (-2), 2) := by decide +kernel
theorem dX10_tell_105 : decode cX10_tell 105 = .ok (.ireturn, 1) := by decide +kernel
theorem dX10_tell_106 : decode cX10_tell 106 = .ok (.aload_n 0, 1) := by decide +kernel
theorem dX10_tell_107 : decode cX10_tell 107 = .ok (.getfield 7, 3) := by decide +kernel
theorem dX10_tell_110 : decode cX10_tell 110 = .ok (.bipush 15, 2) := by decide +kernel
theorem dX10_tell_112 : decode cX10_tell 112 = .ok (.iload_n 1, 1) := by decide +kernel
theorem dX10_tell_113 : decode cX10_tell 113 = .ok (.iadd, 1) := by decide +kernel
theorem dX10_tell_114 : decode cX10_tell 114 = .ok (.aload_n 0, 1) := by decide +kernel
theorem dX10_tell_115 : decode cX10_tell 115 = .ok (.getfield 7, 3) := by decide +kernel
theorem dX10_tell_118 : decode cX10_tell 118 = .ok (.bipush 40, 2) := by decide +kernel
theorem dX10_tell_120 : decode cX10_tell 120 = .ok (.iload_n 2, 1) := by decide +kernel
theorem dX10_tell_121 : decode cX10_tell 121 = .ok (.iadd, 1) := by decide +kernel
theorem dX10_tell_122 : decode cX10_tell 122 = .ok (.iaload, 1) := by decide +kernel
theorem dX10_tell_123 : decode cX10_tell 123 = .ok (.iastore, 1) := by decide +kernel
theorem dX10_tell_124 : decode cX10_tell 124 = .ok (.aload_n 0, 1) := by decide +kernel
theorem dX10_tell_125 : decode cX10_tell 125 = .ok (.getfield 7, 3) := by decide +kernel
theorem dX10_tell_128 : decode cX10_tell 128 = .ok (.bipush 19, 2) := by decide +kernel
theorem dX10_tell_130 : decode cX10_tell 130 = .ok (.iload_n 1, 1) := by decide +kernel
theorem dX10_tell_131 : decode cX10_tell 131 = .ok (.iadd, 1) := by decide +kernel
theorem dX10_tell_132 : decode cX10_tell 132 = .ok (.aload_n 0, 1) := by decide +kernel
theorem dX10_tell_133 : decode cX10_tell 133 = .ok (.getfield 7, 3) := by decide +kernel
theorem dX10_tell_136 : decode cX10_tell 136 = .ok (.bipush 19, 2) := by decide +kernel
theorem dX10_tell_138 : decode cX10_tell 138 = .ok (.iload_n 1, 1) := by decide +kernel
theorem dX10_tell_139 : decode cX10_tell 139 = .ok (.iadd, 1) := by decide +kernel
theorem dX10_tell_140 : decode cX10_tell 140 = .ok (.iaload, 1) := by decide +kernel
theorem dX10_tell_141 : decode cX10_tell 141 = .ok (.iconst 1, 1) := by decide +kernel
theorem dX10_tell_142 : decode cX10_tell 142 = .ok (.iadd, 1) := by decide +kernel
theorem dX10_tell_143 : decode cX10_tell 143 = .ok (.iastore, 1) := by decide +kernel
theorem dX10_tell_144 : decode cX10_tell 144 = .ok (.aload_n 0, 1) := by decide +kernel
theorem dX10_tell_145 : decode cX10_tell 145 = .ok (.getfield 7, 3) := by decide +kernel
theorem dX10_tell_148 : decode cX10_tell 148 = .ok (.bipush 40, 2) := by decide +kernel
theorem dX10_tell_150 : decode cX10_tell 150 = .ok (.iload_n 2, 1) := by decide +kernel
theorem dX10_tell_151 : decode cX10_tell 151 = .ok (.iadd, 1) := by decide +kernel
theorem dX10_tell_152 : decode cX10_tell 152 = .ok (.iaload, 1) := by decide +kernel
theorem dX10_tell_153 : decode cX10_tell 153 = .ok (.ireturn, 1) := by decide +kernel
theorem dX10_scanIs_0 : decode cX10_scanIs 0 = .ok (.aload_n 0, 1) := by decide +kernel
theorem dX10_scanIs_1 : decode cX10_scanIs 1 = .ok (.iload_n 1, 1) := by decide +kernel
theorem dX10_scanIs_2 : decode cX10_scanIs 2 = .ok (.invokevirtual 287, 3) := by decide +kernel
theorem dX10_scanIs_5 : decode cX10_scanIs 5 = .ok (.ifCond .eq 12, 3) := by decide +kernel
theorem dX10_scanIs_8 : decode cX10_scanIs 8 = .ok (.iload_n 2, 1) := by decide +kernel
theorem dX10_scanIs_9 : decode cX10_scanIs 9 = .ok (.iconst 0, 1) := by decide +kernel
theorem dX10_scanIs_10 : decode cX10_scanIs 10 = .ok (.iconst 2, 1) := by decide +kernel
theorem dX10_scanIs_11 : decode cX10_scanIs 11 = .ok (.invokestatic 67, 3) := by decide +kernel
theorem dX10_scanIs_14 : decode cX10_scanIs 14 = .ok (.ifCond .ne 5, 3) := by decide +kernel
theorem dX10_scanIs_17 : decode cX10_scanIs 17 = .ok (.iconst (-1), 1) := by decide +kernel
theorem dX10_scanIs_18 : decode cX10_scanIs 18 = .ok (.ireturn, 1) := by decide +kernel
theorem dX10_scanIs_19 : decode cX10_scanIs 19 = .ok (.iload_n 2, 1) := by decide +kernel
theorem dX10_scanIs_20 : decode cX10_scanIs 20 = .ok (.ifCond .ne 13, 3) := by decide +kernel
theorem dX10_scanIs_23 : decode cX10_scanIs 23 = .ok (.aload_n 0, 1) := by decide +kernel
theorem dX10_scanIs_24 : decode cX10_scanIs 24 = .ok (.getfield 7, 3) := by decide +kernel
theorem dX10_scanIs_27 : decode cX10_scanIs 27 = .ok (.bipush 19, 2) := by decide +kernel
theorem dX10_scanIs_29 : decode cX10_scanIs 29 = .ok (.iload_n 1, 1) := by decide +kernel
theorem dX10_scanIs_30 : decode cX10_scanIs 30 = .ok (.iadd, 1) := by decide +kernel
theorem dX10_scanIs_31 : decode cX10_scanIs 31 = .ok (.iaload, 1) := by decide +kernel
theorem dX10_scanIs_32 : decode cX10_scanIs 32 = .ok (.ireturn, 1) := by decide +kernel
theorem dX10_scanIs_33 : decode cX10_scanIs 33 = .ok (.iload_n 2, 1) := by decide +kernel
theorem dX10_scanIs_34 : decode cX10_scanIs 34 = .ok (.iconst 2, 1) := by decide +kernel
theorem dX10_scanIs_35 : decode cX10_scanIs 35 = .ok (.if_icmp .ne 31, 3) := by decide +kernel
theorem dX10_scanIs_38 : decode cX10_scanIs 38 = .ok (.aload_n 0, 1) := by decide +kernel
theorem dX10_scanIs_39 : decode cX10_scanIs 39 = .ok (.getfield 7, 3) := by decide +kernel
theorem dX10_scanIs_42 : decode cX10_scanIs 42 = .ok (.bipush 15, 2) := by decide +kernel
theorem dX10_scanIs_44 : decode cX10_scanIs 44 = .ok (.iload_n 1, 1) := by decide +kernel
theorem dX10_scanIs_45 : decode cX10_scanIs 45 = .ok (.iadd, 1) := by decide +kernel
theorem dX10_scanIs_46 : decode cX10_scanIs 46 = .ok (.iaload, 1) := by decide +kernel
theorem dX10_scanIs_47 : decode cX10_scanIs 47 = .ok (.iconst (-1), 1) := by decide +kernel
theorem dX10_scanIs_48 : decode cX10_scanIs 48 = .ok (.if_icmp .ne 8, 3) := by decide +kernel
theorem dX10_scanIs_51 : decode cX10_scanIs 51 = .ok (.bipush (-2), 2) := by decide +kernel
theorem dX10_scanIs_53 : decode cX10_scanIs 53 = .ok (.goto 12, 3) := by decide +kernel
theorem dX10_scanIs_56 : decode cX10_scanIs 56 = .ok (.aload_n 0, 1) := by decide +kernel
theorem dX10_scanIs_57 : decode cX10_scanIs 57 = .ok (.getfield 7, 3) := by decide +kernel
theorem dX10_scanIs_60 : decode cX10_scanIs 60 = .ok (.bipush 15, 2) := by decide +kernel
theorem dX10_scanIs_62 : decode cX10_scanIs 62 = .ok (.iload_n 1, 1) := by decide +kernel
theorem dX10_scanIs_63 : decode cX10_scanIs 63 = .ok (.iadd, 1) := by decide +kernel
theorem dX10_scanIs_64 : decode cX10_scanIs 64 = .ok (.iaload, 1) := by decide +kernel
theorem dX10_scanIs_65 : decode cX10_scanIs 65 = .ok (.ireturn, 1) := by decide +kernel
theorem dX10_scanIs_66 : decode cX10_scanIs 66 = .ok (.iconst 0, 1) := by decide +kernel
theorem dX10_scanIs_67 : decode cX10_scanIs 67 = .ok (.istore_n 3, 1) := by decide +kernel
theorem dX10_scanIs_68 : decode cX10_scanIs 68 = .ok (.iconst 0, 1) := by decide +kernel
theorem dX10_scanIs_69 : decode cX10_scanIs 69 = .ok (.istore 4, 2) := by decide +kernel
theorem dX10_scanIs_71 : decode cX10_scanIs 71 = .ok (.iload 4, 2) := by decide +kernel
theorem dX10_scanIs_73 : decode cX10_scanIs 73 = .ok (.aload_n 0, 1) := by decide +kernel
theorem dX10_scanIs_74 : decode cX10_scanIs 74 = .ok (.getfield 7, 3) := by decide +kernel
theorem dX10_scanIs_77 : decode cX10_scanIs 77 = .ok (.bipush 7, 2) := by decide +kernel
theorem dX10_scanIs_79 : decode cX10_scanIs 79 = .ok (.iaload, 1) := by decide +kernel
theorem dX10_scanIs_80 : decode cX10_scanIs 80 = .ok (.if_icmp .ge 23, 3) := by decide +kernel
theorem dX10_scanIs_83 : decode cX10_scanIs 83 = .ok (.aload_n 0, 1) := by decide +kernel
theorem dX10_scanIs_84 : decode cX10_scanIs 84 = .ok (.iload_n 1, 1) := by decide +kernel
theorem dX10_scanIs_85 : decode cX10_scanIs 85 = .ok (.iload 4, 2) := by decide +kernel
theorem dX10_scanIs_87 : decode cX10_scanIs 87 = .ok (.invokevirtual 290, 3) := by decide +kernel
theorem dX10_scanIs_90 : decode cX10_scanIs 90 = .ok (.ifCond .eq 7, 3) := by decide +kernel
theorem dX10_scanIs_93 : decode cX10_scanIs 93 = .ok (.iload_n 3, 1) := by decide +kernel
theorem dX10_scanIs_94 : decode cX10_scanIs 94 = .ok (.iconst 1, 1) := by decide +kernel
theorem dX10_scanIs_95 : decode cX10_scanIs 95 = .ok (.iadd, 1) := by decide +kernel
theorem dX10_scanIs_96 : decode cX10_scanIs 96 = .ok (.istore_n 3, 1) := by decide +kernel
theorem dX10_scanIs_97 : decode cX10_scanIs 97 = .ok (.iinc 4 1, 3) := by decide +kernel
theorem dX10_scanIs_100 : decode cX10_scanIs 100 = .ok (.goto (-29), 3) := by decide +kernel
theorem dX10_scanIs_103 : decode cX10_scanIs 103 = .ok (.iload_n 3, 1) := by decide +kernel
theorem dX10_scanIs_104 : decode cX10_scanIs 104 = .ok (.ireturn, 1) := by decide +kernel
theorem dX10_reach_0 : decode cX10_reach 0 = .ok (.aload_n 0, 1) := by decide +kernel
theorem dX10_reach_1 : decode cX10_reach 1 = .ok (.iload_n 1, 1) := by decide +kernel
theorem dX10_reach_2 : decode cX10_reach 2 = .ok (.invokevirtual 287, 3) := by decide +kernel
theorem dX10_reach_5 : decode cX10_reach 5 = .ok (.ifCond .ne 5, 3) := by decide +kernel
theorem dX10_reach_8 : decode cX10_reach 8 = .ok (.iconst (-1), 1) := by decide +kernel
theorem dX10_reach_9 : decode cX10_reach 9 = .ok (.ireturn, 1) := by decide +kernel
theorem dX10_reach_10 : decode cX10_reach 10 = .ok (.lconst 0, 1) := by decide +kernel
theorem dX10_reach_11 : decode cX10_reach 11 = .ok (.lstore_n 2, 1) := by decide +kernel
theorem dX10_reach_12 : decode cX10_reach 12 = .ok (.iconst 0, 1) := by decide +kernel
theorem dX10_reach_13 : decode cX10_reach 13 = .ok (.istore 4, 2) := by decide +kernel
theorem dX10_reach_15 : decode cX10_reach 15 = .ok (.iload 4, 2) := by decide +kernel
theorem dX10_reach_17 : decode cX10_reach 17 = .ok (.aload_n 0, 1) := by decide +kernel
theorem dX10_reach_18 : decode cX10_reach 18 = .ok (.getfield 7, 3) := by decide +kernel
theorem dX10_reach_21 : decode cX10_reach 21 = .ok (.bipush 7, 2) := by decide +kernel
theorem dX10_reach_23 : decode cX10_reach 23 = .ok (.iaload, 1) := by decide +kernel
theorem dX10_reach_24 : decode cX10_reach 24 = .ok (.if_icmp .ge 35, 3) := by decide +kernel
theorem dX10_reach_27 : decode cX10_reach 27 = .ok (.aload_n 0, 1) := by decide +kernel
theorem dX10_reach_28 : decode cX10_reach 28 = .ok (.iload_n 1, 1) := by decide +kernel
theorem dX10_reach_29 : decode cX10_reach 29 = .ok (.iload 4, 2) := by decide +kernel
theorem dX10_reach_31 : decode cX10_reach 31 = .ok (.invokevirtual 290, 3) := by decide +kernel
theorem dX10_reach_34 : decode cX10_reach 34 = .ok (.ifCond .eq 19, 3) := by decide +kernel
theorem dX10_reach_37 : decode cX10_reach 37 = .ok (.lload_n 2, 1) := by decide +kernel
theorem dX10_reach_38 : decode cX10_reach 38 = .ok (.lconst 1, 1) := by decide +kernel
theorem dX10_reach_39 : decode cX10_reach 39 = .ok (.aload_n 0, 1) := by decide +kernel
theorem dX10_reach_40 : decode cX10_reach 40 = .ok (.getfield 7, 3) := by decide +kernel
theorem dX10_reach_43 : decode cX10_reach 43 = .ok (.sipush 640, 3) := by decide +kernel
theorem dX10_reach_46 : decode cX10_reach 46 = .ok (.iload 4, 2) := by decide +kernel
theorem dX10_reach_48 : decode cX10_reach 48 = .ok (.iadd, 1) := by decide +kernel
theorem dX10_reach_49 : decode cX10_reach 49 = .ok (.iaload, 1) := by decide +kernel
theorem dX10_reach_50 : decode cX10_reach 50 = .ok (.lshl, 1) := by decide +kernel
theorem dX10_reach_51 : decode cX10_reach 51 = .ok (.lor, 1) := by decide +kernel
theorem dX10_reach_52 : decode cX10_reach 52 = .ok (.lstore_n 2, 1) := by decide +kernel
theorem dX10_reach_53 : decode cX10_reach 53 = .ok (.iinc 4 1, 3) := by decide +kernel
theorem dX10_reach_56 : decode cX10_reach 56 = .ok (.goto (-41), 3) := by decide +kernel
theorem dX10_reach_59 : decode cX10_reach 59 = .ok (.iconst 0, 1) := by decide +kernel
theorem dX10_reach_60 : decode cX10_reach 60 = .ok (.istore 4, 2) := by decide +kernel
theorem dX10_reach_62 : decode cX10_reach 62 = .ok (.iconst 0, 1) := by decide +kernel
theorem dX10_reach_63 : decode cX10_reach 63 = .ok (.istore 5, 2) := by decide +kernel
theorem dX10_reach_65 : decode cX10_reach 65 = .ok (.iload 5, 2) := by decide +kernel
theorem dX10_reach_67 : decode cX10_reach 67 = .ok (.bipush 64, 2) := by decide +kernel
theorem dX10_reach_69 : decode cX10_reach 69 = .ok (.if_icmp .ge 26, 3) := by decide +kernel
theorem dX10_reach_72 : decode cX10_reach 72 = .ok (.lload_n 2, 1) := by decide +kernel
theorem dX10_reach_73 : decode cX10_reach 73 = .ok (.iload 5, 2) := by decide +kernel
theorem dX10_reach_75 : decode cX10_reach 75 = .ok (.lshr, 1) := by decide +kernel
theorem dX10_reach_76 : decode cX10_reach 76 = .ok (.lconst 1, 1) := by decide +kernel
theorem dX10_reach_77 : decode cX10_reach 77 = .ok (.land, 1) := by decide +kernel
theorem dX10_reach_78 : decode cX10_reach 78 = .ok (.lconst 1, 1) := by decide +kernel
theorem dX10_reach_79 : decode cX10_reach 79 = .ok (.lcmp, 1) := by decide +kernel
theorem dX10_reach_80 : decode cX10_reach 80 = .ok (.ifCond .ne 9, 3) := by decide +kernel
theorem dX10_reach_83 : decode cX10_reach 83 = .ok (.iload 4, 2) := by decide +kernel
theorem dX10_reach_85 : decode cX10_reach 85 = .ok (.iconst 1, 1) := by decide +kernel
theorem dX10_reach_86 : decode cX10_reach 86 = .ok (.iadd, 1) := by decide +kernel
theorem dX10_reach_87 : decode cX10_reach 87 = .ok (.istore 4, 2) := by decide +kernel
theorem dX10_reach_89 : decode cX10_reach 89 = .ok (.iinc 5 1, 3) := by decide +kernel
theorem dX10_reach_92 : decode cX10_reach 92 = .ok (.goto (-27), 3) := by decide +kernel
theorem dX10_reach_95 : decode cX10_reach 95 = .ok (.iload 4, 2) := by decide +kernel
theorem dX10_reach_97 : decode cX10_reach 97 = .ok (.ireturn, 1) := by decide +kernel
theorem dX10_ends_0 : decode cX10_ends 0 = .ok (.aload_n 0, 1) := by decide +kernel
theorem dX10_ends_1 : decode cX10_ends 1 = .ok (.iload_n 1, 1) := by decide +kernel
theorem dX10_ends_2 : decode cX10_ends 2 = .ok (.invokevirtual 287, 3) := by decide +kernel
theorem dX10_ends_5 : decode cX10_ends 5 = .ok (.ifCond .ne 5, 3) := by decide +kernel
theorem dX10_ends_8 : decode cX10_ends 8 = .ok (.iconst (-1), 1) := by decide +kernel
theorem dX10_ends_9 : decode cX10_ends 9 = .ok (.ireturn, 1) := by decide +kernel
theorem dX10_ends_10 : decode cX10_ends 10 = .ok (.aload_n 0, 1) := by decide +kernel
theorem dX10_ends_11 : decode cX10_ends 11 = .ok (.getfield 7, 3) := by decide +kernel
theorem dX10_ends_14 : decode cX10_ends 14 = .ok (.bipush 14, 2) := by decide +kernel
theorem dX10_ends_16 : decode cX10_ends 16 = .ok (.aload_n 0, 1) := by decide +kernel
theorem dX10_ends_17 : decode cX10_ends 17 = .ok (.getfield 7, 3) := by decide +kernel
theorem dX10_ends_20 : decode cX10_ends 20 = .ok (.bipush 14, 2) := by decide +kernel
theorem dX10_ends_22 : decode cX10_ends 22 = .ok (.iaload, 1) := by decide +kernel
theorem dX10_ends_23 : decode cX10_ends 23 = .ok (.iconst 1, 1) := by decide +kernel
theorem dX10_ends_24 : decode cX10_ends 24 = .ok (.iload_n 1, 1) := by decide +kernel
theorem dX10_ends_25 : decode cX10_ends 25 = .ok (.ishl, 1) := by decide +kernel
theorem dX10_ends_26 : decode cX10_ends 26 = .ok (.iconst (-1), 1) := by decide +kernel
theorem dX10_ends_27 : decode cX10_ends 27 = .ok (.ixor, 1) := by decide +kernel
theorem dX10_ends_28 : decode cX10_ends 28 = .ok (.iand, 1) := by decide +kernel
theorem dX10_ends_29 : decode cX10_ends 29 = .ok (.iastore, 1) := by decide +kernel
theorem dX10_ends_30 : decode cX10_ends 30 = .ok (.aload_n 0, 1) := by decide +kernel
theorem dX10_ends_31 : decode cX10_ends 31 = .ok (.getfield 7, 3) := by decide +kernel
theorem dX10_ends_34 : decode cX10_ends 34 = .ok (.bipush 19, 2) := by decide +kernel
theorem dX10_ends_36 : decode cX10_ends 36 = .ok (.iload_n 1, 1) := by decide +kernel
theorem dX10_ends_37 : decode cX10_ends 37 = .ok (.iadd, 1) := by decide +kernel
theorem dX10_ends_38 : decode cX10_ends 38 = .ok (.iaload, 1) := by decide +kernel
theorem dX10_ends_39 : decode cX10_ends 39 = .ok (.ireturn, 1) := by decide +kernel
theorem dX10_pagesTaken_0 : decode cX10_pagesTaken 0 = .ok (.iconst 0, 1) := by decide +kernel
theorem dX10_pagesTaken_1 : decode cX10_pagesTaken 1 = .ok (.istore_n 1, 1) := by decide +kernel
theorem dX10_pagesTaken_2 : decode cX10_pagesTaken 2 = .ok (.iconst 0, 1) := by decide +kernel
theorem dX10_pagesTaken_3 : decode cX10_pagesTaken 3 = .ok (.istore_n 2, 1) := by decide +kernel
theorem dX10_pagesTaken_4 : decode cX10_pagesTaken 4 = .ok (.iload_n 2, 1) := by decide +kernel
theorem dX10_pagesTaken_5 : decode cX10_pagesTaken 5 = .ok (.sipush 256, 3) := by decide +kernel
theorem dX10_pagesTaken_8 : decode cX10_pagesTaken 8 = .ok (.if_icmp .ge 27, 3) := by decide +kernel
theorem dX10_pagesTaken_11 : decode cX10_pagesTaken 11 = .ok (.aload_n 0, 1) := by decide +kernel
theorem dX10_pagesTaken_12 : decode cX10_pagesTaken 12 = .ok (.getfield 7, 3) := by decide +kernel
theorem dX10_pagesTaken_15 : decode cX10_pagesTaken 15 = .ok (.sipush 1240, 3) := by decide +kernel
theorem dX10_pagesTaken_18 : decode cX10_pagesTaken 18 = .ok (.iload_n 2, 1) := by decide +kernel
theorem dX10_pagesTaken_19 : decode cX10_pagesTaken 19 = .ok (.iadd, 1) := by decide +kernel
theorem dX10_pagesTaken_20 : decode cX10_pagesTaken 20 = .ok (.iaload, 1) := by decide +kernel
theorem dX10_pagesTaken_21 : decode cX10_pagesTaken 21 = .ok (.iconst (-1), 1) := by decide +kernel
theorem dX10_pagesTaken_22 : decode cX10_pagesTaken 22 = .ok (.if_icmp .eq 7, 3) := by decide +kernel
theorem dX10_pagesTaken_25 : decode cX10_pagesTaken 25 = .ok (.iload_n 1, 1) := by decide +kernel
theorem dX10_pagesTaken_26 : decode cX10_pagesTaken 26 = .ok (.iconst 1, 1) := by decide +kernel
theorem dX10_pagesTaken_27 : decode cX10_pagesTaken 27 = .ok (.iadd, 1) := by decide +kernel
theorem dX10_pagesTaken_28 : decode cX10_pagesTaken 28 = .ok (.istore_n 1, 1) := by decide +kernel
theorem dX10_pagesTaken_29 : decode cX10_pagesTaken 29 = .ok (.iinc 2 1, 3) := by decide +kernel
theorem dX10_pagesTaken_32 : decode cX10_pagesTaken 32 = .ok (.goto (-28), 3) := by decide +kernel
theorem dX10_pagesTaken_35 : decode cX10_pagesTaken 35 = .ok (.iload_n 1, 1) := by decide +kernel
theorem dX10_pagesTaken_36 : decode cX10_pagesTaken 36 = .ok (.ireturn, 1) := by decide +kernel
theorem dX10_longest_0 : decode cX10_longest 0 = .ok (.iconst 0, 1) := by decide +kernel
theorem dX10_longest_1 : decode cX10_longest 1 = .ok (.istore_n 1, 1) := by decide +kernel
theorem dX10_longest_2 : decode cX10_longest 2 = .ok (.iconst 0, 1) := by decide +kernel
theorem dX10_longest_3 : decode cX10_longest 3 = .ok (.istore_n 2, 1) := by decide +kernel
theorem dX10_longest_4 : decode cX10_longest 4 = .ok (.iload_n 2, 1) := by decide +kernel
theorem dX10_longest_5 : decode cX10_longest 5 = .ok (.aload_n 0, 1) := by decide +kernel
theorem dX10_longest_6 : decode cX10_longest 6 = .ok (.invokevirtual 178, 3) := by decide +kernel
theorem dX10_longest_9 : decode cX10_longest 9 = .ok (.if_icmp .ge 19, 3) := by decide +kernel
theorem dX10_longest_12 : decode cX10_longest 12 = .ok (.iload_n 1, 1) := by decide +kernel
theorem dX10_longest_13 : decode cX10_longest 13 = .ok (.aload_n 0, 1) := by decide +kernel
theorem dX10_longest_14 : decode cX10_longest 14 = .ok (.iload_n 2, 1) := by decide +kernel
theorem dX10_longest_15 : decode cX10_longest 15 = .ok (.invokevirtual 172, 3) := by decide +kernel
theorem dX10_longest_18 : decode cX10_longest 18 = .ok (.invokestatic 293, 3) := by decide +kernel
theorem dX10_longest_21 : decode cX10_longest 21 = .ok (.istore_n 1, 1) := by decide +kernel
theorem dX10_longest_22 : decode cX10_longest 22 = .ok (.iinc 2 1, 3) := by decide +kernel
theorem dX10_longest_25 : decode cX10_longest 25 = .ok (.goto (-21), 3) := by decide +kernel
theorem dX10_longest_28 : decode cX10_longest 28 = .ok (.iload_n 1, 1) := by decide +kernel
theorem dX10_longest_29 : decode cX10_longest 29 = .ok (.ireturn, 1) := by decide +kernel
theorem dX10_emptyOnes_0 : decode cX10_emptyOnes 0 = .ok (.iconst 0, 1) := by decide +kernel
theorem dX10_emptyOnes_1 : decode cX10_emptyOnes 1 = .ok (.istore_n 1, 1) := by decide +kernel
theorem dX10_emptyOnes_2 : decode cX10_emptyOnes 2 = .ok (.iconst 0, 1) := by decide +kernel
theorem dX10_emptyOnes_3 : decode cX10_emptyOnes 3 = .ok (.istore_n 2, 1) := by decide +kernel
theorem dX10_emptyOnes_4 : decode cX10_emptyOnes 4 = .ok (.iload_n 2, 1) := by decide +kernel
theorem dX10_emptyOnes_5 : decode cX10_emptyOnes 5 = .ok (.aload_n 0, 1) := by decide +kernel
theorem dX10_emptyOnes_6 : decode cX10_emptyOnes 6 = .ok (.invokevirtual 178, 3) := by decide +kernel
theorem dX10_emptyOnes_9 : decode cX10_emptyOnes 9 = .ok (.if_icmp .ge 21, 3) := by decide +kernel
theorem dX10_emptyOnes_12 : decode cX10_emptyOnes 12 = .ok (.aload_n 0, 1) := by decide +kernel
theorem dX10_emptyOnes_13 : decode cX10_emptyOnes 13 = .ok (.iload_n 2, 1) := by decide +kernel
theorem dX10_emptyOnes_14 : decode cX10_emptyOnes 14 = .ok (.invokevirtual 202, 3) := by decide +kernel
theorem dX10_emptyOnes_17 : decode cX10_emptyOnes 17 = .ok (.ifCond .ne 7, 3) := by decide +kernel
theorem dX10_emptyOnes_20 : decode cX10_emptyOnes 20 = .ok (.iload_n 1, 1) := by decide +kernel
theorem dX10_emptyOnes_21 : decode cX10_emptyOnes 21 = .ok (.iconst 1, 1) := by decide +kernel
theorem dX10_emptyOnes_22 : decode cX10_emptyOnes 22 = .ok (.iadd, 1) := by decide +kernel
theorem dX10_emptyOnes_23 : decode cX10_emptyOnes 23 = .ok (.istore_n 1, 1) := by decide +kernel
theorem dX10_emptyOnes_24 : decode cX10_emptyOnes 24 = .ok (.iinc 2 1, 3) := by decide +kernel
theorem dX10_emptyOnes_27 : decode cX10_emptyOnes 27 = .ok (.goto (-23), 3) := by decide +kernel
theorem dX10_emptyOnes_30 : decode cX10_emptyOnes 30 = .ok (.iload_n 1, 1) := by decide +kernel
theorem dX10_emptyOnes_31 : decode cX10_emptyOnes 31 = .ok (.ireturn, 1) := by decide +kernel
theorem dX10_fileIs_0 : decode cX10_fileIs 0 = .ok (.iload_n 1, 1) := by decide +kernel
theorem dX10_fileIs_1 : decode cX10_fileIs 1 = .ok (.tableswitch 155 0 16 #[83, 83, 83, 83, 83, 83, 83, 90, 95, 103, 108, 113, 121, 129, 134, 139, 147], 83) := by decide +kernel
theorem dX10_fileIs_84 : decode cX10_fileIs 84 = .ok (.aload_n 0, 1) := by decide +kernel
theorem dX10_fileIs_85 : decode cX10_fileIs 85 = .ok (.getfield 7, 3) := by decide +kernel
theorem dX10_fileIs_88 : decode cX10_fileIs 88 = .ok (.iload_n 1, 1) := by decide +kernel
theorem dX10_fileIs_89 : decode cX10_fileIs 89 = .ok (.iaload, 1) := by decide +kernel
theorem dX10_fileIs_90 : decode cX10_fileIs 90 = .ok (.ireturn, 1) := by decide +kernel
theorem dX10_fileIs_91 : decode cX10_fileIs 91 = .ok (.aload_n 0, 1) := by decide +kernel
theorem dX10_fileIs_92 : decode cX10_fileIs 92 = .ok (.invokevirtual 178, 3) := by decide +kernel
theorem dX10_fileIs_95 : decode cX10_fileIs 95 = .ok (.ireturn, 1) := by decide +kernel
theorem dX10_fileIs_96 : decode cX10_fileIs 96 = .ok (.aload_n 0, 1) := by decide +kernel
theorem dX10_fileIs_97 : decode cX10_fileIs 97 = .ok (.getfield 7, 3) := by decide +kernel
theorem dX10_fileIs_100 : decode cX10_fileIs 100 = .ok (.bipush 7, 2) := by decide +kernel
theorem dX10_fileIs_102 : decode cX10_fileIs 102 = .ok (.iaload, 1) := by decide +kernel
theorem dX10_fileIs_103 : decode cX10_fileIs 103 = .ok (.ireturn, 1) := by decide +kernel
theorem dX10_fileIs_104 : decode cX10_fileIs 104 = .ok (.aload_n 0, 1) := by decide +kernel
theorem dX10_fileIs_105 : decode cX10_fileIs 105 = .ok (.invokevirtual 296, 3) := by decide +kernel
theorem dX10_fileIs_108 : decode cX10_fileIs 108 = .ok (.ireturn, 1) := by decide +kernel
theorem dX10_fileIs_109 : decode cX10_fileIs 109 = .ok (.aload_n 0, 1) := by decide +kernel
theorem dX10_fileIs_110 : decode cX10_fileIs 110 = .ok (.invokevirtual 223, 3) := by decide +kernel
theorem dX10_fileIs_113 : decode cX10_fileIs 113 = .ok (.ireturn, 1) := by decide +kernel
theorem dX10_fileIs_114 : decode cX10_fileIs 114 = .ok (.aload_n 0, 1) := by decide +kernel
theorem dX10_fileIs_115 : decode cX10_fileIs 115 = .ok (.getfield 7, 3) := by decide +kernel
theorem dX10_fileIs_118 : decode cX10_fileIs 118 = .ok (.bipush 8, 2) := by decide +kernel
theorem dX10_fileIs_120 : decode cX10_fileIs 120 = .ok (.iaload, 1) := by decide +kernel
theorem dX10_fileIs_121 : decode cX10_fileIs 121 = .ok (.ireturn, 1) := by decide +kernel
theorem dX10_fileIs_122 : decode cX10_fileIs 122 = .ok (.aload_n 0, 1) := by decide +kernel
theorem dX10_fileIs_123 : decode cX10_fileIs 123 = .ok (.getfield 7, 3) := by decide +kernel
theorem dX10_fileIs_126 : decode cX10_fileIs 126 = .ok (.bipush 9, 2) := by decide +kernel
theorem dX10_fileIs_128 : decode cX10_fileIs 128 = .ok (.iaload, 1) := by decide +kernel
theorem dX10_fileIs_129 : decode cX10_fileIs 129 = .ok (.ireturn, 1) := by decide +kernel
theorem dX10_fileIs_130 : decode cX10_fileIs 130 = .ok (.aload_n 0, 1) := by decide +kernel
theorem dX10_fileIs_131 : decode cX10_fileIs 131 = .ok (.invokevirtual 299, 3) := by decide +kernel
theorem dX10_fileIs_134 : decode cX10_fileIs 134 = .ok (.ireturn, 1) := by decide +kernel
theorem dX10_fileIs_135 : decode cX10_fileIs 135 = .ok (.aload_n 0, 1) := by decide +kernel
theorem dX10_fileIs_136 : decode cX10_fileIs 136 = .ok (.invokevirtual 302, 3) := by decide +kernel
theorem dX10_fileIs_139 : decode cX10_fileIs 139 = .ok (.ireturn, 1) := by decide +kernel
theorem dX10_fileIs_140 : decode cX10_fileIs 140 = .ok (.aload_n 0, 1) := by decide +kernel
theorem dX10_fileIs_141 : decode cX10_fileIs 141 = .ok (.getfield 7, 3) := by decide +kernel
theorem dX10_fileIs_144 : decode cX10_fileIs 144 = .ok (.bipush 10, 2) := by decide +kernel
theorem dX10_fileIs_146 : decode cX10_fileIs 146 = .ok (.iaload, 1) := by decide +kernel
theorem dX10_fileIs_147 : decode cX10_fileIs 147 = .ok (.ireturn, 1) := by decide +kernel
theorem dX10_fileIs_148 : decode cX10_fileIs 148 = .ok (.aload_n 0, 1) := by decide +kernel
theorem dX10_fileIs_149 : decode cX10_fileIs 149 = .ok (.getfield 7, 3) := by decide +kernel
theorem dX10_fileIs_152 : decode cX10_fileIs 152 = .ok (.bipush 11, 2) := by decide +kernel
theorem dX10_fileIs_154 : decode cX10_fileIs 154 = .ok (.iaload, 1) := by decide +kernel
theorem dX10_fileIs_155 : decode cX10_fileIs 155 = .ok (.ireturn, 1) := by decide +kernel
theorem dX10_fileIs_156 : decode cX10_fileIs 156 = .ok (.iconst (-1), 1) := by decide +kernel
theorem dX10_fileIs_157 : decode cX10_fileIs 157 = .ok (.ireturn, 1) := by decide +kernel
theorem dX10_whereIn_0 : decode cX10_whereIn 0 = .ok (.aload_n 0, 1) := by decide +kernel
theorem dX10_whereIn_1 : decode cX10_whereIn 1 = .ok (.getfield 7, 3) := by decide +kernel
theorem dX10_whereIn_4 : decode cX10_whereIn 4 = .ok (.iconst 0, 1) := by decide +kernel
theorem dX10_whereIn_5 : decode cX10_whereIn 5 = .ok (.iaload, 1) := by decide +kernel
theorem dX10_whereIn_6 : decode cX10_whereIn 6 = .ok (.istore_n 3, 1) := by decide +kernel
theorem dX10_whereIn_7 : decode cX10_whereIn 7 = .ok (.iconst 2, 1) := by decide +kernel
theorem dX10_whereIn_8 : decode cX10_whereIn 8 = .ok (.iload_n 3, 1) := by decide +kernel
theorem dX10_whereIn_9 : decode cX10_whereIn 9 = .ok (.imul, 1) := by decide +kernel
theorem dX10_whereIn_10 : decode cX10_whereIn 10 = .ok (.iload_n 2, 1) := by decide +kernel
theorem dX10_whereIn_11 : decode cX10_whereIn 11 = .ok (.if_icmp .gt 10, 3) := by decide +kernel
