theorem dX2_remove_53 : decode cX2_remove 53 = .ok (.aload_n 0, 1) := by decide +kernel
theorem dX2_remove_54 : decode cX2_remove 54 = .ok (.getfield 21, 3) := by decide +kernel
theorem dX2_remove_57 : decode cX2_remove 57 = .ok (.getfield 135, 3) := by decide +kernel
theorem dX2_remove_60 : decode cX2_remove 60 = .ok (.iload 4, 2) := by decide +kernel
theorem dX2_remove_62 : decode cX2_remove 62 = .ok (.laload, 1) := by decide +kernel
theorem dX2_remove_63 : decode cX2_remove 63 = .ok (.invokestatic 139, 3) := by decide +kernel
theorem dX2_remove_66 : decode cX2_remove 66 = .ok (.istore 5, 2) := by decide +kernel
theorem dX2_remove_68 : decode cX2_remove 68 = .ok (.aload_n 0, 1) := by decide +kernel
theorem dX2_remove_69 : decode cX2_remove 69 = .ok (.dup, 1) := by decide +kernel
theorem dX2_remove_70 : decode cX2_remove 70 = .ok (.getfield 61, 3) := by decide +kernel
theorem dX2_remove_73 : decode cX2_remove 73 = .ok (.aload_n 0, 1) := by decide +kernel
theorem dX2_remove_74 : decode cX2_remove 74 = .ok (.getfield 21, 3) := by decide +kernel
theorem dX2_remove_77 : decode cX2_remove 77 = .ok (.iload_n 3, 1) := by decide +kernel
theorem dX2_remove_78 : decode cX2_remove 78 = .ok (.iload 4, 2) := by decide +kernel
theorem dX2_remove_80 : decode cX2_remove 80 = .ok (.invokevirtual 179, 3) := by decide +kernel
theorem dX2_remove_83 : decode cX2_remove 83 = .ok (.ifCond .eq 7, 3) := by decide +kernel
theorem dX2_remove_86 : decode cX2_remove 86 = .ok (.iconst 2, 1) := by decide +kernel
theorem dX2_remove_87 : decode cX2_remove 87 = .ok (.goto 4, 3) := by decide +kernel
theorem dX2_remove_90 : decode cX2_remove 90 = .ok (.iconst 1, 1) := by decide +kernel
theorem dX2_remove_91 : decode cX2_remove 91 = .ok (.iadd, 1) := by decide +kernel
theorem dX2_remove_92 : decode cX2_remove 92 = .ok (.putfield 61, 3) := by decide +kernel
theorem dX2_remove_95 : decode cX2_remove 95 = .ok (.aload_n 0, 1) := by decide +kernel
theorem dX2_remove_96 : decode cX2_remove 96 = .ok (.getfield 28, 3) := by decide +kernel
theorem dX2_remove_99 : decode cX2_remove 99 = .ok (.iload_n 1, 1) := by decide +kernel
theorem dX2_remove_100 : decode cX2_remove 100 = .ok (.iload_n 2, 1) := by decide +kernel
theorem dX2_remove_101 : decode cX2_remove 101 = .ok (.aload_n 0, 1) := by decide +kernel
theorem dX2_remove_102 : decode cX2_remove 102 = .ok (.getfield 39, 3) := by decide +kernel
theorem dX2_remove_105 : decode cX2_remove 105 = .ok (.invokestatic 118, 3) := by decide +kernel
theorem dX2_remove_108 : decode cX2_remove 108 = .ok (.invokevirtual 183, 3) := by decide +kernel
theorem dX2_remove_111 : decode cX2_remove 111 = .ok (.aload_n 0, 1) := by decide +kernel
theorem dX2_remove_112 : decode cX2_remove 112 = .ok (.getfield 49, 3) := by decide +kernel
theorem dX2_remove_115 : decode cX2_remove 115 = .ok (.ifCond .eq 19, 3) := by decide +kernel
theorem dX2_remove_118 : decode cX2_remove 118 = .ok (.aload_n 0, 1) := by decide +kernel
theorem dX2_remove_119 : decode cX2_remove 119 = .ok (.invokevirtual 173, 3) := by decide +kernel
theorem dX2_remove_122 : decode cX2_remove 122 = .ok (.aload_n 0, 1) := by decide +kernel
theorem dX2_remove_123 : decode cX2_remove 123 = .ok (.getfield 46, 3) := by decide +kernel
theorem dX2_remove_126 : decode cX2_remove 126 = .ok (.if_icmp .ge 8, 3) := by decide +kernel
theorem dX2_remove_129 : decode cX2_remove 129 = .ok (.aload_n 0, 1) := by decide +kernel
theorem dX2_remove_130 : decode cX2_remove 130 = .ok (.invokevirtual 186, 3) := by decide +kernel
theorem dX2_remove_133 : decode cX2_remove 133 = .ok (.pop, 1) := by decide +kernel
theorem dX2_remove_134 : decode cX2_remove 134 = .ok (.iload 5, 2) := by decide +kernel
theorem dX2_remove_136 : decode cX2_remove 136 = .ok (.ireturn, 1) := by decide +kernel
theorem dX2_goesAtNextSplit_0 : decode cX2_goesAtNextSplit 0 = .ok (.iconst 2, 1) := by decide +kernel
theorem dX2_goesAtNextSplit_1 : decode cX2_goesAtNextSplit 1 = .ok (.aload_n 0, 1) := by decide +kernel
theorem dX2_goesAtNextSplit_2 : decode cX2_goesAtNextSplit 2 = .ok (.invokevirtual 103, 3) := by decide +kernel
theorem dX2_goesAtNextSplit_5 : decode cX2_goesAtNextSplit 5 = .ok (.imul, 1) := by decide +kernel
theorem dX2_goesAtNextSplit_6 : decode cX2_goesAtNextSplit 6 = .ok (.istore_n 3, 1) := by decide +kernel
theorem dX2_goesAtNextSplit_7 : decode cX2_goesAtNextSplit 7 = .ok (.iload_n 3, 1) := by decide +kernel
theorem dX2_goesAtNextSplit_8 : decode cX2_goesAtNextSplit 8 = .ok (.ifCond .le 20, 3) := by decide +kernel
theorem dX2_goesAtNextSplit_11 : decode cX2_goesAtNextSplit 11 = .ok (.lload_n 1, 1) := by decide +kernel
theorem dX2_goesAtNextSplit_12 : decode cX2_goesAtNextSplit 12 = .ok (.invokestatic 189, 3) := by decide +kernel
theorem dX2_goesAtNextSplit_15 : decode cX2_goesAtNextSplit 15 = .ok (.iload_n 3, 1) := by decide +kernel
theorem dX2_goesAtNextSplit_16 : decode cX2_goesAtNextSplit 16 = .ok (.irem, 1) := by decide +kernel
theorem dX2_goesAtNextSplit_17 : decode cX2_goesAtNextSplit 17 = .ok (.aload_n 0, 1) := by decide +kernel
theorem dX2_goesAtNextSplit_18 : decode cX2_goesAtNextSplit 18 = .ok (.getfield 55, 3) := by decide +kernel
theorem dX2_goesAtNextSplit_21 : decode cX2_goesAtNextSplit 21 = .ok (.if_icmp .eq 7, 3) := by decide +kernel
theorem dX2_goesAtNextSplit_24 : decode cX2_goesAtNextSplit 24 = .ok (.iconst 1, 1) := by decide +kernel
theorem dX2_goesAtNextSplit_25 : decode cX2_goesAtNextSplit 25 = .ok (.goto 4, 3) := by decide +kernel
theorem dX2_goesAtNextSplit_28 : decode cX2_goesAtNextSplit 28 = .ok (.iconst 0, 1) := by decide +kernel
theorem dX2_goesAtNextSplit_29 : decode cX2_goesAtNextSplit 29 = .ok (.ireturn, 1) := by decide +kernel
theorem dX2_divide_0 : decode cX2_divide 0 = .ok (.aload_n 0, 1) := by decide +kernel
theorem dX2_divide_1 : decode cX2_divide 1 = .ok (.invokevirtual 191, 3) := by decide +kernel
theorem dX2_divide_4 : decode cX2_divide 4 = .ok (.ifCond .eq 6, 3) := by decide +kernel
theorem dX2_divide_7 : decode cX2_divide 7 = .ok (.bipush (-3), 2) := by decide +kernel
theorem dX2_divide_9 : decode cX2_divide 9 = .ok (.ireturn, 1) := by decide +kernel
theorem dX2_divide_10 : decode cX2_divide 10 = .ok (.aload_n 0, 1) := by decide +kernel
theorem dX2_divide_11 : decode cX2_divide 11 = .ok (.getfield 55, 3) := by decide +kernel
theorem dX2_divide_14 : decode cX2_divide 14 = .ok (.istore_n 1, 1) := by decide +kernel
theorem dX2_divide_15 : decode cX2_divide 15 = .ok (.aload_n 0, 1) := by decide +kernel
theorem dX2_divide_16 : decode cX2_divide 16 = .ok (.invokevirtual 96, 3) := by decide +kernel
theorem dX2_divide_19 : decode cX2_divide 19 = .ok (.istore_n 2, 1) := by decide +kernel
theorem dX2_divide_20 : decode cX2_divide 20 = .ok (.aload_n 0, 1) := by decide +kernel
theorem dX2_divide_21 : decode cX2_divide 21 = .ok (.dup, 1) := by decide +kernel
theorem dX2_divide_22 : decode cX2_divide 22 = .ok (.getfield 58, 3) := by decide +kernel
theorem dX2_divide_25 : decode cX2_divide 25 = .ok (.aload_n 0, 1) := by decide +kernel
theorem dX2_divide_26 : decode cX2_divide 26 = .ok (.getfield 21, 3) := by decide +kernel
theorem dX2_divide_29 : decode cX2_divide 29 = .ok (.getfield 145, 3) := by decide +kernel
theorem dX2_divide_32 : decode cX2_divide 32 = .ok (.iload_n 1, 1) := by decide +kernel
theorem dX2_divide_33 : decode cX2_divide 33 = .ok (.iaload, 1) := by decide +kernel
theorem dX2_divide_34 : decode cX2_divide 34 = .ok (.iadd, 1) := by decide +kernel
theorem dX2_divide_35 : decode cX2_divide 35 = .ok (.putfield 58, 3) := by decide +kernel
theorem dX2_divide_38 : decode cX2_divide 38 = .ok (.aload_n 0, 1) := by decide +kernel
theorem dX2_divide_39 : decode cX2_divide 39 = .ok (.getfield 21, 3) := by decide +kernel
theorem dX2_divide_42 : decode cX2_divide 42 = .ok (.iload_n 1, 1) := by decide +kernel
theorem dX2_divide_43 : decode cX2_divide 43 = .ok (.invokevirtual 195, 3) := by decide +kernel
theorem dX2_divide_46 : decode cX2_divide 46 = .ok (.aload_n 0, 1) := by decide +kernel
theorem dX2_divide_47 : decode cX2_divide 47 = .ok (.getfield 21, 3) := by decide +kernel
theorem dX2_divide_50 : decode cX2_divide 50 = .ok (.iload_n 1, 1) := by decide +kernel
theorem dX2_divide_51 : decode cX2_divide 51 = .ok (.iconst 1, 1) := by decide +kernel
theorem dX2_divide_52 : decode cX2_divide 52 = .ok (.invokevirtual 199, 3) := by decide +kernel
theorem dX2_divide_55 : decode cX2_divide 55 = .ok (.aload_n 0, 1) := by decide +kernel
theorem dX2_divide_56 : decode cX2_divide 56 = .ok (.getfield 21, 3) := by decide +kernel
theorem dX2_divide_59 : decode cX2_divide 59 = .ok (.iload_n 2, 1) := by decide +kernel
theorem dX2_divide_60 : decode cX2_divide 60 = .ok (.invokevirtual 203, 3) := by decide +kernel
theorem dX2_divide_63 : decode cX2_divide 63 = .ok (.pop, 1) := by decide +kernel
theorem dX2_divide_64 : decode cX2_divide 64 = .ok (.iconst 0, 1) := by decide +kernel
theorem dX2_divide_65 : decode cX2_divide 65 = .ok (.istore_n 3, 1) := by decide +kernel
theorem dX2_divide_66 : decode cX2_divide 66 = .ok (.iload_n 3, 1) := by decide +kernel
theorem dX2_divide_67 : decode cX2_divide 67 = .ok (.aload_n 0, 1) := by decide +kernel
theorem dX2_divide_68 : decode cX2_divide 68 = .ok (.getfield 21, 3) := by decide +kernel
theorem dX2_divide_71 : decode cX2_divide 71 = .ok (.getfield 206, 3) := by decide +kernel
theorem dX2_divide_74 : decode cX2_divide 74 = .ok (.if_icmp .ge 43, 3) := by decide +kernel
theorem dX2_divide_77 : decode cX2_divide 77 = .ok (.aload_n 0, 1) := by decide +kernel
theorem dX2_divide_78 : decode cX2_divide 78 = .ok (.aload_n 0, 1) := by decide +kernel
theorem dX2_divide_79 : decode cX2_divide 79 = .ok (.getfield 21, 3) := by decide +kernel
theorem dX2_divide_82 : decode cX2_divide 82 = .ok (.getfield 209, 3) := by decide +kernel
theorem dX2_divide_85 : decode cX2_divide 85 = .ok (.iload_n 3, 1) := by decide +kernel
theorem dX2_divide_86 : decode cX2_divide 86 = .ok (.laload, 1) := by decide +kernel
theorem dX2_divide_87 : decode cX2_divide 87 = .ok (.invokevirtual 212, 3) := by decide +kernel
theorem dX2_divide_90 : decode cX2_divide 90 = .ok (.ifCond .ne 21, 3) := by decide +kernel
theorem dX2_divide_93 : decode cX2_divide 93 = .ok (.aload_n 0, 1) := by decide +kernel
theorem dX2_divide_94 : decode cX2_divide 94 = .ok (.getfield 21, 3) := by decide +kernel
theorem dX2_divide_97 : decode cX2_divide 97 = .ok (.iload_n 1, 1) := by decide +kernel
theorem dX2_divide_98 : decode cX2_divide 98 = .ok (.aload_n 0, 1) := by decide +kernel
theorem dX2_divide_99 : decode cX2_divide 99 = .ok (.getfield 21, 3) := by decide +kernel
theorem dX2_divide_102 : decode cX2_divide 102 = .ok (.getfield 209, 3) := by decide +kernel
theorem dX2_divide_105 : decode cX2_divide 105 = .ok (.iload_n 3, 1) := by decide +kernel
theorem dX2_divide_106 : decode cX2_divide 106 = .ok (.laload, 1) := by decide +kernel
theorem dX2_divide_107 : decode cX2_divide 107 = .ok (.invokevirtual 165, 3) := by decide +kernel
theorem dX2_divide_110 : decode cX2_divide 110 = .ok (.pop, 1) := by decide +kernel
theorem dX2_divide_111 : decode cX2_divide 111 = .ok (.iinc 3 1, 3) := by decide +kernel
theorem dX2_divide_114 : decode cX2_divide 114 = .ok (.goto (-48), 3) := by decide +kernel
theorem dX2_divide_117 : decode cX2_divide 117 = .ok (.iconst 0, 1) := by decide +kernel
theorem dX2_divide_118 : decode cX2_divide 118 = .ok (.istore_n 3, 1) := by decide +kernel
theorem dX2_divide_119 : decode cX2_divide 119 = .ok (.iload_n 3, 1) := by decide +kernel
theorem dX2_divide_120 : decode cX2_divide 120 = .ok (.aload_n 0, 1) := by decide +kernel
theorem dX2_divide_121 : decode cX2_divide 121 = .ok (.getfield 21, 3) := by decide +kernel
theorem dX2_divide_124 : decode cX2_divide 124 = .ok (.getfield 206, 3) := by decide +kernel
theorem dX2_divide_127 : decode cX2_divide 127 = .ok (.if_icmp .ge 43, 3) := by decide +kernel
theorem dX2_divide_130 : decode cX2_divide 130 = .ok (.aload_n 0, 1) := by decide +kernel
theorem dX2_divide_131 : decode cX2_divide 131 = .ok (.aload_n 0, 1) := by decide +kernel
theorem dX2_divide_132 : decode cX2_divide 132 = .ok (.getfield 21, 3) := by decide +kernel
theorem dX2_divide_135 : decode cX2_divide 135 = .ok (.getfield 209, 3) := by decide +kernel
theorem dX2_divide_138 : decode cX2_divide 138 = .ok (.iload_n 3, 1) := by decide +kernel
theorem dX2_divide_139 : decode cX2_divide 139 = .ok (.laload, 1) := by decide +kernel
theorem dX2_divide_140 : decode cX2_divide 140 = .ok (.invokevirtual 212, 3) := by decide +kernel
theorem dX2_divide_143 : decode cX2_divide 143 = .ok (.ifCond .eq 21, 3) := by decide +kernel
theorem dX2_divide_146 : decode cX2_divide 146 = .ok (.aload_n 0, 1) := by decide +kernel
theorem dX2_divide_147 : decode cX2_divide 147 = .ok (.getfield 21, 3) := by decide +kernel
theorem dX2_divide_150 : decode cX2_divide 150 = .ok (.iload_n 2, 1) := by decide +kernel
theorem dX2_divide_151 : decode cX2_divide 151 = .ok (.aload_n 0, 1) := by decide +kernel
theorem dX2_divide_152 : decode cX2_divide 152 = .ok (.getfield 21, 3) := by decide +kernel
theorem dX2_divide_155 : decode cX2_divide 155 = .ok (.getfield 209, 3) := by decide +kernel
theorem dX2_divide_158 : decode cX2_divide 158 = .ok (.iload_n 3, 1) := by decide +kernel
theorem dX2_divide_159 : decode cX2_divide 159 = .ok (.laload, 1) := by decide +kernel
theorem dX2_divide_160 : decode cX2_divide 160 = .ok (.invokevirtual 165, 3) := by decide +kernel
theorem dX2_divide_163 : decode cX2_divide 163 = .ok (.pop, 1) := by decide +kernel
theorem dX2_divide_164 : decode cX2_divide 164 = .ok (.iinc 3 1, 3) := by decide +kernel
theorem dX2_divide_167 : decode cX2_divide 167 = .ok (.goto (-48), 3) := by decide +kernel
theorem dX2_divide_170 : decode cX2_divide 170 = .ok (.aload_n 0, 1) := by decide +kernel
theorem dX2_divide_171 : decode cX2_divide 171 = .ok (.dup, 1) := by decide +kernel
theorem dX2_divide_172 : decode cX2_divide 172 = .ok (.getfield 61, 3) := by decide +kernel
theorem dX2_divide_175 : decode cX2_divide 175 = .ok (.aload_n 0, 1) := by decide +kernel
theorem dX2_divide_176 : decode cX2_divide 176 = .ok (.getfield 21, 3) := by decide +kernel
theorem dX2_divide_179 : decode cX2_divide 179 = .ok (.getfield 145, 3) := by decide +kernel
theorem dX2_divide_182 : decode cX2_divide 182 = .ok (.iload_n 1, 1) := by decide +kernel
theorem dX2_divide_183 : decode cX2_divide 183 = .ok (.iaload, 1) := by decide +kernel
theorem dX2_divide_184 : decode cX2_divide 184 = .ok (.aload_n 0, 1) := by decide +kernel
theorem dX2_divide_185 : decode cX2_divide 185 = .ok (.getfield 21, 3) := by decide +kernel
theorem dX2_divide_188 : decode cX2_divide 188 = .ok (.getfield 145, 3) := by decide +kernel
theorem dX2_divide_191 : decode cX2_divide 191 = .ok (.iload_n 2, 1) := by decide +kernel
theorem dX2_divide_192 : decode cX2_divide 192 = .ok (.iaload, 1) := by decide +kernel
theorem dX2_divide_193 : decode cX2_divide 193 = .ok (.iadd, 1) := by decide +kernel
theorem dX2_divide_194 : decode cX2_divide 194 = .ok (.iadd, 1) := by decide +kernel
theorem dX2_divide_195 : decode cX2_divide 195 = .ok (.putfield 61, 3) := by decide +kernel
theorem dX2_divide_198 : decode cX2_divide 198 = .ok (.aload_n 0, 1) := by decide +kernel
theorem dX2_divide_199 : decode cX2_divide 199 = .ok (.dup, 1) := by decide +kernel
theorem dX2_divide_200 : decode cX2_divide 200 = .ok (.getfield 64, 3) := by decide +kernel
theorem dX2_divide_203 : decode cX2_divide 203 = .ok (.iconst 1, 1) := by decide +kernel
theorem dX2_divide_204 : decode cX2_divide 204 = .ok (.iadd, 1) := by decide +kernel
theorem dX2_divide_205 : decode cX2_divide 205 = .ok (.putfield 64, 3) := by decide +kernel
theorem dX2_divide_208 : decode cX2_divide 208 = .ok (.aload_n 0, 1) := by decide +kernel
theorem dX2_divide_209 : decode cX2_divide 209 = .ok (.dup, 1) := by decide +kernel
theorem dX2_divide_210 : decode cX2_divide 210 = .ok (.getfield 55, 3) := by decide +kernel
theorem dX2_divide_213 : decode cX2_divide 213 = .ok (.iconst 1, 1) := by decide +kernel
theorem dX2_divide_214 : decode cX2_divide 214 = .ok (.iadd, 1) := by decide +kernel
theorem dX2_divide_215 : decode cX2_divide 215 = .ok (.putfield 55, 3) := by decide +kernel
theorem dX2_divide_218 : decode cX2_divide 218 = .ok (.aload_n 0, 1) := by decide +kernel
theorem dX2_divide_219 : decode cX2_divide 219 = .ok (.getfield 55, 3) := by decide +kernel
theorem dX2_divide_222 : decode cX2_divide 222 = .ok (.aload_n 0, 1) := by decide +kernel
theorem dX2_divide_223 : decode cX2_divide 223 = .ok (.invokevirtual 103, 3) := by decide +kernel
theorem dX2_divide_226 : decode cX2_divide 226 = .ok (.if_icmp .ne 18, 3) := by decide +kernel
theorem dX2_divide_229 : decode cX2_divide 229 = .ok (.aload_n 0, 1) := by decide +kernel
theorem dX2_divide_230 : decode cX2_divide 230 = .ok (.dup, 1) := by decide +kernel
theorem dX2_divide_231 : decode cX2_divide 231 = .ok (.getfield 52, 3) := by decide +kernel
theorem dX2_divide_234 : decode cX2_divide 234 = .ok (.iconst 1, 1) := by decide +kernel
theorem dX2_divide_235 : decode cX2_divide 235 = .ok (.iadd, 1) := by decide +kernel
theorem dX2_divide_236 : decode cX2_divide 236 = .ok (.putfield 52, 3) := by decide +kernel
theorem dX2_divide_239 : decode cX2_divide 239 = .ok (.aload_n 0, 1) := by decide +kernel
theorem dX2_divide_240 : decode cX2_divide 240 = .ok (.iconst 0, 1) := by decide +kernel
theorem dX2_divide_241 : decode cX2_divide 241 = .ok (.putfield 55, 3) := by decide +kernel
theorem dX2_divide_244 : decode cX2_divide 244 = .ok (.aload_n 0, 1) := by decide +kernel
theorem dX2_divide_245 : decode cX2_divide 245 = .ok (.getfield 21, 3) := by decide +kernel
theorem dX2_divide_248 : decode cX2_divide 248 = .ok (.getfield 215, 3) := by decide +kernel
theorem dX2_divide_251 : decode cX2_divide 251 = .ok (.iload_n 2, 1) := by decide +kernel
theorem dX2_divide_252 : decode cX2_divide 252 = .ok (.iaload, 1) := by decide +kernel
theorem dX2_divide_253 : decode cX2_divide 253 = .ok (.ireturn, 1) := by decide +kernel
theorem dX2_unite_0 : decode cX2_unite 0 = .ok (.aload_n 0, 1) := by decide +kernel
theorem dX2_unite_1 : decode cX2_unite 1 = .ok (.invokevirtual 96, 3) := by decide +kernel
theorem dX2_unite_4 : decode cX2_unite 4 = .ok (.aload_n 0, 1) := by decide +kernel
theorem dX2_unite_5 : decode cX2_unite 5 = .ok (.getfield 39, 3) := by decide +kernel
theorem dX2_unite_8 : decode cX2_unite 8 = .ok (.if_icmp .gt 6, 3) := by decide +kernel
theorem dX2_unite_11 : decode cX2_unite 11 = .ok (.bipush (-3), 2) := by decide +kernel
theorem dX2_unite_13 : decode cX2_unite 13 = .ok (.ireturn, 1) := by decide +kernel
theorem dX2_unite_14 : decode cX2_unite 14 = .ok (.aload_n 0, 1) := by decide +kernel
theorem dX2_unite_15 : decode cX2_unite 15 = .ok (.getfield 55, 3) := by decide +kernel
theorem dX2_unite_18 : decode cX2_unite 18 = .ok (.ifCond .ne 21, 3) := by decide +kernel
theorem dX2_unite_21 : decode cX2_unite 21 = .ok (.aload_n 0, 1) := by decide +kernel
theorem dX2_unite_22 : decode cX2_unite 22 = .ok (.dup, 1) := by decide +kernel
theorem dX2_unite_23 : decode cX2_unite 23 = .ok (.getfield 52, 3) := by decide +kernel
theorem dX2_unite_26 : decode cX2_unite 26 = .ok (.iconst 1, 1) := by decide +kernel
theorem dX2_unite_27 : decode cX2_unite 27 = .ok (.isub, 1) := by decide +kernel
theorem dX2_unite_28 : decode cX2_unite 28 = .ok (.putfield 52, 3) := by decide +kernel
theorem dX2_unite_31 : decode cX2_unite 31 = .ok (.aload_n 0, 1) := by decide +kernel
theorem dX2_unite_32 : decode cX2_unite 32 = .ok (.aload_n 0, 1) := by decide +kernel
theorem dX2_unite_33 : decode cX2_unite 33 = .ok (.invokevirtual 103, 3) := by decide +kernel
theorem dX2_unite_36 : decode cX2_unite 36 = .ok (.putfield 55, 3) := by decide +kernel
theorem dX2_unite_39 : decode cX2_unite 39 = .ok (.aload_n 0, 1) := by decide +kernel
theorem dX2_unite_40 : decode cX2_unite 40 = .ok (.dup, 1) := by decide +kernel
theorem dX2_unite_41 : decode cX2_unite 41 = .ok (.getfield 55, 3) := by decide +kernel
theorem dX2_unite_44 : decode cX2_unite 44 = .ok (.iconst 1, 1) := by decide +kernel
theorem dX2_unite_45 : decode cX2_unite 45 = .ok (.isub, 1) := by decide +kernel
theorem dX2_unite_46 : decode cX2_unite 46 = .ok (.putfield 55, 3) := by decide +kernel
theorem dX2_unite_49 : decode cX2_unite 49 = .ok (.aload_n 0, 1) := by decide +kernel
theorem dX2_unite_50 : decode cX2_unite 50 = .ok (.invokevirtual 96, 3) := by decide +kernel
theorem dX2_unite_53 : decode cX2_unite 53 = .ok (.istore_n 1, 1) := by decide +kernel
theorem dX2_unite_54 : decode cX2_unite 54 = .ok (.aload_n 0, 1) := by decide +kernel
theorem dX2_unite_55 : decode cX2_unite 55 = .ok (.dup, 1) := by decide +kernel
theorem dX2_unite_56 : decode cX2_unite 56 = .ok (.getfield 58, 3) := by decide +kernel
theorem dX2_unite_59 : decode cX2_unite 59 = .ok (.aload_n 0, 1) := by decide +kernel
theorem dX2_unite_60 : decode cX2_unite 60 = .ok (.getfield 21, 3) := by decide +kernel
theorem dX2_unite_63 : decode cX2_unite 63 = .ok (.getfield 145, 3) := by decide +kernel
theorem dX2_unite_66 : decode cX2_unite 66 = .ok (.aload_n 0, 1) := by decide +kernel
theorem dX2_unite_67 : decode cX2_unite 67 = .ok (.getfield 55, 3) := by decide +kernel
theorem dX2_unite_70 : decode cX2_unite 70 = .ok (.iaload, 1) := by decide +kernel
theorem dX2_unite_71 : decode cX2_unite 71 = .ok (.aload_n 0, 1) := by decide +kernel
theorem dX2_unite_72 : decode cX2_unite 72 = .ok (.getfield 21, 3) := by decide +kernel
theorem dX2_unite_75 : decode cX2_unite 75 = .ok (.getfield 145, 3) := by decide +kernel
theorem dX2_unite_78 : decode cX2_unite 78 = .ok (.iload_n 1, 1) := by decide +kernel
theorem dX2_unite_79 : decode cX2_unite 79 = .ok (.iaload, 1) := by decide +kernel
theorem dX2_unite_80 : decode cX2_unite 80 = .ok (.iadd, 1) := by decide +kernel
theorem dX2_unite_81 : decode cX2_unite 81 = .ok (.iadd, 1) := by decide +kernel
theorem dX2_unite_82 : decode cX2_unite 82 = .ok (.putfield 58, 3) := by decide +kernel
theorem dX2_unite_85 : decode cX2_unite 85 = .ok (.aload_n 0, 1) := by decide +kernel
theorem dX2_unite_86 : decode cX2_unite 86 = .ok (.getfield 21, 3) := by decide +kernel
theorem dX2_unite_89 : decode cX2_unite 89 = .ok (.iload_n 1, 1) := by decide +kernel
theorem dX2_unite_90 : decode cX2_unite 90 = .ok (.invokevirtual 195, 3) := by decide +kernel
theorem dX2_unite_93 : decode cX2_unite 93 = .ok (.aload_n 0, 1) := by decide +kernel
theorem dX2_unite_94 : decode cX2_unite 94 = .ok (.getfield 21, 3) := by decide +kernel
theorem dX2_unite_97 : decode cX2_unite 97 = .ok (.iload_n 1, 1) := by decide +kernel
theorem dX2_unite_98 : decode cX2_unite 98 = .ok (.iconst 0, 1) := by decide +kernel
theorem dX2_unite_99 : decode cX2_unite 99 = .ok (.invokevirtual 199, 3) := by decide +kernel
theorem dX2_unite_102 : decode cX2_unite 102 = .ok (.iconst 0, 1) := by decide +kernel
theorem dX2_unite_103 : decode cX2_unite 103 = .ok (.istore_n 2, 1) := by decide +kernel
theorem dX2_unite_104 : decode cX2_unite 104 = .ok (.iload_n 2, 1) := by decide +kernel
theorem dX2_unite_105 : decode cX2_unite 105 = .ok (.aload_n 0, 1) := by decide +kernel
theorem dX2_unite_106 : decode cX2_unite 106 = .ok (.getfield 21, 3) := by decide +kernel
theorem dX2_unite_109 : decode cX2_unite 109 = .ok (.getfield 206, 3) := by decide +kernel
theorem dX2_unite_112 : decode cX2_unite 112 = .ok (.if_icmp .ge 30, 3) := by decide +kernel
theorem dX2_unite_115 : decode cX2_unite 115 = .ok (.aload_n 0, 1) := by decide +kernel
theorem dX2_unite_116 : decode cX2_unite 116 = .ok (.getfield 21, 3) := by decide +kernel
theorem dX2_unite_119 : decode cX2_unite 119 = .ok (.aload_n 0, 1) := by decide +kernel
theorem dX2_unite_120 : decode cX2_unite 120 = .ok (.getfield 55, 3) := by decide +kernel
theorem dX2_unite_123 : decode cX2_unite 123 = .ok (.aload_n 0, 1) := by decide +kernel
theorem dX2_unite_124 : decode cX2_unite 124 = .ok (.getfield 21, 3) := by decide +kernel
theorem dX2_unite_127 : decode cX2_unite 127 = .ok (.getfield 209, 3) := by decide +kernel
theorem dX2_unite_130 : decode cX2_unite 130 = .ok (.iload_n 2, 1) := by decide +kernel
theorem dX2_unite_131 : decode cX2_unite 131 = .ok (.laload, 1) := by decide +kernel
theorem dX2_unite_132 : decode cX2_unite 132 = .ok (.invokevirtual 165, 3) := by decide +kernel
theorem dX2_unite_135 : decode cX2_unite 135 = .ok (.pop, 1) := by decide +kernel
theorem dX2_unite_136 : decode cX2_unite 136 = .ok (.iinc 2 1, 3) := by decide +kernel
theorem dX2_unite_139 : decode cX2_unite 139 = .ok (.goto (-35), 3) := by decide +kernel
theorem dX2_unite_142 : decode cX2_unite 142 = .ok (.aload_n 0, 1) := by decide +kernel
theorem dX2_unite_143 : decode cX2_unite 143 = .ok (.dup, 1) := by decide +kernel
theorem dX2_unite_144 : decode cX2_unite 144 = .ok (.getfield 61, 3) := by decide +kernel
theorem dX2_unite_147 : decode cX2_unite 147 = .ok (.aload_n 0, 1) := by decide +kernel
theorem dX2_unite_148 : decode cX2_unite 148 = .ok (.getfield 21, 3) := by decide +kernel
theorem dX2_unite_151 : decode cX2_unite 151 = .ok (.getfield 145, 3) := by decide +kernel
theorem dX2_unite_154 : decode cX2_unite 154 = .ok (.aload_n 0, 1) := by decide +kernel
theorem dX2_unite_155 : decode cX2_unite 155 = .ok (.getfield 55, 3) := by decide +kernel
theorem dX2_unite_158 : decode cX2_unite 158 = .ok (.iaload, 1) := by decide +kernel
theorem dX2_unite_159 : decode cX2_unite 159 = .ok (.iadd, 1) := by decide +kernel
theorem dX2_unite_160 : decode cX2_unite 160 = .ok (.putfield 61, 3) := by decide +kernel
theorem dX2_unite_163 : decode cX2_unite 163 = .ok (.aload_n 0, 1) := by decide +kernel
theorem dX2_unite_164 : decode cX2_unite 164 = .ok (.dup, 1) := by decide +kernel
theorem dX2_unite_165 : decode cX2_unite 165 = .ok (.getfield 67, 3) := by decide +kernel
theorem dX2_unite_168 : decode cX2_unite 168 = .ok (.iconst 1, 1) := by decide +kernel
theorem dX2_unite_169 : decode cX2_unite 169 = .ok (.iadd, 1) := by decide +kernel
theorem dX2_unite_170 : decode cX2_unite 170 = .ok (.putfield 67, 3) := by decide +kernel
theorem dX2_unite_173 : decode cX2_unite 173 = .ok (.aload_n 0, 1) := by decide +kernel
theorem dX2_unite_174 : decode cX2_unite 174 = .ok (.getfield 21, 3) := by decide +kernel
theorem dX2_unite_177 : decode cX2_unite 177 = .ok (.getfield 206, 3) := by decide +kernel
theorem dX2_unite_180 : decode cX2_unite 180 = .ok (.ireturn, 1) := by decide +kernel
theorem dX2_draw_0 : decode cX2_draw 0 = .ok (.aload_n 0, 1) := by decide +kernel
theorem dX2_draw_1 : decode cX2_draw 1 = .ok (.sipush 25173, 3) := by decide +kernel
theorem dX2_draw_4 : decode cX2_draw 4 = .ok (.aload_n 0, 1) := by decide +kernel
theorem dX2_draw_5 : decode cX2_draw 5 = .ok (.getfield 70, 3) := by decide +kernel
theorem dX2_draw_8 : decode cX2_draw 8 = .ok (.imul, 1) := by decide +kernel
theorem dX2_draw_9 : decode cX2_draw 9 = .ok (.sipush 13849, 3) := by decide +kernel
theorem dX2_draw_12 : decode cX2_draw 12 = .ok (.iadd, 1) := by decide +kernel
theorem dX2_draw_13 : decode cX2_draw 13 = .ok (.ldc 218, 2) := by decide +kernel
theorem dX2_draw_15 : decode cX2_draw 15 = .ok (.iand, 1) := by decide +kernel
theorem dX2_draw_16 : decode cX2_draw 16 = .ok (.putfield 70, 3) := by decide +kernel
theorem dX2_draw_19 : decode cX2_draw 19 = .ok (.return_, 1) := by decide +kernel
theorem dX2_storeDrawn_0 : decode cX2_storeDrawn 0 = .ok (.iconst 0, 1) := by decide +kernel
theorem dX2_storeDrawn_1 : decode cX2_storeDrawn 1 = .ok (.istore_n 2, 1) := by decide +kernel
theorem dX2_storeDrawn_2 : decode cX2_storeDrawn 2 = .ok (.iload_n 2, 1) := by decide +kernel
theorem dX2_storeDrawn_3 : decode cX2_storeDrawn 3 = .ok (.iload_n 1, 1) := by decide +kernel
theorem dX2_storeDrawn_4 : decode cX2_storeDrawn 4 = .ok (.if_icmp .ge 30, 3) := by decide +kernel
theorem dX2_storeDrawn_7 : decode cX2_storeDrawn 7 = .ok (.aload_n 0, 1) := by decide +kernel
theorem dX2_storeDrawn_8 : decode cX2_storeDrawn 8 = .ok (.invokevirtual 219, 3) := by decide +kernel
theorem dX2_storeDrawn_11 : decode cX2_storeDrawn 11 = .ok (.aload_n 0, 1) := by decide +kernel
theorem dX2_storeDrawn_12 : decode cX2_storeDrawn 12 = .ok (.aload_n 0, 1) := by decide +kernel
theorem dX2_storeDrawn_13 : decode cX2_storeDrawn 13 = .ok (.getfield 70, 3) := by decide +kernel
theorem dX2_storeDrawn_16 : decode cX2_storeDrawn 16 = .ok (.aload_n 0, 1) := by decide +kernel
theorem dX2_storeDrawn_17 : decode cX2_storeDrawn 17 = .ok (.getfield 70, 3) := by decide +kernel
theorem dX2_storeDrawn_20 : decode cX2_storeDrawn 20 = .ok (.sipush 255, 3) := by decide +kernel
theorem dX2_storeDrawn_23 : decode cX2_storeDrawn 23 = .ok (.iand, 1) := by decide +kernel
theorem dX2_storeDrawn_24 : decode cX2_storeDrawn 24 = .ok (.invokevirtual 222, 3) := by decide +kernel
theorem dX2_storeDrawn_27 : decode cX2_storeDrawn 27 = .ok (.pop, 1) := by decide +kernel
theorem dX2_storeDrawn_28 : decode cX2_storeDrawn 28 = .ok (.iinc 2 1, 3) := by decide +kernel
theorem dX2_storeDrawn_31 : decode cX2_storeDrawn 31 = .ok (.goto (-29), 3) := by decide +kernel
theorem dX2_storeDrawn_34 : decode cX2_storeDrawn 34 = .ok (.return_, 1) := by decide +kernel
theorem dX2_removeDrawn_0 : decode cX2_removeDrawn 0 = .ok (.iconst 0, 1) := by decide +kernel
theorem dX2_removeDrawn_1 : decode cX2_removeDrawn 1 = .ok (.istore_n 2, 1) := by decide +kernel
theorem dX2_removeDrawn_2 : decode cX2_removeDrawn 2 = .ok (.iload_n 2, 1) := by decide +kernel
theorem dX2_removeDrawn_3 : decode cX2_removeDrawn 3 = .ok (.iload_n 1, 1) := by decide +kernel
theorem dX2_removeDrawn_4 : decode cX2_removeDrawn 4 = .ok (.if_icmp .ge 47, 3) := by decide +kernel
theorem dX2_removeDrawn_7 : decode cX2_removeDrawn 7 = .ok (.aload_n 0, 1) := by decide +kernel
theorem dX2_removeDrawn_8 : decode cX2_removeDrawn 8 = .ok (.invokevirtual 219, 3) := by decide +kernel
theorem dX2_removeDrawn_11 : decode cX2_removeDrawn 11 = .ok (.aload_n 0, 1) := by decide +kernel
theorem dX2_removeDrawn_12 : decode cX2_removeDrawn 12 = .ok (.getfield 28, 3) := by decide +kernel
theorem dX2_removeDrawn_15 : decode cX2_removeDrawn 15 = .ok (.getfield 77, 3) := by decide +kernel
theorem dX2_removeDrawn_18 : decode cX2_removeDrawn 18 = .ok (.ifCond .le 27, 3) := by decide +kernel
theorem dX2_removeDrawn_21 : decode cX2_removeDrawn 21 = .ok (.aload_n 0, 1) := by decide +kernel
theorem dX2_removeDrawn_22 : decode cX2_removeDrawn 22 = .ok (.aload_n 0, 1) := by decide +kernel
theorem dX2_removeDrawn_23 : decode cX2_removeDrawn 23 = .ok (.getfield 28, 3) := by decide +kernel
theorem dX2_removeDrawn_26 : decode cX2_removeDrawn 26 = .ok (.aload_n 0, 1) := by decide +kernel
theorem dX2_removeDrawn_27 : decode cX2_removeDrawn 27 = .ok (.getfield 70, 3) := by decide +kernel
theorem dX2_removeDrawn_30 : decode cX2_removeDrawn 30 = .ok (.aload_n 0, 1) := by decide +kernel
theorem dX2_removeDrawn_31 : decode cX2_removeDrawn 31 = .ok (.getfield 28, 3) := by decide +kernel
theorem dX2_removeDrawn_34 : decode cX2_removeDrawn 34 = .ok (.getfield 77, 3) := by decide +kernel
theorem dX2_removeDrawn_37 : decode cX2_removeDrawn 37 = .ok (.irem, 1) := by decide +kernel
theorem dX2_removeDrawn_38 : decode cX2_removeDrawn 38 = .ok (.invokevirtual 225, 3) := by decide +kernel
theorem dX2_removeDrawn_41 : decode cX2_removeDrawn 41 = .ok (.invokevirtual 228, 3) := by decide +kernel
theorem dX2_removeDrawn_44 : decode cX2_removeDrawn 44 = .ok (.pop, 1) := by decide +kernel
theorem dX2_removeDrawn_45 : decode cX2_removeDrawn 45 = .ok (.iinc 2 1, 3) := by decide +kernel
theorem dX2_removeDrawn_48 : decode cX2_removeDrawn 48 = .ok (.goto (-46), 3) := by decide +kernel
theorem dX2_removeDrawn_51 : decode cX2_removeDrawn 51 = .ok (.return_, 1) := by decide +kernel
theorem dX3_init_0 : decode cX3_init 0 = .ok (.aload_n 0, 1) := by decide +kernel
theorem dX3_init_1 : decode cX3_init 1 = .ok (.invokespecial 3, 3) := by decide +kernel
theorem dX3_init_4 : decode cX3_init 4 = .ok (.aload_n 0, 1) := by decide +kernel
theorem dX3_init_5 : decode cX3_init 5 = .ok (.bipush 60, 2) := by decide +kernel
theorem dX3_init_7 : decode cX3_init 7 = .ok (.newarray .int, 2) := by decide +kernel
theorem dX3_init_9 : decode cX3_init 9 = .ok (.putfield 11, 3) := by decide +kernel
theorem dX3_init_12 : decode cX3_init 12 = .ok (.aload_n 0, 1) := by decide +kernel
theorem dX3_init_13 : decode cX3_init 13 = .ok (.bipush 8, 2) := by decide +kernel
theorem dX3_init_15 : decode cX3_init 15 = .ok (.newarray .int, 2) := by decide +kernel
theorem dX3_init_17 : decode cX3_init 17 = .ok (.putfield 17, 3) := by decide +kernel
theorem dX3_init_20 : decode cX3_init 20 = .ok (.aload_n 0, 1) := by decide +kernel
theorem dX3_init_21 : decode cX3_init 21 = .ok (.iconst 1, 1) := by decide +kernel
theorem dX3_init_22 : decode cX3_init 22 = .ok (.putfield 20, 3) := by decide +kernel
theorem dX3_init_25 : decode cX3_init 25 = .ok (.aload_n 0, 1) := by decide +kernel
theorem dX3_init_26 : decode cX3_init 26 = .ok (.getfield 11, 3) := by decide +kernel
theorem dX3_init_29 : decode cX3_init 29 = .ok (.iconst 0, 1) := by decide +kernel
theorem dX3_init_30 : decode cX3_init 30 = .ok (.iconst (-1), 1) := by decide +kernel
theorem dX3_init_31 : decode cX3_init 31 = .ok (.iastore, 1) := by decide +kernel
theorem dX3_init_32 : decode cX3_init 32 = .ok (.return_, 1) := by decide +kernel
theorem dX3_take_0 : decode cX3_take 0 = .ok (.aload_n 0, 1) := by decide +kernel
theorem dX3_take_1 : decode cX3_take 1 = .ok (.iload_n 2, 1) := by decide +kernel
theorem dX3_take_2 : decode cX3_take 2 = .ok (.aload_n 0, 1) := by decide +kernel
theorem dX3_take_3 : decode cX3_take 3 = .ok (.getfield 11, 3) := by decide +kernel
theorem dX3_take_6 : decode cX3_take 6 = .ok (.arraylength, 1) := by decide +kernel
theorem dX3_take_7 : decode cX3_take 7 = .ok (.aload_n 1, 1) := by decide +kernel
theorem dX3_take_8 : decode cX3_take 8 = .ok (.arraylength, 1) := by decide +kernel
theorem dX3_take_9 : decode cX3_take 9 = .ok (.invokestatic 24, 3) := by decide +kernel
theorem dX3_take_12 : decode cX3_take 12 = .ok (.invokestatic 24, 3) := by decide +kernel
theorem dX3_take_15 : decode cX3_take 15 = .ok (.putfield 20, 3) := by decide +kernel
theorem dX3_take_18 : decode cX3_take 18 = .ok (.aload_n 1, 1) := by decide +kernel
theorem dX3_take_19 : decode cX3_take 19 = .ok (.iconst 0, 1) := by decide +kernel
theorem dX3_take_20 : decode cX3_take 20 = .ok (.aload_n 0, 1) := by decide +kernel
theorem dX3_take_21 : decode cX3_take 21 = .ok (.getfield 11, 3) := by decide +kernel
theorem dX3_take_24 : decode cX3_take 24 = .ok (.iconst 0, 1) := by decide +kernel
theorem dX3_take_25 : decode cX3_take 25 = .ok (.aload_n 0, 1) := by decide +kernel
theorem dX3_take_26 : decode cX3_take 26 = .ok (.getfield 20, 3) := by decide +kernel
theorem dX3_take_29 : decode cX3_take 29 = .ok (.invokestatic 30, 3) := by decide +kernel
theorem dX3_take_32 : decode cX3_take 32 = .ok (.return_, 1) := by decide +kernel
theorem dX3_copyFrom_0 : decode cX3_copyFrom 0 = .ok (.aload_n 0, 1) := by decide +kernel
theorem dX3_copyFrom_1 : decode cX3_copyFrom 1 = .ok (.aload_n 1, 1) := by decide +kernel
theorem dX3_copyFrom_2 : decode cX3_copyFrom 2 = .ok (.getfield 11, 3) := by decide +kernel
theorem dX3_copyFrom_5 : decode cX3_copyFrom 5 = .ok (.aload_n 1, 1) := by decide +kernel
theorem dX3_copyFrom_6 : decode cX3_copyFrom 6 = .ok (.getfield 20, 3) := by decide +kernel
theorem dX3_copyFrom_9 : decode cX3_copyFrom 9 = .ok (.invokevirtual 36, 3) := by decide +kernel
theorem dX3_copyFrom_12 : decode cX3_copyFrom 12 = .ok (.return_, 1) := by decide +kernel
theorem dX3_hashOf_0 : decode cX3_hashOf 0 = .ok (.iconst 0, 1) := by decide +kernel
theorem dX3_hashOf_1 : decode cX3_hashOf 1 = .ok (.istore_n 2, 1) := by decide +kernel
theorem dX3_hashOf_2 : decode cX3_hashOf 2 = .ok (.iconst 0, 1) := by decide +kernel
theorem dX3_hashOf_3 : decode cX3_hashOf 3 = .ok (.istore_n 3, 1) := by decide +kernel
theorem dX3_hashOf_4 : decode cX3_hashOf 4 = .ok (.iload_n 3, 1) := by decide +kernel
theorem dX3_hashOf_5 : decode cX3_hashOf 5 = .ok (.aload_n 0, 1) := by decide +kernel
theorem dX3_hashOf_6 : decode cX3_hashOf 6 = .ok (.getfield 20, 3) := by decide +kernel
theorem dX3_hashOf_9 : decode cX3_hashOf 9 = .ok (.if_icmp .ge 127, 3) := by decide +kernel
theorem dX3_hashOf_12 : decode cX3_hashOf 12 = .ok (.aload_n 0, 1) := by decide +kernel
theorem dX3_hashOf_13 : decode cX3_hashOf 13 = .ok (.getfield 11, 3) := by decide +kernel
theorem dX3_hashOf_16 : decode cX3_hashOf 16 = .ok (.iload_n 3, 1) := by decide +kernel
theorem dX3_hashOf_17 : decode cX3_hashOf 17 = .ok (.iaload, 1) := by decide +kernel
theorem dX3_hashOf_18 : decode cX3_hashOf 18 = .ok (.istore 4, 2) := by decide +kernel
theorem dX3_hashOf_20 : decode cX3_hashOf 20 = .ok (.iload 4, 2) := by decide +kernel
theorem dX3_hashOf_22 : decode cX3_hashOf 22 = .ok (.iconst (-1), 1) := by decide +kernel
theorem dX3_hashOf_23 : decode cX3_hashOf 23 = .ok (.if_icmp .lt 33, 3) := by decide +kernel
theorem dX3_hashOf_26 : decode cX3_hashOf 26 = .ok (.iload_n 2, 1) := by decide +kernel
theorem dX3_hashOf_27 : decode cX3_hashOf 27 = .ok (.bipush 8, 2) := by decide +kernel
theorem dX3_hashOf_29 : decode cX3_hashOf 29 = .ok (.if_icmp .ge 101, 3) := by decide +kernel
theorem dX3_hashOf_32 : decode cX3_hashOf 32 = .ok (.aload_n 0, 1) := by decide +kernel
theorem dX3_hashOf_33 : decode cX3_hashOf 33 = .ok (.getfield 17, 3) := by decide +kernel
theorem dX3_hashOf_36 : decode cX3_hashOf 36 = .ok (.iload_n 2, 1) := by decide +kernel
theorem dX3_hashOf_37 : decode cX3_hashOf 37 = .ok (.iload 4, 2) := by decide +kernel
theorem dX3_hashOf_39 : decode cX3_hashOf 39 = .ok (.iconst (-1), 1) := by decide +kernel
theorem dX3_hashOf_40 : decode cX3_hashOf 40 = .ok (.if_icmp .ne 7, 3) := by decide +kernel
theorem dX3_hashOf_43 : decode cX3_hashOf 43 = .ok (.iload_n 1, 1) := by decide +kernel
theorem dX3_hashOf_44 : decode cX3_hashOf 44 = .ok (.goto 5, 3) := by decide +kernel
theorem dX3_hashOf_47 : decode cX3_hashOf 47 = .ok (.iload 4, 2) := by decide +kernel
theorem dX3_hashOf_49 : decode cX3_hashOf 49 = .ok (.iastore, 1) := by decide +kernel
theorem dX3_hashOf_50 : decode cX3_hashOf 50 = .ok (.iinc 2 1, 3) := by decide +kernel
theorem dX3_hashOf_53 : decode cX3_hashOf 53 = .ok (.goto 77, 3) := by decide +kernel
theorem dX3_hashOf_56 : decode cX3_hashOf 56 = .ok (.iload 4, 2) := by decide +kernel
theorem dX3_hashOf_58 : decode cX3_hashOf 58 = .ok (.bipush (-19), 2) := by decide +kernel
theorem dX3_hashOf_60 : decode cX3_hashOf 60 = .ok (.if_icmp .lt 31, 3) := by decide +kernel
theorem dX3_hashOf_63 : decode cX3_hashOf 63 = .ok (.iload_n 2, 1) := by decide +kernel
theorem dX3_hashOf_64 : decode cX3_hashOf 64 = .ok (.ifCond .le 66, 3) := by decide +kernel
theorem dX3_hashOf_67 : decode cX3_hashOf 67 = .ok (.aload_n 0, 1) := by decide +kernel
theorem dX3_hashOf_68 : decode cX3_hashOf 68 = .ok (.getfield 17, 3) := by decide +kernel
theorem dX3_hashOf_71 : decode cX3_hashOf 71 = .ok (.iload_n 2, 1) := by decide +kernel
theorem dX3_hashOf_72 : decode cX3_hashOf 72 = .ok (.iconst 1, 1) := by decide +kernel
theorem dX3_hashOf_73 : decode cX3_hashOf 73 = .ok (.isub, 1) := by decide +kernel
theorem dX3_hashOf_74 : decode cX3_hashOf 74 = .ok (.iload 4, 2) := by decide +kernel
theorem dX3_hashOf_76 : decode cX3_hashOf 76 = .ok (.aload_n 0, 1) := by decide +kernel
theorem dX3_hashOf_77 : decode cX3_hashOf 77 = .ok (.getfield 17, 3) := by decide +kernel
theorem dX3_hashOf_80 : decode cX3_hashOf 80 = .ok (.iload_n 2, 1) := by decide +kernel
theorem dX3_hashOf_81 : decode cX3_hashOf 81 = .ok (.iconst 1, 1) := by decide +kernel
theorem dX3_hashOf_82 : decode cX3_hashOf 82 = .ok (.isub, 1) := by decide +kernel
theorem dX3_hashOf_83 : decode cX3_hashOf 83 = .ok (.iaload, 1) := by decide +kernel
theorem dX3_hashOf_84 : decode cX3_hashOf 84 = .ok (.invokestatic 40, 3) := by decide +kernel
theorem dX3_hashOf_87 : decode cX3_hashOf 87 = .ok (.iastore, 1) := by decide +kernel
theorem dX3_hashOf_88 : decode cX3_hashOf 88 = .ok (.goto 42, 3) := by decide +kernel
theorem dX3_hashOf_91 : decode cX3_hashOf 91 = .ok (.iload_n 2, 1) := by decide +kernel
theorem dX3_hashOf_92 : decode cX3_hashOf 92 = .ok (.iconst 1, 1) := by decide +kernel
theorem dX3_hashOf_93 : decode cX3_hashOf 93 = .ok (.if_icmp .le 37, 3) := by decide +kernel
theorem dX3_hashOf_96 : decode cX3_hashOf 96 = .ok (.iinc 2 (-1), 3) := by decide +kernel
theorem dX3_hashOf_99 : decode cX3_hashOf 99 = .ok (.aload_n 0, 1) := by decide +kernel
theorem dX3_hashOf_100 : decode cX3_hashOf 100 = .ok (.getfield 17, 3) := by decide +kernel
theorem dX3_hashOf_103 : decode cX3_hashOf 103 = .ok (.iload_n 2, 1) := by decide +kernel
theorem dX3_hashOf_104 : decode cX3_hashOf 104 = .ok (.iconst 1, 1) := by decide +kernel
theorem dX3_hashOf_105 : decode cX3_hashOf 105 = .ok (.isub, 1) := by decide +kernel
theorem dX3_hashOf_106 : decode cX3_hashOf 106 = .ok (.iload 4, 2) := by decide +kernel
theorem dX3_hashOf_108 : decode cX3_hashOf 108 = .ok (.ineg, 1) := by decide +kernel
theorem dX3_hashOf_109 : decode cX3_hashOf 109 = .ok (.aload_n 0, 1) := by decide +kernel
theorem dX3_hashOf_110 : decode cX3_hashOf 110 = .ok (.getfield 17, 3) := by decide +kernel
theorem dX3_hashOf_113 : decode cX3_hashOf 113 = .ok (.iload_n 2, 1) := by decide +kernel
theorem dX3_hashOf_114 : decode cX3_hashOf 114 = .ok (.iconst 1, 1) := by decide +kernel
theorem dX3_hashOf_115 : decode cX3_hashOf 115 = .ok (.isub, 1) := by decide +kernel
theorem dX3_hashOf_116 : decode cX3_hashOf 116 = .ok (.iaload, 1) := by decide +kernel
theorem dX3_hashOf_117 : decode cX3_hashOf 117 = .ok (.aload_n 0, 1) := by decide +kernel
theorem dX3_hashOf_118 : decode cX3_hashOf 118 = .ok (.getfield 17, 3) := by decide +kernel
theorem dX3_hashOf_121 : decode cX3_hashOf 121 = .ok (.iload_n 2, 1) := by decide +kernel
theorem dX3_hashOf_122 : decode cX3_hashOf 122 = .ok (.iaload, 1) := by decide +kernel
theorem dX3_hashOf_123 : decode cX3_hashOf 123 = .ok (.invokestatic 43, 3) := by decide +kernel
theorem dX3_hashOf_126 : decode cX3_hashOf 126 = .ok (.ldc 47, 2) := by decide +kernel
theorem dX3_hashOf_128 : decode cX3_hashOf 128 = .ok (.iand, 1) := by decide +kernel
theorem dX3_hashOf_129 : decode cX3_hashOf 129 = .ok (.iastore, 1) := by decide +kernel
theorem dX3_hashOf_130 : decode cX3_hashOf 130 = .ok (.iinc 3 1, 3) := by decide +kernel
theorem dX3_hashOf_133 : decode cX3_hashOf 133 = .ok (.goto (-129), 3) := by decide +kernel
theorem dX3_hashOf_136 : decode cX3_hashOf 136 = .ok (.aload_n 0, 1) := by decide +kernel
theorem dX3_hashOf_137 : decode cX3_hashOf 137 = .ok (.getfield 17, 3) := by decide +kernel
theorem dX3_hashOf_140 : decode cX3_hashOf 140 = .ok (.iconst 0, 1) := by decide +kernel
theorem dX3_hashOf_141 : decode cX3_hashOf 141 = .ok (.iaload, 1) := by decide +kernel
theorem dX3_hashOf_142 : decode cX3_hashOf 142 = .ok (.ireturn, 1) := by decide +kernel
theorem dX3_changed_0 : decode cX3_changed 0 = .ok (.iload_n 0, 1) := by decide +kernel
theorem dX3_changed_1 : decode cX3_changed 1 = .ok (.bipush (-2), 2) := by decide +kernel
theorem dX3_changed_3 : decode cX3_changed 3 = .ok (.if_icmp .ne 10, 3) := by decide +kernel
theorem dX3_changed_6 : decode cX3_changed 6 = .ok (.iload_n 1, 1) := by decide +kernel
theorem dX3_changed_7 : decode cX3_changed 7 = .ok (.iconst (-1), 1) := by decide +kernel
theorem dX3_changed_8 : decode cX3_changed 8 = .ok (.ixor, 1) := by decide +kernel
theorem dX3_changed_9 : decode cX3_changed 9 = .ok (.ldc 47, 2) := by decide +kernel
theorem dX3_changed_11 : decode cX3_changed 11 = .ok (.iand, 1) := by decide +kernel
theorem dX3_changed_12 : decode cX3_changed 12 = .ok (.ireturn, 1) := by decide +kernel
theorem dX3_changed_13 : decode cX3_changed 13 = .ok (.iload_n 0, 1) := by decide +kernel
theorem dX3_changed_14 : decode cX3_changed 14 = .ok (.bipush (-3), 2) := by decide +kernel
theorem dX3_changed_16 : decode cX3_changed 16 = .ok (.if_icmp .ne 8, 3) := by decide +kernel
theorem dX3_changed_19 : decode cX3_changed 19 = .ok (.iload_n 1, 1) := by decide +kernel
theorem dX3_changed_20 : decode cX3_changed 20 = .ok (.invokestatic 48, 3) := by decide +kernel
theorem dX3_changed_23 : decode cX3_changed 23 = .ok (.ireturn, 1) := by decide +kernel
theorem dX3_changed_24 : decode cX3_changed 24 = .ok (.bipush (-10), 2) := by decide +kernel
theorem dX3_changed_26 : decode cX3_changed 26 = .ok (.iload_n 0, 1) := by decide +kernel
theorem dX3_changed_27 : decode cX3_changed 27 = .ok (.isub, 1) := by decide +kernel
theorem dX3_changed_28 : decode cX3_changed 28 = .ok (.istore_n 2, 1) := by decide +kernel
theorem dX3_changed_29 : decode cX3_changed 29 = .ok (.iload_n 1, 1) := by decide +kernel
theorem dX3_changed_30 : decode cX3_changed 30 = .ok (.iload_n 2, 1) := by decide +kernel
theorem dX3_changed_31 : decode cX3_changed 31 = .ok (.ishl, 1) := by decide +kernel
theorem dX3_changed_32 : decode cX3_changed 32 = .ok (.iload_n 1, 1) := by decide +kernel
theorem dX3_changed_33 : decode cX3_changed 33 = .ok (.bipush 16, 2) := by decide +kernel
theorem dX3_changed_35 : decode cX3_changed 35 = .ok (.iload_n 2, 1) := by decide +kernel
theorem dX3_changed_36 : decode cX3_changed 36 = .ok (.isub, 1) := by decide +kernel
theorem dX3_changed_37 : decode cX3_changed 37 = .ok (.ishr, 1) := by decide +kernel
theorem dX3_changed_38 : decode cX3_changed 38 = .ok (.ior, 1) := by decide +kernel
theorem dX3_changed_39 : decode cX3_changed 39 = .ok (.ldc 47, 2) := by decide +kernel
theorem dX3_changed_41 : decode cX3_changed 41 = .ok (.iand, 1) := by decide +kernel
theorem dX3_changed_42 : decode cX3_changed 42 = .ok (.ireturn, 1) := by decide +kernel
theorem dX3_joined_0 : decode cX3_joined 0 = .ok (.iload_n 0, 1) := by decide +kernel
theorem dX3_joined_1 : decode cX3_joined 1 = .ok (.lookupswitch 111 #[(37, 91), (38, 107), (42, 75), (43, 67), (45, 71), (47, 79), (94, 103)], 67) := by decide +kernel
theorem dX3_joined_68 : decode cX3_joined 68 = .ok (.iload_n 1, 1) := by decide +kernel
theorem dX3_joined_69 : decode cX3_joined 69 = .ok (.iload_n 2, 1) := by decide +kernel
theorem dX3_joined_70 : decode cX3_joined 70 = .ok (.iadd, 1) := by decide +kernel
theorem dX3_joined_71 : decode cX3_joined 71 = .ok (.ireturn, 1) := by decide +kernel
theorem dX3_joined_72 : decode cX3_joined 72 = .ok (.iload_n 1, 1) := by decide +kernel
theorem dX3_joined_73 : decode cX3_joined 73 = .ok (.iload_n 2, 1) := by decide +kernel
theorem dX3_joined_74 : decode cX3_joined 74 = .ok (.isub, 1) := by decide +kernel
theorem dX3_joined_75 : decode cX3_joined 75 = .ok (.ireturn, 1) := by decide +kernel
theorem dX3_joined_76 : decode cX3_joined 76 = .ok (.iload_n 1, 1) := by decide +kernel
theorem dX3_joined_77 : decode cX3_joined 77 = .ok (.iload_n 2, 1) := by decide +kernel
theorem dX3_joined_78 : decode cX3_joined 78 = .ok (.imul, 1) := by decide +kernel
theorem dX3_joined_79 : decode cX3_joined 79 = .ok (.ireturn, 1) := by decide +kernel
theorem dX3_joined_80 : decode cX3_joined 80 = .ok (.iload_n 2, 1) := by decide +kernel
theorem dX3_joined_81 : decode cX3_joined 81 = .ok (.ifCond .ne 7, 3) := by decide +kernel
theorem dX3_joined_84 : decode cX3_joined 84 = .ok (.iconst 0, 1) := by decide +kernel
theorem dX3_joined_85 : decode cX3_joined 85 = .ok (.goto 6, 3) := by decide +kernel
theorem dX3_joined_88 : decode cX3_joined 88 = .ok (.iload_n 1, 1) := by decide +kernel
theorem dX3_joined_89 : decode cX3_joined 89 = .ok (.iload_n 2, 1) := by decide +kernel
theorem dX3_joined_90 : decode cX3_joined 90 = .ok (.idiv, 1) := by decide +kernel
theorem dX3_joined_91 : decode cX3_joined 91 = .ok (.ireturn, 1) := by decide +kernel
theorem dX3_joined_92 : decode cX3_joined 92 = .ok (.iload_n 2, 1) := by decide +kernel
theorem dX3_joined_93 : decode cX3_joined 93 = .ok (.ifCond .ne 7, 3) := by decide +kernel
theorem dX3_joined_96 : decode cX3_joined 96 = .ok (.iconst 0, 1) := by decide +kernel
theorem dX3_joined_97 : decode cX3_joined 97 = .ok (.goto 6, 3) := by decide +kernel
theorem dX3_joined_100 : decode cX3_joined 100 = .ok (.iload_n 1, 1) := by decide +kernel
theorem dX3_joined_101 : decode cX3_joined 101 = .ok (.iload_n 2, 1) := by decide +kernel
theorem dX3_joined_102 : decode cX3_joined 102 = .ok (.irem, 1) := by decide +kernel
theorem dX3_joined_103 : decode cX3_joined 103 = .ok (.ireturn, 1) := by decide +kernel
theorem dX3_joined_104 : decode cX3_joined 104 = .ok (.iload_n 1, 1) := by decide +kernel
theorem dX3_joined_105 : decode cX3_joined 105 = .ok (.iload_n 2, 1) := by decide +kernel
theorem dX3_joined_106 : decode cX3_joined 106 = .ok (.ixor, 1) := by decide +kernel
theorem dX3_joined_107 : decode cX3_joined 107 = .ok (.ireturn, 1) := by decide +kernel
theorem dX3_joined_108 : decode cX3_joined 108 = .ok (.iload_n 1, 1) := by decide +kernel
theorem dX3_joined_109 : decode cX3_joined 109 = .ok (.iload_n 2, 1) := by decide +kernel
theorem dX3_joined_110 : decode cX3_joined 110 = .ok (.iand, 1) := by decide +kernel
theorem dX3_joined_111 : decode cX3_joined 111 = .ok (.ireturn, 1) := by decide +kernel
theorem dX3_joined_112 : decode cX3_joined 112 = .ok (.iload_n 1, 1) := by decide +kernel
theorem dX3_joined_113 : decode cX3_joined 113 = .ok (.iload_n 2, 1) := by decide +kernel
theorem dX3_joined_114 : decode cX3_joined 114 = .ok (.ior, 1) := by decide +kernel
theorem dX3_joined_115 : decode cX3_joined 115 = .ok (.ireturn, 1) := by decide +kernel
theorem dX4_init_0 : decode cX4_init 0 = .ok (.aload_n 0, 1) := by decide +kernel
theorem dX4_init_1 : decode cX4_init 1 = .ok (.invokespecial 3, 3) := by decide +kernel
theorem dX4_init_4 : decode cX4_init 4 = .ok (.aload_n 0, 1) := by decide +kernel
theorem dX4_init_5 : decode cX4_init 5 = .ok (.bipush 60, 2) := by decide +kernel
theorem dX4_init_7 : decode cX4_init 7 = .ok (.newarray .int, 2) := by decide +kernel
theorem dX4_init_9 : decode cX4_init 9 = .ok (.putfield 11, 3) := by decide +kernel
theorem dX4_init_12 : decode cX4_init 12 = .ok (.aload_n 0, 1) := by decide +kernel
theorem dX4_init_13 : decode cX4_init 13 = .ok (.iconst 0, 1) := by decide +kernel
theorem dX4_init_14 : decode cX4_init 14 = .ok (.putfield 15, 3) := by decide +kernel
theorem dX4_init_17 : decode cX4_init 17 = .ok (.aload_n 0, 1) := by decide +kernel
theorem dX4_init_18 : decode cX4_init 18 = .ok (.bipush 6, 2) := by decide +kernel
theorem dX4_init_20 : decode cX4_init 20 = .ok (.newarray .int, 2) := by decide +kernel
theorem dX4_init_22 : decode cX4_init 22 = .ok (.putfield 19, 3) := by decide +kernel
theorem dX4_init_25 : decode cX4_init 25 = .ok (.aload_n 0, 1) := by decide +kernel
theorem dX4_init_26 : decode cX4_init 26 = .ok (.bipush 7, 2) := by decide +kernel
theorem dX4_init_28 : decode cX4_init 28 = .ok (.newarray .int, 2) := by decide +kernel
theorem dX4_init_30 : decode cX4_init 30 = .ok (.putfield 22, 3) := by decide +kernel
theorem dX4_init_33 : decode cX4_init 33 = .ok (.aload_n 0, 1) := by decide +kernel
theorem dX4_init_34 : decode cX4_init 34 = .ok (.iconst 0, 1) := by decide +kernel
theorem dX4_init_35 : decode cX4_init 35 = .ok (.putfield 25, 3) := by decide +kernel
theorem dX4_init_38 : decode cX4_init 38 = .ok (.aload_n 0, 1) := by decide +kernel
theorem dX4_init_39 : decode cX4_init 39 = .ok (.iconst 1, 1) := by decide +kernel
theorem dX4_init_40 : decode cX4_init 40 = .ok (.putfield 28, 3) := by decide +kernel
theorem dX4_init_43 : decode cX4_init 43 = .ok (.return_, 1) := by decide +kernel
theorem dX4_read_0 : decode cX4_read 0 = .ok (.aload_n 0, 1) := by decide +kernel
theorem dX4_read_1 : decode cX4_read 1 = .ok (.iconst 0, 1) := by decide +kernel
theorem dX4_read_2 : decode cX4_read 2 = .ok (.putfield 15, 3) := by decide +kernel
theorem dX4_read_5 : decode cX4_read 5 = .ok (.aload_n 0, 1) := by decide +kernel
theorem dX4_read_6 : decode cX4_read 6 = .ok (.iconst 0, 1) := by decide +kernel
theorem dX4_read_7 : decode cX4_read 7 = .ok (.putfield 25, 3) := by decide +kernel
theorem dX4_read_10 : decode cX4_read 10 = .ok (.aload_n 0, 1) := by decide +kernel
theorem dX4_read_11 : decode cX4_read 11 = .ok (.getfield 22, 3) := by decide +kernel
theorem dX4_read_14 : decode cX4_read 14 = .ok (.iconst 0, 1) := by decide +kernel
theorem dX4_read_15 : decode cX4_read 15 = .ok (.iconst 0, 1) := by decide +kernel
theorem dX4_read_16 : decode cX4_read 16 = .ok (.iastore, 1) := by decide +kernel
theorem dX4_read_17 : decode cX4_read 17 = .ok (.aload_n 0, 1) := by decide +kernel
theorem dX4_read_18 : decode cX4_read 18 = .ok (.iconst 1, 1) := by decide +kernel
theorem dX4_read_19 : decode cX4_read 19 = .ok (.putfield 28, 3) := by decide +kernel
theorem dX4_read_22 : decode cX4_read 22 = .ok (.iconst 0, 1) := by decide +kernel
theorem dX4_read_23 : decode cX4_read 23 = .ok (.istore_n 2, 1) := by decide +kernel
theorem dX4_read_24 : decode cX4_read 24 = .ok (.iload_n 2, 1) := by decide +kernel
theorem dX4_read_25 : decode cX4_read 25 = .ok (.bipush 60, 2) := by decide +kernel
theorem dX4_read_27 : decode cX4_read 27 = .ok (.if_icmp .gt 44, 3) := by decide +kernel
theorem dX4_read_30 : decode cX4_read 30 = .ok (.aload_n 1, 1) := by decide +kernel
theorem dX4_read_31 : decode cX4_read 31 = .ok (.getfield 32, 3) := by decide +kernel
theorem dX4_read_34 : decode cX4_read 34 = .ok (.ifCond .ne 37, 3) := by decide +kernel
theorem dX4_read_37 : decode cX4_read 37 = .ok (.aload_n 0, 1) := by decide +kernel
theorem dX4_read_38 : decode cX4_read 38 = .ok (.aload_n 1, 1) := by decide +kernel
theorem dX4_read_39 : decode cX4_read 39 = .ok (.invokevirtual 37, 3) := by decide +kernel
theorem dX4_read_42 : decode cX4_read 42 = .ok (.ifCond .ne 29, 3) := by decide +kernel
theorem dX4_read_45 : decode cX4_read 45 = .ok (.aload_n 0, 1) := by decide +kernel
theorem dX4_read_46 : decode cX4_read 46 = .ok (.getfield 28, 3) := by decide +kernel
theorem dX4_read_49 : decode cX4_read 49 = .ok (.ifCond .eq 11, 3) := by decide +kernel
theorem dX4_read_52 : decode cX4_read 52 = .ok (.aload_n 0, 1) := by decide +kernel
theorem dX4_read_53 : decode cX4_read 53 = .ok (.aload_n 1, 1) := by decide +kernel
theorem dX4_read_54 : decode cX4_read 54 = .ok (.invokevirtual 41, 3) := by decide +kernel
theorem dX4_read_57 : decode cX4_read 57 = .ok (.goto 8, 3) := by decide +kernel
theorem dX4_read_60 : decode cX4_read 60 = .ok (.aload_n 0, 1) := by decide +kernel
theorem dX4_read_61 : decode cX4_read 61 = .ok (.aload_n 1, 1) := by decide +kernel
theorem dX4_read_62 : decode cX4_read 62 = .ok (.invokevirtual 45, 3) := by decide +kernel
theorem dX4_read_65 : decode cX4_read 65 = .ok (.iinc 2 1, 3) := by decide +kernel
theorem dX4_read_68 : decode cX4_read 68 = .ok (.goto (-44), 3) := by decide +kernel
theorem dX4_read_71 : decode cX4_read 71 = .ok (.aload_n 1, 1) := by decide +kernel
theorem dX4_read_72 : decode cX4_read 72 = .ok (.getfield 32, 3) := by decide +kernel
theorem dX4_read_75 : decode cX4_read 75 = .ok (.ireturn, 1) := by decide +kernel
theorem dX4_isWhole_0 : decode cX4_isWhole 0 = .ok (.aload_n 1, 1) := by decide +kernel
theorem dX4_isWhole_1 : decode cX4_isWhole 1 = .ok (.invokevirtual 48, 3) := by decide +kernel
theorem dX4_isWhole_4 : decode cX4_isWhole 4 = .ok (.iconst (-1), 1) := by decide +kernel
theorem dX4_isWhole_5 : decode cX4_isWhole 5 = .ok (.if_icmp .ne 21, 3) := by decide +kernel
theorem dX4_isWhole_8 : decode cX4_isWhole 8 = .ok (.aload_n 0, 1) := by decide +kernel
theorem dX4_isWhole_9 : decode cX4_isWhole 9 = .ok (.getfield 28, 3) := by decide +kernel
theorem dX4_isWhole_12 : decode cX4_isWhole 12 = .ok (.ifCond .ne 14, 3) := by decide +kernel
theorem dX4_isWhole_15 : decode cX4_isWhole 15 = .ok (.aload_n 0, 1) := by decide +kernel
theorem dX4_isWhole_16 : decode cX4_isWhole 16 = .ok (.getfield 25, 3) := by decide +kernel
theorem dX4_isWhole_19 : decode cX4_isWhole 19 = .ok (.ifCond .ne 7, 3) := by decide +kernel
theorem dX4_isWhole_22 : decode cX4_isWhole 22 = .ok (.iconst 1, 1) := by decide +kernel
theorem dX4_isWhole_23 : decode cX4_isWhole 23 = .ok (.goto 4, 3) := by decide +kernel
theorem dX4_isWhole_26 : decode cX4_isWhole 26 = .ok (.iconst 0, 1) := by decide +kernel
theorem dX4_isWhole_27 : decode cX4_isWhole 27 = .ok (.ireturn, 1) := by decide +kernel
theorem dX4_readPart_0 : decode cX4_readPart 0 = .ok (.aload_n 1, 1) := by decide +kernel
theorem dX4_readPart_1 : decode cX4_readPart 1 = .ok (.invokevirtual 48, 3) := by decide +kernel
theorem dX4_readPart_4 : decode cX4_readPart 4 = .ok (.istore_n 2, 1) := by decide +kernel
theorem dX4_readPart_5 : decode cX4_readPart 5 = .ok (.aload_n 1, 1) := by decide +kernel
theorem dX4_readPart_6 : decode cX4_readPart 6 = .ok (.invokevirtual 52, 3) := by decide +kernel
theorem dX4_readPart_9 : decode cX4_readPart 9 = .ok (.ifCond .eq 21, 3) := by decide +kernel
theorem dX4_readPart_12 : decode cX4_readPart 12 = .ok (.aload_n 0, 1) := by decide +kernel
theorem dX4_readPart_13 : decode cX4_readPart 13 = .ok (.aload_n 1, 1) := by decide +kernel
theorem dX4_readPart_14 : decode cX4_readPart 14 = .ok (.iconst 0, 1) := by decide +kernel
theorem dX4_readPart_15 : decode cX4_readPart 15 = .ok (.ldc 56, 2) := by decide +kernel
theorem dX4_readPart_17 : decode cX4_readPart 17 = .ok (.invokevirtual 57, 3) := by decide +kernel
theorem dX4_readPart_20 : decode cX4_readPart 20 = .ok (.invokevirtual 61, 3) := by decide +kernel
theorem dX4_readPart_23 : decode cX4_readPart 23 = .ok (.aload_n 0, 1) := by decide +kernel
theorem dX4_readPart_24 : decode cX4_readPart 24 = .ok (.invokevirtual 65, 3) := by decide +kernel
theorem dX4_readPart_27 : decode cX4_readPart 27 = .ok (.goto 63, 3) := by decide +kernel
theorem dX4_readPart_30 : decode cX4_readPart 30 = .ok (.iload_n 2, 1) := by decide +kernel
theorem dX4_readPart_31 : decode cX4_readPart 31 = .ok (.bipush 107, 2) := by decide +kernel
theorem dX4_readPart_33 : decode cX4_readPart 33 = .ok (.if_icmp .ne 19, 3) := by decide +kernel
theorem dX4_readPart_36 : decode cX4_readPart 36 = .ok (.aload_n 1, 1) := by decide +kernel
theorem dX4_readPart_37 : decode cX4_readPart 37 = .ok (.invokevirtual 68, 3) := by decide +kernel
theorem dX4_readPart_40 : decode cX4_readPart 40 = .ok (.aload_n 0, 1) := by decide +kernel
theorem dX4_readPart_41 : decode cX4_readPart 41 = .ok (.iconst (-1), 1) := by decide +kernel
theorem dX4_readPart_42 : decode cX4_readPart 42 = .ok (.invokevirtual 61, 3) := by decide +kernel
theorem dX4_readPart_45 : decode cX4_readPart 45 = .ok (.aload_n 0, 1) := by decide +kernel
theorem dX4_readPart_46 : decode cX4_readPart 46 = .ok (.invokevirtual 65, 3) := by decide +kernel
theorem dX4_readPart_49 : decode cX4_readPart 49 = .ok (.goto 41, 3) := by decide +kernel
theorem dX4_readPart_52 : decode cX4_readPart 52 = .ok (.iload_n 2, 1) := by decide +kernel
theorem dX4_readPart_53 : decode cX4_readPart 53 = .ok (.bipush 40, 2) := by decide +kernel
theorem dX4_readPart_55 : decode cX4_readPart 55 = .ok (.if_icmp .eq 21, 3) := by decide +kernel
theorem dX4_readPart_58 : decode cX4_readPart 58 = .ok (.iload_n 2, 1) := by decide +kernel
theorem dX4_readPart_59 : decode cX4_readPart 59 = .ok (.bipush 126, 2) := by decide +kernel
theorem dX4_readPart_61 : decode cX4_readPart 61 = .ok (.if_icmp .eq 15, 3) := by decide +kernel
theorem dX4_readPart_64 : decode cX4_readPart 64 = .ok (.iload_n 2, 1) := by decide +kernel
theorem dX4_readPart_65 : decode cX4_readPart 65 = .ok (.bipush 60, 2) := by decide +kernel
theorem dX4_readPart_67 : decode cX4_readPart 67 = .ok (.if_icmp .eq 9, 3) := by decide +kernel
theorem dX4_readPart_70 : decode cX4_readPart 70 = .ok (.iload_n 2, 1) := by decide +kernel
theorem dX4_readPart_71 : decode cX4_readPart 71 = .ok (.bipush 114, 2) := by decide +kernel
theorem dX4_readPart_73 : decode cX4_readPart 73 = .ok (.if_icmp .ne 12, 3) := by decide +kernel
theorem dX4_readPart_76 : decode cX4_readPart 76 = .ok (.aload_n 0, 1) := by decide +kernel
theorem dX4_readPart_77 : decode cX4_readPart 77 = .ok (.aload_n 1, 1) := by decide +kernel
theorem dX4_readPart_78 : decode cX4_readPart 78 = .ok (.iload_n 2, 1) := by decide +kernel
theorem dX4_readPart_79 : decode cX4_readPart 79 = .ok (.invokevirtual 73, 3) := by decide +kernel
theorem dX4_readPart_82 : decode cX4_readPart 82 = .ok (.goto 8, 3) := by decide +kernel
theorem dX4_readPart_85 : decode cX4_readPart 85 = .ok (.aload_n 1, 1) := by decide +kernel
theorem dX4_readPart_86 : decode cX4_readPart 86 = .ok (.iconst 1, 1) := by decide +kernel
theorem dX4_readPart_87 : decode cX4_readPart 87 = .ok (.invokevirtual 77, 3) := by decide +kernel
theorem dX4_readPart_90 : decode cX4_readPart 90 = .ok (.return_, 1) := by decide +kernel
theorem dX4_openOne_0 : decode cX4_openOne 0 = .ok (.aload_n 0, 1) := by decide +kernel
theorem dX4_openOne_1 : decode cX4_openOne 1 = .ok (.getfield 25, 3) := by decide +kernel
theorem dX4_openOne_4 : decode cX4_openOne 4 = .ok (.bipush 6, 2) := by decide +kernel
theorem dX4_openOne_6 : decode cX4_openOne 6 = .ok (.if_icmp .lt 9, 3) := by decide +kernel
theorem dX4_openOne_9 : decode cX4_openOne 9 = .ok (.aload_n 1, 1) := by decide +kernel
theorem dX4_openOne_10 : decode cX4_openOne 10 = .ok (.iconst 5, 1) := by decide +kernel
theorem dX4_openOne_11 : decode cX4_openOne 11 = .ok (.invokevirtual 77, 3) := by decide +kernel
theorem dX4_openOne_14 : decode cX4_openOne 14 = .ok (.return_, 1) := by decide +kernel
theorem dX4_openOne_15 : decode cX4_openOne 15 = .ok (.aload_n 1, 1) := by decide +kernel
theorem dX4_openOne_16 : decode cX4_openOne 16 = .ok (.invokevirtual 68, 3) := by decide +kernel
theorem dX4_openOne_19 : decode cX4_openOne 19 = .ok (.iconst 0, 1) := by decide +kernel
theorem dX4_openOne_20 : decode cX4_openOne 20 = .ok (.istore_n 3, 1) := by decide +kernel
theorem dX4_openOne_21 : decode cX4_openOne 21 = .ok (.iload_n 2, 1) := by decide +kernel
theorem dX4_openOne_22 : decode cX4_openOne 22 = .ok (.bipush 126, 2) := by decide +kernel
theorem dX4_openOne_24 : decode cX4_openOne 24 = .ok (.if_icmp .ne 9, 3) := by decide +kernel
theorem dX4_openOne_27 : decode cX4_openOne 27 = .ok (.bipush (-2), 2) := by decide +kernel
theorem dX4_openOne_29 : decode cX4_openOne 29 = .ok (.istore_n 3, 1) := by decide +kernel
theorem dX4_openOne_30 : decode cX4_openOne 30 = .ok (.goto 26, 3) := by decide +kernel
theorem dX4_openOne_33 : decode cX4_openOne 33 = .ok (.iload_n 2, 1) := by decide +kernel
theorem dX4_openOne_34 : decode cX4_openOne 34 = .ok (.bipush 114, 2) := by decide +kernel
theorem dX4_openOne_36 : decode cX4_openOne 36 = .ok (.if_icmp .ne 9, 3) := by decide +kernel
theorem dX4_openOne_39 : decode cX4_openOne 39 = .ok (.bipush (-3), 2) := by decide +kernel
theorem dX4_openOne_41 : decode cX4_openOne 41 = .ok (.istore_n 3, 1) := by decide +kernel
theorem dX4_openOne_42 : decode cX4_openOne 42 = .ok (.goto 14, 3) := by decide +kernel
theorem dX4_openOne_45 : decode cX4_openOne 45 = .ok (.iload_n 2, 1) := by decide +kernel
theorem dX4_openOne_46 : decode cX4_openOne 46 = .ok (.bipush 60, 2) := by decide +kernel
theorem dX4_openOne_48 : decode cX4_openOne 48 = .ok (.if_icmp .ne 8, 3) := by decide +kernel
theorem dX4_openOne_51 : decode cX4_openOne 51 = .ok (.aload_n 1, 1) := by decide +kernel
theorem dX4_openOne_52 : decode cX4_openOne 52 = .ok (.invokestatic 80, 3) := by decide +kernel
theorem dX4_openOne_55 : decode cX4_openOne 55 = .ok (.istore_n 3, 1) := by decide +kernel
theorem dX4_openOne_56 : decode cX4_openOne 56 = .ok (.aload_n 0, 1) := by decide +kernel
theorem dX4_openOne_57 : decode cX4_openOne 57 = .ok (.getfield 19, 3) := by decide +kernel
theorem dX4_openOne_60 : decode cX4_openOne 60 = .ok (.aload_n 0, 1) := by decide +kernel
theorem dX4_openOne_61 : decode cX4_openOne 61 = .ok (.getfield 25, 3) := by decide +kernel
theorem dX4_openOne_64 : decode cX4_openOne 64 = .ok (.iload_n 3, 1) := by decide +kernel
theorem dX4_openOne_65 : decode cX4_openOne 65 = .ok (.iastore, 1) := by decide +kernel
theorem dX4_openOne_66 : decode cX4_openOne 66 = .ok (.aload_n 0, 1) := by decide +kernel
theorem dX4_openOne_67 : decode cX4_openOne 67 = .ok (.dup, 1) := by decide +kernel
theorem dX4_openOne_68 : decode cX4_openOne 68 = .ok (.getfield 25, 3) := by decide +kernel
theorem dX4_openOne_71 : decode cX4_openOne 71 = .ok (.iconst 1, 1) := by decide +kernel
theorem dX4_openOne_72 : decode cX4_openOne 72 = .ok (.iadd, 1) := by decide +kernel
theorem dX4_openOne_73 : decode cX4_openOne 73 = .ok (.putfield 25, 3) := by decide +kernel
theorem dX4_openOne_76 : decode cX4_openOne 76 = .ok (.aload_n 0, 1) := by decide +kernel
theorem dX4_openOne_77 : decode cX4_openOne 77 = .ok (.getfield 22, 3) := by decide +kernel
theorem dX4_openOne_80 : decode cX4_openOne 80 = .ok (.aload_n 0, 1) := by decide +kernel
theorem dX4_openOne_81 : decode cX4_openOne 81 = .ok (.getfield 25, 3) := by decide +kernel
theorem dX4_openOne_84 : decode cX4_openOne 84 = .ok (.iconst 0, 1) := by decide +kernel
theorem dX4_openOne_85 : decode cX4_openOne 85 = .ok (.iastore, 1) := by decide +kernel
theorem dX4_openOne_86 : decode cX4_openOne 86 = .ok (.return_, 1) := by decide +kernel
theorem dX4_readRound_0 : decode cX4_readRound 0 = .ok (.aload_n 0, 1) := by decide +kernel
theorem dX4_readRound_1 : decode cX4_readRound 1 = .ok (.invokevirtual 48, 3) := by decide +kernel
theorem dX4_readRound_4 : decode cX4_readRound 4 = .ok (.bipush 48, 2) := by decide +kernel
theorem dX4_readRound_6 : decode cX4_readRound 6 = .ok (.isub, 1) := by decide +kernel
theorem dX4_readRound_7 : decode cX4_readRound 7 = .ok (.istore_n 1, 1) := by decide +kernel
theorem dX4_readRound_8 : decode cX4_readRound 8 = .ok (.aload_n 0, 1) := by decide +kernel
theorem dX4_readRound_9 : decode cX4_readRound 9 = .ok (.invokevirtual 52, 3) := by decide +kernel
theorem dX4_readRound_12 : decode cX4_readRound 12 = .ok (.ifCond .ne 11, 3) := by decide +kernel
theorem dX4_readRound_15 : decode cX4_readRound 15 = .ok (.aload_n 0, 1) := by decide +kernel
theorem dX4_readRound_16 : decode cX4_readRound 16 = .ok (.iconst 1, 1) := by decide +kernel
theorem dX4_readRound_17 : decode cX4_readRound 17 = .ok (.invokevirtual 77, 3) := by decide +kernel
theorem dX4_readRound_20 : decode cX4_readRound 20 = .ok (.goto 12, 3) := by decide +kernel
theorem dX4_readRound_23 : decode cX4_readRound 23 = .ok (.iload_n 1, 1) := by decide +kernel
theorem dX4_readRound_24 : decode cX4_readRound 24 = .ok (.ifCond .ne 8, 3) := by decide +kernel
theorem dX4_readRound_27 : decode cX4_readRound 27 = .ok (.aload_n 0, 1) := by decide +kernel
theorem dX4_readRound_28 : decode cX4_readRound 28 = .ok (.iconst 3, 1) := by decide +kernel
theorem dX4_readRound_29 : decode cX4_readRound 29 = .ok (.invokevirtual 77, 3) := by decide +kernel
theorem dX4_readRound_32 : decode cX4_readRound 32 = .ok (.aload_n 0, 1) := by decide +kernel
theorem dX4_readRound_33 : decode cX4_readRound 33 = .ok (.invokevirtual 68, 3) := by decide +kernel
theorem dX4_readRound_36 : decode cX4_readRound 36 = .ok (.bipush (-10), 2) := by decide +kernel
theorem dX4_readRound_38 : decode cX4_readRound 38 = .ok (.iload_n 1, 1) := by decide +kernel
theorem dX4_readRound_39 : decode cX4_readRound 39 = .ok (.isub, 1) := by decide +kernel
theorem dX4_readRound_40 : decode cX4_readRound 40 = .ok (.ireturn, 1) := by decide +kernel
theorem dX4_readBehindPart_0 : decode cX4_readBehindPart 0 = .ok (.aload_n 1, 1) := by decide +kernel
theorem dX4_readBehindPart_1 : decode cX4_readBehindPart 1 = .ok (.invokevirtual 48, 3) := by decide +kernel
theorem dX4_readBehindPart_4 : decode cX4_readBehindPart 4 = .ok (.istore_n 2, 1) := by decide +kernel
theorem dX4_readBehindPart_5 : decode cX4_readBehindPart 5 = .ok (.iload_n 2, 1) := by decide +kernel
theorem dX4_readBehindPart_6 : decode cX4_readBehindPart 6 = .ok (.invokestatic 84, 3) := by decide +kernel
theorem dX4_readBehindPart_9 : decode cX4_readBehindPart 9 = .ok (.ifCond .eq 25, 3) := by decide +kernel
theorem dX4_readBehindPart_12 : decode cX4_readBehindPart 12 = .ok (.aload_n 1, 1) := by decide +kernel
theorem dX4_readBehindPart_13 : decode cX4_readBehindPart 13 = .ok (.invokevirtual 68, 3) := by decide +kernel
theorem dX4_readBehindPart_16 : decode cX4_readBehindPart 16 = .ok (.aload_n 0, 1) := by decide +kernel
theorem dX4_readBehindPart_17 : decode cX4_readBehindPart 17 = .ok (.getfield 22, 3) := by decide +kernel
theorem dX4_readBehindPart_20 : decode cX4_readBehindPart 20 = .ok (.aload_n 0, 1) := by decide +kernel
theorem dX4_readBehindPart_21 : decode cX4_readBehindPart 21 = .ok (.getfield 25, 3) := by decide +kernel
theorem dX4_readBehindPart_24 : decode cX4_readBehindPart 24 = .ok (.iload_n 2, 1) := by decide +kernel
theorem dX4_readBehindPart_25 : decode cX4_readBehindPart 25 = .ok (.iastore, 1) := by decide +kernel
theorem dX4_readBehindPart_26 : decode cX4_readBehindPart 26 = .ok (.aload_n 0, 1) := by decide +kernel
theorem dX4_readBehindPart_27 : decode cX4_readBehindPart 27 = .ok (.iconst 1, 1) := by decide +kernel
theorem dX4_readBehindPart_28 : decode cX4_readBehindPart 28 = .ok (.putfield 28, 3) := by decide +kernel
theorem dX4_readBehindPart_31 : decode cX4_readBehindPart 31 = .ok (.goto 42, 3) := by decide +kernel
theorem dX4_readBehindPart_34 : decode cX4_readBehindPart 34 = .ok (.iload_n 2, 1) := by decide +kernel
theorem dX4_readBehindPart_35 : decode cX4_readBehindPart 35 = .ok (.bipush 41, 2) := by decide +kernel
theorem dX4_readBehindPart_37 : decode cX4_readBehindPart 37 = .ok (.if_icmp .ne 31, 3) := by decide +kernel
theorem dX4_readBehindPart_40 : decode cX4_readBehindPart 40 = .ok (.aload_n 0, 1) := by decide +kernel
theorem dX4_readBehindPart_41 : decode cX4_readBehindPart 41 = .ok (.getfield 25, 3) := by decide +kernel
theorem dX4_readBehindPart_44 : decode cX4_readBehindPart 44 = .ok (.ifCond .le 24, 3) := by decide +kernel
theorem dX4_readBehindPart_47 : decode cX4_readBehindPart 47 = .ok (.aload_n 1, 1) := by decide +kernel
theorem dX4_readBehindPart_48 : decode cX4_readBehindPart 48 = .ok (.invokevirtual 68, 3) := by decide +kernel
theorem dX4_readBehindPart_51 : decode cX4_readBehindPart 51 = .ok (.aload_n 0, 1) := by decide +kernel
theorem dX4_readBehindPart_52 : decode cX4_readBehindPart 52 = .ok (.dup, 1) := by decide +kernel
theorem dX4_readBehindPart_53 : decode cX4_readBehindPart 53 = .ok (.getfield 25, 3) := by decide +kernel
theorem dX4_readBehindPart_56 : decode cX4_readBehindPart 56 = .ok (.iconst 1, 1) := by decide +kernel
theorem dX4_readBehindPart_57 : decode cX4_readBehindPart 57 = .ok (.isub, 1) := by decide +kernel
theorem dX4_readBehindPart_58 : decode cX4_readBehindPart 58 = .ok (.putfield 25, 3) := by decide +kernel
theorem dX4_readBehindPart_61 : decode cX4_readBehindPart 61 = .ok (.aload_n 0, 1) := by decide +kernel
theorem dX4_readBehindPart_62 : decode cX4_readBehindPart 62 = .ok (.invokevirtual 65, 3) := by decide +kernel
theorem dX4_readBehindPart_65 : decode cX4_readBehindPart 65 = .ok (.goto 8, 3) := by decide +kernel
theorem dX4_readBehindPart_68 : decode cX4_readBehindPart 68 = .ok (.aload_n 1, 1) := by decide +kernel
theorem dX4_readBehindPart_69 : decode cX4_readBehindPart 69 = .ok (.iconst 1, 1) := by decide +kernel
theorem dX4_readBehindPart_70 : decode cX4_readBehindPart 70 = .ok (.invokevirtual 77, 3) := by decide +kernel
theorem dX4_readBehindPart_73 : decode cX4_readBehindPart 73 = .ok (.return_, 1) := by decide +kernel
theorem dX4_isJoiningSign_0 : decode cX4_isJoiningSign 0 = .ok (.iload_n 0, 1) := by decide +kernel
theorem dX4_isJoiningSign_1 : decode cX4_isJoiningSign 1 = .ok (.lookupswitch 77 #[(37, 75), (38, 75), (42, 75), (43, 75), (45, 75), (47, 75), (94, 75), (124, 75)], 75) := by decide +kernel
theorem dX4_isJoiningSign_76 : decode cX4_isJoiningSign 76 = .ok (.iconst 1, 1) := by decide +kernel
theorem dX4_isJoiningSign_77 : decode cX4_isJoiningSign 77 = .ok (.ireturn, 1) := by decide +kernel
theorem dX4_isJoiningSign_78 : decode cX4_isJoiningSign 78 = .ok (.iconst 0, 1) := by decide +kernel
theorem dX4_isJoiningSign_79 : decode cX4_isJoiningSign 79 = .ok (.ireturn, 1) := by decide +kernel
theorem dX4_endPart_0 : decode cX4_endPart 0 = .ok (.aload_n 0, 1) := by decide +kernel
theorem dX4_endPart_1 : decode cX4_endPart 1 = .ok (.getfield 25, 3) := by decide +kernel
theorem dX4_endPart_4 : decode cX4_endPart 4 = .ok (.ifCond .le 45, 3) := by decide +kernel
theorem dX4_endPart_7 : decode cX4_endPart 7 = .ok (.aload_n 0, 1) := by decide +kernel
theorem dX4_endPart_8 : decode cX4_endPart 8 = .ok (.getfield 19, 3) := by decide +kernel
theorem dX4_endPart_11 : decode cX4_endPart 11 = .ok (.aload_n 0, 1) := by decide +kernel
theorem dX4_endPart_12 : decode cX4_endPart 12 = .ok (.getfield 25, 3) := by decide +kernel
theorem dX4_endPart_15 : decode cX4_endPart 15 = .ok (.iconst 1, 1) := by decide +kernel
theorem dX4_endPart_16 : decode cX4_endPart 16 = .ok (.isub, 1) := by decide +kernel
theorem dX4_endPart_17 : decode cX4_endPart 17 = .ok (.iaload, 1) := by decide +kernel
theorem dX4_endPart_18 : decode cX4_endPart 18 = .ok (.ifCond .eq 31, 3) := by decide +kernel
theorem dX4_endPart_21 : decode cX4_endPart 21 = .ok (.aload_n 0, 1) := by decide +kernel
theorem dX4_endPart_22 : decode cX4_endPart 22 = .ok (.aload_n 0, 1) := by decide +kernel
theorem dX4_endPart_23 : decode cX4_endPart 23 = .ok (.getfield 19, 3) := by decide +kernel
theorem dX4_endPart_26 : decode cX4_endPart 26 = .ok (.aload_n 0, 1) := by decide +kernel
theorem dX4_endPart_27 : decode cX4_endPart 27 = .ok (.getfield 25, 3) := by decide +kernel
theorem dX4_endPart_30 : decode cX4_endPart 30 = .ok (.iconst 1, 1) := by decide +kernel
theorem dX4_endPart_31 : decode cX4_endPart 31 = .ok (.isub, 1) := by decide +kernel
theorem dX4_endPart_32 : decode cX4_endPart 32 = .ok (.iaload, 1) := by decide +kernel
theorem dX4_endPart_33 : decode cX4_endPart 33 = .ok (.invokevirtual 61, 3) := by decide +kernel
theorem dX4_endPart_36 : decode cX4_endPart 36 = .ok (.aload_n 0, 1) := by decide +kernel
theorem dX4_endPart_37 : decode cX4_endPart 37 = .ok (.dup, 1) := by decide +kernel
theorem dX4_endPart_38 : decode cX4_endPart 38 = .ok (.getfield 25, 3) := by decide +kernel
theorem dX4_endPart_41 : decode cX4_endPart 41 = .ok (.iconst 1, 1) := by decide +kernel
theorem dX4_endPart_42 : decode cX4_endPart 42 = .ok (.isub, 1) := by decide +kernel
theorem dX4_endPart_43 : decode cX4_endPart 43 = .ok (.putfield 25, 3) := by decide +kernel
theorem dX4_endPart_46 : decode cX4_endPart 46 = .ok (.goto (-46), 3) := by decide +kernel
theorem dX4_endPart_49 : decode cX4_endPart 49 = .ok (.aload_n 0, 1) := by decide +kernel
theorem dX4_endPart_50 : decode cX4_endPart 50 = .ok (.getfield 22, 3) := by decide +kernel
theorem dX4_endPart_53 : decode cX4_endPart 53 = .ok (.aload_n 0, 1) := by decide +kernel
theorem dX4_endPart_54 : decode cX4_endPart 54 = .ok (.getfield 25, 3) := by decide +kernel
theorem dX4_endPart_57 : decode cX4_endPart 57 = .ok (.iaload, 1) := by decide +kernel
theorem dX4_endPart_58 : decode cX4_endPart 58 = .ok (.ifCond .eq 27, 3) := by decide +kernel
theorem dX4_endPart_61 : decode cX4_endPart 61 = .ok (.aload_n 0, 1) := by decide +kernel
theorem dX4_endPart_62 : decode cX4_endPart 62 = .ok (.aload_n 0, 1) := by decide +kernel
theorem dX4_endPart_63 : decode cX4_endPart 63 = .ok (.getfield 22, 3) := by decide +kernel
theorem dX4_endPart_66 : decode cX4_endPart 66 = .ok (.aload_n 0, 1) := by decide +kernel
theorem dX4_endPart_67 : decode cX4_endPart 67 = .ok (.getfield 25, 3) := by decide +kernel
theorem dX4_endPart_70 : decode cX4_endPart 70 = .ok (.iaload, 1) := by decide +kernel
theorem dX4_endPart_71 : decode cX4_endPart 71 = .ok (.ineg, 1) := by decide +kernel
theorem dX4_endPart_72 : decode cX4_endPart 72 = .ok (.invokevirtual 61, 3) := by decide +kernel
theorem dX4_endPart_75 : decode cX4_endPart 75 = .ok (.aload_n 0, 1) := by decide +kernel
theorem dX4_endPart_76 : decode cX4_endPart 76 = .ok (.getfield 22, 3) := by decide +kernel
theorem dX4_endPart_79 : decode cX4_endPart 79 = .ok (.aload_n 0, 1) := by decide +kernel
theorem dX4_endPart_80 : decode cX4_endPart 80 = .ok (.getfield 25, 3) := by decide +kernel
theorem dX4_endPart_83 : decode cX4_endPart 83 = .ok (.iconst 0, 1) := by decide +kernel
theorem dX4_endPart_84 : decode cX4_endPart 84 = .ok (.iastore, 1) := by decide +kernel
theorem dX4_endPart_85 : decode cX4_endPart 85 = .ok (.aload_n 0, 1) := by decide +kernel
theorem dX4_endPart_86 : decode cX4_endPart 86 = .ok (.iconst 0, 1) := by decide +kernel
theorem dX4_endPart_87 : decode cX4_endPart 87 = .ok (.putfield 28, 3) := by decide +kernel
theorem dX4_endPart_90 : decode cX4_endPart 90 = .ok (.return_, 1) := by decide +kernel
theorem dX4_emit_0 : decode cX4_emit 0 = .ok (.aload_n 0, 1) := by decide +kernel
theorem dX4_emit_1 : decode cX4_emit 1 = .ok (.getfield 15, 3) := by decide +kernel
theorem dX4_emit_4 : decode cX4_emit 4 = .ok (.bipush 60, 2) := by decide +kernel
theorem dX4_emit_6 : decode cX4_emit 6 = .ok (.if_icmp .ge 23, 3) := by decide +kernel
theorem dX4_emit_9 : decode cX4_emit 9 = .ok (.aload_n 0, 1) := by decide +kernel
theorem dX4_emit_10 : decode cX4_emit 10 = .ok (.getfield 11, 3) := by decide +kernel
theorem dX4_emit_13 : decode cX4_emit 13 = .ok (.aload_n 0, 1) := by decide +kernel
theorem dX4_emit_14 : decode cX4_emit 14 = .ok (.getfield 15, 3) := by decide +kernel
theorem dX4_emit_17 : decode cX4_emit 17 = .ok (.iload_n 1, 1) := by decide +kernel
theorem dX4_emit_18 : decode cX4_emit 18 = .ok (.iastore, 1) := by decide +kernel
theorem dX4_emit_19 : decode cX4_emit 19 = .ok (.aload_n 0, 1) := by decide +kernel
theorem dX4_emit_20 : decode cX4_emit 20 = .ok (.dup, 1) := by decide +kernel
theorem dX4_emit_21 : decode cX4_emit 21 = .ok (.getfield 15, 3) := by decide +kernel
theorem dX4_emit_24 : decode cX4_emit 24 = .ok (.iconst 1, 1) := by decide +kernel
theorem dX4_emit_25 : decode cX4_emit 25 = .ok (.iadd, 1) := by decide +kernel
theorem dX4_emit_26 : decode cX4_emit 26 = .ok (.putfield 15, 3) := by decide +kernel
theorem dX4_emit_29 : decode cX4_emit 29 = .ok (.return_, 1) := by decide +kernel
theorem dX5_init_0 : decode cX5_init 0 = .ok (.aload_n 0, 1) := by decide +kernel
theorem dX5_init_1 : decode cX5_init 1 = .ok (.invokespecial 3, 3) := by decide +kernel
theorem dX5_init_4 : decode cX5_init 4 = .ok (.aload_n 0, 1) := by decide +kernel
theorem dX5_init_5 : decode cX5_init 5 = .ok (.sipush 300, 3) := by decide +kernel
theorem dX5_init_8 : decode cX5_init 8 = .ok (.newarray .long, 2) := by decide +kernel
theorem dX5_init_10 : decode cX5_init 10 = .ok (.putfield 9, 3) := by decide +kernel
theorem dX5_init_13 : decode cX5_init 13 = .ok (.aload_n 0, 1) := by decide +kernel
theorem dX5_init_14 : decode cX5_init 14 = .ok (.iconst 0, 1) := by decide +kernel
theorem dX5_init_15 : decode cX5_init 15 = .ok (.putfield 15, 3) := by decide +kernel
theorem dX5_init_18 : decode cX5_init 18 = .ok (.return_, 1) := by decide +kernel
theorem dX5_codeOf_0 : decode cX5_codeOf 0 = .ok (.iload_n 2, 1) := by decide +kernel
theorem dX5_codeOf_1 : decode cX5_codeOf 1 = .ok (.iconst 1, 1) := by decide +kernel
theorem dX5_codeOf_2 : decode cX5_codeOf 2 = .ok (.if_icmp .ge 8, 3) := by decide +kernel
theorem dX5_codeOf_5 : decode cX5_codeOf 5 = .ok (.iload_n 0, 1) := by decide +kernel
theorem dX5_codeOf_6 : decode cX5_codeOf 6 = .ok (.i2l, 1) := by decide +kernel
theorem dX5_codeOf_7 : decode cX5_codeOf 7 = .ok (.goto 24, 3) := by decide +kernel
theorem dX5_codeOf_10 : decode cX5_codeOf 10 = .ok (.iload_n 1, 1) := by decide +kernel
theorem dX5_codeOf_11 : decode cX5_codeOf 11 = .ok (.iload_n 2, 1) := by decide +kernel
theorem dX5_codeOf_12 : decode cX5_codeOf 12 = .ok (.irem, 1) := by decide +kernel
theorem dX5_codeOf_13 : decode cX5_codeOf 13 = .ok (.i2l, 1) := by decide +kernel
theorem dX5_codeOf_14 : decode cX5_codeOf 14 = .ok (.bipush 32, 2) := by decide +kernel
theorem dX5_codeOf_16 : decode cX5_codeOf 16 = .ok (.lshl, 1) := by decide +kernel
theorem dX5_codeOf_17 : decode cX5_codeOf 17 = .ok (.iload_n 1, 1) := by decide +kernel
theorem dX5_codeOf_18 : decode cX5_codeOf 18 = .ok (.iload_n 2, 1) := by decide +kernel
theorem dX5_codeOf_19 : decode cX5_codeOf 19 = .ok (.idiv, 1) := by decide +kernel
theorem dX5_codeOf_20 : decode cX5_codeOf 20 = .ok (.invokestatic 19, 3) := by decide +kernel
theorem dX5_codeOf_23 : decode cX5_codeOf 23 = .ok (.i2l, 1) := by decide +kernel
theorem dX5_codeOf_24 : decode cX5_codeOf 24 = .ok (.bipush 16, 2) := by decide +kernel
theorem dX5_codeOf_26 : decode cX5_codeOf 26 = .ok (.lshl, 1) := by decide +kernel
theorem dX5_codeOf_27 : decode cX5_codeOf 27 = .ok (.lor, 1) := by decide +kernel
theorem dX5_codeOf_28 : decode cX5_codeOf 28 = .ok (.iload_n 0, 1) := by decide +kernel
theorem dX5_codeOf_29 : decode cX5_codeOf 29 = .ok (.i2l, 1) := by decide +kernel
theorem dX5_codeOf_30 : decode cX5_codeOf 30 = .ok (.lor, 1) := by decide +kernel
theorem dX5_codeOf_31 : decode cX5_codeOf 31 = .ok (.lreturn, 1) := by decide +kernel
theorem dX5_copyFrom_0 : decode cX5_copyFrom 0 = .ok (.aload_n 0, 1) := by decide +kernel
theorem dX5_copyFrom_1 : decode cX5_copyFrom 1 = .ok (.aload_n 1, 1) := by decide +kernel
theorem dX5_copyFrom_2 : decode cX5_copyFrom 2 = .ok (.getfield 15, 3) := by decide +kernel
theorem dX5_copyFrom_5 : decode cX5_copyFrom 5 = .ok (.putfield 15, 3) := by decide +kernel
theorem dX5_copyFrom_8 : decode cX5_copyFrom 8 = .ok (.aload_n 1, 1) := by decide +kernel
theorem dX5_copyFrom_9 : decode cX5_copyFrom 9 = .ok (.getfield 9, 3) := by decide +kernel
theorem dX5_copyFrom_12 : decode cX5_copyFrom 12 = .ok (.iconst 0, 1) := by decide +kernel
theorem dX5_copyFrom_13 : decode cX5_copyFrom 13 = .ok (.aload_n 0, 1) := by decide +kernel
theorem dX5_copyFrom_14 : decode cX5_copyFrom 14 = .ok (.getfield 9, 3) := by decide +kernel
theorem dX5_copyFrom_17 : decode cX5_copyFrom 17 = .ok (.iconst 0, 1) := by decide +kernel
theorem dX5_copyFrom_18 : decode cX5_copyFrom 18 = .ok (.sipush 300, 3) := by decide +kernel
theorem dX5_copyFrom_21 : decode cX5_copyFrom 21 = .ok (.invokestatic 23, 3) := by decide +kernel
theorem dX5_copyFrom_24 : decode cX5_copyFrom 24 = .ok (.return_, 1) := by decide +kernel
theorem dX5_placeFrom_0 : decode cX5_placeFrom 0 = .ok (.iconst 0, 1) := by decide +kernel
theorem dX5_placeFrom_1 : decode cX5_placeFrom 1 = .ok (.istore_n 3, 1) := by decide +kernel
theorem dX5_placeFrom_2 : decode cX5_placeFrom 2 = .ok (.aload_n 0, 1) := by decide +kernel
theorem dX5_placeFrom_3 : decode cX5_placeFrom 3 = .ok (.getfield 15, 3) := by decide +kernel
theorem dX5_placeFrom_6 : decode cX5_placeFrom 6 = .ok (.istore 4, 2) := by decide +kernel
theorem dX5_placeFrom_8 : decode cX5_placeFrom 8 = .ok (.iconst 0, 1) := by decide +kernel
theorem dX5_placeFrom_9 : decode cX5_placeFrom 9 = .ok (.istore 5, 2) := by decide +kernel
theorem dX5_placeFrom_11 : decode cX5_placeFrom 11 = .ok (.iload 5, 2) := by decide +kernel
theorem dX5_placeFrom_13 : decode cX5_placeFrom 13 = .ok (.sipush 300, 3) := by decide +kernel
theorem dX5_placeFrom_16 : decode cX5_placeFrom 16 = .ok (.if_icmp .ge 47, 3) := by decide +kernel
theorem dX5_placeFrom_19 : decode cX5_placeFrom 19 = .ok (.iload_n 3, 1) := by decide +kernel
theorem dX5_placeFrom_20 : decode cX5_placeFrom 20 = .ok (.iload 4, 2) := by decide +kernel
theorem dX5_placeFrom_22 : decode cX5_placeFrom 22 = .ok (.if_icmp .ge 41, 3) := by decide +kernel
theorem dX5_placeFrom_25 : decode cX5_placeFrom 25 = .ok (.iload_n 3, 1) := by decide +kernel
theorem dX5_placeFrom_26 : decode cX5_placeFrom 26 = .ok (.iload 4, 2) := by decide +kernel
theorem dX5_placeFrom_28 : decode cX5_placeFrom 28 = .ok (.iadd, 1) := by decide +kernel
theorem dX5_placeFrom_29 : decode cX5_placeFrom 29 = .ok (.iconst 2, 1) := by decide +kernel
theorem dX5_placeFrom_30 : decode cX5_placeFrom 30 = .ok (.idiv, 1) := by decide +kernel
theorem dX5_placeFrom_31 : decode cX5_placeFrom 31 = .ok (.istore 6, 2) := by decide +kernel
theorem dX5_placeFrom_33 : decode cX5_placeFrom 33 = .ok (.aload_n 0, 1) := by decide +kernel
theorem dX5_placeFrom_34 : decode cX5_placeFrom 34 = .ok (.getfield 9, 3) := by decide +kernel
theorem dX5_placeFrom_37 : decode cX5_placeFrom 37 = .ok (.iload 6, 2) := by decide +kernel
theorem dX5_placeFrom_39 : decode cX5_placeFrom 39 = .ok (.laload, 1) := by decide +kernel
theorem dX5_placeFrom_40 : decode cX5_placeFrom 40 = .ok (.lload_n 1, 1) := by decide +kernel
theorem dX5_placeFrom_41 : decode cX5_placeFrom 41 = .ok (.lcmp, 1) := by decide +kernel
theorem dX5_placeFrom_42 : decode cX5_placeFrom 42 = .ok (.ifCond .ge 11, 3) := by decide +kernel
theorem dX5_placeFrom_45 : decode cX5_placeFrom 45 = .ok (.iload 6, 2) := by decide +kernel
theorem dX5_placeFrom_47 : decode cX5_placeFrom 47 = .ok (.iconst 1, 1) := by decide +kernel
theorem dX5_placeFrom_48 : decode cX5_placeFrom 48 = .ok (.iadd, 1) := by decide +kernel
theorem dX5_placeFrom_49 : decode cX5_placeFrom 49 = .ok (.istore_n 3, 1) := by decide +kernel
theorem dX5_placeFrom_50 : decode cX5_placeFrom 50 = .ok (.goto 7, 3) := by decide +kernel
theorem dX5_placeFrom_53 : decode cX5_placeFrom 53 = .ok (.iload 6, 2) := by decide +kernel
theorem dX5_placeFrom_55 : decode cX5_placeFrom 55 = .ok (.istore 4, 2) := by decide +kernel
theorem dX5_placeFrom_57 : decode cX5_placeFrom 57 = .ok (.iinc 5 1, 3) := by decide +kernel
theorem dX5_placeFrom_60 : decode cX5_placeFrom 60 = .ok (.goto (-49), 3) := by decide +kernel
theorem dX5_placeFrom_63 : decode cX5_placeFrom 63 = .ok (.iload_n 3, 1) := by decide +kernel
theorem dX5_placeFrom_64 : decode cX5_placeFrom 64 = .ok (.ireturn, 1) := by decide +kernel
theorem dX5_has_0 : decode cX5_has 0 = .ok (.aload_n 0, 1) := by decide +kernel
theorem dX5_has_1 : decode cX5_has 1 = .ok (.lload_n 1, 1) := by decide +kernel
theorem dX5_has_2 : decode cX5_has 2 = .ok (.invokevirtual 29, 3) := by decide +kernel
theorem dX5_has_5 : decode cX5_has 5 = .ok (.istore_n 3, 1) := by decide +kernel
theorem dX5_has_6 : decode cX5_has 6 = .ok (.iload_n 3, 1) := by decide +kernel
theorem dX5_has_7 : decode cX5_has 7 = .ok (.aload_n 0, 1) := by decide +kernel
theorem dX5_has_8 : decode cX5_has 8 = .ok (.getfield 15, 3) := by decide +kernel
theorem dX5_has_11 : decode cX5_has 11 = .ok (.if_icmp .ge 18, 3) := by decide +kernel
theorem dX5_has_14 : decode cX5_has 14 = .ok (.aload_n 0, 1) := by decide +kernel
theorem dX5_has_15 : decode cX5_has 15 = .ok (.getfield 9, 3) := by decide +kernel
theorem dX5_has_18 : decode cX5_has 18 = .ok (.iload_n 3, 1) := by decide +kernel
theorem dX5_has_19 : decode cX5_has 19 = .ok (.laload, 1) := by decide +kernel
theorem dX5_has_20 : decode cX5_has 20 = .ok (.lload_n 1, 1) := by decide +kernel
theorem dX5_has_21 : decode cX5_has 21 = .ok (.lcmp, 1) := by decide +kernel
theorem dX5_has_22 : decode cX5_has 22 = .ok (.ifCond .ne 7, 3) := by decide +kernel
theorem dX5_has_25 : decode cX5_has 25 = .ok (.iconst 1, 1) := by decide +kernel
theorem dX5_has_26 : decode cX5_has 26 = .ok (.goto 4, 3) := by decide +kernel
theorem dX5_has_29 : decode cX5_has 29 = .ok (.iconst 0, 1) := by decide +kernel
theorem dX5_has_30 : decode cX5_has 30 = .ok (.ireturn, 1) := by decide +kernel
theorem dX5_insert_0 : decode cX5_insert 0 = .ok (.aload_n 0, 1) := by decide +kernel
theorem dX5_insert_1 : decode cX5_insert 1 = .ok (.getfield 15, 3) := by decide +kernel
theorem dX5_insert_4 : decode cX5_insert 4 = .ok (.sipush 300, 3) := by decide +kernel
theorem dX5_insert_7 : decode cX5_insert 7 = .ok (.if_icmp .lt 4, 3) := by decide +kernel
theorem dX5_insert_10 : decode cX5_insert 10 = .ok (.return_, 1) := by decide +kernel
theorem dX5_insert_11 : decode cX5_insert 11 = .ok (.aload_n 0, 1) := by decide +kernel
theorem dX5_insert_12 : decode cX5_insert 12 = .ok (.lload_n 1, 1) := by decide +kernel
theorem dX5_insert_13 : decode cX5_insert 13 = .ok (.invokevirtual 29, 3) := by decide +kernel
theorem dX5_insert_16 : decode cX5_insert 16 = .ok (.istore_n 3, 1) := by decide +kernel
theorem dX5_insert_17 : decode cX5_insert 17 = .ok (.aload_n 0, 1) := by decide +kernel
theorem dX5_insert_18 : decode cX5_insert 18 = .ok (.getfield 9, 3) := by decide +kernel
theorem dX5_insert_21 : decode cX5_insert 21 = .ok (.iload_n 3, 1) := by decide +kernel
theorem dX5_insert_22 : decode cX5_insert 22 = .ok (.aload_n 0, 1) := by decide +kernel
theorem dX5_insert_23 : decode cX5_insert 23 = .ok (.getfield 9, 3) := by decide +kernel
theorem dX5_insert_26 : decode cX5_insert 26 = .ok (.iload_n 3, 1) := by decide +kernel
theorem dX5_insert_27 : decode cX5_insert 27 = .ok (.iconst 1, 1) := by decide +kernel
theorem dX5_insert_28 : decode cX5_insert 28 = .ok (.iadd, 1) := by decide +kernel
theorem dX5_insert_29 : decode cX5_insert 29 = .ok (.aload_n 0, 1) := by decide +kernel
theorem dX5_insert_30 : decode cX5_insert 30 = .ok (.getfield 15, 3) := by decide +kernel
theorem dX5_insert_33 : decode cX5_insert 33 = .ok (.iload_n 3, 1) := by decide +kernel
theorem dX5_insert_34 : decode cX5_insert 34 = .ok (.isub, 1) := by decide +kernel
theorem dX5_insert_35 : decode cX5_insert 35 = .ok (.invokestatic 23, 3) := by decide +kernel
theorem dX5_insert_38 : decode cX5_insert 38 = .ok (.aload_n 0, 1) := by decide +kernel
theorem dX5_insert_39 : decode cX5_insert 39 = .ok (.getfield 9, 3) := by decide +kernel
theorem dX5_insert_42 : decode cX5_insert 42 = .ok (.iload_n 3, 1) := by decide +kernel
theorem dX5_insert_43 : decode cX5_insert 43 = .ok (.lload_n 1, 1) := by decide +kernel
theorem dX5_insert_44 : decode cX5_insert 44 = .ok (.lastore, 1) := by decide +kernel
theorem dX5_insert_45 : decode cX5_insert 45 = .ok (.aload_n 0, 1) := by decide +kernel
theorem dX5_insert_46 : decode cX5_insert 46 = .ok (.dup, 1) := by decide +kernel
theorem dX5_insert_47 : decode cX5_insert 47 = .ok (.getfield 15, 3) := by decide +kernel
theorem dX5_insert_50 : decode cX5_insert 50 = .ok (.iconst 1, 1) := by decide +kernel
theorem dX5_insert_51 : decode cX5_insert 51 = .ok (.iadd, 1) := by decide +kernel
theorem dX5_insert_52 : decode cX5_insert 52 = .ok (.putfield 15, 3) := by decide +kernel
theorem dX5_insert_55 : decode cX5_insert 55 = .ok (.return_, 1) := by decide +kernel
theorem dX5_remove_0 : decode cX5_remove 0 = .ok (.aload_n 0, 1) := by decide +kernel
theorem dX5_remove_1 : decode cX5_remove 1 = .ok (.lload_n 1, 1) := by decide +kernel
theorem dX5_remove_2 : decode cX5_remove 2 = .ok (.invokevirtual 29, 3) := by decide +kernel
theorem dX5_remove_5 : decode cX5_remove 5 = .ok (.istore_n 3, 1) := by decide +kernel
theorem dX5_remove_6 : decode cX5_remove 6 = .ok (.iload_n 3, 1) := by decide +kernel
theorem dX5_remove_7 : decode cX5_remove 7 = .ok (.aload_n 0, 1) := by decide +kernel
theorem dX5_remove_8 : decode cX5_remove 8 = .ok (.getfield 15, 3) := by decide +kernel
theorem dX5_remove_11 : decode cX5_remove 11 = .ok (.if_icmp .ge 14, 3) := by decide +kernel
theorem dX5_remove_14 : decode cX5_remove 14 = .ok (.aload_n 0, 1) := by decide +kernel
theorem dX5_remove_15 : decode cX5_remove 15 = .ok (.getfield 9, 3) := by decide +kernel
theorem dX5_remove_18 : decode cX5_remove 18 = .ok (.iload_n 3, 1) := by decide +kernel
theorem dX5_remove_19 : decode cX5_remove 19 = .ok (.laload, 1) := by decide +kernel
theorem dX5_remove_20 : decode cX5_remove 20 = .ok (.lload_n 1, 1) := by decide +kernel
theorem dX5_remove_21 : decode cX5_remove 21 = .ok (.lcmp, 1) := by decide +kernel
theorem dX5_remove_22 : decode cX5_remove 22 = .ok (.ifCond .eq 4, 3) := by decide +kernel
theorem dX5_remove_25 : decode cX5_remove 25 = .ok (.return_, 1) := by decide +kernel
theorem dX5_remove_26 : decode cX5_remove 26 = .ok (.aload_n 0, 1) := by decide +kernel
theorem dX5_remove_27 : decode cX5_remove 27 = .ok (.getfield 9, 3) := by decide +kernel
theorem dX5_remove_30 : decode cX5_remove 30 = .ok (.iload_n 3, 1) := by decide +kernel
theorem dX5_remove_31 : decode cX5_remove 31 = .ok (.iconst 1, 1) := by decide +kernel
theorem dX5_remove_32 : decode cX5_remove 32 = .ok (.iadd, 1) := by decide +kernel
theorem dX5_remove_33 : decode cX5_remove 33 = .ok (.aload_n 0, 1) := by decide +kernel
theorem dX5_remove_34 : decode cX5_remove 34 = .ok (.getfield 9, 3) := by decide +kernel
theorem dX5_remove_37 : decode cX5_remove 37 = .ok (.iload_n 3, 1) := by decide +kernel
theorem dX5_remove_38 : decode cX5_remove 38 = .ok (.aload_n 0, 1) := by decide +kernel
theorem dX5_remove_39 : decode cX5_remove 39 = .ok (.getfield 15, 3) := by decide +kernel
theorem dX5_remove_42 : decode cX5_remove 42 = .ok (.iload_n 3, 1) := by decide +kernel
theorem dX5_remove_43 : decode cX5_remove 43 = .ok (.isub, 1) := by decide +kernel
theorem dX5_remove_44 : decode cX5_remove 44 = .ok (.iconst 1, 1) := by decide +kernel
theorem dX5_remove_45 : decode cX5_remove 45 = .ok (.isub, 1) := by decide +kernel
theorem dX5_remove_46 : decode cX5_remove 46 = .ok (.invokestatic 23, 3) := by decide +kernel
theorem dX5_remove_49 : decode cX5_remove 49 = .ok (.aload_n 0, 1) := by decide +kernel
theorem dX5_remove_50 : decode cX5_remove 50 = .ok (.dup, 1) := by decide +kernel
theorem dX5_remove_51 : decode cX5_remove 51 = .ok (.getfield 15, 3) := by decide +kernel
theorem dX5_remove_54 : decode cX5_remove 54 = .ok (.iconst 1, 1) := by decide +kernel
theorem dX5_remove_55 : decode cX5_remove 55 = .ok (.isub, 1) := by decide +kernel
theorem dX5_remove_56 : decode cX5_remove 56 = .ok (.putfield 15, 3) := by decide +kernel
theorem dX5_remove_59 : decode cX5_remove 59 = .ok (.return_, 1) := by decide +kernel
theorem dX5_keyAt_0 : decode cX5_keyAt 0 = .ok (.iload_n 1, 1) := by decide +kernel
theorem dX5_keyAt_1 : decode cX5_keyAt 1 = .ok (.ifCond .lt 11, 3) := by decide +kernel
theorem dX5_keyAt_4 : decode cX5_keyAt 4 = .ok (.iload_n 1, 1) := by decide +kernel
theorem dX5_keyAt_5 : decode cX5_keyAt 5 = .ok (.aload_n 0, 1) := by decide +kernel
theorem dX5_keyAt_6 : decode cX5_keyAt 6 = .ok (.getfield 15, 3) := by decide +kernel
theorem dX5_keyAt_9 : decode cX5_keyAt 9 = .ok (.if_icmp .lt 7, 3) := by decide +kernel
theorem dX5_keyAt_12 : decode cX5_keyAt 12 = .ok (.iconst (-1), 1) := by decide +kernel
theorem dX5_keyAt_13 : decode cX5_keyAt 13 = .ok (.goto 14, 3) := by decide +kernel
theorem dX5_keyAt_16 : decode cX5_keyAt 16 = .ok (.aload_n 0, 1) := by decide +kernel
theorem dX5_keyAt_17 : decode cX5_keyAt 17 = .ok (.getfield 9, 3) := by decide +kernel
theorem dX5_keyAt_20 : decode cX5_keyAt 20 = .ok (.iload_n 1, 1) := by decide +kernel
theorem dX5_keyAt_21 : decode cX5_keyAt 21 = .ok (.laload, 1) := by decide +kernel
theorem dX5_keyAt_22 : decode cX5_keyAt 22 = .ok (.ldc2_w 33, 3) := by decide +kernel
theorem dX5_keyAt_25 : decode cX5_keyAt 25 = .ok (.land, 1) := by decide +kernel
theorem dX5_keyAt_26 : decode cX5_keyAt 26 = .ok (.l2i, 1) := by decide +kernel
theorem dX5_keyAt_27 : decode cX5_keyAt 27 = .ok (.ireturn, 1) := by decide +kernel
theorem dX5_hashAt_0 : decode cX5_hashAt 0 = .ok (.iload_n 1, 1) := by decide +kernel
theorem dX5_hashAt_1 : decode cX5_hashAt 1 = .ok (.ifCond .lt 11, 3) := by decide +kernel
theorem dX5_hashAt_4 : decode cX5_hashAt 4 = .ok (.iload_n 1, 1) := by decide +kernel
theorem dX5_hashAt_5 : decode cX5_hashAt 5 = .ok (.aload_n 0, 1) := by decide +kernel
theorem dX5_hashAt_6 : decode cX5_hashAt 6 = .ok (.getfield 15, 3) := by decide +kernel
theorem dX5_hashAt_9 : decode cX5_hashAt 9 = .ok (.if_icmp .lt 5, 3) := by decide +kernel
theorem dX5_hashAt_12 : decode cX5_hashAt 12 = .ok (.iconst 0, 1) := by decide +kernel
theorem dX5_hashAt_13 : decode cX5_hashAt 13 = .ok (.ireturn, 1) := by decide +kernel
theorem dX5_hashAt_14 : decode cX5_hashAt 14 = .ok (.aload_n 0, 1) := by decide +kernel
theorem dX5_hashAt_15 : decode cX5_hashAt 15 = .ok (.getfield 9, 3) := by decide +kernel
theorem dX5_hashAt_18 : decode cX5_hashAt 18 = .ok (.iload_n 1, 1) := by decide +kernel
theorem dX5_hashAt_19 : decode cX5_hashAt 19 = .ok (.laload, 1) := by decide +kernel
theorem dX5_hashAt_20 : decode cX5_hashAt 20 = .ok (.lstore_n 3, 1) := by decide +kernel
theorem dX5_hashAt_21 : decode cX5_hashAt 21 = .ok (.lload_n 3, 1) := by decide +kernel
theorem dX5_hashAt_22 : decode cX5_hashAt 22 = .ok (.bipush 16, 2) := by decide +kernel
theorem dX5_hashAt_24 : decode cX5_hashAt 24 = .ok (.lshr, 1) := by decide +kernel
theorem dX5_hashAt_25 : decode cX5_hashAt 25 = .ok (.ldc2_w 33, 3) := by decide +kernel
theorem dX5_hashAt_28 : decode cX5_hashAt 28 = .ok (.land, 1) := by decide +kernel
theorem dX5_hashAt_29 : decode cX5_hashAt 29 = .ok (.l2i, 1) := by decide +kernel
theorem dX5_hashAt_30 : decode cX5_hashAt 30 = .ok (.invokestatic 19, 3) := by decide +kernel
theorem dX5_hashAt_33 : decode cX5_hashAt 33 = .ok (.iload_n 2, 1) := by decide +kernel
theorem dX5_hashAt_34 : decode cX5_hashAt 34 = .ok (.imul, 1) := by decide +kernel
theorem dX5_hashAt_35 : decode cX5_hashAt 35 = .ok (.lload_n 3, 1) := by decide +kernel
theorem dX5_hashAt_36 : decode cX5_hashAt 36 = .ok (.bipush 32, 2) := by decide +kernel
theorem dX5_hashAt_38 : decode cX5_hashAt 38 = .ok (.lshr, 1) := by decide +kernel
theorem dX5_hashAt_39 : decode cX5_hashAt 39 = .ok (.l2i, 1) := by decide +kernel
theorem dX5_hashAt_40 : decode cX5_hashAt 40 = .ok (.iadd, 1) := by decide +kernel
theorem dX5_hashAt_41 : decode cX5_hashAt 41 = .ok (.ireturn, 1) := by decide +kernel
theorem dX6_init_0 : decode cX6_init 0 = .ok (.aload_n 0, 1) := by decide +kernel
theorem dX6_init_1 : decode cX6_init 1 = .ok (.invokespecial 3, 3) := by decide +kernel
theorem dX6_init_4 : decode cX6_init 4 = .ok (.aload_n 0, 1) := by decide +kernel
theorem dX6_init_5 : decode cX6_init 5 = .ok (.iconst 4, 1) := by decide +kernel
theorem dX6_init_6 : decode cX6_init 6 = .ok (.newarray .int, 2) := by decide +kernel
theorem dX6_init_8 : decode cX6_init 8 = .ok (.putfield 9, 3) := by decide +kernel
theorem dX6_init_11 : decode cX6_init 11 = .ok (.aload_n 0, 1) := by decide +kernel
theorem dX6_init_12 : decode cX6_init 12 = .ok (.iconst 4, 1) := by decide +kernel
theorem dX6_init_13 : decode cX6_init 13 = .ok (.newarray .int, 2) := by decide +kernel
theorem dX6_init_15 : decode cX6_init 15 = .ok (.putfield 15, 3) := by decide +kernel
theorem dX6_init_18 : decode cX6_init 18 = .ok (.aload_n 0, 1) := by decide +kernel
theorem dX6_init_19 : decode cX6_init 19 = .ok (.getfield 9, 3) := by decide +kernel
theorem dX6_init_22 : decode cX6_init 22 = .ok (.iconst (-1), 1) := by decide +kernel
theorem dX6_init_23 : decode cX6_init 23 = .ok (.invokestatic 18, 3) := by decide +kernel
theorem dX6_init_26 : decode cX6_init 26 = .ok (.return_, 1) := by decide +kernel
theorem dX6_copyFrom_0 : decode cX6_copyFrom 0 = .ok (.aload_n 1, 1) := by decide +kernel
theorem dX6_copyFrom_1 : decode cX6_copyFrom 1 = .ok (.getfield 9, 3) := by decide +kernel
theorem dX6_copyFrom_4 : decode cX6_copyFrom 4 = .ok (.iconst 0, 1) := by decide +kernel
theorem dX6_copyFrom_5 : decode cX6_copyFrom 5 = .ok (.aload_n 0, 1) := by decide +kernel
theorem dX6_copyFrom_6 : decode cX6_copyFrom 6 = .ok (.getfield 9, 3) := by decide +kernel
theorem dX6_copyFrom_9 : decode cX6_copyFrom 9 = .ok (.iconst 0, 1) := by decide +kernel
theorem dX6_copyFrom_10 : decode cX6_copyFrom 10 = .ok (.iconst 4, 1) := by decide +kernel
theorem dX6_copyFrom_11 : decode cX6_copyFrom 11 = .ok (.invokestatic 24, 3) := by decide +kernel
theorem dX6_copyFrom_14 : decode cX6_copyFrom 14 = .ok (.aload_n 1, 1) := by decide +kernel
theorem dX6_copyFrom_15 : decode cX6_copyFrom 15 = .ok (.getfield 15, 3) := by decide +kernel
theorem dX6_copyFrom_18 : decode cX6_copyFrom 18 = .ok (.iconst 0, 1) := by decide +kernel
theorem dX6_copyFrom_19 : decode cX6_copyFrom 19 = .ok (.aload_n 0, 1) := by decide +kernel
theorem dX6_copyFrom_20 : decode cX6_copyFrom 20 = .ok (.getfield 15, 3) := by decide +kernel
theorem dX6_copyFrom_23 : decode cX6_copyFrom 23 = .ok (.iconst 0, 1) := by decide +kernel
theorem dX6_copyFrom_24 : decode cX6_copyFrom 24 = .ok (.iconst 4, 1) := by decide +kernel
theorem dX6_copyFrom_25 : decode cX6_copyFrom 25 = .ok (.invokestatic 24, 3) := by decide +kernel
theorem dX6_copyFrom_28 : decode cX6_copyFrom 28 = .ok (.return_, 1) := by decide +kernel
theorem dX6_closeAll_0 : decode cX6_closeAll 0 = .ok (.aload_n 0, 1) := by decide +kernel
theorem dX6_closeAll_1 : decode cX6_closeAll 1 = .ok (.getfield 9, 3) := by decide +kernel
theorem dX6_closeAll_4 : decode cX6_closeAll 4 = .ok (.iconst (-1), 1) := by decide +kernel
theorem dX6_closeAll_5 : decode cX6_closeAll 5 = .ok (.invokestatic 18, 3) := by decide +kernel
theorem dX6_closeAll_8 : decode cX6_closeAll 8 = .ok (.return_, 1) := by decide +kernel
theorem dX6_close_0 : decode cX6_close 0 = .ok (.aload_n 0, 1) := by decide +kernel
theorem dX6_close_1 : decode cX6_close 1 = .ok (.getfield 9, 3) := by decide +kernel
theorem dX6_close_4 : decode cX6_close 4 = .ok (.iload_n 1, 1) := by decide +kernel
theorem dX6_close_5 : decode cX6_close 5 = .ok (.iconst (-1), 1) := by decide +kernel
theorem dX6_close_6 : decode cX6_close 6 = .ok (.iastore, 1) := by decide +kernel
theorem dX6_close_7 : decode cX6_close 7 = .ok (.return_, 1) := by decide +kernel
theorem dX6_isOpen_0 : decode cX6_isOpen 0 = .ok (.iload_n 1, 1) := by decide +kernel
theorem dX6_isOpen_1 : decode cX6_isOpen 1 = .ok (.iconst 0, 1) := by decide +kernel
theorem dX6_isOpen_2 : decode cX6_isOpen 2 = .ok (.iconst 3, 1) := by decide +kernel
theorem dX6_isOpen_3 : decode cX6_isOpen 3 = .ok (.invokestatic 30, 3) := by decide +kernel
theorem dX6_isOpen_6 : decode cX6_isOpen 6 = .ok (.ifCond .eq 17, 3) := by decide +kernel
theorem dX6_isOpen_9 : decode cX6_isOpen 9 = .ok (.aload_n 0, 1) := by decide +kernel
theorem dX6_isOpen_10 : decode cX6_isOpen 10 = .ok (.getfield 9, 3) := by decide +kernel
theorem dX6_isOpen_13 : decode cX6_isOpen 13 = .ok (.iload_n 1, 1) := by decide +kernel
theorem dX6_isOpen_14 : decode cX6_isOpen 14 = .ok (.iaload, 1) := by decide +kernel
theorem dX6_isOpen_15 : decode cX6_isOpen 15 = .ok (.iconst (-1), 1) := by decide +kernel
theorem dX6_isOpen_16 : decode cX6_isOpen 16 = .ok (.if_icmp .eq 7, 3) := by decide +kernel
theorem dX6_isOpen_19 : decode cX6_isOpen 19 = .ok (.iconst 1, 1) := by decide +kernel
theorem dX6_isOpen_20 : decode cX6_isOpen 20 = .ok (.goto 4, 3) := by decide +kernel
theorem dX6_isOpen_23 : decode cX6_isOpen 23 = .ok (.iconst 0, 1) := by decide +kernel
theorem dX6_isOpen_24 : decode cX6_isOpen 24 = .ok (.ireturn, 1) := by decide +kernel
theorem dX6_lowestClosed_0 : decode cX6_lowestClosed 0 = .ok (.iconst 0, 1) := by decide +kernel
theorem dX6_lowestClosed_1 : decode cX6_lowestClosed 1 = .ok (.istore_n 1, 1) := by decide +kernel
theorem dX6_lowestClosed_2 : decode cX6_lowestClosed 2 = .ok (.iload_n 1, 1) := by decide +kernel
theorem dX6_lowestClosed_3 : decode cX6_lowestClosed 3 = .ok (.iconst 4, 1) := by decide +kernel
theorem dX6_lowestClosed_4 : decode cX6_lowestClosed 4 = .ok (.if_icmp .ge 21, 3) := by decide +kernel
theorem dX6_lowestClosed_7 : decode cX6_lowestClosed 7 = .ok (.aload_n 0, 1) := by decide +kernel
theorem dX6_lowestClosed_8 : decode cX6_lowestClosed 8 = .ok (.getfield 9, 3) := by decide +kernel
theorem dX6_lowestClosed_11 : decode cX6_lowestClosed 11 = .ok (.iload_n 1, 1) := by decide +kernel
theorem dX6_lowestClosed_12 : decode cX6_lowestClosed 12 = .ok (.iaload, 1) := by decide +kernel
theorem dX6_lowestClosed_13 : decode cX6_lowestClosed 13 = .ok (.iconst (-1), 1) := by decide +kernel
theorem dX6_lowestClosed_14 : decode cX6_lowestClosed 14 = .ok (.if_icmp .ne 5, 3) := by decide +kernel
theorem dX6_lowestClosed_17 : decode cX6_lowestClosed 17 = .ok (.iload_n 1, 1) := by decide +kernel
theorem dX6_lowestClosed_18 : decode cX6_lowestClosed 18 = .ok (.ireturn, 1) := by decide +kernel
theorem dX6_lowestClosed_19 : decode cX6_lowestClosed 19 = .ok (.iinc 1 1, 3) := by decide +kernel
theorem dX6_lowestClosed_22 : decode cX6_lowestClosed 22 = .ok (.goto (-20), 3) := by decide +kernel
theorem dX6_lowestClosed_25 : decode cX6_lowestClosed 25 = .ok (.iconst (-1), 1) := by decide +kernel
theorem dX6_lowestClosed_26 : decode cX6_lowestClosed 26 = .ok (.ireturn, 1) := by decide +kernel
theorem dX6_begin_0 : decode cX6_begin 0 = .ok (.aload_n 0, 1) := by decide +kernel
theorem dX6_begin_1 : decode cX6_begin 1 = .ok (.getfield 9, 3) := by decide +kernel
theorem dX6_begin_4 : decode cX6_begin 4 = .ok (.iload_n 1, 1) := by decide +kernel
theorem dX6_begin_5 : decode cX6_begin 5 = .ok (.iconst 0, 1) := by decide +kernel
theorem dX6_begin_6 : decode cX6_begin 6 = .ok (.iastore, 1) := by decide +kernel
theorem dX6_begin_7 : decode cX6_begin 7 = .ok (.aload_n 0, 1) := by decide +kernel
theorem dX6_begin_8 : decode cX6_begin 8 = .ok (.getfield 15, 3) := by decide +kernel
theorem dX6_begin_11 : decode cX6_begin 11 = .ok (.iload_n 1, 1) := by decide +kernel
theorem dX6_begin_12 : decode cX6_begin 12 = .ok (.iconst (-1), 1) := by decide +kernel
theorem dX6_begin_13 : decode cX6_begin 13 = .ok (.iastore, 1) := by decide +kernel
theorem dX6_begin_14 : decode cX6_begin 14 = .ok (.return_, 1) := by decide +kernel
theorem dX6_openOnes_0 : decode cX6_openOnes 0 = .ok (.iconst 0, 1) := by decide +kernel
theorem dX6_openOnes_1 : decode cX6_openOnes 1 = .ok (.istore_n 1, 1) := by decide +kernel
theorem dX6_openOnes_2 : decode cX6_openOnes 2 = .ok (.iconst 0, 1) := by decide +kernel
theorem dX6_openOnes_3 : decode cX6_openOnes 3 = .ok (.istore_n 2, 1) := by decide +kernel
theorem dX6_openOnes_4 : decode cX6_openOnes 4 = .ok (.iload_n 2, 1) := by decide +kernel
theorem dX6_openOnes_5 : decode cX6_openOnes 5 = .ok (.iconst 4, 1) := by decide +kernel
theorem dX6_openOnes_6 : decode cX6_openOnes 6 = .ok (.if_icmp .ge 27, 3) := by decide +kernel
theorem dX6_openOnes_9 : decode cX6_openOnes 9 = .ok (.iload_n 1, 1) := by decide +kernel
theorem dX6_openOnes_10 : decode cX6_openOnes 10 = .ok (.aload_n 0, 1) := by decide +kernel
theorem dX6_openOnes_11 : decode cX6_openOnes 11 = .ok (.getfield 9, 3) := by decide +kernel
theorem dX6_openOnes_14 : decode cX6_openOnes 14 = .ok (.iload_n 2, 1) := by decide +kernel
theorem dX6_openOnes_15 : decode cX6_openOnes 15 = .ok (.iaload, 1) := by decide +kernel
theorem dX6_openOnes_16 : decode cX6_openOnes 16 = .ok (.iconst (-1), 1) := by decide +kernel
theorem dX6_openOnes_17 : decode cX6_openOnes 17 = .ok (.if_icmp .ne 7, 3) := by decide +kernel
theorem dX6_openOnes_20 : decode cX6_openOnes 20 = .ok (.iconst 0, 1) := by decide +kernel
theorem dX6_openOnes_21 : decode cX6_openOnes 21 = .ok (.goto 4, 3) := by decide +kernel
theorem dX6_openOnes_24 : decode cX6_openOnes 24 = .ok (.iconst 1, 1) := by decide +kernel
theorem dX6_openOnes_25 : decode cX6_openOnes 25 = .ok (.iadd, 1) := by decide +kernel
theorem dX6_openOnes_26 : decode cX6_openOnes 26 = .ok (.istore_n 1, 1) := by decide +kernel
theorem dX6_openOnes_27 : decode cX6_openOnes 27 = .ok (.iinc 2 1, 3) := by decide +kernel
theorem dX6_openOnes_30 : decode cX6_openOnes 30 = .ok (.goto (-26), 3) := by decide +kernel
theorem dX6_openOnes_33 : decode cX6_openOnes 33 = .ok (.iload_n 1, 1) := by decide +kernel
theorem dX6_openOnes_34 : decode cX6_openOnes 34 = .ok (.ireturn, 1) := by decide +kernel
theorem dX7_init_0 : decode cX7_init 0 = .ok (.aload_n 0, 1) := by decide +kernel
theorem dX7_init_1 : decode cX7_init 1 = .ok (.invokespecial 3, 3) := by decide +kernel
theorem dX7_init_4 : decode cX7_init 4 = .ok (.aload_n 0, 1) := by decide +kernel
theorem dX7_init_5 : decode cX7_init 5 = .ok (.bipush 20, 2) := by decide +kernel
theorem dX7_init_7 : decode cX7_init 7 = .ok (.newarray .int, 2) := by decide +kernel
theorem dX7_init_9 : decode cX7_init 9 = .ok (.putfield 11, 3) := by decide +kernel
theorem dX7_init_12 : decode cX7_init 12 = .ok (.aload_n 0, 1) := by decide +kernel
theorem dX7_init_13 : decode cX7_init 13 = .ok (.bipush 20, 2) := by decide +kernel
theorem dX7_init_15 : decode cX7_init 15 = .ok (.newarray .int, 2) := by decide +kernel
theorem dX7_init_17 : decode cX7_init 17 = .ok (.putfield 15, 3) := by decide +kernel
theorem dX7_init_20 : decode cX7_init 20 = .ok (.aload_n 0, 1) := by decide +kernel
theorem dX7_init_21 : decode cX7_init 21 = .ok (.bipush 20, 2) := by decide +kernel
theorem dX7_init_23 : decode cX7_init 23 = .ok (.newarray .int, 2) := by decide +kernel
theorem dX7_init_25 : decode cX7_init 25 = .ok (.putfield 18, 3) := by decide +kernel
theorem dX7_init_28 : decode cX7_init 28 = .ok (.aload_n 0, 1) := by decide +kernel
theorem dX7_init_29 : decode cX7_init 29 = .ok (.bipush 20, 2) := by decide +kernel
theorem dX7_init_31 : decode cX7_init 31 = .ok (.newarray .int, 2) := by decide +kernel
theorem dX7_init_33 : decode cX7_init 33 = .ok (.putfield 21, 3) := by decide +kernel
theorem dX7_init_36 : decode cX7_init 36 = .ok (.aload_n 0, 1) := by decide +kernel
theorem dX7_init_37 : decode cX7_init 37 = .ok (.iconst 0, 1) := by decide +kernel
theorem dX7_init_38 : decode cX7_init 38 = .ok (.putfield 24, 3) := by decide +kernel
theorem dX7_init_41 : decode cX7_init 41 = .ok (.return_, 1) := by decide +kernel
theorem dX7_read_0 : decode cX7_read 0 = .ok (.aload_n 0, 1) := by decide +kernel
theorem dX7_read_1 : decode cX7_read 1 = .ok (.iconst 0, 1) := by decide +kernel
theorem dX7_read_2 : decode cX7_read 2 = .ok (.putfield 24, 3) := by decide +kernel
theorem dX7_read_5 : decode cX7_read 5 = .ok (.iconst 1, 1) := by decide +kernel
theorem dX7_read_6 : decode cX7_read 6 = .ok (.istore_n 2, 1) := by decide +kernel
theorem dX7_read_7 : decode cX7_read 7 = .ok (.iconst 0, 1) := by decide +kernel
theorem dX7_read_8 : decode cX7_read 8 = .ok (.istore_n 3, 1) := by decide +kernel
theorem dX7_read_9 : decode cX7_read 9 = .ok (.iload_n 3, 1) := by decide +kernel
theorem dX7_read_10 : decode cX7_read 10 = .ok (.bipush 20, 2) := by decide +kernel
theorem dX7_read_12 : decode cX7_read 12 = .ok (.if_icmp .gt 89, 3) := by decide +kernel
theorem dX7_read_15 : decode cX7_read 15 = .ok (.iload_n 2, 1) := by decide +kernel
theorem dX7_read_16 : decode cX7_read 16 = .ok (.ifCond .eq 85, 3) := by decide +kernel
theorem dX7_read_19 : decode cX7_read 19 = .ok (.iload_n 3, 1) := by decide +kernel
theorem dX7_read_20 : decode cX7_read 20 = .ok (.bipush 20, 2) := by decide +kernel
theorem dX7_read_22 : decode cX7_read 22 = .ok (.if_icmp .ne 13, 3) := by decide +kernel
theorem dX7_read_25 : decode cX7_read 25 = .ok (.aload_n 1, 1) := by decide +kernel
theorem dX7_read_26 : decode cX7_read 26 = .ok (.iconst 4, 1) := by decide +kernel
theorem dX7_read_27 : decode cX7_read 27 = .ok (.invokevirtual 28, 3) := by decide +kernel
theorem dX7_read_30 : decode cX7_read 30 = .ok (.aload_n 1, 1) := by decide +kernel
theorem dX7_read_31 : decode cX7_read 31 = .ok (.getfield 34, 3) := by decide +kernel
theorem dX7_read_34 : decode cX7_read 34 = .ok (.ireturn, 1) := by decide +kernel
theorem dX7_read_35 : decode cX7_read 35 = .ok (.aload_n 0, 1) := by decide +kernel
theorem dX7_read_36 : decode cX7_read 36 = .ok (.aload_n 1, 1) := by decide +kernel
theorem dX7_read_37 : decode cX7_read 37 = .ok (.iload_n 3, 1) := by decide +kernel
theorem dX7_read_38 : decode cX7_read 38 = .ok (.invokevirtual 37, 3) := by decide +kernel
theorem dX7_read_41 : decode cX7_read 41 = .ok (.aload_n 0, 1) := by decide +kernel
theorem dX7_read_42 : decode cX7_read 42 = .ok (.dup, 1) := by decide +kernel
theorem dX7_read_43 : decode cX7_read 43 = .ok (.getfield 24, 3) := by decide +kernel
theorem dX7_read_46 : decode cX7_read 46 = .ok (.iconst 1, 1) := by decide +kernel
theorem dX7_read_47 : decode cX7_read 47 = .ok (.iadd, 1) := by decide +kernel
theorem dX7_read_48 : decode cX7_read 48 = .ok (.putfield 24, 3) := by decide +kernel
theorem dX7_read_51 : decode cX7_read 51 = .ok (.aload_n 1, 1) := by decide +kernel
theorem dX7_read_52 : decode cX7_read 52 = .ok (.getfield 34, 3) := by decide +kernel
theorem dX7_read_55 : decode cX7_read 55 = .ok (.ifCond .ne 15, 3) := by decide +kernel
theorem dX7_read_58 : decode cX7_read 58 = .ok (.aload_n 1, 1) := by decide +kernel
theorem dX7_read_59 : decode cX7_read 59 = .ok (.invokevirtual 41, 3) := by decide +kernel
theorem dX7_read_62 : decode cX7_read 62 = .ok (.iconst (-1), 1) := by decide +kernel
theorem dX7_read_63 : decode cX7_read 63 = .ok (.if_icmp .eq 7, 3) := by decide +kernel
theorem dX7_read_66 : decode cX7_read 66 = .ok (.iconst 1, 1) := by decide +kernel
theorem dX7_read_67 : decode cX7_read 67 = .ok (.goto 4, 3) := by decide +kernel
theorem dX7_read_70 : decode cX7_read 70 = .ok (.iconst 0, 1) := by decide +kernel
theorem dX7_read_71 : decode cX7_read 71 = .ok (.istore_n 2, 1) := by decide +kernel
theorem dX7_read_72 : decode cX7_read 72 = .ok (.iload_n 2, 1) := by decide +kernel
theorem dX7_read_73 : decode cX7_read 73 = .ok (.ifCond .eq 22, 3) := by decide +kernel
theorem dX7_read_76 : decode cX7_read 76 = .ok (.aload_n 1, 1) := by decide +kernel
theorem dX7_read_77 : decode cX7_read 77 = .ok (.bipush 59, 2) := by decide +kernel
theorem dX7_read_79 : decode cX7_read 79 = .ok (.invokevirtual 45, 3) := by decide +kernel
theorem dX7_read_82 : decode cX7_read 82 = .ok (.aload_n 1, 1) := by decide +kernel
theorem dX7_read_83 : decode cX7_read 83 = .ok (.getfield 34, 3) := by decide +kernel
theorem dX7_read_86 : decode cX7_read 86 = .ok (.ifCond .ne 7, 3) := by decide +kernel
theorem dX7_read_89 : decode cX7_read 89 = .ok (.iconst 1, 1) := by decide +kernel
theorem dX7_read_90 : decode cX7_read 90 = .ok (.goto 4, 3) := by decide +kernel
theorem dX7_read_93 : decode cX7_read 93 = .ok (.iconst 0, 1) := by decide +kernel
theorem dX7_read_94 : decode cX7_read 94 = .ok (.istore_n 2, 1) := by decide +kernel
theorem dX7_read_95 : decode cX7_read 95 = .ok (.iinc 3 1, 3) := by decide +kernel
theorem dX7_read_98 : decode cX7_read 98 = .ok (.goto (-89), 3) := by decide +kernel
theorem dX7_read_101 : decode cX7_read 101 = .ok (.aload_n 1, 1) := by decide +kernel
theorem dX7_read_102 : decode cX7_read 102 = .ok (.getfield 34, 3) := by decide +kernel
theorem dX7_read_105 : decode cX7_read 105 = .ok (.ireturn, 1) := by decide +kernel
theorem dX7_readStep_0 : decode cX7_readStep 0 = .ok (.aload_n 0, 1) := by decide +kernel
theorem dX7_readStep_1 : decode cX7_readStep 1 = .ok (.getfield 11, 3) := by decide +kernel
theorem dX7_readStep_4 : decode cX7_readStep 4 = .ok (.iload_n 2, 1) := by decide +kernel
theorem dX7_readStep_5 : decode cX7_readStep 5 = .ok (.aload_n 1, 1) := by decide +kernel
theorem dX7_readStep_6 : decode cX7_readStep 6 = .ok (.invokevirtual 41, 3) := by decide +kernel
theorem dX7_readStep_9 : decode cX7_readStep 9 = .ok (.iastore, 1) := by decide +kernel
theorem dX7_readStep_10 : decode cX7_readStep 10 = .ok (.aload_n 0, 1) := by decide +kernel
theorem dX7_readStep_11 : decode cX7_readStep 11 = .ok (.getfield 11, 3) := by decide +kernel
theorem dX7_readStep_14 : decode cX7_readStep 14 = .ok (.iload_n 2, 1) := by decide +kernel
theorem dX7_readStep_15 : decode cX7_readStep 15 = .ok (.iaload, 1) := by decide +kernel
theorem dX7_readStep_16 : decode cX7_readStep 16 = .ok (.invokestatic 48, 3) := by decide +kernel
theorem dX7_readStep_19 : decode cX7_readStep 19 = .ok (.ifCond .ne 9, 3) := by decide +kernel
theorem dX7_readStep_22 : decode cX7_readStep 22 = .ok (.aload_n 1, 1) := by decide +kernel
theorem dX7_readStep_23 : decode cX7_readStep 23 = .ok (.iconst 1, 1) := by decide +kernel
theorem dX7_readStep_24 : decode cX7_readStep 24 = .ok (.invokevirtual 28, 3) := by decide +kernel
theorem dX7_readStep_27 : decode cX7_readStep 27 = .ok (.return_, 1) := by decide +kernel
theorem dX7_readStep_28 : decode cX7_readStep 28 = .ok (.aload_n 1, 1) := by decide +kernel
theorem dX7_readStep_29 : decode cX7_readStep 29 = .ok (.invokevirtual 52, 3) := by decide +kernel
theorem dX7_readStep_32 : decode cX7_readStep 32 = .ok (.aload_n 0, 1) := by decide +kernel
theorem dX7_readStep_33 : decode cX7_readStep 33 = .ok (.getfield 11, 3) := by decide +kernel
theorem dX7_readStep_36 : decode cX7_readStep 36 = .ok (.iload_n 2, 1) := by decide +kernel
theorem dX7_readStep_37 : decode cX7_readStep 37 = .ok (.iaload, 1) := by decide +kernel
theorem dX7_readStep_38 : decode cX7_readStep 38 = .ok (.lookupswitch 181 #[(100, 58), (103, 58), (110, 126), (112, 90), (120, 74), (121, 74)], 58) := by decide +kernel
theorem dX7_readStep_96 : decode cX7_readStep 96 = .ok (.aload_n 0, 1) := by decide +kernel
theorem dX7_readStep_97 : decode cX7_readStep 97 = .ok (.getfield 15, 3) := by decide +kernel
theorem dX7_readStep_100 : decode cX7_readStep 100 = .ok (.iload_n 2, 1) := by decide +kernel
theorem dX7_readStep_101 : decode cX7_readStep 101 = .ok (.aload_n 1, 1) := by decide +kernel
theorem dX7_readStep_102 : decode cX7_readStep 102 = .ok (.iconst 0, 1) := by decide +kernel
theorem dX7_readStep_103 : decode cX7_readStep 103 = .ok (.ldc 55, 2) := by decide +kernel
theorem dX7_readStep_105 : decode cX7_readStep 105 = .ok (.invokevirtual 56, 3) := by decide +kernel
theorem dX7_readStep_108 : decode cX7_readStep 108 = .ok (.iastore, 1) := by decide +kernel
theorem dX7_readStep_109 : decode cX7_readStep 109 = .ok (.goto 110, 3) := by decide +kernel
theorem dX7_readStep_112 : decode cX7_readStep 112 = .ok (.aload_n 0, 1) := by decide +kernel
theorem dX7_readStep_113 : decode cX7_readStep 113 = .ok (.getfield 15, 3) := by decide +kernel
theorem dX7_readStep_116 : decode cX7_readStep 116 = .ok (.iload_n 2, 1) := by decide +kernel
theorem dX7_readStep_117 : decode cX7_readStep 117 = .ok (.aload_n 1, 1) := by decide +kernel
theorem dX7_readStep_118 : decode cX7_readStep 118 = .ok (.iconst 1, 1) := by decide +kernel
theorem dX7_readStep_119 : decode cX7_readStep 119 = .ok (.bipush 60, 2) := by decide +kernel
theorem dX7_readStep_121 : decode cX7_readStep 121 = .ok (.invokevirtual 56, 3) := by decide +kernel
theorem dX7_readStep_124 : decode cX7_readStep 124 = .ok (.iastore, 1) := by decide +kernel
theorem dX7_readStep_125 : decode cX7_readStep 125 = .ok (.goto 94, 3) := by decide +kernel
theorem dX7_readStep_128 : decode cX7_readStep 128 = .ok (.aload_n 0, 1) := by decide +kernel
theorem dX7_readStep_129 : decode cX7_readStep 129 = .ok (.getfield 15, 3) := by decide +kernel
theorem dX7_readStep_132 : decode cX7_readStep 132 = .ok (.iload_n 2, 1) := by decide +kernel
theorem dX7_readStep_133 : decode cX7_readStep 133 = .ok (.aload_n 1, 1) := by decide +kernel
theorem dX7_readStep_134 : decode cX7_readStep 134 = .ok (.iconst 0, 1) := by decide +kernel
theorem dX7_readStep_135 : decode cX7_readStep 135 = .ok (.ldc 55, 2) := by decide +kernel
theorem dX7_readStep_137 : decode cX7_readStep 137 = .ok (.invokevirtual 56, 3) := by decide +kernel
theorem dX7_readStep_140 : decode cX7_readStep 140 = .ok (.iastore, 1) := by decide +kernel
theorem dX7_readStep_141 : decode cX7_readStep 141 = .ok (.aload_n 1, 1) := by decide +kernel
theorem dX7_readStep_142 : decode cX7_readStep 142 = .ok (.bipush 44, 2) := by decide +kernel
theorem dX7_readStep_144 : decode cX7_readStep 144 = .ok (.invokevirtual 45, 3) := by decide +kernel
theorem dX7_readStep_147 : decode cX7_readStep 147 = .ok (.aload_n 0, 1) := by decide +kernel
theorem dX7_readStep_148 : decode cX7_readStep 148 = .ok (.getfield 18, 3) := by decide +kernel
theorem dX7_readStep_151 : decode cX7_readStep 151 = .ok (.iload_n 2, 1) := by decide +kernel
theorem dX7_readStep_152 : decode cX7_readStep 152 = .ok (.aload_n 1, 1) := by decide +kernel
theorem dX7_readStep_153 : decode cX7_readStep 153 = .ok (.iconst 0, 1) := by decide +kernel
theorem dX7_readStep_154 : decode cX7_readStep 154 = .ok (.sipush 255, 3) := by decide +kernel
theorem dX7_readStep_157 : decode cX7_readStep 157 = .ok (.invokevirtual 56, 3) := by decide +kernel
theorem dX7_readStep_160 : decode cX7_readStep 160 = .ok (.iastore, 1) := by decide +kernel
theorem dX7_readStep_161 : decode cX7_readStep 161 = .ok (.goto 58, 3) := by decide +kernel
theorem dX7_readStep_164 : decode cX7_readStep 164 = .ok (.aload_n 0, 1) := by decide +kernel
theorem dX7_readStep_165 : decode cX7_readStep 165 = .ok (.getfield 15, 3) := by decide +kernel
theorem dX7_readStep_168 : decode cX7_readStep 168 = .ok (.iload_n 2, 1) := by decide +kernel
theorem dX7_readStep_169 : decode cX7_readStep 169 = .ok (.aload_n 1, 1) := by decide +kernel
theorem dX7_readStep_170 : decode cX7_readStep 170 = .ok (.iconst 0, 1) := by decide +kernel
theorem dX7_readStep_171 : decode cX7_readStep 171 = .ok (.ldc 55, 2) := by decide +kernel
theorem dX7_readStep_173 : decode cX7_readStep 173 = .ok (.invokevirtual 56, 3) := by decide +kernel
theorem dX7_readStep_176 : decode cX7_readStep 176 = .ok (.iastore, 1) := by decide +kernel
theorem dX7_readStep_177 : decode cX7_readStep 177 = .ok (.aload_n 1, 1) := by decide +kernel
theorem dX7_readStep_178 : decode cX7_readStep 178 = .ok (.bipush 44, 2) := by decide +kernel
theorem dX7_readStep_180 : decode cX7_readStep 180 = .ok (.invokevirtual 45, 3) := by decide +kernel
theorem dX7_readStep_183 : decode cX7_readStep 183 = .ok (.aload_n 0, 1) := by decide +kernel
theorem dX7_readStep_184 : decode cX7_readStep 184 = .ok (.getfield 18, 3) := by decide +kernel
theorem dX7_readStep_187 : decode cX7_readStep 187 = .ok (.iload_n 2, 1) := by decide +kernel
theorem dX7_readStep_188 : decode cX7_readStep 188 = .ok (.aload_n 1, 1) := by decide +kernel
theorem dX7_readStep_189 : decode cX7_readStep 189 = .ok (.iconst 1, 1) := by decide +kernel
theorem dX7_readStep_190 : decode cX7_readStep 190 = .ok (.bipush 60, 2) := by decide +kernel
theorem dX7_readStep_192 : decode cX7_readStep 192 = .ok (.invokevirtual 56, 3) := by decide +kernel
theorem dX7_readStep_195 : decode cX7_readStep 195 = .ok (.iastore, 1) := by decide +kernel
theorem dX7_readStep_196 : decode cX7_readStep 196 = .ok (.aload_n 1, 1) := by decide +kernel
theorem dX7_readStep_197 : decode cX7_readStep 197 = .ok (.bipush 44, 2) := by decide +kernel
theorem dX7_readStep_199 : decode cX7_readStep 199 = .ok (.invokevirtual 45, 3) := by decide +kernel
theorem dX7_readStep_202 : decode cX7_readStep 202 = .ok (.aload_n 0, 1) := by decide +kernel
theorem dX7_readStep_203 : decode cX7_readStep 203 = .ok (.getfield 21, 3) := by decide +kernel
theorem dX7_readStep_206 : decode cX7_readStep 206 = .ok (.iload_n 2, 1) := by decide +kernel
theorem dX7_readStep_207 : decode cX7_readStep 207 = .ok (.aload_n 1, 1) := by decide +kernel
theorem dX7_readStep_208 : decode cX7_readStep 208 = .ok (.iconst 0, 1) := by decide +kernel
theorem dX7_readStep_209 : decode cX7_readStep 209 = .ok (.sipush 9999, 3) := by decide +kernel
theorem dX7_readStep_212 : decode cX7_readStep 212 = .ok (.invokevirtual 56, 3) := by decide +kernel
theorem dX7_readStep_215 : decode cX7_readStep 215 = .ok (.iastore, 1) := by decide +kernel
theorem dX7_readStep_216 : decode cX7_readStep 216 = .ok (.goto 3, 3) := by decide +kernel
theorem dX7_readStep_219 : decode cX7_readStep 219 = .ok (.return_, 1) := by decide +kernel
theorem dX7_isLetter_0 : decode cX7_isLetter 0 = .ok (.iload_n 0, 1) := by decide +kernel
theorem dX7_isLetter_1 : decode cX7_isLetter 1 = .ok (.tableswitch 105 100 121 #[103, 105, 105, 103, 105, 105, 103, 105, 105, 105, 103, 105, 103, 105, 105, 103, 105, 105, 105, 105, 103, 103], 103) := by decide +kernel
theorem dX7_isLetter_104 : decode cX7_isLetter 104 = .ok (.iconst 1, 1) := by decide +kernel
theorem dX7_isLetter_105 : decode cX7_isLetter 105 = .ok (.ireturn, 1) := by decide +kernel
theorem dX7_isLetter_106 : decode cX7_isLetter 106 = .ok (.iconst 0, 1) := by decide +kernel
theorem dX7_isLetter_107 : decode cX7_isLetter 107 = .ok (.ireturn, 1) := by decide +kernel
theorem dX8_init_0 : decode cX8_init 0 = .ok (.aload_n 0, 1) := by decide +kernel
theorem dX8_init_1 : decode cX8_init 1 = .ok (.invokespecial 1, 3) := by decide +kernel
theorem dX8_init_4 : decode cX8_init 4 = .ok (.aload_n 0, 1) := by decide +kernel
theorem dX8_init_5 : decode cX8_init 5 = .ok (.sipush 320, 3) := by decide +kernel
theorem dX8_init_8 : decode cX8_init 8 = .ok (.newarray .int, 2) := by decide +kernel
theorem dX8_init_10 : decode cX8_init 10 = .ok (.putfield 9, 3) := by decide +kernel
theorem dX8_init_13 : decode cX8_init 13 = .ok (.aload_n 0, 1) := by decide +kernel
theorem dX8_init_14 : decode cX8_init 14 = .ok (.iconst 0, 1) := by decide +kernel
theorem dX8_init_15 : decode cX8_init 15 = .ok (.putfield 13, 3) := by decide +kernel
theorem dX8_init_18 : decode cX8_init 18 = .ok (.aload_n 0, 1) := by decide +kernel
theorem dX8_init_19 : decode cX8_init 19 = .ok (.iconst 0, 1) := by decide +kernel
theorem dX8_init_20 : decode cX8_init 20 = .ok (.putfield 17, 3) := by decide +kernel
theorem dX8_init_23 : decode cX8_init 23 = .ok (.aload_n 0, 1) := by decide +kernel
theorem dX8_init_24 : decode cX8_init 24 = .ok (.iconst 0, 1) := by decide +kernel
theorem dX8_init_25 : decode cX8_init 25 = .ok (.putfield 20, 3) := by decide +kernel
theorem dX8_init_28 : decode cX8_init 28 = .ok (.aload_n 0, 1) := by decide +kernel
theorem dX8_init_29 : decode cX8_init 29 = .ok (.iconst 0, 1) := by decide +kernel
theorem dX8_init_30 : decode cX8_init 30 = .ok (.putfield 23, 3) := by decide +kernel
theorem dX8_init_33 : decode cX8_init 33 = .ok (.return_, 1) := by decide +kernel
theorem dX8_hasRoom_0 : decode cX8_hasRoom 0 = .ok (.aload_n 0, 1) := by decide +kernel
theorem dX8_hasRoom_1 : decode cX8_hasRoom 1 = .ok (.getfield 13, 3) := by decide +kernel
theorem dX8_hasRoom_4 : decode cX8_hasRoom 4 = .ok (.bipush 20, 2) := by decide +kernel
theorem dX8_hasRoom_6 : decode cX8_hasRoom 6 = .ok (.iadd, 1) := by decide +kernel
theorem dX8_hasRoom_7 : decode cX8_hasRoom 7 = .ok (.sipush 320, 3) := by decide +kernel
theorem dX8_hasRoom_10 : decode cX8_hasRoom 10 = .ok (.if_icmp .gt 7, 3) := by decide +kernel
theorem dX8_hasRoom_13 : decode cX8_hasRoom 13 = .ok (.iconst 1, 1) := by decide +kernel
theorem dX8_hasRoom_14 : decode cX8_hasRoom 14 = .ok (.goto 4, 3) := by decide +kernel
theorem dX8_hasRoom_17 : decode cX8_hasRoom 17 = .ok (.iconst 0, 1) := by decide +kernel
theorem dX8_hasRoom_18 : decode cX8_hasRoom 18 = .ok (.ireturn, 1) := by decide +kernel
theorem dX8_append_0 : decode cX8_append 0 = .ok (.bipush 24, 2) := by decide +kernel
theorem dX8_append_2 : decode cX8_append 2 = .ok (.istore_n 2, 1) := by decide +kernel
