theorem dX9_grown_88 : decode cX9_grown 88 = .ok (.invokevirtual 186, 3) := by decide +kernel
theorem dX9_grown_91 : decode cX9_grown 91 = .ok (.ireturn, 1) := by decide +kernel
theorem dX9_grown_92 : decode cX9_grown 92 = .ok (.aload_n 0, 1) := by decide +kernel
theorem dX9_grown_93 : decode cX9_grown 93 = .ok (.getfield 40, 3) := by decide +kernel
theorem dX9_grown_96 : decode cX9_grown 96 = .ok (.getfield 156, 3) := by decide +kernel
theorem dX9_grown_99 : decode cX9_grown 99 = .ok (.invokevirtual 183, 3) := by decide +kernel
theorem dX9_grown_102 : decode cX9_grown 102 = .ok (.ireturn, 1) := by decide +kernel
theorem dX9_grown_103 : decode cX9_grown 103 = .ok (.aload_n 0, 1) := by decide +kernel
theorem dX9_grown_104 : decode cX9_grown 104 = .ok (.getfield 40, 3) := by decide +kernel
theorem dX9_grown_107 : decode cX9_grown 107 = .ok (.getfield 77, 3) := by decide +kernel
theorem dX9_grown_110 : decode cX9_grown 110 = .ok (.getfield 81, 3) := by decide +kernel
theorem dX9_grown_113 : decode cX9_grown 113 = .ok (.ireturn, 1) := by decide +kernel
theorem dX9_grown_114 : decode cX9_grown 114 = .ok (.aload_n 0, 1) := by decide +kernel
theorem dX9_grown_115 : decode cX9_grown 115 = .ok (.getfield 40, 3) := by decide +kernel
theorem dX9_grown_118 : decode cX9_grown 118 = .ok (.getfield 189, 3) := by decide +kernel
theorem dX9_grown_121 : decode cX9_grown 121 = .ok (.aload_n 0, 1) := by decide +kernel
theorem dX9_grown_122 : decode cX9_grown 122 = .ok (.getfield 33, 3) := by decide +kernel
theorem dX9_grown_125 : decode cX9_grown 125 = .ok (.getfield 189, 3) := by decide +kernel
theorem dX9_grown_128 : decode cX9_grown 128 = .ok (.isub, 1) := by decide +kernel
theorem dX9_grown_129 : decode cX9_grown 129 = .ok (.ireturn, 1) := by decide +kernel
theorem dX9_grown_130 : decode cX9_grown 130 = .ok (.aload_n 0, 1) := by decide +kernel
theorem dX9_grown_131 : decode cX9_grown 131 = .ok (.getfield 40, 3) := by decide +kernel
theorem dX9_grown_134 : decode cX9_grown 134 = .ok (.getfield 192, 3) := by decide +kernel
theorem dX9_grown_137 : decode cX9_grown 137 = .ok (.aload_n 0, 1) := by decide +kernel
theorem dX9_grown_138 : decode cX9_grown 138 = .ok (.getfield 33, 3) := by decide +kernel
theorem dX9_grown_141 : decode cX9_grown 141 = .ok (.getfield 192, 3) := by decide +kernel
theorem dX9_grown_144 : decode cX9_grown 144 = .ok (.isub, 1) := by decide +kernel
theorem dX9_grown_145 : decode cX9_grown 145 = .ok (.ireturn, 1) := by decide +kernel
theorem dX9_tuned_0 : decode cX9_tuned 0 = .ok (.iload_n 1, 1) := by decide +kernel
theorem dX9_tuned_1 : decode cX9_tuned 1 = .ok (.iconst 0, 1) := by decide +kernel
theorem dX9_tuned_2 : decode cX9_tuned 2 = .ok (.iconst 1, 1) := by decide +kernel
theorem dX9_tuned_3 : decode cX9_tuned 3 = .ok (.invokestatic 63, 3) := by decide +kernel
theorem dX9_tuned_6 : decode cX9_tuned 6 = .ok (.ifCond .ne 5, 3) := by decide +kernel
theorem dX9_tuned_9 : decode cX9_tuned 9 = .ok (.iconst (-1), 1) := by decide +kernel
theorem dX9_tuned_10 : decode cX9_tuned 10 = .ok (.ireturn, 1) := by decide +kernel
theorem dX9_tuned_11 : decode cX9_tuned 11 = .ok (.aload_n 0, 1) := by decide +kernel
theorem dX9_tuned_12 : decode cX9_tuned 12 = .ok (.getfield 40, 3) := by decide +kernel
theorem dX9_tuned_15 : decode cX9_tuned 15 = .ok (.aload_n 0, 1) := by decide +kernel
theorem dX9_tuned_16 : decode cX9_tuned 16 = .ok (.getfield 33, 3) := by decide +kernel
theorem dX9_tuned_19 : decode cX9_tuned 19 = .ok (.invokevirtual 313, 3) := by decide +kernel
theorem dX9_tuned_22 : decode cX9_tuned 22 = .ok (.iconst 0, 1) := by decide +kernel
theorem dX9_tuned_23 : decode cX9_tuned 23 = .ok (.istore_n 2, 1) := by decide +kernel
theorem dX9_tuned_24 : decode cX9_tuned 24 = .ok (.iconst 0, 1) := by decide +kernel
theorem dX9_tuned_25 : decode cX9_tuned 25 = .ok (.istore_n 3, 1) := by decide +kernel
theorem dX9_tuned_26 : decode cX9_tuned 26 = .ok (.iconst 2, 1) := by decide +kernel
theorem dX9_tuned_27 : decode cX9_tuned 27 = .ok (.istore 4, 2) := by decide +kernel
theorem dX9_tuned_29 : decode cX9_tuned 29 = .ok (.iload 4, 2) := by decide +kernel
theorem dX9_tuned_31 : decode cX9_tuned 31 = .ok (.bipush 6, 2) := by decide +kernel
theorem dX9_tuned_33 : decode cX9_tuned 33 = .ok (.if_icmp .gt 139, 3) := by decide +kernel
theorem dX9_tuned_36 : decode cX9_tuned 36 = .ok (.aload_n 0, 1) := by decide +kernel
theorem dX9_tuned_37 : decode cX9_tuned 37 = .ok (.getfield 40, 3) := by decide +kernel
theorem dX9_tuned_40 : decode cX9_tuned 40 = .ok (.aload_n 0, 1) := by decide +kernel
theorem dX9_tuned_41 : decode cX9_tuned 41 = .ok (.getfield 33, 3) := by decide +kernel
theorem dX9_tuned_44 : decode cX9_tuned 44 = .ok (.getfield 153, 3) := by decide +kernel
theorem dX9_tuned_47 : decode cX9_tuned 47 = .ok (.iload 4, 2) := by decide +kernel
theorem dX9_tuned_49 : decode cX9_tuned 49 = .ok (.aload_n 0, 1) := by decide +kernel
theorem dX9_tuned_50 : decode cX9_tuned 50 = .ok (.getfield 33, 3) := by decide +kernel
theorem dX9_tuned_53 : decode cX9_tuned 53 = .ok (.getfield 165, 3) := by decide +kernel
theorem dX9_tuned_56 : decode cX9_tuned 56 = .ok (.aload_n 0, 1) := by decide +kernel
theorem dX9_tuned_57 : decode cX9_tuned 57 = .ok (.getfield 33, 3) := by decide +kernel
theorem dX9_tuned_60 : decode cX9_tuned 60 = .ok (.getfield 168, 3) := by decide +kernel
theorem dX9_tuned_63 : decode cX9_tuned 63 = .ok (.aload_n 0, 1) := by decide +kernel
theorem dX9_tuned_64 : decode cX9_tuned 64 = .ok (.getfield 33, 3) := by decide +kernel
theorem dX9_tuned_67 : decode cX9_tuned 67 = .ok (.getfield 171, 3) := by decide +kernel
theorem dX9_tuned_70 : decode cX9_tuned 70 = .ok (.invokevirtual 67, 3) := by decide +kernel
theorem dX9_tuned_73 : decode cX9_tuned 73 = .ok (.iconst 0, 1) := by decide +kernel
theorem dX9_tuned_74 : decode cX9_tuned 74 = .ok (.istore 5, 2) := by decide +kernel
theorem dX9_tuned_76 : decode cX9_tuned 76 = .ok (.iload 5, 2) := by decide +kernel
theorem dX9_tuned_78 : decode cX9_tuned 78 = .ok (.aload_n 0, 1) := by decide +kernel
theorem dX9_tuned_79 : decode cX9_tuned 79 = .ok (.getfield 33, 3) := by decide +kernel
theorem dX9_tuned_82 : decode cX9_tuned 82 = .ok (.getfield 77, 3) := by decide +kernel
theorem dX9_tuned_85 : decode cX9_tuned 85 = .ok (.getfield 81, 3) := by decide +kernel
theorem dX9_tuned_88 : decode cX9_tuned 88 = .ok (.if_icmp .ge 30, 3) := by decide +kernel
theorem dX9_tuned_91 : decode cX9_tuned 91 = .ok (.aload_n 0, 1) := by decide +kernel
theorem dX9_tuned_92 : decode cX9_tuned 92 = .ok (.getfield 40, 3) := by decide +kernel
theorem dX9_tuned_95 : decode cX9_tuned 95 = .ok (.aload_n 0, 1) := by decide +kernel
theorem dX9_tuned_96 : decode cX9_tuned 96 = .ok (.getfield 33, 3) := by decide +kernel
theorem dX9_tuned_99 : decode cX9_tuned 99 = .ok (.getfield 77, 3) := by decide +kernel
theorem dX9_tuned_102 : decode cX9_tuned 102 = .ok (.iload 5, 2) := by decide +kernel
theorem dX9_tuned_104 : decode cX9_tuned 104 = .ok (.invokevirtual 326, 3) := by decide +kernel
theorem dX9_tuned_107 : decode cX9_tuned 107 = .ok (.iconst 0, 1) := by decide +kernel
theorem dX9_tuned_108 : decode cX9_tuned 108 = .ok (.invokevirtual 120, 3) := by decide +kernel
theorem dX9_tuned_111 : decode cX9_tuned 111 = .ok (.pop, 1) := by decide +kernel
theorem dX9_tuned_112 : decode cX9_tuned 112 = .ok (.iinc 5 1, 3) := by decide +kernel
theorem dX9_tuned_115 : decode cX9_tuned 115 = .ok (.goto (-39), 3) := by decide +kernel
theorem dX9_tuned_118 : decode cX9_tuned 118 = .ok (.iload_n 1, 1) := by decide +kernel
theorem dX9_tuned_119 : decode cX9_tuned 119 = .ok (.ifCond .ne 16, 3) := by decide +kernel
theorem dX9_tuned_122 : decode cX9_tuned 122 = .ok (.aload_n 0, 1) := by decide +kernel
theorem dX9_tuned_123 : decode cX9_tuned 123 = .ok (.getfield 40, 3) := by decide +kernel
theorem dX9_tuned_126 : decode cX9_tuned 126 = .ok (.getfield 156, 3) := by decide +kernel
theorem dX9_tuned_129 : decode cX9_tuned 129 = .ok (.invokevirtual 262, 3) := by decide +kernel
theorem dX9_tuned_132 : decode cX9_tuned 132 = .ok (.goto 16, 3) := by decide +kernel
theorem dX9_tuned_135 : decode cX9_tuned 135 = .ok (.aload_n 0, 1) := by decide +kernel
theorem dX9_tuned_136 : decode cX9_tuned 136 = .ok (.getfield 40, 3) := by decide +kernel
theorem dX9_tuned_139 : decode cX9_tuned 139 = .ok (.getfield 156, 3) := by decide +kernel
theorem dX9_tuned_142 : decode cX9_tuned 142 = .ok (.invokevirtual 183, 3) := by decide +kernel
theorem dX9_tuned_145 : decode cX9_tuned 145 = .ok (.iload 4, 2) := by decide +kernel
theorem dX9_tuned_147 : decode cX9_tuned 147 = .ok (.imul, 1) := by decide +kernel
theorem dX9_tuned_148 : decode cX9_tuned 148 = .ok (.istore 5, 2) := by decide +kernel
theorem dX9_tuned_150 : decode cX9_tuned 150 = .ok (.iload_n 2, 1) := by decide +kernel
theorem dX9_tuned_151 : decode cX9_tuned 151 = .ok (.ifCond .eq 9, 3) := by decide +kernel
theorem dX9_tuned_154 : decode cX9_tuned 154 = .ok (.iload 5, 2) := by decide +kernel
theorem dX9_tuned_156 : decode cX9_tuned 156 = .ok (.iload_n 3, 1) := by decide +kernel
theorem dX9_tuned_157 : decode cX9_tuned 157 = .ok (.if_icmp .ge 9, 3) := by decide +kernel
theorem dX9_tuned_160 : decode cX9_tuned 160 = .ok (.iload 4, 2) := by decide +kernel
theorem dX9_tuned_162 : decode cX9_tuned 162 = .ok (.istore_n 2, 1) := by decide +kernel
theorem dX9_tuned_163 : decode cX9_tuned 163 = .ok (.iload 5, 2) := by decide +kernel
theorem dX9_tuned_165 : decode cX9_tuned 165 = .ok (.istore_n 3, 1) := by decide +kernel
theorem dX9_tuned_166 : decode cX9_tuned 166 = .ok (.iinc 4 1, 3) := by decide +kernel
theorem dX9_tuned_169 : decode cX9_tuned 169 = .ok (.goto (-140), 3) := by decide +kernel
theorem dX9_tuned_172 : decode cX9_tuned 172 = .ok (.iload_n 2, 1) := by decide +kernel
theorem dX9_tuned_173 : decode cX9_tuned 173 = .ok (.ireturn, 1) := by decide +kernel
theorem dX9_signs_0 : decode cX9_signs 0 = .ok (.aload_n 0, 1) := by decide +kernel
theorem dX9_signs_1 : decode cX9_signs 1 = .ok (.iload_n 1, 1) := by decide +kernel
theorem dX9_signs_2 : decode cX9_signs 2 = .ok (.invokevirtual 228, 3) := by decide +kernel
theorem dX9_signs_5 : decode cX9_signs 5 = .ok (.ifCond .ne 5, 3) := by decide +kernel
theorem dX9_signs_8 : decode cX9_signs 8 = .ok (.iconst (-1), 1) := by decide +kernel
theorem dX9_signs_9 : decode cX9_signs 9 = .ok (.ireturn, 1) := by decide +kernel
theorem dX9_signs_10 : decode cX9_signs 10 = .ok (.aload_n 0, 1) := by decide +kernel
theorem dX9_signs_11 : decode cX9_signs 11 = .ok (.invokevirtual 328, 3) := by decide +kernel
theorem dX9_signs_14 : decode cX9_signs 14 = .ok (.aload_n 0, 1) := by decide +kernel
theorem dX9_signs_15 : decode cX9_signs 15 = .ok (.getfield 43, 3) := by decide +kernel
theorem dX9_signs_18 : decode cX9_signs 18 = .ok (.iload_n 1, 1) := by decide +kernel
theorem dX9_signs_19 : decode cX9_signs 19 = .ok (.iaload, 1) := by decide +kernel
theorem dX9_signs_20 : decode cX9_signs 20 = .ok (.ireturn, 1) := by decide +kernel
theorem dX9_gatherSigns_0 : decode cX9_gatherSigns 0 = .ok (.aload_n 0, 1) := by decide +kernel
theorem dX9_gatherSigns_1 : decode cX9_gatherSigns 1 = .ok (.getfield 43, 3) := by decide +kernel
theorem dX9_gatherSigns_4 : decode cX9_gatherSigns 4 = .ok (.iconst 0, 1) := by decide +kernel
theorem dX9_gatherSigns_5 : decode cX9_gatherSigns 5 = .ok (.invokestatic 292, 3) := by decide +kernel
theorem dX9_gatherSigns_8 : decode cX9_gatherSigns 8 = .ok (.iconst 0, 1) := by decide +kernel
theorem dX9_gatherSigns_9 : decode cX9_gatherSigns 9 = .ok (.istore_n 1, 1) := by decide +kernel
theorem dX9_gatherSigns_10 : decode cX9_gatherSigns 10 = .ok (.iload_n 1, 1) := by decide +kernel
theorem dX9_gatherSigns_11 : decode cX9_gatherSigns 11 = .ok (.aload_n 0, 1) := by decide +kernel
theorem dX9_gatherSigns_12 : decode cX9_gatherSigns 12 = .ok (.getfield 33, 3) := by decide +kernel
theorem dX9_gatherSigns_15 : decode cX9_gatherSigns 15 = .ok (.getfield 77, 3) := by decide +kernel
theorem dX9_gatherSigns_18 : decode cX9_gatherSigns 18 = .ok (.getfield 81, 3) := by decide +kernel
theorem dX9_gatherSigns_21 : decode cX9_gatherSigns 21 = .ok (.if_icmp .ge 38, 3) := by decide +kernel
theorem dX9_gatherSigns_24 : decode cX9_gatherSigns 24 = .ok (.aload_n 0, 1) := by decide +kernel
theorem dX9_gatherSigns_25 : decode cX9_gatherSigns 25 = .ok (.getfield 33, 3) := by decide +kernel
theorem dX9_gatherSigns_28 : decode cX9_gatherSigns 28 = .ok (.iload_n 1, 1) := by decide +kernel
theorem dX9_gatherSigns_29 : decode cX9_gatherSigns 29 = .ok (.invokevirtual 300, 3) := by decide +kernel
theorem dX9_gatherSigns_32 : decode cX9_gatherSigns 32 = .ok (.istore_n 2, 1) := by decide +kernel
theorem dX9_gatherSigns_33 : decode cX9_gatherSigns 33 = .ok (.aload_n 0, 1) := by decide +kernel
theorem dX9_gatherSigns_34 : decode cX9_gatherSigns 34 = .ok (.getfield 43, 3) := by decide +kernel
theorem dX9_gatherSigns_37 : decode cX9_gatherSigns 37 = .ok (.aload_n 0, 1) := by decide +kernel
theorem dX9_gatherSigns_38 : decode cX9_gatherSigns 38 = .ok (.getfield 33, 3) := by decide +kernel
theorem dX9_gatherSigns_41 : decode cX9_gatherSigns 41 = .ok (.iload_n 2, 1) := by decide +kernel
theorem dX9_gatherSigns_42 : decode cX9_gatherSigns 42 = .ok (.invokevirtual 210, 3) := by decide +kernel
theorem dX9_gatherSigns_45 : decode cX9_gatherSigns 45 = .ok (.dup2, 1) := by decide +kernel
theorem dX9_gatherSigns_46 : decode cX9_gatherSigns 46 = .ok (.iaload, 1) := by decide +kernel
theorem dX9_gatherSigns_47 : decode cX9_gatherSigns 47 = .ok (.iload_n 2, 1) := by decide +kernel
theorem dX9_gatherSigns_48 : decode cX9_gatherSigns 48 = .ok (.invokestatic 331, 3) := by decide +kernel
theorem dX9_gatherSigns_51 : decode cX9_gatherSigns 51 = .ok (.ior, 1) := by decide +kernel
theorem dX9_gatherSigns_52 : decode cX9_gatherSigns 52 = .ok (.iastore, 1) := by decide +kernel
theorem dX9_gatherSigns_53 : decode cX9_gatherSigns 53 = .ok (.iinc 1 1, 3) := by decide +kernel
theorem dX9_gatherSigns_56 : decode cX9_gatherSigns 56 = .ok (.goto (-46), 3) := by decide +kernel
theorem dX9_gatherSigns_59 : decode cX9_gatherSigns 59 = .ok (.return_, 1) := by decide +kernel
theorem dX9_signOf_0 : decode cX9_signOf 0 = .ok (.iconst 1, 1) := by decide +kernel
theorem dX9_signOf_1 : decode cX9_signOf 1 = .ok (.iload_n 0, 1) := by decide +kernel
theorem dX9_signOf_2 : decode cX9_signOf 2 = .ok (.bipush 12, 2) := by decide +kernel
theorem dX9_signOf_4 : decode cX9_signOf 4 = .ok (.ishr, 1) := by decide +kernel
theorem dX9_signOf_5 : decode cX9_signOf 5 = .ok (.ishl, 1) := by decide +kernel
theorem dX9_signOf_6 : decode cX9_signOf 6 = .ok (.iconst 1, 1) := by decide +kernel
theorem dX9_signOf_7 : decode cX9_signOf 7 = .ok (.iload_n 0, 1) := by decide +kernel
theorem dX9_signOf_8 : decode cX9_signOf 8 = .ok (.bipush 15, 2) := by decide +kernel
theorem dX9_signOf_10 : decode cX9_signOf 10 = .ok (.iand, 1) := by decide +kernel
theorem dX9_signOf_11 : decode cX9_signOf 11 = .ok (.ishl, 1) := by decide +kernel
theorem dX9_signOf_12 : decode cX9_signOf 12 = .ok (.ior, 1) := by decide +kernel
theorem dX9_signOf_13 : decode cX9_signOf 13 = .ok (.ireturn, 1) := by decide +kernel
theorem dX9_passed_0 : decode cX9_passed 0 = .ok (.iload_n 1, 1) := by decide +kernel
theorem dX9_passed_1 : decode cX9_passed 1 = .ok (.invokestatic 149, 3) := by decide +kernel
theorem dX9_passed_4 : decode cX9_passed 4 = .ok (.ifCond .ne 5, 3) := by decide +kernel
theorem dX9_passed_7 : decode cX9_passed 7 = .ok (.iconst (-1), 1) := by decide +kernel
theorem dX9_passed_8 : decode cX9_passed 8 = .ok (.ireturn, 1) := by decide +kernel
theorem dX9_passed_9 : decode cX9_passed 9 = .ok (.aload_n 0, 1) := by decide +kernel
theorem dX9_passed_10 : decode cX9_passed 10 = .ok (.invokevirtual 328, 3) := by decide +kernel
theorem dX9_passed_13 : decode cX9_passed 13 = .ok (.iconst 0, 1) := by decide +kernel
theorem dX9_passed_14 : decode cX9_passed 14 = .ok (.istore_n 2, 1) := by decide +kernel
theorem dX9_passed_15 : decode cX9_passed 15 = .ok (.iconst 0, 1) := by decide +kernel
theorem dX9_passed_16 : decode cX9_passed 16 = .ok (.istore_n 3, 1) := by decide +kernel
theorem dX9_passed_17 : decode cX9_passed 17 = .ok (.iload_n 3, 1) := by decide +kernel
theorem dX9_passed_18 : decode cX9_passed 18 = .ok (.sipush 256, 3) := by decide +kernel
theorem dX9_passed_21 : decode cX9_passed 21 = .ok (.if_icmp .ge 89, 3) := by decide +kernel
theorem dX9_passed_24 : decode cX9_passed 24 = .ok (.iload_n 1, 1) := by decide +kernel
theorem dX9_passed_25 : decode cX9_passed 25 = .ok (.iload_n 3, 1) := by decide +kernel
theorem dX9_passed_26 : decode cX9_passed 26 = .ok (.iadd, 1) := by decide +kernel
theorem dX9_passed_27 : decode cX9_passed 27 = .ok (.ldc 148, 2) := by decide +kernel
theorem dX9_passed_29 : decode cX9_passed 29 = .ok (.iand, 1) := by decide +kernel
theorem dX9_passed_30 : decode cX9_passed 30 = .ok (.istore 4, 2) := by decide +kernel
theorem dX9_passed_32 : decode cX9_passed 32 = .ok (.aload_n 0, 1) := by decide +kernel
theorem dX9_passed_33 : decode cX9_passed 33 = .ok (.getfield 33, 3) := by decide +kernel
theorem dX9_passed_36 : decode cX9_passed 36 = .ok (.getfield 88, 3) := by decide +kernel
theorem dX9_passed_39 : decode cX9_passed 39 = .ok (.iload 4, 2) := by decide +kernel
theorem dX9_passed_41 : decode cX9_passed 41 = .ok (.invokevirtual 207, 3) := by decide +kernel
theorem dX9_passed_44 : decode cX9_passed 44 = .ok (.istore 5, 2) := by decide +kernel
theorem dX9_passed_46 : decode cX9_passed 46 = .ok (.iload 5, 2) := by decide +kernel
theorem dX9_passed_48 : decode cX9_passed 48 = .ok (.invokestatic 331, 3) := by decide +kernel
theorem dX9_passed_51 : decode cX9_passed 51 = .ok (.istore 6, 2) := by decide +kernel
theorem dX9_passed_53 : decode cX9_passed 53 = .ok (.aload_n 0, 1) := by decide +kernel
theorem dX9_passed_54 : decode cX9_passed 54 = .ok (.getfield 43, 3) := by decide +kernel
theorem dX9_passed_57 : decode cX9_passed 57 = .ok (.aload_n 0, 1) := by decide +kernel
theorem dX9_passed_58 : decode cX9_passed 58 = .ok (.getfield 33, 3) := by decide +kernel
theorem dX9_passed_61 : decode cX9_passed 61 = .ok (.iload 5, 2) := by decide +kernel
theorem dX9_passed_63 : decode cX9_passed 63 = .ok (.invokevirtual 210, 3) := by decide +kernel
theorem dX9_passed_66 : decode cX9_passed 66 = .ok (.iaload, 1) := by decide +kernel
theorem dX9_passed_67 : decode cX9_passed 67 = .ok (.iload 6, 2) := by decide +kernel
theorem dX9_passed_69 : decode cX9_passed 69 = .ok (.iand, 1) := by decide +kernel
theorem dX9_passed_70 : decode cX9_passed 70 = .ok (.iload 6, 2) := by decide +kernel
theorem dX9_passed_72 : decode cX9_passed 72 = .ok (.if_icmp .ne 7, 3) := by decide +kernel
theorem dX9_passed_75 : decode cX9_passed 75 = .ok (.iconst 1, 1) := by decide +kernel
theorem dX9_passed_76 : decode cX9_passed 76 = .ok (.goto 4, 3) := by decide +kernel
theorem dX9_passed_79 : decode cX9_passed 79 = .ok (.iconst 0, 1) := by decide +kernel
theorem dX9_passed_80 : decode cX9_passed 80 = .ok (.istore 7, 2) := by decide +kernel
theorem dX9_passed_82 : decode cX9_passed 82 = .ok (.iload 7, 2) := by decide +kernel
theorem dX9_passed_84 : decode cX9_passed 84 = .ok (.ifCond .eq 20, 3) := by decide +kernel
theorem dX9_passed_87 : decode cX9_passed 87 = .ok (.aload_n 0, 1) := by decide +kernel
theorem dX9_passed_88 : decode cX9_passed 88 = .ok (.getfield 33, 3) := by decide +kernel
theorem dX9_passed_91 : decode cX9_passed 91 = .ok (.iload 4, 2) := by decide +kernel
theorem dX9_passed_93 : decode cX9_passed 93 = .ok (.iload 5, 2) := by decide +kernel
theorem dX9_passed_95 : decode cX9_passed 95 = .ok (.invokevirtual 334, 3) := by decide +kernel
theorem dX9_passed_98 : decode cX9_passed 98 = .ok (.ifCond .ne 6, 3) := by decide +kernel
theorem dX9_passed_101 : decode cX9_passed 101 = .ok (.iinc 2 1, 3) := by decide +kernel
theorem dX9_passed_104 : decode cX9_passed 104 = .ok (.iinc 3 1, 3) := by decide +kernel
theorem dX9_passed_107 : decode cX9_passed 107 = .ok (.goto (-90), 3) := by decide +kernel
theorem dX9_passed_110 : decode cX9_passed 110 = .ok (.iload_n 2, 1) := by decide +kernel
theorem dX9_passed_111 : decode cX9_passed 111 = .ok (.ireturn, 1) := by decide +kernel
theorem dX9_costing_0 : decode cX9_costing 0 = .ok (.iload_n 1, 1) := by decide +kernel
theorem dX9_costing_1 : decode cX9_costing 1 = .ok (.iconst 1, 1) := by decide +kernel
theorem dX9_costing_2 : decode cX9_costing 2 = .ok (.sipush 150, 3) := by decide +kernel
theorem dX9_costing_5 : decode cX9_costing 5 = .ok (.invokestatic 63, 3) := by decide +kernel
theorem dX9_costing_8 : decode cX9_costing 8 = .ok (.ifCond .eq 17, 3) := by decide +kernel
theorem dX9_costing_11 : decode cX9_costing 11 = .ok (.aload_n 0, 1) := by decide +kernel
theorem dX9_costing_12 : decode cX9_costing 12 = .ok (.getfield 33, 3) := by decide +kernel
theorem dX9_costing_15 : decode cX9_costing 15 = .ok (.getfield 156, 3) := by decide +kernel
theorem dX9_costing_18 : decode cX9_costing 18 = .ok (.iload_n 1, 1) := by decide +kernel
theorem dX9_costing_19 : decode cX9_costing 19 = .ok (.invokevirtual 338, 3) := by decide +kernel
theorem dX9_costing_22 : decode cX9_costing 22 = .ok (.goto 4, 3) := by decide +kernel
theorem dX9_costing_25 : decode cX9_costing 25 = .ok (.iconst (-1), 1) := by decide +kernel
theorem dX9_costing_26 : decode cX9_costing 26 = .ok (.ireturn, 1) := by decide +kernel
theorem dX9_since_0 : decode cX9_since 0 = .ok (.iload_n 1, 1) := by decide +kernel
theorem dX9_since_1 : decode cX9_since 1 = .ok (.iconst 0, 1) := by decide +kernel
theorem dX9_since_2 : decode cX9_since 2 = .ok (.iconst 3, 1) := by decide +kernel
theorem dX9_since_3 : decode cX9_since 3 = .ok (.invokestatic 63, 3) := by decide +kernel
theorem dX9_since_6 : decode cX9_since 6 = .ok (.ifCond .ne 5, 3) := by decide +kernel
theorem dX9_since_9 : decode cX9_since 9 = .ok (.iconst (-1), 1) := by decide +kernel
theorem dX9_since_10 : decode cX9_since 10 = .ok (.ireturn, 1) := by decide +kernel
theorem dX9_since_11 : decode cX9_since 11 = .ok (.aload_n 0, 1) := by decide +kernel
theorem dX9_since_12 : decode cX9_since 12 = .ok (.getfield 47, 3) := by decide +kernel
theorem dX9_since_15 : decode cX9_since 15 = .ok (.ifCond .ne 6, 3) := by decide +kernel
theorem dX9_since_18 : decode cX9_since 18 = .ok (.bipush (-3), 2) := by decide +kernel
theorem dX9_since_20 : decode cX9_since 20 = .ok (.ireturn, 1) := by decide +kernel
theorem dX9_since_21 : decode cX9_since 21 = .ok (.iload_n 1, 1) := by decide +kernel
theorem dX9_since_22 : decode cX9_since 22 = .ok (.iconst 1, 1) := by decide +kernel
theorem dX9_since_23 : decode cX9_since 23 = .ok (.if_icmp .ne 10, 3) := by decide +kernel
theorem dX9_since_26 : decode cX9_since 26 = .ok (.aload_n 0, 1) := by decide +kernel
theorem dX9_since_27 : decode cX9_since 27 = .ok (.getfield 37, 3) := by decide +kernel
theorem dX9_since_30 : decode cX9_since 30 = .ok (.goto 7, 3) := by decide +kernel
theorem dX9_since_33 : decode cX9_since 33 = .ok (.aload_n 0, 1) := by decide +kernel
theorem dX9_since_34 : decode cX9_since 34 = .ok (.getfield 33, 3) := by decide +kernel
theorem dX9_since_37 : decode cX9_since 37 = .ok (.astore_n 2, 1) := by decide +kernel
theorem dX9_since_38 : decode cX9_since 38 = .ok (.iload_n 1, 1) := by decide +kernel
theorem dX9_since_39 : decode cX9_since 39 = .ok (.iconst 1, 1) := by decide +kernel
theorem dX9_since_40 : decode cX9_since 40 = .ok (.if_icmp .ne 10, 3) := by decide +kernel
theorem dX9_since_43 : decode cX9_since 43 = .ok (.aload_n 0, 1) := by decide +kernel
theorem dX9_since_44 : decode cX9_since 44 = .ok (.getfield 33, 3) := by decide +kernel
theorem dX9_since_47 : decode cX9_since 47 = .ok (.goto 7, 3) := by decide +kernel
theorem dX9_since_50 : decode cX9_since 50 = .ok (.aload_n 0, 1) := by decide +kernel
theorem dX9_since_51 : decode cX9_since 51 = .ok (.getfield 37, 3) := by decide +kernel
theorem dX9_since_54 : decode cX9_since 54 = .ok (.astore_n 3, 1) := by decide +kernel
theorem dX9_since_55 : decode cX9_since 55 = .ok (.iconst 0, 1) := by decide +kernel
theorem dX9_since_56 : decode cX9_since 56 = .ok (.istore 4, 2) := by decide +kernel
theorem dX9_since_58 : decode cX9_since 58 = .ok (.iconst 0, 1) := by decide +kernel
theorem dX9_since_59 : decode cX9_since 59 = .ok (.istore 5, 2) := by decide +kernel
theorem dX9_since_61 : decode cX9_since 61 = .ok (.iload 5, 2) := by decide +kernel
theorem dX9_since_63 : decode cX9_since 63 = .ok (.aload_n 2, 1) := by decide +kernel
theorem dX9_since_64 : decode cX9_since 64 = .ok (.getfield 77, 3) := by decide +kernel
theorem dX9_since_67 : decode cX9_since 67 = .ok (.getfield 81, 3) := by decide +kernel
theorem dX9_since_70 : decode cX9_since 70 = .ok (.if_icmp .ge 30, 3) := by decide +kernel
theorem dX9_since_73 : decode cX9_since 73 = .ok (.aload_n 2, 1) := by decide +kernel
theorem dX9_since_74 : decode cX9_since 74 = .ok (.aload_n 3, 1) := by decide +kernel
theorem dX9_since_75 : decode cX9_since 75 = .ok (.aload_n 2, 1) := by decide +kernel
theorem dX9_since_76 : decode cX9_since 76 = .ok (.getfield 77, 3) := by decide +kernel
theorem dX9_since_79 : decode cX9_since 79 = .ok (.iload 5, 2) := by decide +kernel
theorem dX9_since_81 : decode cX9_since 81 = .ok (.invokevirtual 326, 3) := by decide +kernel
theorem dX9_since_84 : decode cX9_since 84 = .ok (.iload_n 1, 1) := by decide +kernel
theorem dX9_since_85 : decode cX9_since 85 = .ok (.invokestatic 341, 3) := by decide +kernel
theorem dX9_since_88 : decode cX9_since 88 = .ok (.ifCond .eq 6, 3) := by decide +kernel
theorem dX9_since_91 : decode cX9_since 91 = .ok (.iinc 4 1, 3) := by decide +kernel
theorem dX9_since_94 : decode cX9_since 94 = .ok (.iinc 5 1, 3) := by decide +kernel
theorem dX9_since_97 : decode cX9_since 97 = .ok (.goto (-36), 3) := by decide +kernel
theorem dX9_since_100 : decode cX9_since 100 = .ok (.iload 4, 2) := by decide +kernel
theorem dX9_since_102 : decode cX9_since 102 = .ok (.ireturn, 1) := by decide +kernel
theorem dX9_differs_0 : decode cX9_differs 0 = .ok (.aload_n 0, 1) := by decide +kernel
theorem dX9_differs_1 : decode cX9_differs 1 = .ok (.getfield 88, 3) := by decide +kernel
theorem dX9_differs_4 : decode cX9_differs 4 = .ok (.iload_n 2, 1) := by decide +kernel
theorem dX9_differs_5 : decode cX9_differs 5 = .ok (.invokevirtual 207, 3) := by decide +kernel
theorem dX9_differs_8 : decode cX9_differs 8 = .ok (.istore 4, 2) := by decide +kernel
theorem dX9_differs_10 : decode cX9_differs 10 = .ok (.aload_n 1, 1) := by decide +kernel
theorem dX9_differs_11 : decode cX9_differs 11 = .ok (.getfield 88, 3) := by decide +kernel
theorem dX9_differs_14 : decode cX9_differs 14 = .ok (.iload_n 2, 1) := by decide +kernel
theorem dX9_differs_15 : decode cX9_differs 15 = .ok (.invokevirtual 207, 3) := by decide +kernel
theorem dX9_differs_18 : decode cX9_differs 18 = .ok (.istore 5, 2) := by decide +kernel
theorem dX9_differs_20 : decode cX9_differs 20 = .ok (.aload_n 1, 1) := by decide +kernel
theorem dX9_differs_21 : decode cX9_differs 21 = .ok (.iload_n 2, 1) := by decide +kernel
theorem dX9_differs_22 : decode cX9_differs 22 = .ok (.iload 5, 2) := by decide +kernel
theorem dX9_differs_24 : decode cX9_differs 24 = .ok (.invokevirtual 334, 3) := by decide +kernel
theorem dX9_differs_27 : decode cX9_differs 27 = .ok (.istore 6, 2) := by decide +kernel
theorem dX9_differs_29 : decode cX9_differs 29 = .ok (.iload_n 3, 1) := by decide +kernel
theorem dX9_differs_30 : decode cX9_differs 30 = .ok (.iconst 1, 1) := by decide +kernel
theorem dX9_differs_31 : decode cX9_differs 31 = .ok (.if_icmp .gt 14, 3) := by decide +kernel
theorem dX9_differs_34 : decode cX9_differs 34 = .ok (.iload 6, 2) := by decide +kernel
theorem dX9_differs_36 : decode cX9_differs 36 = .ok (.ifCond .ne 7, 3) := by decide +kernel
theorem dX9_differs_39 : decode cX9_differs 39 = .ok (.iconst 1, 1) := by decide +kernel
theorem dX9_differs_40 : decode cX9_differs 40 = .ok (.goto 4, 3) := by decide +kernel
theorem dX9_differs_43 : decode cX9_differs 43 = .ok (.iconst 0, 1) := by decide +kernel
theorem dX9_differs_44 : decode cX9_differs 44 = .ok (.ireturn, 1) := by decide +kernel
theorem dX9_differs_45 : decode cX9_differs 45 = .ok (.iload 6, 2) := by decide +kernel
theorem dX9_differs_47 : decode cX9_differs 47 = .ok (.ifCond .ne 5, 3) := by decide +kernel
theorem dX9_differs_50 : decode cX9_differs 50 = .ok (.iconst 0, 1) := by decide +kernel
theorem dX9_differs_51 : decode cX9_differs 51 = .ok (.ireturn, 1) := by decide +kernel
theorem dX9_differs_52 : decode cX9_differs 52 = .ok (.iload_n 3, 1) := by decide +kernel
theorem dX9_differs_53 : decode cX9_differs 53 = .ok (.iconst 2, 1) := by decide +kernel
theorem dX9_differs_54 : decode cX9_differs 54 = .ok (.if_icmp .ne 22, 3) := by decide +kernel
theorem dX9_differs_57 : decode cX9_differs 57 = .ok (.aload_n 0, 1) := by decide +kernel
theorem dX9_differs_58 : decode cX9_differs 58 = .ok (.iload_n 2, 1) := by decide +kernel
theorem dX9_differs_59 : decode cX9_differs 59 = .ok (.invokevirtual 345, 3) := by decide +kernel
theorem dX9_differs_62 : decode cX9_differs 62 = .ok (.aload_n 1, 1) := by decide +kernel
theorem dX9_differs_63 : decode cX9_differs 63 = .ok (.iload_n 2, 1) := by decide +kernel
theorem dX9_differs_64 : decode cX9_differs 64 = .ok (.invokevirtual 345, 3) := by decide +kernel
theorem dX9_differs_67 : decode cX9_differs 67 = .ok (.if_icmp .eq 7, 3) := by decide +kernel
theorem dX9_differs_70 : decode cX9_differs 70 = .ok (.iconst 1, 1) := by decide +kernel
theorem dX9_differs_71 : decode cX9_differs 71 = .ok (.goto 4, 3) := by decide +kernel
theorem dX9_differs_74 : decode cX9_differs 74 = .ok (.iconst 0, 1) := by decide +kernel
theorem dX9_differs_75 : decode cX9_differs 75 = .ok (.ireturn, 1) := by decide +kernel
theorem dX9_differs_76 : decode cX9_differs 76 = .ok (.aload_n 0, 1) := by decide +kernel
theorem dX9_differs_77 : decode cX9_differs 77 = .ok (.iload 4, 2) := by decide +kernel
theorem dX9_differs_79 : decode cX9_differs 79 = .ok (.invokevirtual 210, 3) := by decide +kernel
theorem dX9_differs_82 : decode cX9_differs 82 = .ok (.aload_n 1, 1) := by decide +kernel
theorem dX9_differs_83 : decode cX9_differs 83 = .ok (.iload 5, 2) := by decide +kernel
theorem dX9_differs_85 : decode cX9_differs 85 = .ok (.invokevirtual 210, 3) := by decide +kernel
theorem dX9_differs_88 : decode cX9_differs 88 = .ok (.if_icmp .eq 7, 3) := by decide +kernel
theorem dX9_differs_91 : decode cX9_differs 91 = .ok (.iconst 1, 1) := by decide +kernel
theorem dX9_differs_92 : decode cX9_differs 92 = .ok (.goto 4, 3) := by decide +kernel
theorem dX9_differs_95 : decode cX9_differs 95 = .ok (.iconst 0, 1) := by decide +kernel
theorem dX9_differs_96 : decode cX9_differs 96 = .ok (.ireturn, 1) := by decide +kernel
theorem dX9_alike_0 : decode cX9_alike 0 = .ok (.iload_n 1, 1) := by decide +kernel
theorem dX9_alike_1 : decode cX9_alike 1 = .ok (.iconst 0, 1) := by decide +kernel
theorem dX9_alike_2 : decode cX9_alike 2 = .ok (.iconst 2, 1) := by decide +kernel
theorem dX9_alike_3 : decode cX9_alike 3 = .ok (.invokestatic 63, 3) := by decide +kernel
theorem dX9_alike_6 : decode cX9_alike 6 = .ok (.ifCond .ne 5, 3) := by decide +kernel
theorem dX9_alike_9 : decode cX9_alike 9 = .ok (.iconst (-1), 1) := by decide +kernel
theorem dX9_alike_10 : decode cX9_alike 10 = .ok (.ireturn, 1) := by decide +kernel
theorem dX9_alike_11 : decode cX9_alike 11 = .ok (.iconst 0, 1) := by decide +kernel
theorem dX9_alike_12 : decode cX9_alike 12 = .ok (.istore_n 2, 1) := by decide +kernel
theorem dX9_alike_13 : decode cX9_alike 13 = .ok (.iconst 0, 1) := by decide +kernel
theorem dX9_alike_14 : decode cX9_alike 14 = .ok (.istore_n 3, 1) := by decide +kernel
theorem dX9_alike_15 : decode cX9_alike 15 = .ok (.bipush (-2), 2) := by decide +kernel
theorem dX9_alike_17 : decode cX9_alike 17 = .ok (.istore 4, 2) := by decide +kernel
theorem dX9_alike_19 : decode cX9_alike 19 = .ok (.iconst (-1), 1) := by decide +kernel
theorem dX9_alike_20 : decode cX9_alike 20 = .ok (.istore 5, 2) := by decide +kernel
theorem dX9_alike_22 : decode cX9_alike 22 = .ok (.iconst 0, 1) := by decide +kernel
theorem dX9_alike_23 : decode cX9_alike 23 = .ok (.istore 6, 2) := by decide +kernel
theorem dX9_alike_25 : decode cX9_alike 25 = .ok (.iconst 0, 1) := by decide +kernel
theorem dX9_alike_26 : decode cX9_alike 26 = .ok (.istore 7, 2) := by decide +kernel
theorem dX9_alike_28 : decode cX9_alike 28 = .ok (.iload 7, 2) := by decide +kernel
theorem dX9_alike_30 : decode cX9_alike 30 = .ok (.aload_n 0, 1) := by decide +kernel
theorem dX9_alike_31 : decode cX9_alike 31 = .ok (.getfield 33, 3) := by decide +kernel
theorem dX9_alike_34 : decode cX9_alike 34 = .ok (.getfield 77, 3) := by decide +kernel
theorem dX9_alike_37 : decode cX9_alike 37 = .ok (.getfield 81, 3) := by decide +kernel
theorem dX9_alike_40 : decode cX9_alike 40 = .ok (.if_icmp .ge 87, 3) := by decide +kernel
theorem dX9_alike_43 : decode cX9_alike 43 = .ok (.aload_n 0, 1) := by decide +kernel
theorem dX9_alike_44 : decode cX9_alike 44 = .ok (.getfield 33, 3) := by decide +kernel
theorem dX9_alike_47 : decode cX9_alike 47 = .ok (.iload 7, 2) := by decide +kernel
theorem dX9_alike_49 : decode cX9_alike 49 = .ok (.invokevirtual 300, 3) := by decide +kernel
theorem dX9_alike_52 : decode cX9_alike 52 = .ok (.istore 8, 2) := by decide +kernel
theorem dX9_alike_54 : decode cX9_alike 54 = .ok (.iload 8, 2) := by decide +kernel
theorem dX9_alike_56 : decode cX9_alike 56 = .ok (.iload 5, 2) := by decide +kernel
theorem dX9_alike_58 : decode cX9_alike 58 = .ok (.if_icmp .ne 10, 3) := by decide +kernel
theorem dX9_alike_61 : decode cX9_alike 61 = .ok (.iload 6, 2) := by decide +kernel
theorem dX9_alike_63 : decode cX9_alike 63 = .ok (.iconst 1, 1) := by decide +kernel
theorem dX9_alike_64 : decode cX9_alike 64 = .ok (.iadd, 1) := by decide +kernel
theorem dX9_alike_65 : decode cX9_alike 65 = .ok (.goto 4, 3) := by decide +kernel
theorem dX9_alike_68 : decode cX9_alike 68 = .ok (.iconst 1, 1) := by decide +kernel
theorem dX9_alike_69 : decode cX9_alike 69 = .ok (.istore 6, 2) := by decide +kernel
theorem dX9_alike_71 : decode cX9_alike 71 = .ok (.iload 8, 2) := by decide +kernel
theorem dX9_alike_73 : decode cX9_alike 73 = .ok (.istore 5, 2) := by decide +kernel
theorem dX9_alike_75 : decode cX9_alike 75 = .ok (.iload 6, 2) := by decide +kernel
theorem dX9_alike_77 : decode cX9_alike 77 = .ok (.iconst 1, 1) := by decide +kernel
theorem dX9_alike_78 : decode cX9_alike 78 = .ok (.if_icmp .le 17, 3) := by decide +kernel
theorem dX9_alike_81 : decode cX9_alike 81 = .ok (.iload_n 2, 1) := by decide +kernel
theorem dX9_alike_82 : decode cX9_alike 82 = .ok (.iload 6, 2) := by decide +kernel
theorem dX9_alike_84 : decode cX9_alike 84 = .ok (.iconst 2, 1) := by decide +kernel
theorem dX9_alike_85 : decode cX9_alike 85 = .ok (.if_icmp .ne 7, 3) := by decide +kernel
theorem dX9_alike_88 : decode cX9_alike 88 = .ok (.iconst 2, 1) := by decide +kernel
theorem dX9_alike_89 : decode cX9_alike 89 = .ok (.goto 4, 3) := by decide +kernel
theorem dX9_alike_92 : decode cX9_alike 92 = .ok (.iconst 1, 1) := by decide +kernel
theorem dX9_alike_93 : decode cX9_alike 93 = .ok (.iadd, 1) := by decide +kernel
theorem dX9_alike_94 : decode cX9_alike 94 = .ok (.istore_n 2, 1) := by decide +kernel
theorem dX9_alike_95 : decode cX9_alike 95 = .ok (.iload 6, 2) := by decide +kernel
theorem dX9_alike_97 : decode cX9_alike 97 = .ok (.iload_n 3, 1) := by decide +kernel
theorem dX9_alike_98 : decode cX9_alike 98 = .ok (.if_icmp .gt 16, 3) := by decide +kernel
theorem dX9_alike_101 : decode cX9_alike 101 = .ok (.iload 6, 2) := by decide +kernel
theorem dX9_alike_103 : decode cX9_alike 103 = .ok (.iload_n 3, 1) := by decide +kernel
theorem dX9_alike_104 : decode cX9_alike 104 = .ok (.if_icmp .ne 17, 3) := by decide +kernel
theorem dX9_alike_107 : decode cX9_alike 107 = .ok (.iload 8, 2) := by decide +kernel
theorem dX9_alike_109 : decode cX9_alike 109 = .ok (.iload 4, 2) := by decide +kernel
theorem dX9_alike_111 : decode cX9_alike 111 = .ok (.if_icmp .ge 10, 3) := by decide +kernel
theorem dX9_alike_114 : decode cX9_alike 114 = .ok (.iload 6, 2) := by decide +kernel
theorem dX9_alike_116 : decode cX9_alike 116 = .ok (.istore_n 3, 1) := by decide +kernel
theorem dX9_alike_117 : decode cX9_alike 117 = .ok (.iload 8, 2) := by decide +kernel
theorem dX9_alike_119 : decode cX9_alike 119 = .ok (.istore 4, 2) := by decide +kernel
theorem dX9_alike_121 : decode cX9_alike 121 = .ok (.iinc 7 1, 3) := by decide +kernel
theorem dX9_alike_124 : decode cX9_alike 124 = .ok (.goto (-96), 3) := by decide +kernel
theorem dX9_alike_127 : decode cX9_alike 127 = .ok (.iload_n 1, 1) := by decide +kernel
theorem dX9_alike_128 : decode cX9_alike 128 = .ok (.ifCond .ne 5, 3) := by decide +kernel
theorem dX9_alike_131 : decode cX9_alike 131 = .ok (.iload_n 2, 1) := by decide +kernel
theorem dX9_alike_132 : decode cX9_alike 132 = .ok (.ireturn, 1) := by decide +kernel
theorem dX9_alike_133 : decode cX9_alike 133 = .ok (.iload_n 1, 1) := by decide +kernel
theorem dX9_alike_134 : decode cX9_alike 134 = .ok (.iconst 1, 1) := by decide +kernel
theorem dX9_alike_135 : decode cX9_alike 135 = .ok (.if_icmp .ne 8, 3) := by decide +kernel
theorem dX9_alike_138 : decode cX9_alike 138 = .ok (.iload 4, 2) := by decide +kernel
theorem dX9_alike_140 : decode cX9_alike 140 = .ok (.goto 4, 3) := by decide +kernel
theorem dX9_alike_143 : decode cX9_alike 143 = .ok (.iload_n 3, 1) := by decide +kernel
theorem dX9_alike_144 : decode cX9_alike 144 = .ok (.ireturn, 1) := by decide +kernel
theorem dX9_inOrder_0 : decode cX9_inOrder 0 = .ok (.iload_n 1, 1) := by decide +kernel
theorem dX9_inOrder_1 : decode cX9_inOrder 1 = .ok (.ifCond .ge 5, 3) := by decide +kernel
theorem dX9_inOrder_4 : decode cX9_inOrder 4 = .ok (.iconst (-1), 1) := by decide +kernel
theorem dX9_inOrder_5 : decode cX9_inOrder 5 = .ok (.ireturn, 1) := by decide +kernel
theorem dX9_inOrder_6 : decode cX9_inOrder 6 = .ok (.iload_n 1, 1) := by decide +kernel
theorem dX9_inOrder_7 : decode cX9_inOrder 7 = .ok (.aload_n 0, 1) := by decide +kernel
theorem dX9_inOrder_8 : decode cX9_inOrder 8 = .ok (.getfield 33, 3) := by decide +kernel
theorem dX9_inOrder_11 : decode cX9_inOrder 11 = .ok (.getfield 77, 3) := by decide +kernel
theorem dX9_inOrder_14 : decode cX9_inOrder 14 = .ok (.getfield 81, 3) := by decide +kernel
theorem dX9_inOrder_17 : decode cX9_inOrder 17 = .ok (.if_icmp .ge 17, 3) := by decide +kernel
theorem dX9_inOrder_20 : decode cX9_inOrder 20 = .ok (.aload_n 0, 1) := by decide +kernel
theorem dX9_inOrder_21 : decode cX9_inOrder 21 = .ok (.getfield 33, 3) := by decide +kernel
theorem dX9_inOrder_24 : decode cX9_inOrder 24 = .ok (.getfield 77, 3) := by decide +kernel
theorem dX9_inOrder_27 : decode cX9_inOrder 27 = .ok (.iload_n 1, 1) := by decide +kernel
theorem dX9_inOrder_28 : decode cX9_inOrder 28 = .ok (.invokevirtual 326, 3) := by decide +kernel
theorem dX9_inOrder_31 : decode cX9_inOrder 31 = .ok (.goto 5, 3) := by decide +kernel
theorem dX9_inOrder_34 : decode cX9_inOrder 34 = .ok (.bipush (-4), 2) := by decide +kernel
theorem dX9_inOrder_36 : decode cX9_inOrder 36 = .ok (.ireturn, 1) := by decide +kernel
theorem dX9_between_0 : decode cX9_between 0 = .ok (.iload_n 1, 1) := by decide +kernel
theorem dX9_between_1 : decode cX9_between 1 = .ok (.invokestatic 149, 3) := by decide +kernel
theorem dX9_between_4 : decode cX9_between 4 = .ok (.ifCond .eq 15, 3) := by decide +kernel
theorem dX9_between_7 : decode cX9_between 7 = .ok (.iload_n 2, 1) := by decide +kernel
theorem dX9_between_8 : decode cX9_between 8 = .ok (.invokestatic 149, 3) := by decide +kernel
theorem dX9_between_11 : decode cX9_between 11 = .ok (.ifCond .eq 8, 3) := by decide +kernel
theorem dX9_between_14 : decode cX9_between 14 = .ok (.iload_n 1, 1) := by decide +kernel
theorem dX9_between_15 : decode cX9_between 15 = .ok (.iload_n 2, 1) := by decide +kernel
theorem dX9_between_16 : decode cX9_between 16 = .ok (.if_icmp .le 5, 3) := by decide +kernel
theorem dX9_between_19 : decode cX9_between 19 = .ok (.iconst (-1), 1) := by decide +kernel
theorem dX9_between_20 : decode cX9_between 20 = .ok (.ireturn, 1) := by decide +kernel
theorem dX9_between_21 : decode cX9_between 21 = .ok (.iconst 0, 1) := by decide +kernel
theorem dX9_between_22 : decode cX9_between 22 = .ok (.istore_n 3, 1) := by decide +kernel
theorem dX9_between_23 : decode cX9_between 23 = .ok (.iconst 0, 1) := by decide +kernel
theorem dX9_between_24 : decode cX9_between 24 = .ok (.istore 4, 2) := by decide +kernel
theorem dX9_between_26 : decode cX9_between 26 = .ok (.iload 4, 2) := by decide +kernel
theorem dX9_between_28 : decode cX9_between 28 = .ok (.aload_n 0, 1) := by decide +kernel
theorem dX9_between_29 : decode cX9_between 29 = .ok (.getfield 33, 3) := by decide +kernel
theorem dX9_between_32 : decode cX9_between 32 = .ok (.getfield 77, 3) := by decide +kernel
theorem dX9_between_35 : decode cX9_between 35 = .ok (.getfield 81, 3) := by decide +kernel
theorem dX9_between_38 : decode cX9_between 38 = .ok (.if_icmp .ge 32, 3) := by decide +kernel
theorem dX9_between_41 : decode cX9_between 41 = .ok (.aload_n 0, 1) := by decide +kernel
theorem dX9_between_42 : decode cX9_between 42 = .ok (.getfield 33, 3) := by decide +kernel
theorem dX9_between_45 : decode cX9_between 45 = .ok (.getfield 77, 3) := by decide +kernel
theorem dX9_between_48 : decode cX9_between 48 = .ok (.iload 4, 2) := by decide +kernel
theorem dX9_between_50 : decode cX9_between 50 = .ok (.invokevirtual 326, 3) := by decide +kernel
theorem dX9_between_53 : decode cX9_between 53 = .ok (.iload_n 1, 1) := by decide +kernel
theorem dX9_between_54 : decode cX9_between 54 = .ok (.iload_n 2, 1) := by decide +kernel
theorem dX9_between_55 : decode cX9_between 55 = .ok (.invokestatic 63, 3) := by decide +kernel
theorem dX9_between_58 : decode cX9_between 58 = .ok (.ifCond .eq 6, 3) := by decide +kernel
theorem dX9_between_61 : decode cX9_between 61 = .ok (.iinc 3 1, 3) := by decide +kernel
theorem dX9_between_64 : decode cX9_between 64 = .ok (.iinc 4 1, 3) := by decide +kernel
theorem dX9_between_67 : decode cX9_between 67 = .ok (.goto (-41), 3) := by decide +kernel
theorem dX9_between_70 : decode cX9_between 70 = .ok (.iload_n 3, 1) := by decide +kernel
theorem dX9_between_71 : decode cX9_between 71 = .ok (.ireturn, 1) := by decide +kernel
theorem dX9_bits_0 : decode cX9_bits 0 = .ok (.iload_n 1, 1) := by decide +kernel
theorem dX9_bits_1 : decode cX9_bits 1 = .ok (.invokestatic 149, 3) := by decide +kernel
theorem dX9_bits_4 : decode cX9_bits 4 = .ok (.ifCond .eq 23, 3) := by decide +kernel
theorem dX9_bits_7 : decode cX9_bits 7 = .ok (.iload_n 2, 1) := by decide +kernel
theorem dX9_bits_8 : decode cX9_bits 8 = .ok (.iconst 0, 1) := by decide +kernel
theorem dX9_bits_9 : decode cX9_bits 9 = .ok (.bipush 15, 2) := by decide +kernel
theorem dX9_bits_11 : decode cX9_bits 11 = .ok (.invokestatic 63, 3) := by decide +kernel
theorem dX9_bits_14 : decode cX9_bits 14 = .ok (.ifCond .eq 13, 3) := by decide +kernel
theorem dX9_bits_17 : decode cX9_bits 17 = .ok (.iload_n 3, 1) := by decide +kernel
theorem dX9_bits_18 : decode cX9_bits 18 = .ok (.iconst 0, 1) := by decide +kernel
theorem dX9_bits_19 : decode cX9_bits 19 = .ok (.bipush 16, 2) := by decide +kernel
theorem dX9_bits_21 : decode cX9_bits 21 = .ok (.invokestatic 63, 3) := by decide +kernel
theorem dX9_bits_24 : decode cX9_bits 24 = .ok (.ifCond .ne 5, 3) := by decide +kernel
theorem dX9_bits_27 : decode cX9_bits 27 = .ok (.iconst (-1), 1) := by decide +kernel
theorem dX9_bits_28 : decode cX9_bits 28 = .ok (.ireturn, 1) := by decide +kernel
theorem dX9_bits_29 : decode cX9_bits 29 = .ok (.iload_n 3, 1) := by decide +kernel
theorem dX9_bits_30 : decode cX9_bits 30 = .ok (.ifCond .ne 7, 3) := by decide +kernel
theorem dX9_bits_33 : decode cX9_bits 33 = .ok (.iconst 0, 1) := by decide +kernel
theorem dX9_bits_34 : decode cX9_bits 34 = .ok (.goto 8, 3) := by decide +kernel
theorem dX9_bits_37 : decode cX9_bits 37 = .ok (.iconst 1, 1) := by decide +kernel
theorem dX9_bits_38 : decode cX9_bits 38 = .ok (.iload_n 3, 1) := by decide +kernel
theorem dX9_bits_39 : decode cX9_bits 39 = .ok (.iconst 1, 1) := by decide +kernel
theorem dX9_bits_40 : decode cX9_bits 40 = .ok (.isub, 1) := by decide +kernel
theorem dX9_bits_41 : decode cX9_bits 41 = .ok (.ishl, 1) := by decide +kernel
theorem dX9_bits_42 : decode cX9_bits 42 = .ok (.istore 4, 2) := by decide +kernel
theorem dX9_bits_44 : decode cX9_bits 44 = .ok (.iconst 0, 1) := by decide +kernel
theorem dX9_bits_45 : decode cX9_bits 45 = .ok (.istore 5, 2) := by decide +kernel
theorem dX9_bits_47 : decode cX9_bits 47 = .ok (.iconst 0, 1) := by decide +kernel
theorem dX9_bits_48 : decode cX9_bits 48 = .ok (.istore 6, 2) := by decide +kernel
theorem dX9_bits_50 : decode cX9_bits 50 = .ok (.iload 6, 2) := by decide +kernel
theorem dX9_bits_52 : decode cX9_bits 52 = .ok (.sipush 256, 3) := by decide +kernel
theorem dX9_bits_55 : decode cX9_bits 55 = .ok (.if_icmp .ge 67, 3) := by decide +kernel
theorem dX9_bits_58 : decode cX9_bits 58 = .ok (.iload_n 1, 1) := by decide +kernel
theorem dX9_bits_59 : decode cX9_bits 59 = .ok (.iload 6, 2) := by decide +kernel
theorem dX9_bits_61 : decode cX9_bits 61 = .ok (.iadd, 1) := by decide +kernel
theorem dX9_bits_62 : decode cX9_bits 62 = .ok (.ldc 148, 2) := by decide +kernel
theorem dX9_bits_64 : decode cX9_bits 64 = .ok (.iand, 1) := by decide +kernel
theorem dX9_bits_65 : decode cX9_bits 65 = .ok (.istore 7, 2) := by decide +kernel
theorem dX9_bits_67 : decode cX9_bits 67 = .ok (.aload_n 0, 1) := by decide +kernel
theorem dX9_bits_68 : decode cX9_bits 68 = .ok (.getfield 33, 3) := by decide +kernel
theorem dX9_bits_71 : decode cX9_bits 71 = .ok (.getfield 88, 3) := by decide +kernel
theorem dX9_bits_74 : decode cX9_bits 74 = .ok (.iload 7, 2) := by decide +kernel
theorem dX9_bits_76 : decode cX9_bits 76 = .ok (.invokevirtual 207, 3) := by decide +kernel
theorem dX9_bits_79 : decode cX9_bits 79 = .ok (.istore 8, 2) := by decide +kernel
theorem dX9_bits_81 : decode cX9_bits 81 = .ok (.iload_n 3, 1) := by decide +kernel
theorem dX9_bits_82 : decode cX9_bits 82 = .ok (.ifCond .le 23, 3) := by decide +kernel
theorem dX9_bits_85 : decode cX9_bits 85 = .ok (.iload 8, 2) := by decide +kernel
theorem dX9_bits_87 : decode cX9_bits 87 = .ok (.aload_n 0, 1) := by decide +kernel
theorem dX9_bits_88 : decode cX9_bits 88 = .ok (.getfield 33, 3) := by decide +kernel
theorem dX9_bits_91 : decode cX9_bits 91 = .ok (.getfield 88, 3) := by decide +kernel
theorem dX9_bits_94 : decode cX9_bits 94 = .ok (.iload 7, 2) := by decide +kernel
theorem dX9_bits_96 : decode cX9_bits 96 = .ok (.iload 4, 2) := by decide +kernel
theorem dX9_bits_98 : decode cX9_bits 98 = .ok (.ixor, 1) := by decide +kernel
theorem dX9_bits_99 : decode cX9_bits 99 = .ok (.invokevirtual 207, 3) := by decide +kernel
theorem dX9_bits_102 : decode cX9_bits 102 = .ok (.ixor, 1) := by decide +kernel
theorem dX9_bits_103 : decode cX9_bits 103 = .ok (.istore 8, 2) := by decide +kernel
theorem dX9_bits_105 : decode cX9_bits 105 = .ok (.iload 5, 2) := by decide +kernel
theorem dX9_bits_107 : decode cX9_bits 107 = .ok (.iload 8, 2) := by decide +kernel
theorem dX9_bits_109 : decode cX9_bits 109 = .ok (.iload_n 2, 1) := by decide +kernel
theorem dX9_bits_110 : decode cX9_bits 110 = .ok (.ishr, 1) := by decide +kernel
theorem dX9_bits_111 : decode cX9_bits 111 = .ok (.iconst 1, 1) := by decide +kernel
theorem dX9_bits_112 : decode cX9_bits 112 = .ok (.iand, 1) := by decide +kernel
theorem dX9_bits_113 : decode cX9_bits 113 = .ok (.iadd, 1) := by decide +kernel
theorem dX9_bits_114 : decode cX9_bits 114 = .ok (.istore 5, 2) := by decide +kernel
theorem dX9_bits_116 : decode cX9_bits 116 = .ok (.iinc 6 1, 3) := by decide +kernel
theorem dX9_bits_119 : decode cX9_bits 119 = .ok (.goto (-69), 3) := by decide +kernel
theorem dX9_bits_122 : decode cX9_bits 122 = .ok (.iload 5, 2) := by decide +kernel
theorem dX9_bits_124 : decode cX9_bits 124 = .ok (.ireturn, 1) := by decide +kernel
theorem dX9_scan_0 : decode cX9_scan 0 = .ok (.aload_n 0, 1) := by decide +kernel
theorem dX9_scan_1 : decode cX9_scan 1 = .ok (.getfield 33, 3) := by decide +kernel
theorem dX9_scan_4 : decode cX9_scan 4 = .ok (.getfield 348, 3) := by decide +kernel
theorem dX9_scan_7 : decode cX9_scan 7 = .ok (.invokevirtual 352, 3) := by decide +kernel
theorem dX9_scan_10 : decode cX9_scan 10 = .ok (.istore_n 1, 1) := by decide +kernel
theorem dX9_scan_11 : decode cX9_scan 11 = .ok (.iload_n 1, 1) := by decide +kernel
theorem dX9_scan_12 : decode cX9_scan 12 = .ok (.iconst (-1), 1) := by decide +kernel
theorem dX9_scan_13 : decode cX9_scan 13 = .ok (.if_icmp .ne 6, 3) := by decide +kernel
theorem dX9_scan_16 : decode cX9_scan 16 = .ok (.bipush (-3), 2) := by decide +kernel
theorem dX9_scan_18 : decode cX9_scan 18 = .ok (.ireturn, 1) := by decide +kernel
theorem dX9_scan_19 : decode cX9_scan 19 = .ok (.aload_n 0, 1) := by decide +kernel
theorem dX9_scan_20 : decode cX9_scan 20 = .ok (.getfield 33, 3) := by decide +kernel
theorem dX9_scan_23 : decode cX9_scan 23 = .ok (.getfield 348, 3) := by decide +kernel
theorem dX9_scan_26 : decode cX9_scan 26 = .ok (.iload_n 1, 1) := by decide +kernel
theorem dX9_scan_27 : decode cX9_scan 27 = .ok (.invokevirtual 357, 3) := by decide +kernel
theorem dX9_scan_30 : decode cX9_scan 30 = .ok (.iload_n 1, 1) := by decide +kernel
theorem dX9_scan_31 : decode cX9_scan 31 = .ok (.ireturn, 1) := by decide +kernel
theorem dX9_tell_0 : decode cX9_tell 0 = .ok (.aload_n 0, 1) := by decide +kernel
theorem dX9_tell_1 : decode cX9_tell 1 = .ok (.getfield 33, 3) := by decide +kernel
theorem dX9_tell_4 : decode cX9_tell 4 = .ok (.getfield 348, 3) := by decide +kernel
theorem dX9_tell_7 : decode cX9_tell 7 = .ok (.iload_n 1, 1) := by decide +kernel
theorem dX9_tell_8 : decode cX9_tell 8 = .ok (.invokevirtual 360, 3) := by decide +kernel
theorem dX9_tell_11 : decode cX9_tell 11 = .ok (.ifCond .ne 5, 3) := by decide +kernel
theorem dX9_tell_14 : decode cX9_tell 14 = .ok (.iconst (-1), 1) := by decide +kernel
theorem dX9_tell_15 : decode cX9_tell 15 = .ok (.ireturn, 1) := by decide +kernel
theorem dX9_tell_16 : decode cX9_tell 16 = .ok (.aload_n 0, 1) := by decide +kernel
theorem dX9_tell_17 : decode cX9_tell 17 = .ok (.getfield 33, 3) := by decide +kernel
theorem dX9_tell_20 : decode cX9_tell 20 = .ok (.aload_n 0, 1) := by decide +kernel
theorem dX9_tell_21 : decode cX9_tell 21 = .ok (.getfield 33, 3) := by decide +kernel
theorem dX9_tell_24 : decode cX9_tell 24 = .ok (.getfield 348, 3) := by decide +kernel
theorem dX9_tell_27 : decode cX9_tell 27 = .ok (.getfield 363, 3) := by decide +kernel
theorem dX9_tell_30 : decode cX9_tell 30 = .ok (.iload_n 1, 1) := by decide +kernel
theorem dX9_tell_31 : decode cX9_tell 31 = .ok (.iaload, 1) := by decide +kernel
theorem dX9_tell_32 : decode cX9_tell 32 = .ok (.invokevirtual 366, 3) := by decide +kernel
theorem dX9_tell_35 : decode cX9_tell 35 = .ok (.istore_n 2, 1) := by decide +kernel
theorem dX9_tell_36 : decode cX9_tell 36 = .ok (.iload_n 2, 1) := by decide +kernel
theorem dX9_tell_37 : decode cX9_tell 37 = .ok (.aload_n 0, 1) := by decide +kernel
theorem dX9_tell_38 : decode cX9_tell 38 = .ok (.getfield 33, 3) := by decide +kernel
theorem dX9_tell_41 : decode cX9_tell 41 = .ok (.getfield 77, 3) := by decide +kernel
theorem dX9_tell_44 : decode cX9_tell 44 = .ok (.getfield 81, 3) := by decide +kernel
theorem dX9_tell_47 : decode cX9_tell 47 = .ok (.if_icmp .lt 6, 3) := by decide +kernel
theorem dX9_tell_50 : decode cX9_tell 50 = .ok (.bipush (-2), 2) := by decide +kernel
theorem dX9_tell_52 : decode cX9_tell 52 = .ok (.ireturn, 1) := by decide +kernel
theorem dX9_tell_53 : decode cX9_tell 53 = .ok (.aload_n 0, 1) := by decide +kernel
theorem dX9_tell_54 : decode cX9_tell 54 = .ok (.getfield 33, 3) := by decide +kernel
theorem dX9_tell_57 : decode cX9_tell 57 = .ok (.getfield 77, 3) := by decide +kernel
theorem dX9_tell_60 : decode cX9_tell 60 = .ok (.iload_n 2, 1) := by decide +kernel
theorem dX9_tell_61 : decode cX9_tell 61 = .ok (.invokevirtual 326, 3) := by decide +kernel
theorem dX9_tell_64 : decode cX9_tell 64 = .ok (.istore_n 3, 1) := by decide +kernel
theorem dX9_tell_65 : decode cX9_tell 65 = .ok (.aload_n 0, 1) := by decide +kernel
theorem dX9_tell_66 : decode cX9_tell 66 = .ok (.getfield 33, 3) := by decide +kernel
theorem dX9_tell_69 : decode cX9_tell 69 = .ok (.getfield 348, 3) := by decide +kernel
theorem dX9_tell_72 : decode cX9_tell 72 = .ok (.getfield 363, 3) := by decide +kernel
theorem dX9_tell_75 : decode cX9_tell 75 = .ok (.iload_n 1, 1) := by decide +kernel
theorem dX9_tell_76 : decode cX9_tell 76 = .ok (.iload_n 3, 1) := by decide +kernel
theorem dX9_tell_77 : decode cX9_tell 77 = .ok (.iastore, 1) := by decide +kernel
theorem dX9_tell_78 : decode cX9_tell 78 = .ok (.aload_n 0, 1) := by decide +kernel
theorem dX9_tell_79 : decode cX9_tell 79 = .ok (.getfield 33, 3) := by decide +kernel
theorem dX9_tell_82 : decode cX9_tell 82 = .ok (.getfield 348, 3) := by decide +kernel
theorem dX9_tell_85 : decode cX9_tell 85 = .ok (.getfield 369, 3) := by decide +kernel
theorem dX9_tell_88 : decode cX9_tell 88 = .ok (.iload_n 1, 1) := by decide +kernel
theorem dX9_tell_89 : decode cX9_tell 89 = .ok (.dup2, 1) := by decide +kernel
theorem dX9_tell_90 : decode cX9_tell 90 = .ok (.iaload, 1) := by decide +kernel
theorem dX9_tell_91 : decode cX9_tell 91 = .ok (.iconst 1, 1) := by decide +kernel
theorem dX9_tell_92 : decode cX9_tell 92 = .ok (.iadd, 1) := by decide +kernel
theorem dX9_tell_93 : decode cX9_tell 93 = .ok (.iastore, 1) := by decide +kernel
theorem dX9_tell_94 : decode cX9_tell 94 = .ok (.iload_n 3, 1) := by decide +kernel
theorem dX9_tell_95 : decode cX9_tell 95 = .ok (.ireturn, 1) := by decide +kernel
theorem dX9_scanIs_0 : decode cX9_scanIs 0 = .ok (.aload_n 0, 1) := by decide +kernel
theorem dX9_scanIs_1 : decode cX9_scanIs 1 = .ok (.getfield 33, 3) := by decide +kernel
theorem dX9_scanIs_4 : decode cX9_scanIs 4 = .ok (.getfield 348, 3) := by decide +kernel
theorem dX9_scanIs_7 : decode cX9_scanIs 7 = .ok (.iload_n 1, 1) := by decide +kernel
theorem dX9_scanIs_8 : decode cX9_scanIs 8 = .ok (.invokevirtual 360, 3) := by decide +kernel
theorem dX9_scanIs_11 : decode cX9_scanIs 11 = .ok (.ifCond .ne 5, 3) := by decide +kernel
theorem dX9_scanIs_14 : decode cX9_scanIs 14 = .ok (.iconst (-1), 1) := by decide +kernel
theorem dX9_scanIs_15 : decode cX9_scanIs 15 = .ok (.ireturn, 1) := by decide +kernel
theorem dX9_scanIs_16 : decode cX9_scanIs 16 = .ok (.aload_n 0, 1) := by decide +kernel
theorem dX9_scanIs_17 : decode cX9_scanIs 17 = .ok (.getfield 33, 3) := by decide +kernel
theorem dX9_scanIs_20 : decode cX9_scanIs 20 = .ok (.getfield 348, 3) := by decide +kernel
theorem dX9_scanIs_23 : decode cX9_scanIs 23 = .ok (.getfield 363, 3) := by decide +kernel
theorem dX9_scanIs_26 : decode cX9_scanIs 26 = .ok (.iload_n 1, 1) := by decide +kernel
theorem dX9_scanIs_27 : decode cX9_scanIs 27 = .ok (.iaload, 1) := by decide +kernel
theorem dX9_scanIs_28 : decode cX9_scanIs 28 = .ok (.istore_n 3, 1) := by decide +kernel
theorem dX9_scanIs_29 : decode cX9_scanIs 29 = .ok (.iload_n 2, 1) := by decide +kernel
theorem dX9_scanIs_30 : decode cX9_scanIs 30 = .ok (.tableswitch 71 0 2 #[26, 39, 59], 26) := by decide +kernel
theorem dX9_scanIs_56 : decode cX9_scanIs 56 = .ok (.aload_n 0, 1) := by decide +kernel
theorem dX9_scanIs_57 : decode cX9_scanIs 57 = .ok (.getfield 33, 3) := by decide +kernel
theorem dX9_scanIs_60 : decode cX9_scanIs 60 = .ok (.getfield 348, 3) := by decide +kernel
theorem dX9_scanIs_63 : decode cX9_scanIs 63 = .ok (.getfield 369, 3) := by decide +kernel
theorem dX9_scanIs_66 : decode cX9_scanIs 66 = .ok (.iload_n 1, 1) := by decide +kernel
theorem dX9_scanIs_67 : decode cX9_scanIs 67 = .ok (.iaload, 1) := by decide +kernel
theorem dX9_scanIs_68 : decode cX9_scanIs 68 = .ok (.ireturn, 1) := by decide +kernel
theorem dX9_scanIs_69 : decode cX9_scanIs 69 = .ok (.aload_n 0, 1) := by decide +kernel
theorem dX9_scanIs_70 : decode cX9_scanIs 70 = .ok (.getfield 33, 3) := by decide +kernel
theorem dX9_scanIs_73 : decode cX9_scanIs 73 = .ok (.getfield 77, 3) := by decide +kernel
theorem dX9_scanIs_76 : decode cX9_scanIs 76 = .ok (.getfield 81, 3) := by decide +kernel
theorem dX9_scanIs_79 : decode cX9_scanIs 79 = .ok (.aload_n 0, 1) := by decide +kernel
theorem dX9_scanIs_80 : decode cX9_scanIs 80 = .ok (.getfield 33, 3) := by decide +kernel
theorem dX9_scanIs_83 : decode cX9_scanIs 83 = .ok (.iload_n 3, 1) := by decide +kernel
theorem dX9_scanIs_84 : decode cX9_scanIs 84 = .ok (.invokevirtual 366, 3) := by decide +kernel
theorem dX9_scanIs_87 : decode cX9_scanIs 87 = .ok (.isub, 1) := by decide +kernel
theorem dX9_scanIs_88 : decode cX9_scanIs 88 = .ok (.ireturn, 1) := by decide +kernel
theorem dX9_scanIs_89 : decode cX9_scanIs 89 = .ok (.iload_n 3, 1) := by decide +kernel
theorem dX9_scanIs_90 : decode cX9_scanIs 90 = .ok (.iconst (-1), 1) := by decide +kernel
theorem dX9_scanIs_91 : decode cX9_scanIs 91 = .ok (.if_icmp .ne 8, 3) := by decide +kernel
theorem dX9_scanIs_94 : decode cX9_scanIs 94 = .ok (.bipush (-2), 2) := by decide +kernel
theorem dX9_scanIs_96 : decode cX9_scanIs 96 = .ok (.goto 4, 3) := by decide +kernel
theorem dX9_scanIs_99 : decode cX9_scanIs 99 = .ok (.iload_n 3, 1) := by decide +kernel
theorem dX9_scanIs_100 : decode cX9_scanIs 100 = .ok (.ireturn, 1) := by decide +kernel
theorem dX9_scanIs_101 : decode cX9_scanIs 101 = .ok (.iconst (-1), 1) := by decide +kernel
theorem dX9_scanIs_102 : decode cX9_scanIs 102 = .ok (.ireturn, 1) := by decide +kernel
theorem dX9_reach_0 : decode cX9_reach 0 = .ok (.aload_n 0, 1) := by decide +kernel
theorem dX9_reach_1 : decode cX9_reach 1 = .ok (.getfield 33, 3) := by decide +kernel
theorem dX9_reach_4 : decode cX9_reach 4 = .ok (.getfield 348, 3) := by decide +kernel
theorem dX9_reach_7 : decode cX9_reach 7 = .ok (.iload_n 1, 1) := by decide +kernel
theorem dX9_reach_8 : decode cX9_reach 8 = .ok (.invokevirtual 360, 3) := by decide +kernel
theorem dX9_reach_11 : decode cX9_reach 11 = .ok (.ifCond .ne 5, 3) := by decide +kernel
theorem dX9_reach_14 : decode cX9_reach 14 = .ok (.iconst (-1), 1) := by decide +kernel
theorem dX9_reach_15 : decode cX9_reach 15 = .ok (.ireturn, 1) := by decide +kernel
theorem dX9_reach_16 : decode cX9_reach 16 = .ok (.aload_n 0, 1) := by decide +kernel
theorem dX9_reach_17 : decode cX9_reach 17 = .ok (.getfield 43, 3) := by decide +kernel
theorem dX9_reach_20 : decode cX9_reach 20 = .ok (.iconst 0, 1) := by decide +kernel
theorem dX9_reach_21 : decode cX9_reach 21 = .ok (.invokestatic 292, 3) := by decide +kernel
theorem dX9_reach_24 : decode cX9_reach 24 = .ok (.iconst 0, 1) := by decide +kernel
theorem dX9_reach_25 : decode cX9_reach 25 = .ok (.istore_n 2, 1) := by decide +kernel
theorem dX9_reach_26 : decode cX9_reach 26 = .ok (.aload_n 0, 1) := by decide +kernel
theorem dX9_reach_27 : decode cX9_reach 27 = .ok (.getfield 33, 3) := by decide +kernel
theorem dX9_reach_30 : decode cX9_reach 30 = .ok (.aload_n 0, 1) := by decide +kernel
theorem dX9_reach_31 : decode cX9_reach 31 = .ok (.getfield 33, 3) := by decide +kernel
theorem dX9_reach_34 : decode cX9_reach 34 = .ok (.getfield 348, 3) := by decide +kernel
theorem dX9_reach_37 : decode cX9_reach 37 = .ok (.getfield 363, 3) := by decide +kernel
theorem dX9_reach_40 : decode cX9_reach 40 = .ok (.iload_n 1, 1) := by decide +kernel
theorem dX9_reach_41 : decode cX9_reach 41 = .ok (.iaload, 1) := by decide +kernel
theorem dX9_reach_42 : decode cX9_reach 42 = .ok (.invokevirtual 366, 3) := by decide +kernel
theorem dX9_reach_45 : decode cX9_reach 45 = .ok (.istore_n 3, 1) := by decide +kernel
theorem dX9_reach_46 : decode cX9_reach 46 = .ok (.iload_n 3, 1) := by decide +kernel
theorem dX9_reach_47 : decode cX9_reach 47 = .ok (.aload_n 0, 1) := by decide +kernel
theorem dX9_reach_48 : decode cX9_reach 48 = .ok (.getfield 33, 3) := by decide +kernel
theorem dX9_reach_51 : decode cX9_reach 51 = .ok (.getfield 77, 3) := by decide +kernel
theorem dX9_reach_54 : decode cX9_reach 54 = .ok (.getfield 81, 3) := by decide +kernel
theorem dX9_reach_57 : decode cX9_reach 57 = .ok (.if_icmp .ge 47, 3) := by decide +kernel
theorem dX9_reach_60 : decode cX9_reach 60 = .ok (.aload_n 0, 1) := by decide +kernel
theorem dX9_reach_61 : decode cX9_reach 61 = .ok (.getfield 33, 3) := by decide +kernel
theorem dX9_reach_64 : decode cX9_reach 64 = .ok (.aload_n 0, 1) := by decide +kernel
theorem dX9_reach_65 : decode cX9_reach 65 = .ok (.getfield 33, 3) := by decide +kernel
theorem dX9_reach_68 : decode cX9_reach 68 = .ok (.iload_n 3, 1) := by decide +kernel
theorem dX9_reach_69 : decode cX9_reach 69 = .ok (.invokevirtual 300, 3) := by decide +kernel
theorem dX9_reach_72 : decode cX9_reach 72 = .ok (.invokevirtual 210, 3) := by decide +kernel
theorem dX9_reach_75 : decode cX9_reach 75 = .ok (.istore 4, 2) := by decide +kernel
theorem dX9_reach_77 : decode cX9_reach 77 = .ok (.aload_n 0, 1) := by decide +kernel
theorem dX9_reach_78 : decode cX9_reach 78 = .ok (.getfield 43, 3) := by decide +kernel
theorem dX9_reach_81 : decode cX9_reach 81 = .ok (.iload 4, 2) := by decide +kernel
theorem dX9_reach_83 : decode cX9_reach 83 = .ok (.iaload, 1) := by decide +kernel
theorem dX9_reach_84 : decode cX9_reach 84 = .ok (.ifCond .ne 14, 3) := by decide +kernel
theorem dX9_reach_87 : decode cX9_reach 87 = .ok (.aload_n 0, 1) := by decide +kernel
theorem dX9_reach_88 : decode cX9_reach 88 = .ok (.getfield 43, 3) := by decide +kernel
theorem dX9_reach_91 : decode cX9_reach 91 = .ok (.iload 4, 2) := by decide +kernel
theorem dX9_reach_93 : decode cX9_reach 93 = .ok (.iconst 1, 1) := by decide +kernel
theorem dX9_reach_94 : decode cX9_reach 94 = .ok (.iastore, 1) := by decide +kernel
theorem dX9_reach_95 : decode cX9_reach 95 = .ok (.iinc 2 1, 3) := by decide +kernel
theorem dX9_reach_98 : decode cX9_reach 98 = .ok (.iinc 3 1, 3) := by decide +kernel
theorem dX9_reach_101 : decode cX9_reach 101 = .ok (.goto (-55), 3) := by decide +kernel
theorem dX9_reach_104 : decode cX9_reach 104 = .ok (.iload_n 2, 1) := by decide +kernel
theorem dX9_reach_105 : decode cX9_reach 105 = .ok (.ireturn, 1) := by decide +kernel
theorem dX9_ends_0 : decode cX9_ends 0 = .ok (.aload_n 0, 1) := by decide +kernel
theorem dX9_ends_1 : decode cX9_ends 1 = .ok (.getfield 33, 3) := by decide +kernel
theorem dX9_ends_4 : decode cX9_ends 4 = .ok (.getfield 348, 3) := by decide +kernel
theorem dX9_ends_7 : decode cX9_ends 7 = .ok (.iload_n 1, 1) := by decide +kernel
theorem dX9_ends_8 : decode cX9_ends 8 = .ok (.invokevirtual 360, 3) := by decide +kernel
theorem dX9_ends_11 : decode cX9_ends 11 = .ok (.ifCond .ne 5, 3) := by decide +kernel
theorem dX9_ends_14 : decode cX9_ends 14 = .ok (.iconst (-1), 1) := by decide +kernel
theorem dX9_ends_15 : decode cX9_ends 15 = .ok (.ireturn, 1) := by decide +kernel
theorem dX9_ends_16 : decode cX9_ends 16 = .ok (.aload_n 0, 1) := by decide +kernel
theorem dX9_ends_17 : decode cX9_ends 17 = .ok (.getfield 33, 3) := by decide +kernel
theorem dX9_ends_20 : decode cX9_ends 20 = .ok (.getfield 348, 3) := by decide +kernel
theorem dX9_ends_23 : decode cX9_ends 23 = .ok (.getfield 369, 3) := by decide +kernel
theorem dX9_ends_26 : decode cX9_ends 26 = .ok (.iload_n 1, 1) := by decide +kernel
theorem dX9_ends_27 : decode cX9_ends 27 = .ok (.iaload, 1) := by decide +kernel
theorem dX9_ends_28 : decode cX9_ends 28 = .ok (.istore_n 2, 1) := by decide +kernel
theorem dX9_ends_29 : decode cX9_ends 29 = .ok (.aload_n 0, 1) := by decide +kernel
theorem dX9_ends_30 : decode cX9_ends 30 = .ok (.getfield 33, 3) := by decide +kernel
theorem dX9_ends_33 : decode cX9_ends 33 = .ok (.getfield 348, 3) := by decide +kernel
theorem dX9_ends_36 : decode cX9_ends 36 = .ok (.iload_n 1, 1) := by decide +kernel
theorem dX9_ends_37 : decode cX9_ends 37 = .ok (.invokevirtual 372, 3) := by decide +kernel
theorem dX9_ends_40 : decode cX9_ends 40 = .ok (.iload_n 2, 1) := by decide +kernel
theorem dX9_ends_41 : decode cX9_ends 41 = .ok (.ireturn, 1) := by decide +kernel
theorem dX9_seed_0 : decode cX9_seed 0 = .ok (.iload_n 1, 1) := by decide +kernel
theorem dX9_seed_1 : decode cX9_seed 1 = .ok (.iconst 0, 1) := by decide +kernel
theorem dX9_seed_2 : decode cX9_seed 2 = .ok (.ldc 148, 2) := by decide +kernel
theorem dX9_seed_4 : decode cX9_seed 4 = .ok (.invokestatic 63, 3) := by decide +kernel
theorem dX9_seed_7 : decode cX9_seed 7 = .ok (.ifCond .ne 5, 3) := by decide +kernel
theorem dX9_seed_10 : decode cX9_seed 10 = .ok (.iconst 0, 1) := by decide +kernel
theorem dX9_seed_11 : decode cX9_seed 11 = .ok (.ireturn, 1) := by decide +kernel
theorem dX9_seed_12 : decode cX9_seed 12 = .ok (.aload_n 0, 1) := by decide +kernel
theorem dX9_seed_13 : decode cX9_seed 13 = .ok (.getfield 33, 3) := by decide +kernel
theorem dX9_seed_16 : decode cX9_seed 16 = .ok (.iload_n 1, 1) := by decide +kernel
theorem dX9_seed_17 : decode cX9_seed 17 = .ok (.putfield 375, 3) := by decide +kernel
theorem dX9_seed_20 : decode cX9_seed 20 = .ok (.iconst 1, 1) := by decide +kernel
theorem dX9_seed_21 : decode cX9_seed 21 = .ok (.ireturn, 1) := by decide +kernel
theorem dX9_keep_0 : decode cX9_keep 0 = .ok (.aload_n 0, 1) := by decide +kernel
theorem dX9_keep_1 : decode cX9_keep 1 = .ok (.getfield 37, 3) := by decide +kernel
theorem dX9_keep_4 : decode cX9_keep 4 = .ok (.aload_n 0, 1) := by decide +kernel
theorem dX9_keep_5 : decode cX9_keep 5 = .ok (.getfield 33, 3) := by decide +kernel
theorem dX9_keep_8 : decode cX9_keep 8 = .ok (.invokevirtual 313, 3) := by decide +kernel
theorem dX9_keep_11 : decode cX9_keep 11 = .ok (.aload_n 0, 1) := by decide +kernel
theorem dX9_keep_12 : decode cX9_keep 12 = .ok (.iconst 1, 1) := by decide +kernel
theorem dX9_keep_13 : decode cX9_keep 13 = .ok (.putfield 47, 3) := by decide +kernel
theorem dX9_keep_16 : decode cX9_keep 16 = .ok (.aload_n 0, 1) := by decide +kernel
theorem dX9_keep_17 : decode cX9_keep 17 = .ok (.getfield 33, 3) := by decide +kernel
theorem dX9_keep_20 : decode cX9_keep 20 = .ok (.getfield 77, 3) := by decide +kernel
theorem dX9_keep_23 : decode cX9_keep 23 = .ok (.getfield 81, 3) := by decide +kernel
theorem dX9_keep_26 : decode cX9_keep 26 = .ok (.ireturn, 1) := by decide +kernel
theorem dX9_undo_0 : decode cX9_undo 0 = .ok (.aload_n 0, 1) := by decide +kernel
theorem dX9_undo_1 : decode cX9_undo 1 = .ok (.getfield 47, 3) := by decide +kernel
theorem dX9_undo_4 : decode cX9_undo 4 = .ok (.ifCond .eq 14, 3) := by decide +kernel
theorem dX9_undo_7 : decode cX9_undo 7 = .ok (.aload_n 0, 1) := by decide +kernel
theorem dX9_undo_8 : decode cX9_undo 8 = .ok (.getfield 33, 3) := by decide +kernel
theorem dX9_undo_11 : decode cX9_undo 11 = .ok (.aload_n 0, 1) := by decide +kernel
theorem dX9_undo_12 : decode cX9_undo 12 = .ok (.getfield 37, 3) := by decide +kernel
theorem dX9_undo_15 : decode cX9_undo 15 = .ok (.invokevirtual 313, 3) := by decide +kernel
theorem dX9_undo_18 : decode cX9_undo 18 = .ok (.aload_n 0, 1) := by decide +kernel
theorem dX9_undo_19 : decode cX9_undo 19 = .ok (.getfield 47, 3) := by decide +kernel
theorem dX9_undo_22 : decode cX9_undo 22 = .ok (.ireturn, 1) := by decide +kernel
theorem dX9_check_0 : decode cX9_check 0 = .ok (.aload_n 0, 1) := by decide +kernel
theorem dX9_check_1 : decode cX9_check 1 = .ok (.getfield 10, 3) := by decide +kernel
theorem dX9_check_4 : decode cX9_check 4 = .ok (.iload_n 1, 1) := by decide +kernel
theorem dX9_check_5 : decode cX9_check 5 = .ok (.iconst 0, 1) := by decide +kernel
theorem dX9_check_6 : decode cX9_check 6 = .ok (.sipush 300, 3) := by decide +kernel
theorem dX9_check_9 : decode cX9_check 9 = .ok (.invokevirtual 71, 3) := by decide +kernel
theorem dX9_check_12 : decode cX9_check 12 = .ok (.ifCond .ne 6, 3) := by decide +kernel
theorem dX9_check_15 : decode cX9_check 15 = .ok (.bipush (-2), 2) := by decide +kernel
theorem dX9_check_17 : decode cX9_check 17 = .ok (.ireturn, 1) := by decide +kernel
theorem dX9_check_18 : decode cX9_check 18 = .ok (.aload_n 0, 1) := by decide +kernel
theorem dX9_check_19 : decode cX9_check 19 = .ok (.getfield 10, 3) := by decide +kernel
theorem dX9_check_22 : decode cX9_check 22 = .ok (.iload_n 1, 1) := by decide +kernel
theorem dX9_check_23 : decode cX9_check 23 = .ok (.invokevirtual 74, 3) := by decide +kernel
theorem dX9_check_26 : decode cX9_check 26 = .ok (.iconst 0, 1) := by decide +kernel
theorem dX9_check_27 : decode cX9_check 27 = .ok (.istore_n 2, 1) := by decide +kernel
theorem dX9_check_28 : decode cX9_check 28 = .ok (.iload_n 2, 1) := by decide +kernel
theorem dX9_check_29 : decode cX9_check 29 = .ok (.iload_n 1, 1) := by decide +kernel
theorem dX9_check_30 : decode cX9_check 30 = .ok (.if_icmp .ge 55, 3) := by decide +kernel
theorem dX9_check_33 : decode cX9_check 33 = .ok (.iload_n 2, 1) := by decide +kernel
theorem dX9_check_34 : decode cX9_check 34 = .ok (.aload_n 0, 1) := by decide +kernel
theorem dX9_check_35 : decode cX9_check 35 = .ok (.getfield 33, 3) := by decide +kernel
theorem dX9_check_38 : decode cX9_check 38 = .ok (.getfield 77, 3) := by decide +kernel
theorem dX9_check_41 : decode cX9_check 41 = .ok (.getfield 81, 3) := by decide +kernel
theorem dX9_check_44 : decode cX9_check 44 = .ok (.if_icmp .ge 33, 3) := by decide +kernel
theorem dX9_check_47 : decode cX9_check 47 = .ok (.aload_n 0, 1) := by decide +kernel
theorem dX9_check_48 : decode cX9_check 48 = .ok (.getfield 33, 3) := by decide +kernel
theorem dX9_check_51 : decode cX9_check 51 = .ok (.aload_n 0, 1) := by decide +kernel
theorem dX9_check_52 : decode cX9_check 52 = .ok (.getfield 33, 3) := by decide +kernel
theorem dX9_check_55 : decode cX9_check 55 = .ok (.getfield 77, 3) := by decide +kernel
theorem dX9_check_58 : decode cX9_check 58 = .ok (.iload_n 2, 1) := by decide +kernel
theorem dX9_check_59 : decode cX9_check 59 = .ok (.invokevirtual 326, 3) := by decide +kernel
theorem dX9_check_62 : decode cX9_check 62 = .ok (.invokevirtual 345, 3) := by decide +kernel
theorem dX9_check_65 : decode cX9_check 65 = .ok (.aload_n 0, 1) := by decide +kernel
theorem dX9_check_66 : decode cX9_check 66 = .ok (.getfield 10, 3) := by decide +kernel
theorem dX9_check_69 : decode cX9_check 69 = .ok (.getfield 378, 3) := by decide +kernel
theorem dX9_check_72 : decode cX9_check 72 = .ok (.iload_n 2, 1) := by decide +kernel
theorem dX9_check_73 : decode cX9_check 73 = .ok (.iaload, 1) := by decide +kernel
theorem dX9_check_74 : decode cX9_check 74 = .ok (.if_icmp .eq 5, 3) := by decide +kernel
theorem dX9_check_77 : decode cX9_check 77 = .ok (.iload_n 2, 1) := by decide +kernel
theorem dX9_check_78 : decode cX9_check 78 = .ok (.ireturn, 1) := by decide +kernel
theorem dX9_check_79 : decode cX9_check 79 = .ok (.iinc 2 1, 3) := by decide +kernel
theorem dX9_check_82 : decode cX9_check 82 = .ok (.goto (-54), 3) := by decide +kernel
theorem dX9_check_85 : decode cX9_check 85 = .ok (.iconst (-1), 1) := by decide +kernel
theorem dX9_check_86 : decode cX9_check 86 = .ok (.ireturn, 1) := by decide +kernel
theorem dX9_count_0 : decode cX9_count 0 = .ok (.iload_n 1, 1) := by decide +kernel
theorem dX9_count_1 : decode cX9_count 1 = .ok (.tableswitch 81 0 4 #[35, 46, 54, 62, 70], 35) := by decide +kernel
theorem dX9_count_36 : decode cX9_count 36 = .ok (.aload_n 0, 1) := by decide +kernel
theorem dX9_count_37 : decode cX9_count 37 = .ok (.getfield 33, 3) := by decide +kernel
theorem dX9_count_40 : decode cX9_count 40 = .ok (.getfield 77, 3) := by decide +kernel
theorem dX9_count_43 : decode cX9_count 43 = .ok (.getfield 81, 3) := by decide +kernel
theorem dX9_count_46 : decode cX9_count 46 = .ok (.ireturn, 1) := by decide +kernel
theorem dX9_count_47 : decode cX9_count 47 = .ok (.aload_n 0, 1) := by decide +kernel
theorem dX9_count_48 : decode cX9_count 48 = .ok (.getfield 33, 3) := by decide +kernel
theorem dX9_count_51 : decode cX9_count 51 = .ok (.invokevirtual 180, 3) := by decide +kernel
theorem dX9_count_54 : decode cX9_count 54 = .ok (.ireturn, 1) := by decide +kernel
theorem dX9_count_55 : decode cX9_count 55 = .ok (.aload_n 0, 1) := by decide +kernel
theorem dX9_count_56 : decode cX9_count 56 = .ok (.getfield 10, 3) := by decide +kernel
theorem dX9_count_59 : decode cX9_count 59 = .ok (.getfield 59, 3) := by decide +kernel
theorem dX9_count_62 : decode cX9_count 62 = .ok (.ireturn, 1) := by decide +kernel
theorem dX9_count_63 : decode cX9_count 63 = .ok (.aload_n 0, 1) := by decide +kernel
theorem dX9_count_64 : decode cX9_count 64 = .ok (.getfield 33, 3) := by decide +kernel
theorem dX9_count_67 : decode cX9_count 67 = .ok (.getfield 375, 3) := by decide +kernel
theorem dX9_count_70 : decode cX9_count 70 = .ok (.ireturn, 1) := by decide +kernel
theorem dX9_count_71 : decode cX9_count 71 = .ok (.aload_n 0, 1) := by decide +kernel
theorem dX9_count_72 : decode cX9_count 72 = .ok (.getfield 33, 3) := by decide +kernel
theorem dX9_count_75 : decode cX9_count 75 = .ok (.getfield 348, 3) := by decide +kernel
theorem dX9_count_78 : decode cX9_count 78 = .ok (.invokevirtual 381, 3) := by decide +kernel
theorem dX9_count_81 : decode cX9_count 81 = .ok (.ireturn, 1) := by decide +kernel
theorem dX9_count_82 : decode cX9_count 82 = .ok (.iconst (-1), 1) := by decide +kernel
theorem dX9_count_83 : decode cX9_count 83 = .ok (.ireturn, 1) := by decide +kernel
theorem dX9_within_0 : decode cX9_within 0 = .ok (.iload_n 0, 1) := by decide +kernel
theorem dX9_within_1 : decode cX9_within 1 = .ok (.iload_n 1, 1) := by decide +kernel
theorem dX9_within_2 : decode cX9_within 2 = .ok (.if_icmp .lt 12, 3) := by decide +kernel
theorem dX9_within_5 : decode cX9_within 5 = .ok (.iload_n 0, 1) := by decide +kernel
theorem dX9_within_6 : decode cX9_within 6 = .ok (.iload_n 2, 1) := by decide +kernel
theorem dX9_within_7 : decode cX9_within 7 = .ok (.if_icmp .gt 7, 3) := by decide +kernel
theorem dX9_within_10 : decode cX9_within 10 = .ok (.iconst 1, 1) := by decide +kernel
theorem dX9_within_11 : decode cX9_within 11 = .ok (.goto 4, 3) := by decide +kernel
theorem dX9_within_14 : decode cX9_within 14 = .ok (.iconst 0, 1) := by decide +kernel
theorem dX9_within_15 : decode cX9_within 15 = .ok (.ireturn, 1) := by decide +kernel
theorem dX9_isKey_0 : decode cX9_isKey 0 = .ok (.iload_n 0, 1) := by decide +kernel
theorem dX9_isKey_1 : decode cX9_isKey 1 = .ok (.iconst 0, 1) := by decide +kernel
theorem dX9_isKey_2 : decode cX9_isKey 2 = .ok (.ldc 148, 2) := by decide +kernel
theorem dX9_isKey_4 : decode cX9_isKey 4 = .ok (.invokestatic 63, 3) := by decide +kernel
theorem dX9_isKey_7 : decode cX9_isKey 7 = .ok (.ireturn, 1) := by decide +kernel
theorem dX9_isBucket_0 : decode cX9_isBucket 0 = .ok (.iload_n 1, 1) := by decide +kernel
theorem dX9_isBucket_1 : decode cX9_isBucket 1 = .ok (.iconst 0, 1) := by decide +kernel
theorem dX9_isBucket_2 : decode cX9_isBucket 2 = .ok (.aload_n 0, 1) := by decide +kernel
theorem dX9_isBucket_3 : decode cX9_isBucket 3 = .ok (.getfield 33, 3) := by decide +kernel
theorem dX9_isBucket_6 : decode cX9_isBucket 6 = .ok (.invokevirtual 180, 3) := by decide +kernel
theorem dX9_isBucket_9 : decode cX9_isBucket 9 = .ok (.iconst 1, 1) := by decide +kernel
theorem dX9_isBucket_10 : decode cX9_isBucket 10 = .ok (.isub, 1) := by decide +kernel
theorem dX9_isBucket_11 : decode cX9_isBucket 11 = .ok (.invokestatic 63, 3) := by decide +kernel
theorem dX9_isBucket_14 : decode cX9_isBucket 14 = .ok (.ireturn, 1) := by decide +kernel
theorem dX9_isAmount_0 : decode cX9_isAmount 0 = .ok (.iload_n 1, 1) := by decide +kernel
theorem dX9_isAmount_1 : decode cX9_isAmount 1 = .ok (.aload_n 0, 1) := by decide +kernel
theorem dX9_isAmount_2 : decode cX9_isAmount 2 = .ok (.getfield 33, 3) := by decide +kernel
theorem dX9_isAmount_5 : decode cX9_isAmount 5 = .ok (.getfield 153, 3) := by decide +kernel
theorem dX9_isAmount_8 : decode cX9_isAmount 8 = .ok (.bipush 64, 2) := by decide +kernel
theorem dX9_isAmount_10 : decode cX9_isAmount 10 = .ok (.invokestatic 63, 3) := by decide +kernel
theorem dX9_isAmount_13 : decode cX9_isAmount 13 = .ok (.ireturn, 1) := by decide +kernel
theorem dX9_reversed_0 : decode cX9_reversed 0 = .ok (.iload_n 0, 1) := by decide +kernel
theorem dX9_reversed_1 : decode cX9_reversed 1 = .ok (.sipush 21845, 3) := by decide +kernel
theorem dX9_reversed_4 : decode cX9_reversed 4 = .ok (.iand, 1) := by decide +kernel
theorem dX9_reversed_5 : decode cX9_reversed 5 = .ok (.iconst 1, 1) := by decide +kernel
theorem dX9_reversed_6 : decode cX9_reversed 6 = .ok (.ishl, 1) := by decide +kernel
theorem dX9_reversed_7 : decode cX9_reversed 7 = .ok (.iload_n 0, 1) := by decide +kernel
theorem dX9_reversed_8 : decode cX9_reversed 8 = .ok (.iconst 1, 1) := by decide +kernel
theorem dX9_reversed_9 : decode cX9_reversed 9 = .ok (.ishr, 1) := by decide +kernel
theorem dX9_reversed_10 : decode cX9_reversed 10 = .ok (.sipush 21845, 3) := by decide +kernel
theorem dX9_reversed_13 : decode cX9_reversed 13 = .ok (.iand, 1) := by decide +kernel
theorem dX9_reversed_14 : decode cX9_reversed 14 = .ok (.ior, 1) := by decide +kernel
theorem dX9_reversed_15 : decode cX9_reversed 15 = .ok (.istore_n 1, 1) := by decide +kernel
theorem dX9_reversed_16 : decode cX9_reversed 16 = .ok (.iload_n 1, 1) := by decide +kernel
theorem dX9_reversed_17 : decode cX9_reversed 17 = .ok (.sipush 13107, 3) := by decide +kernel
theorem dX9_reversed_20 : decode cX9_reversed 20 = .ok (.iand, 1) := by decide +kernel
theorem dX9_reversed_21 : decode cX9_reversed 21 = .ok (.iconst 2, 1) := by decide +kernel
theorem dX9_reversed_22 : decode cX9_reversed 22 = .ok (.ishl, 1) := by decide +kernel
theorem dX9_reversed_23 : decode cX9_reversed 23 = .ok (.iload_n 1, 1) := by decide +kernel
theorem dX9_reversed_24 : decode cX9_reversed 24 = .ok (.iconst 2, 1) := by decide +kernel
theorem dX9_reversed_25 : decode cX9_reversed 25 = .ok (.ishr, 1) := by decide +kernel
theorem dX9_reversed_26 : decode cX9_reversed 26 = .ok (.sipush 13107, 3) := by decide +kernel
theorem dX9_reversed_29 : decode cX9_reversed 29 = .ok (.iand, 1) := by decide +kernel
theorem dX9_reversed_30 : decode cX9_reversed 30 = .ok (.ior, 1) := by decide +kernel
theorem dX9_reversed_31 : decode cX9_reversed 31 = .ok (.istore_n 1, 1) := by decide +kernel
theorem dX9_reversed_32 : decode cX9_reversed 32 = .ok (.iload_n 1, 1) := by decide +kernel
theorem dX9_reversed_33 : decode cX9_reversed 33 = .ok (.sipush 3855, 3) := by decide +kernel
theorem dX9_reversed_36 : decode cX9_reversed 36 = .ok (.iand, 1) := by decide +kernel
theorem dX9_reversed_37 : decode cX9_reversed 37 = .ok (.iconst 4, 1) := by decide +kernel
theorem dX9_reversed_38 : decode cX9_reversed 38 = .ok (.ishl, 1) := by decide +kernel
theorem dX9_reversed_39 : decode cX9_reversed 39 = .ok (.iload_n 1, 1) := by decide +kernel
theorem dX9_reversed_40 : decode cX9_reversed 40 = .ok (.iconst 4, 1) := by decide +kernel
theorem dX9_reversed_41 : decode cX9_reversed 41 = .ok (.ishr, 1) := by decide +kernel
theorem dX9_reversed_42 : decode cX9_reversed 42 = .ok (.sipush 3855, 3) := by decide +kernel
theorem dX9_reversed_45 : decode cX9_reversed 45 = .ok (.iand, 1) := by decide +kernel
theorem dX9_reversed_46 : decode cX9_reversed 46 = .ok (.ior, 1) := by decide +kernel
theorem dX9_reversed_47 : decode cX9_reversed 47 = .ok (.istore_n 1, 1) := by decide +kernel
theorem dX9_reversed_48 : decode cX9_reversed 48 = .ok (.iload_n 1, 1) := by decide +kernel
theorem dX9_reversed_49 : decode cX9_reversed 49 = .ok (.sipush 255, 3) := by decide +kernel
theorem dX9_reversed_52 : decode cX9_reversed 52 = .ok (.iand, 1) := by decide +kernel
theorem dX9_reversed_53 : decode cX9_reversed 53 = .ok (.bipush 8, 2) := by decide +kernel
theorem dX9_reversed_55 : decode cX9_reversed 55 = .ok (.ishl, 1) := by decide +kernel
theorem dX9_reversed_56 : decode cX9_reversed 56 = .ok (.iload_n 1, 1) := by decide +kernel
theorem dX9_reversed_57 : decode cX9_reversed 57 = .ok (.bipush 8, 2) := by decide +kernel
theorem dX9_reversed_59 : decode cX9_reversed 59 = .ok (.ishr, 1) := by decide +kernel
theorem dX9_reversed_60 : decode cX9_reversed 60 = .ok (.sipush 255, 3) := by decide +kernel
theorem dX9_reversed_63 : decode cX9_reversed 63 = .ok (.iand, 1) := by decide +kernel
theorem dX9_reversed_64 : decode cX9_reversed 64 = .ok (.ior, 1) := by decide +kernel
theorem dX9_reversed_65 : decode cX9_reversed 65 = .ok (.ireturn, 1) := by decide +kernel
theorem dX10_init_0 : decode cX10_init 0 = .ok (.aload_n 0, 1) := by decide +kernel
theorem dX10_init_1 : decode cX10_init 1 = .ok (.invokespecial 1, 3) := by decide +kernel
theorem dX10_init_4 : decode cX10_init 4 = .ok (.aload_n 0, 1) := by decide +kernel
theorem dX10_init_5 : decode cX10_init 5 = .ok (.sipush 5676, 3) := by decide +kernel
theorem dX10_init_8 : decode cX10_init 8 = .ok (.newarray .int, 2) := by decide +kernel
theorem dX10_init_10 : decode cX10_init 10 = .ok (.putfield 7, 3) := by decide +kernel
theorem dX10_init_13 : decode cX10_init 13 = .ok (.aload_n 0, 1) := by decide +kernel
theorem dX10_init_14 : decode cX10_init 14 = .ok (.sipush 320, 3) := by decide +kernel
theorem dX10_init_17 : decode cX10_init 17 = .ok (.newarray .byte, 2) := by decide +kernel
theorem dX10_init_19 : decode cX10_init 19 = .ok (.putfield 13, 3) := by decide +kernel
theorem dX10_init_22 : decode cX10_init 22 = .ok (.aload_n 0, 1) := by decide +kernel
theorem dX10_init_23 : decode cX10_init 23 = .ok (.sipush 140, 3) := by decide +kernel
theorem dX10_init_26 : decode cX10_init 26 = .ok (.newarray .int, 2) := by decide +kernel
theorem dX10_init_28 : decode cX10_init 28 = .ok (.putfield 17, 3) := by decide +kernel
theorem dX10_init_31 : decode cX10_init 31 = .ok (.aload_n 0, 1) := by decide +kernel
theorem dX10_init_32 : decode cX10_init 32 = .ok (.bipush 70, 2) := by decide +kernel
theorem dX10_init_34 : decode cX10_init 34 = .ok (.newarray .int, 2) := by decide +kernel
theorem dX10_init_36 : decode cX10_init 36 = .ok (.putfield 20, 3) := by decide +kernel
theorem dX10_init_39 : decode cX10_init 39 = .ok (.aload_n 0, 1) := by decide +kernel
theorem dX10_init_40 : decode cX10_init 40 = .ok (.bipush 70, 2) := by decide +kernel
theorem dX10_init_42 : decode cX10_init 42 = .ok (.newarray .int, 2) := by decide +kernel
theorem dX10_init_44 : decode cX10_init 44 = .ok (.putfield 23, 3) := by decide +kernel
theorem dX10_init_47 : decode cX10_init 47 = .ok (.aload_n 0, 1) := by decide +kernel
theorem dX10_init_48 : decode cX10_init 48 = .ok (.sipush 300, 3) := by decide +kernel
theorem dX10_init_51 : decode cX10_init 51 = .ok (.newarray .int, 2) := by decide +kernel
theorem dX10_init_53 : decode cX10_init 53 = .ok (.putfield 26, 3) := by decide +kernel
theorem dX10_init_56 : decode cX10_init 56 = .ok (.aload_n 0, 1) := by decide +kernel
theorem dX10_init_57 : decode cX10_init 57 = .ok (.bipush 20, 2) := by decide +kernel
theorem dX10_init_59 : decode cX10_init 59 = .ok (.newarray .int, 2) := by decide +kernel
theorem dX10_init_61 : decode cX10_init 61 = .ok (.putfield 29, 3) := by decide +kernel
theorem dX10_init_64 : decode cX10_init 64 = .ok (.aload_n 0, 1) := by decide +kernel
theorem dX10_init_65 : decode cX10_init 65 = .ok (.bipush 20, 2) := by decide +kernel
theorem dX10_init_67 : decode cX10_init 67 = .ok (.newarray .int, 2) := by decide +kernel
theorem dX10_init_69 : decode cX10_init 69 = .ok (.putfield 32, 3) := by decide +kernel
theorem dX10_init_72 : decode cX10_init 72 = .ok (.aload_n 0, 1) := by decide +kernel
theorem dX10_init_73 : decode cX10_init 73 = .ok (.bipush 20, 2) := by decide +kernel
theorem dX10_init_75 : decode cX10_init 75 = .ok (.newarray .int, 2) := by decide +kernel
theorem dX10_init_77 : decode cX10_init 77 = .ok (.putfield 35, 3) := by decide +kernel
theorem dX10_init_80 : decode cX10_init 80 = .ok (.aload_n 0, 1) := by decide +kernel
theorem dX10_init_81 : decode cX10_init 81 = .ok (.bipush 20, 2) := by decide +kernel
theorem dX10_init_83 : decode cX10_init 83 = .ok (.newarray .int, 2) := by decide +kernel
theorem dX10_init_85 : decode cX10_init 85 = .ok (.putfield 38, 3) := by decide +kernel
theorem dX10_init_88 : decode cX10_init 88 = .ok (.aload_n 0, 1) := by decide +kernel
theorem dX10_init_89 : decode cX10_init 89 = .ok (.sipush 300, 3) := by decide +kernel
theorem dX10_init_92 : decode cX10_init 92 = .ok (.newarray .int, 2) := by decide +kernel
theorem dX10_init_94 : decode cX10_init 94 = .ok (.putfield 41, 3) := by decide +kernel
theorem dX10_init_97 : decode cX10_init 97 = .ok (.aload_n 0, 1) := by decide +kernel
theorem dX10_init_98 : decode cX10_init 98 = .ok (.sipush 300, 3) := by decide +kernel
theorem dX10_init_101 : decode cX10_init 101 = .ok (.newarray .int, 2) := by decide +kernel
theorem dX10_init_103 : decode cX10_init 103 = .ok (.putfield 44, 3) := by decide +kernel
theorem dX10_init_106 : decode cX10_init 106 = .ok (.aload_n 0, 1) := by decide +kernel
theorem dX10_init_107 : decode cX10_init 107 = .ok (.bipush 64, 2) := by decide +kernel
theorem dX10_init_109 : decode cX10_init 109 = .ok (.newarray .int, 2) := by decide +kernel
theorem dX10_init_111 : decode cX10_init 111 = .ok (.putfield 47, 3) := by decide +kernel
theorem dX10_init_114 : decode cX10_init 114 = .ok (.aload_n 0, 1) := by decide +kernel
theorem dX10_init_115 : decode cX10_init 115 = .ok (.sipush 300, 3) := by decide +kernel
theorem dX10_init_118 : decode cX10_init 118 = .ok (.newarray .int, 2) := by decide +kernel
theorem dX10_init_120 : decode cX10_init 120 = .ok (.putfield 50, 3) := by decide +kernel
theorem dX10_init_123 : decode cX10_init 123 = .ok (.aload_n 0, 1) := by decide +kernel
theorem dX10_init_124 : decode cX10_init 124 = .ok (.sipush 300, 3) := by decide +kernel
theorem dX10_init_127 : decode cX10_init 127 = .ok (.newarray .int, 2) := by decide +kernel
theorem dX10_init_129 : decode cX10_init 129 = .ok (.putfield 53, 3) := by decide +kernel
theorem dX10_init_132 : decode cX10_init 132 = .ok (.aload_n 0, 1) := by decide +kernel
theorem dX10_init_133 : decode cX10_init 133 = .ok (.sipush 256, 3) := by decide +kernel
theorem dX10_init_136 : decode cX10_init 136 = .ok (.newarray .int, 2) := by decide +kernel
theorem dX10_init_138 : decode cX10_init 138 = .ok (.putfield 56, 3) := by decide +kernel
theorem dX10_init_141 : decode cX10_init 141 = .ok (.aload_n 0, 1) := by decide +kernel
theorem dX10_init_142 : decode cX10_init 142 = .ok (.sipush 300, 3) := by decide +kernel
theorem dX10_init_145 : decode cX10_init 145 = .ok (.newarray .int, 2) := by decide +kernel
theorem dX10_init_147 : decode cX10_init 147 = .ok (.putfield 59, 3) := by decide +kernel
theorem dX10_init_150 : decode cX10_init 150 = .ok (.aload_n 0, 1) := by decide +kernel
theorem dX10_init_151 : decode cX10_init 151 = .ok (.getfield 7, 3) := by decide +kernel
theorem dX10_init_154 : decode cX10_init 154 = .ok (.bipush 12, 2) := by decide +kernel
theorem dX10_init_156 : decode cX10_init 156 = .ok (.iconst 1, 1) := by decide +kernel
theorem dX10_init_157 : decode cX10_init 157 = .ok (.iastore, 1) := by decide +kernel
theorem dX10_init_158 : decode cX10_init 158 = .ok (.aload_n 0, 1) := by decide +kernel
theorem dX10_init_159 : decode cX10_init 159 = .ok (.getfield 7, 3) := by decide +kernel
theorem dX10_init_162 : decode cX10_init 162 = .ok (.bipush 23, 2) := by decide +kernel
theorem dX10_init_164 : decode cX10_init 164 = .ok (.iconst 1, 1) := by decide +kernel
theorem dX10_init_165 : decode cX10_init 165 = .ok (.iastore, 1) := by decide +kernel
theorem dX10_init_166 : decode cX10_init 166 = .ok (.aload_n 0, 1) := by decide +kernel
theorem dX10_init_167 : decode cX10_init 167 = .ok (.getfield 7, 3) := by decide +kernel
theorem dX10_init_170 : decode cX10_init 170 = .ok (.sipush 1752, 3) := by decide +kernel
theorem dX10_init_173 : decode cX10_init 173 = .ok (.ldc 62, 2) := by decide +kernel
theorem dX10_init_175 : decode cX10_init 175 = .ok (.iastore, 1) := by decide +kernel
theorem dX10_init_176 : decode cX10_init 176 = .ok (.aload_n 0, 1) := by decide +kernel
theorem dX10_init_177 : decode cX10_init 177 = .ok (.iconst 2, 1) := by decide +kernel
theorem dX10_init_178 : decode cX10_init 178 = .ok (.iconst 3, 1) := by decide +kernel
theorem dX10_init_179 : decode cX10_init 179 = .ok (.bipush 80, 2) := by decide +kernel
theorem dX10_init_181 : decode cX10_init 181 = .ok (.bipush 40, 2) := by decide +kernel
theorem dX10_init_183 : decode cX10_init 183 = .ok (.iconst 1, 1) := by decide +kernel
theorem dX10_init_184 : decode cX10_init 184 = .ok (.invokevirtual 63, 3) := by decide +kernel
theorem dX10_init_187 : decode cX10_init 187 = .ok (.return_, 1) := by decide +kernel
theorem dX10_in_0 : decode cX10_in 0 = .ok (.iload_n 0, 1) := by decide +kernel
theorem dX10_in_1 : decode cX10_in 1 = .ok (.iload_n 1, 1) := by decide +kernel
theorem dX10_in_2 : decode cX10_in 2 = .ok (.if_icmp .lt 12, 3) := by decide +kernel
theorem dX10_in_5 : decode cX10_in 5 = .ok (.iload_n 0, 1) := by decide +kernel
theorem dX10_in_6 : decode cX10_in 6 = .ok (.iload_n 2, 1) := by decide +kernel
theorem dX10_in_7 : decode cX10_in 7 = .ok (.if_icmp .gt 7, 3) := by decide +kernel
theorem dX10_in_10 : decode cX10_in 10 = .ok (.iconst 1, 1) := by decide +kernel
theorem dX10_in_11 : decode cX10_in 11 = .ok (.goto 4, 3) := by decide +kernel
theorem dX10_in_14 : decode cX10_in 14 = .ok (.iconst 0, 1) := by decide +kernel
theorem dX10_in_15 : decode cX10_in 15 = .ok (.ireturn, 1) := by decide +kernel
theorem dX10_min_0 : decode cX10_min 0 = .ok (.iload_n 0, 1) := by decide +kernel
theorem dX10_min_1 : decode cX10_min 1 = .ok (.iload_n 1, 1) := by decide +kernel
theorem dX10_min_2 : decode cX10_min 2 = .ok (.if_icmp .ge 7, 3) := by decide +kernel
theorem dX10_min_5 : decode cX10_min 5 = .ok (.iload_n 0, 1) := by decide +kernel
theorem dX10_min_6 : decode cX10_min 6 = .ok (.goto 4, 3) := by decide +kernel
theorem dX10_min_9 : decode cX10_min 9 = .ok (.iload_n 1, 1) := by decide +kernel
theorem dX10_min_10 : decode cX10_min 10 = .ok (.ireturn, 1) := by decide +kernel
theorem dX10_max_0 : decode cX10_max 0 = .ok (.iload_n 0, 1) := by decide +kernel
theorem dX10_max_1 : decode cX10_max 1 = .ok (.iload_n 1, 1) := by decide +kernel
theorem dX10_max_2 : decode cX10_max 2 = .ok (.if_icmp .le 7, 3) := by decide +kernel
theorem dX10_max_5 : decode cX10_max 5 = .ok (.iload_n 0, 1) := by decide +kernel
theorem dX10_max_6 : decode cX10_max 6 = .ok (.goto 4, 3) := by decide +kernel
theorem dX10_max_9 : decode cX10_max 9 = .ok (.iload_n 1, 1) := by decide +kernel
theorem dX10_max_10 : decode cX10_max 10 = .ok (.ireturn, 1) := by decide +kernel
theorem dX10_has_0 : decode cX10_has 0 = .ok (.iload_n 0, 1) := by decide +kernel
theorem dX10_has_1 : decode cX10_has 1 = .ok (.iload_n 1, 1) := by decide +kernel
theorem dX10_has_2 : decode cX10_has 2 = .ok (.ishr, 1) := by decide +kernel
theorem dX10_has_3 : decode cX10_has 3 = .ok (.iconst 1, 1) := by decide +kernel
theorem dX10_has_4 : decode cX10_has 4 = .ok (.iand, 1) := by decide +kernel
theorem dX10_has_5 : decode cX10_has 5 = .ok (.iconst 1, 1) := by decide +kernel
theorem dX10_has_6 : decode cX10_has 6 = .ok (.if_icmp .ne 7, 3) := by decide +kernel
theorem dX10_has_9 : decode cX10_has 9 = .ok (.iconst 1, 1) := by decide +kernel
theorem dX10_has_10 : decode cX10_has 10 = .ok (.goto 4, 3) := by decide +kernel
theorem dX10_has_13 : decode cX10_has 13 = .ok (.iconst 0, 1) := by decide +kernel
theorem dX10_has_14 : decode cX10_has 14 = .ok (.ireturn, 1) := by decide +kernel
theorem dX10_sizeOf_0 : decode cX10_sizeOf 0 = .ok (.iconst 0, 1) := by decide +kernel
theorem dX10_sizeOf_1 : decode cX10_sizeOf 1 = .ok (.istore_n 1, 1) := by decide +kernel
theorem dX10_sizeOf_2 : decode cX10_sizeOf 2 = .ok (.iload_n 0, 1) := by decide +kernel
theorem dX10_sizeOf_3 : decode cX10_sizeOf 3 = .ok (.istore_n 2, 1) := by decide +kernel
theorem dX10_sizeOf_4 : decode cX10_sizeOf 4 = .ok (.iload_n 2, 1) := by decide +kernel
theorem dX10_sizeOf_5 : decode cX10_sizeOf 5 = .ok (.ifCond .eq 16, 3) := by decide +kernel
theorem dX10_sizeOf_8 : decode cX10_sizeOf 8 = .ok (.iload_n 1, 1) := by decide +kernel
theorem dX10_sizeOf_9 : decode cX10_sizeOf 9 = .ok (.iconst 1, 1) := by decide +kernel
theorem dX10_sizeOf_10 : decode cX10_sizeOf 10 = .ok (.iadd, 1) := by decide +kernel
theorem dX10_sizeOf_11 : decode cX10_sizeOf 11 = .ok (.istore_n 1, 1) := by decide +kernel
theorem dX10_sizeOf_12 : decode cX10_sizeOf 12 = .ok (.iload_n 2, 1) := by decide +kernel
theorem dX10_sizeOf_13 : decode cX10_sizeOf 13 = .ok (.iload_n 2, 1) := by decide +kernel
theorem dX10_sizeOf_14 : decode cX10_sizeOf 14 = .ok (.iconst 1, 1) := by decide +kernel
theorem dX10_sizeOf_15 : decode cX10_sizeOf 15 = .ok (.isub, 1) := by decide +kernel
theorem dX10_sizeOf_16 : decode cX10_sizeOf 16 = .ok (.iand, 1) := by decide +kernel
theorem dX10_sizeOf_17 : decode cX10_sizeOf 17 = .ok (.istore_n 2, 1) := by decide +kernel
theorem dX10_sizeOf_18 : decode cX10_sizeOf 18 = .ok (.goto (-14), 3) := by decide +kernel
theorem dX10_sizeOf_21 : decode cX10_sizeOf 21 = .ok (.iload_n 1, 1) := by decide +kernel
theorem dX10_sizeOf_22 : decode cX10_sizeOf 22 = .ok (.ireturn, 1) := by decide +kernel
theorem dX10_copies_0 : decode cX10_copies 0 = .ok (.iconst 0, 1) := by decide +kernel
theorem dX10_copies_1 : decode cX10_copies 1 = .ok (.istore_n 3, 1) := by decide +kernel
theorem dX10_copies_2 : decode cX10_copies 2 = .ok (.iload_n 3, 1) := by decide +kernel
theorem dX10_copies_3 : decode cX10_copies 3 = .ok (.sipush 1892, 3) := by decide +kernel
theorem dX10_copies_6 : decode cX10_copies 6 = .ok (.if_icmp .ge 33, 3) := by decide +kernel
theorem dX10_copies_9 : decode cX10_copies 9 = .ok (.aload_n 0, 1) := by decide +kernel
theorem dX10_copies_10 : decode cX10_copies 10 = .ok (.getfield 7, 3) := by decide +kernel
theorem dX10_copies_13 : decode cX10_copies 13 = .ok (.sipush 1892, 3) := by decide +kernel
theorem dX10_copies_16 : decode cX10_copies 16 = .ok (.iload_n 2, 1) := by decide +kernel
theorem dX10_copies_17 : decode cX10_copies 17 = .ok (.imul, 1) := by decide +kernel
theorem dX10_copies_18 : decode cX10_copies 18 = .ok (.iload_n 3, 1) := by decide +kernel
theorem dX10_copies_19 : decode cX10_copies 19 = .ok (.iadd, 1) := by decide +kernel
theorem dX10_copies_20 : decode cX10_copies 20 = .ok (.aload_n 0, 1) := by decide +kernel
theorem dX10_copies_21 : decode cX10_copies 21 = .ok (.getfield 7, 3) := by decide +kernel
theorem dX10_copies_24 : decode cX10_copies 24 = .ok (.sipush 1892, 3) := by decide +kernel
theorem dX10_copies_27 : decode cX10_copies 27 = .ok (.iload_n 1, 1) := by decide +kernel
theorem dX10_copies_28 : decode cX10_copies 28 = .ok (.imul, 1) := by decide +kernel
theorem dX10_copies_29 : decode cX10_copies 29 = .ok (.iload_n 3, 1) := by decide +kernel
theorem dX10_copies_30 : decode cX10_copies 30 = .ok (.iadd, 1) := by decide +kernel
theorem dX10_copies_31 : decode cX10_copies 31 = .ok (.iaload, 1) := by decide +kernel
theorem dX10_copies_32 : decode cX10_copies 32 = .ok (.iastore, 1) := by decide +kernel
theorem dX10_copies_33 : decode cX10_copies 33 = .ok (.iinc 3 1, 3) := by decide +kernel
theorem dX10_copies_36 : decode cX10_copies 36 = .ok (.goto (-34), 3) := by decide +kernel
theorem dX10_copies_39 : decode cX10_copies 39 = .ok (.return_, 1) := by decide +kernel
theorem dX10_empties_0 : decode cX10_empties 0 = .ok (.aload_n 0, 1) := by decide +kernel
theorem dX10_empties_1 : decode cX10_empties 1 = .ok (.getfield 7, 3) := by decide +kernel
theorem dX10_empties_4 : decode cX10_empties 4 = .ok (.iconst 0, 1) := by decide +kernel
theorem dX10_empties_5 : decode cX10_empties 5 = .ok (.iload_n 1, 1) := by decide +kernel
theorem dX10_empties_6 : decode cX10_empties 6 = .ok (.iastore, 1) := by decide +kernel
theorem dX10_empties_7 : decode cX10_empties 7 = .ok (.aload_n 0, 1) := by decide +kernel
theorem dX10_empties_8 : decode cX10_empties 8 = .ok (.getfield 7, 3) := by decide +kernel
theorem dX10_empties_11 : decode cX10_empties 11 = .ok (.iconst 1, 1) := by decide +kernel
theorem dX10_empties_12 : decode cX10_empties 12 = .ok (.iload_n 2, 1) := by decide +kernel
theorem dX10_empties_13 : decode cX10_empties 13 = .ok (.iastore, 1) := by decide +kernel
theorem dX10_empties_14 : decode cX10_empties 14 = .ok (.aload_n 0, 1) := by decide +kernel
theorem dX10_empties_15 : decode cX10_empties 15 = .ok (.getfield 7, 3) := by decide +kernel
theorem dX10_empties_18 : decode cX10_empties 18 = .ok (.iconst 2, 1) := by decide +kernel
theorem dX10_empties_19 : decode cX10_empties 19 = .ok (.iload_n 3, 1) := by decide +kernel
theorem dX10_empties_20 : decode cX10_empties 20 = .ok (.iastore, 1) := by decide +kernel
theorem dX10_empties_21 : decode cX10_empties 21 = .ok (.aload_n 0, 1) := by decide +kernel
theorem dX10_empties_22 : decode cX10_empties 22 = .ok (.getfield 7, 3) := by decide +kernel
theorem dX10_empties_25 : decode cX10_empties 25 = .ok (.iconst 3, 1) := by decide +kernel
theorem dX10_empties_26 : decode cX10_empties 26 = .ok (.iload 4, 2) := by decide +kernel
theorem dX10_empties_28 : decode cX10_empties 28 = .ok (.iastore, 1) := by decide +kernel
theorem dX10_empties_29 : decode cX10_empties 29 = .ok (.aload_n 0, 1) := by decide +kernel
theorem dX10_empties_30 : decode cX10_empties 30 = .ok (.getfield 7, 3) := by decide +kernel
theorem dX10_empties_33 : decode cX10_empties 33 = .ok (.iconst 4, 1) := by decide +kernel
theorem dX10_empties_34 : decode cX10_empties 34 = .ok (.iload 5, 2) := by decide +kernel
theorem dX10_empties_36 : decode cX10_empties 36 = .ok (.iastore, 1) := by decide +kernel
theorem dX10_empties_37 : decode cX10_empties 37 = .ok (.iconst 5, 1) := by decide +kernel
theorem dX10_empties_38 : decode cX10_empties 38 = .ok (.istore 6, 2) := by decide +kernel
theorem dX10_empties_40 : decode cX10_empties 40 = .ok (.iload 6, 2) := by decide +kernel
theorem dX10_empties_42 : decode cX10_empties 42 = .ok (.bipush 12, 2) := by decide +kernel
theorem dX10_empties_44 : decode cX10_empties 44 = .ok (.if_icmp .ge 17, 3) := by decide +kernel
theorem dX10_empties_47 : decode cX10_empties 47 = .ok (.aload_n 0, 1) := by decide +kernel
theorem dX10_empties_48 : decode cX10_empties 48 = .ok (.getfield 7, 3) := by decide +kernel
theorem dX10_empties_51 : decode cX10_empties 51 = .ok (.iload 6, 2) := by decide +kernel
theorem dX10_empties_53 : decode cX10_empties 53 = .ok (.iconst 0, 1) := by decide +kernel
theorem dX10_empties_54 : decode cX10_empties 54 = .ok (.iastore, 1) := by decide +kernel
theorem dX10_empties_55 : decode cX10_empties 55 = .ok (.iinc 6 1, 3) := by decide +kernel
theorem dX10_empties_58 : decode cX10_empties 58 = .ok (.goto (-18), 3) := by decide +kernel
theorem dX10_empties_61 : decode cX10_empties 61 = .ok (.aload_n 0, 1) := by decide +kernel
theorem dX10_empties_62 : decode cX10_empties 62 = .ok (.getfield 7, 3) := by decide +kernel
theorem dX10_empties_65 : decode cX10_empties 65 = .ok (.bipush 13, 2) := by decide +kernel
theorem dX10_empties_67 : decode cX10_empties 67 = .ok (.iconst 0, 1) := by decide +kernel
theorem dX10_empties_68 : decode cX10_empties 68 = .ok (.iastore, 1) := by decide +kernel
theorem dX10_empties_69 : decode cX10_empties 69 = .ok (.aload_n 0, 1) := by decide +kernel
theorem dX10_empties_70 : decode cX10_empties 70 = .ok (.getfield 7, 3) := by decide +kernel
theorem dX10_empties_73 : decode cX10_empties 73 = .ok (.bipush 14, 2) := by decide +kernel
theorem dX10_empties_75 : decode cX10_empties 75 = .ok (.iconst 0, 1) := by decide +kernel
theorem dX10_empties_76 : decode cX10_empties 76 = .ok (.iastore, 1) := by decide +kernel
theorem dX10_empties_77 : decode cX10_empties 77 = .ok (.iconst 0, 1) := by decide +kernel
theorem dX10_empties_78 : decode cX10_empties 78 = .ok (.istore 6, 2) := by decide +kernel
theorem dX10_empties_80 : decode cX10_empties 80 = .ok (.iload 6, 2) := by decide +kernel
theorem dX10_empties_82 : decode cX10_empties 82 = .ok (.sipush 256, 3) := by decide +kernel
theorem dX10_empties_85 : decode cX10_empties 85 = .ok (.if_icmp .ge 44, 3) := by decide +kernel
theorem dX10_empties_88 : decode cX10_empties 88 = .ok (.aload_n 0, 1) := by decide +kernel
theorem dX10_empties_89 : decode cX10_empties 89 = .ok (.getfield 7, 3) := by decide +kernel
theorem dX10_empties_92 : decode cX10_empties 92 = .ok (.sipush 1240, 3) := by decide +kernel
theorem dX10_empties_95 : decode cX10_empties 95 = .ok (.iload 6, 2) := by decide +kernel
theorem dX10_empties_97 : decode cX10_empties 97 = .ok (.iadd, 1) := by decide +kernel
theorem dX10_empties_98 : decode cX10_empties 98 = .ok (.iload 6, 2) := by decide +kernel
theorem dX10_empties_100 : decode cX10_empties 100 = .ok (.iload_n 1, 1) := by decide +kernel
theorem dX10_empties_101 : decode cX10_empties 101 = .ok (.if_icmp .ge 8, 3) := by decide +kernel
theorem dX10_empties_104 : decode cX10_empties 104 = .ok (.iload 6, 2) := by decide +kernel
theorem dX10_empties_106 : decode cX10_empties 106 = .ok (.goto 4, 3) := by decide +kernel
theorem dX10_empties_109 : decode cX10_empties 109 = .ok (.iconst (-1), 1) := by decide +kernel
theorem dX10_empties_110 : decode cX10_empties 110 = .ok (.iastore, 1) := by decide +kernel
theorem dX10_empties_111 : decode cX10_empties 111 = .ok (.aload_n 0, 1) := by decide +kernel
theorem dX10_empties_112 : decode cX10_empties 112 = .ok (.getfield 7, 3) := by decide +kernel
theorem dX10_empties_115 : decode cX10_empties 115 = .ok (.sipush 1496, 3) := by decide +kernel
theorem dX10_empties_118 : decode cX10_empties 118 = .ok (.iload 6, 2) := by decide +kernel
theorem dX10_empties_120 : decode cX10_empties 120 = .ok (.iadd, 1) := by decide +kernel
theorem dX10_empties_121 : decode cX10_empties 121 = .ok (.iconst 0, 1) := by decide +kernel
theorem dX10_empties_122 : decode cX10_empties 122 = .ok (.iastore, 1) := by decide +kernel
theorem dX10_empties_123 : decode cX10_empties 123 = .ok (.iinc 6 1, 3) := by decide +kernel
theorem dX10_empties_126 : decode cX10_empties 126 = .ok (.goto (-46), 3) := by decide +kernel
theorem dX10_empties_129 : decode cX10_empties 129 = .ok (.return_, 1) := by decide +kernel
theorem dX10_shape_0 : decode cX10_shape 0 = .ok (.iload_n 1, 1) := by decide +kernel
theorem dX10_shape_1 : decode cX10_shape 1 = .ok (.iconst 1, 1) := by decide +kernel
theorem dX10_shape_2 : decode cX10_shape 2 = .ok (.iconst 4, 1) := by decide +kernel
theorem dX10_shape_3 : decode cX10_shape 3 = .ok (.invokestatic 67, 3) := by decide +kernel
theorem dX10_shape_6 : decode cX10_shape 6 = .ok (.ifCond .eq 46, 3) := by decide +kernel
theorem dX10_shape_9 : decode cX10_shape 9 = .ok (.iload_n 2, 1) := by decide +kernel
theorem dX10_shape_10 : decode cX10_shape 10 = .ok (.iconst 2, 1) := by decide +kernel
theorem dX10_shape_11 : decode cX10_shape 11 = .ok (.bipush 6, 2) := by decide +kernel
theorem dX10_shape_13 : decode cX10_shape 13 = .ok (.invokestatic 67, 3) := by decide +kernel
theorem dX10_shape_16 : decode cX10_shape 16 = .ok (.ifCond .eq 36, 3) := by decide +kernel
theorem dX10_shape_19 : decode cX10_shape 19 = .ok (.iload_n 3, 1) := by decide +kernel
theorem dX10_shape_20 : decode cX10_shape 20 = .ok (.bipush 50, 2) := by decide +kernel
theorem dX10_shape_22 : decode cX10_shape 22 = .ok (.sipush 300, 3) := by decide +kernel
theorem dX10_shape_25 : decode cX10_shape 25 = .ok (.invokestatic 67, 3) := by decide +kernel
theorem dX10_shape_28 : decode cX10_shape 28 = .ok (.ifCond .eq 24, 3) := by decide +kernel
theorem dX10_shape_31 : decode cX10_shape 31 = .ok (.iload 4, 2) := by decide +kernel
theorem dX10_shape_33 : decode cX10_shape 33 = .ok (.iconst 0, 1) := by decide +kernel
theorem dX10_shape_34 : decode cX10_shape 34 = .ok (.bipush 49, 2) := by decide +kernel
theorem dX10_shape_36 : decode cX10_shape 36 = .ok (.invokestatic 67, 3) := by decide +kernel
theorem dX10_shape_39 : decode cX10_shape 39 = .ok (.ifCond .eq 13, 3) := by decide +kernel
theorem dX10_shape_42 : decode cX10_shape 42 = .ok (.iload 5, 2) := by decide +kernel
theorem dX10_shape_44 : decode cX10_shape 44 = .ok (.iconst 0, 1) := by decide +kernel
theorem dX10_shape_45 : decode cX10_shape 45 = .ok (.iconst 2, 1) := by decide +kernel
theorem dX10_shape_46 : decode cX10_shape 46 = .ok (.invokestatic 67, 3) := by decide +kernel
theorem dX10_shape_49 : decode cX10_shape 49 = .ok (.ifCond .ne 5, 3) := by decide +kernel
theorem dX10_shape_52 : decode cX10_shape 52 = .ok (.iconst 0, 1) := by decide +kernel
theorem dX10_shape_53 : decode cX10_shape 53 = .ok (.ireturn, 1) := by decide +kernel
theorem dX10_shape_54 : decode cX10_shape 54 = .ok (.aload_n 0, 1) := by decide +kernel
theorem dX10_shape_55 : decode cX10_shape 55 = .ok (.iload_n 1, 1) := by decide +kernel
theorem dX10_shape_56 : decode cX10_shape 56 = .ok (.iload_n 2, 1) := by decide +kernel
theorem dX10_shape_57 : decode cX10_shape 57 = .ok (.iload_n 3, 1) := by decide +kernel
theorem dX10_shape_58 : decode cX10_shape 58 = .ok (.iload 4, 2) := by decide +kernel
theorem dX10_shape_60 : decode cX10_shape 60 = .ok (.iload 5, 2) := by decide +kernel
theorem dX10_shape_62 : decode cX10_shape 62 = .ok (.invokevirtual 63, 3) := by decide +kernel
theorem dX10_shape_65 : decode cX10_shape 65 = .ok (.iconst 1, 1) := by decide +kernel
theorem dX10_shape_66 : decode cX10_shape 66 = .ok (.ireturn, 1) := by decide +kernel
theorem dX10_types_0 : decode cX10_types 0 = .ok (.iconst 3, 1) := by decide +kernel
theorem dX10_types_1 : decode cX10_types 1 = .ok (.istore_n 2, 1) := by decide +kernel
theorem dX10_types_2 : decode cX10_types 2 = .ok (.iload_n 2, 1) := by decide +kernel
theorem dX10_types_3 : decode cX10_types 3 = .ok (.ifCond .lt 35, 3) := by decide +kernel
theorem dX10_types_6 : decode cX10_types 6 = .ok (.aload_n 0, 1) := by decide +kernel
theorem dX10_types_7 : decode cX10_types 7 = .ok (.getfield 13, 3) := by decide +kernel
theorem dX10_types_10 : decode cX10_types 10 = .ok (.aload_n 0, 1) := by decide +kernel
theorem dX10_types_11 : decode cX10_types 11 = .ok (.getfield 71, 3) := by decide +kernel
theorem dX10_types_14 : decode cX10_types 14 = .ok (.iload_n 1, 1) := by decide +kernel
theorem dX10_types_15 : decode cX10_types 15 = .ok (.bipush 8, 2) := by decide +kernel
theorem dX10_types_17 : decode cX10_types 17 = .ok (.iload_n 2, 1) := by decide +kernel
theorem dX10_types_18 : decode cX10_types 18 = .ok (.imul, 1) := by decide +kernel
theorem dX10_types_19 : decode cX10_types 19 = .ok (.ishr, 1) := by decide +kernel
theorem dX10_types_20 : decode cX10_types 20 = .ok (.i2b, 1) := by decide +kernel
theorem dX10_types_21 : decode cX10_types 21 = .ok (.bastore, 1) := by decide +kernel
theorem dX10_types_22 : decode cX10_types 22 = .ok (.aload_n 0, 1) := by decide +kernel
theorem dX10_types_23 : decode cX10_types 23 = .ok (.aload_n 0, 1) := by decide +kernel
theorem dX10_types_24 : decode cX10_types 24 = .ok (.getfield 71, 3) := by decide +kernel
theorem dX10_types_27 : decode cX10_types 27 = .ok (.iconst 1, 1) := by decide +kernel
theorem dX10_types_28 : decode cX10_types 28 = .ok (.iadd, 1) := by decide +kernel
theorem dX10_types_29 : decode cX10_types 29 = .ok (.putfield 71, 3) := by decide +kernel
theorem dX10_types_32 : decode cX10_types 32 = .ok (.iinc 2 (-1), 3) := by decide +kernel
theorem dX10_types_35 : decode cX10_types 35 = .ok (.goto (-33), 3) := by decide +kernel
theorem dX10_types_38 : decode cX10_types 38 = .ok (.return_, 1) := by decide +kernel
theorem dX10_feed_0 : decode cX10_feed 0 = .ok (.aload_n 0, 1) := by decide +kernel
theorem dX10_feed_1 : decode cX10_feed 1 = .ok (.getfield 71, 3) := by decide +kernel
theorem dX10_feed_4 : decode cX10_feed 4 = .ok (.bipush 20, 2) := by decide +kernel
theorem dX10_feed_6 : decode cX10_feed 6 = .ok (.iadd, 1) := by decide +kernel
theorem dX10_feed_7 : decode cX10_feed 7 = .ok (.sipush 320, 3) := by decide +kernel
theorem dX10_feed_10 : decode cX10_feed 10 = .ok (.if_icmp .le 5, 3) := by decide +kernel
theorem dX10_feed_13 : decode cX10_feed 13 = .ok (.iconst (-1), 1) := by decide +kernel
theorem dX10_feed_14 : decode cX10_feed 14 = .ok (.ireturn, 1) := by decide +kernel
theorem dX10_feed_15 : decode cX10_feed 15 = .ok (.aload_n 0, 1) := by decide +kernel
theorem dX10_feed_16 : decode cX10_feed 16 = .ok (.iload_n 1, 1) := by decide +kernel
theorem dX10_feed_17 : decode cX10_feed 17 = .ok (.invokevirtual 75, 3) := by decide +kernel
theorem dX10_feed_20 : decode cX10_feed 20 = .ok (.aload_n 0, 1) := by decide +kernel
theorem dX10_feed_21 : decode cX10_feed 21 = .ok (.iload_n 2, 1) := by decide +kernel
theorem dX10_feed_22 : decode cX10_feed 22 = .ok (.invokevirtual 75, 3) := by decide +kernel
theorem dX10_feed_25 : decode cX10_feed 25 = .ok (.aload_n 0, 1) := by decide +kernel
theorem dX10_feed_26 : decode cX10_feed 26 = .ok (.iload_n 3, 1) := by decide +kernel
theorem dX10_feed_27 : decode cX10_feed 27 = .ok (.invokevirtual 75, 3) := by decide +kernel
theorem dX10_feed_30 : decode cX10_feed 30 = .ok (.aload_n 0, 1) := by decide +kernel
theorem dX10_feed_31 : decode cX10_feed 31 = .ok (.iload 4, 2) := by decide +kernel
theorem dX10_feed_33 : decode cX10_feed 33 = .ok (.invokevirtual 75, 3) := by decide +kernel
theorem dX10_feed_36 : decode cX10_feed 36 = .ok (.aload_n 0, 1) := by decide +kernel
theorem dX10_feed_37 : decode cX10_feed 37 = .ok (.iload 5, 2) := by decide +kernel
theorem dX10_feed_39 : decode cX10_feed 39 = .ok (.invokevirtual 75, 3) := by decide +kernel
theorem dX10_feed_42 : decode cX10_feed 42 = .ok (.aload_n 0, 1) := by decide +kernel
theorem dX10_feed_43 : decode cX10_feed 43 = .ok (.getfield 71, 3) := by decide +kernel
theorem dX10_feed_46 : decode cX10_feed 46 = .ok (.ireturn, 1) := by decide +kernel
theorem dX10_here_0 : decode cX10_here 0 = .ok (.aload_n 0, 1) := by decide +kernel
theorem dX10_here_1 : decode cX10_here 1 = .ok (.getfield 79, 3) := by decide +kernel
theorem dX10_here_4 : decode cX10_here 4 = .ok (.aload_n 0, 1) := by decide +kernel
theorem dX10_here_5 : decode cX10_here 5 = .ok (.getfield 82, 3) := by decide +kernel
theorem dX10_here_8 : decode cX10_here 8 = .ok (.if_icmp .ge 19, 3) := by decide +kernel
theorem dX10_here_11 : decode cX10_here 11 = .ok (.aload_n 0, 1) := by decide +kernel
theorem dX10_here_12 : decode cX10_here 12 = .ok (.getfield 13, 3) := by decide +kernel
theorem dX10_here_15 : decode cX10_here 15 = .ok (.aload_n 0, 1) := by decide +kernel
theorem dX10_here_16 : decode cX10_here 16 = .ok (.getfield 79, 3) := by decide +kernel
theorem dX10_here_19 : decode cX10_here 19 = .ok (.baload, 1) := by decide +kernel
theorem dX10_here_20 : decode cX10_here 20 = .ok (.sipush 255, 3) := by decide +kernel
theorem dX10_here_23 : decode cX10_here 23 = .ok (.iand, 1) := by decide +kernel
theorem dX10_here_24 : decode cX10_here 24 = .ok (.goto 4, 3) := by decide +kernel
theorem dX10_here_27 : decode cX10_here 27 = .ok (.iconst (-1), 1) := by decide +kernel
theorem dX10_here_28 : decode cX10_here 28 = .ok (.ireturn, 1) := by decide +kernel
theorem dX10_wrongAt_0 : decode cX10_wrongAt 0 = .ok (.aload_n 0, 1) := by decide +kernel
theorem dX10_wrongAt_1 : decode cX10_wrongAt 1 = .ok (.sipush (-1000), 3) := by decide +kernel
theorem dX10_wrongAt_4 : decode cX10_wrongAt 4 = .ok (.iload_n 1, 1) := by decide +kernel
theorem dX10_wrongAt_5 : decode cX10_wrongAt 5 = .ok (.imul, 1) := by decide +kernel
theorem dX10_wrongAt_6 : decode cX10_wrongAt 6 = .ok (.iload_n 2, 1) := by decide +kernel
theorem dX10_wrongAt_7 : decode cX10_wrongAt 7 = .ok (.isub, 1) := by decide +kernel
theorem dX10_wrongAt_8 : decode cX10_wrongAt 8 = .ok (.putfield 85, 3) := by decide +kernel
theorem dX10_wrongAt_11 : decode cX10_wrongAt 11 = .ok (.iconst 0, 1) := by decide +kernel
theorem dX10_wrongAt_12 : decode cX10_wrongAt 12 = .ok (.ireturn, 1) := by decide +kernel
theorem dX10_isDigit_0 : decode cX10_isDigit 0 = .ok (.iload_n 0, 1) := by decide +kernel
theorem dX10_isDigit_1 : decode cX10_isDigit 1 = .ok (.bipush 48, 2) := by decide +kernel
theorem dX10_isDigit_3 : decode cX10_isDigit 3 = .ok (.bipush 57, 2) := by decide +kernel
theorem dX10_isDigit_5 : decode cX10_isDigit 5 = .ok (.invokestatic 67, 3) := by decide +kernel
theorem dX10_isDigit_8 : decode cX10_isDigit 8 = .ok (.ireturn, 1) := by decide +kernel
theorem dX10_readsNumber_0 : decode cX10_readsNumber 0 = .ok (.aload_n 0, 1) := by decide +kernel
theorem dX10_readsNumber_1 : decode cX10_readsNumber 1 = .ok (.getfield 79, 3) := by decide +kernel
theorem dX10_readsNumber_4 : decode cX10_readsNumber 4 = .ok (.istore_n 3, 1) := by decide +kernel
theorem dX10_readsNumber_5 : decode cX10_readsNumber 5 = .ok (.aload_n 0, 1) := by decide +kernel
theorem dX10_readsNumber_6 : decode cX10_readsNumber 6 = .ok (.invokevirtual 88, 3) := by decide +kernel
theorem dX10_readsNumber_9 : decode cX10_readsNumber 9 = .ok (.invokestatic 92, 3) := by decide +kernel
theorem dX10_readsNumber_12 : decode cX10_readsNumber 12 = .ok (.ifCond .ne 13, 3) := by decide +kernel
theorem dX10_readsNumber_15 : decode cX10_readsNumber 15 = .ok (.aload_n 0, 1) := by decide +kernel
theorem dX10_readsNumber_16 : decode cX10_readsNumber 16 = .ok (.iconst 1, 1) := by decide +kernel
theorem dX10_readsNumber_17 : decode cX10_readsNumber 17 = .ok (.aload_n 0, 1) := by decide +kernel
theorem dX10_readsNumber_18 : decode cX10_readsNumber 18 = .ok (.getfield 79, 3) := by decide +kernel
theorem dX10_readsNumber_21 : decode cX10_readsNumber 21 = .ok (.invokevirtual 96, 3) := by decide +kernel
theorem dX10_readsNumber_24 : decode cX10_readsNumber 24 = .ok (.ireturn, 1) := by decide +kernel
theorem dX10_readsNumber_25 : decode cX10_readsNumber 25 = .ok (.aload_n 0, 1) := by decide +kernel
theorem dX10_readsNumber_26 : decode cX10_readsNumber 26 = .ok (.iconst 0, 1) := by decide +kernel
theorem dX10_readsNumber_27 : decode cX10_readsNumber 27 = .ok (.putfield 100, 3) := by decide +kernel
theorem dX10_readsNumber_30 : decode cX10_readsNumber 30 = .ok (.aload_n 0, 1) := by decide +kernel
theorem dX10_readsNumber_31 : decode cX10_readsNumber 31 = .ok (.invokevirtual 88, 3) := by decide +kernel
theorem dX10_readsNumber_34 : decode cX10_readsNumber 34 = .ok (.invokestatic 92, 3) := by decide +kernel
theorem dX10_readsNumber_37 : decode cX10_readsNumber 37 = .ok (.ifCond .eq 55, 3) := by decide +kernel
theorem dX10_readsNumber_40 : decode cX10_readsNumber 40 = .ok (.aload_n 0, 1) := by decide +kernel
theorem dX10_readsNumber_41 : decode cX10_readsNumber 41 = .ok (.getfield 79, 3) := by decide +kernel
theorem dX10_readsNumber_44 : decode cX10_readsNumber 44 = .ok (.iload_n 3, 1) := by decide +kernel
theorem dX10_readsNumber_45 : decode cX10_readsNumber 45 = .ok (.iconst 5, 1) := by decide +kernel
theorem dX10_readsNumber_46 : decode cX10_readsNumber 46 = .ok (.iadd, 1) := by decide +kernel
theorem dX10_readsNumber_47 : decode cX10_readsNumber 47 = .ok (.if_icmp .ne 13, 3) := by decide +kernel
theorem dX10_readsNumber_50 : decode cX10_readsNumber 50 = .ok (.aload_n 0, 1) := by decide +kernel
theorem dX10_readsNumber_51 : decode cX10_readsNumber 51 = .ok (.iconst 2, 1) := by decide +kernel
theorem dX10_readsNumber_52 : decode cX10_readsNumber 52 = .ok (.aload_n 0, 1) := by decide +kernel
theorem dX10_readsNumber_53 : decode cX10_readsNumber 53 = .ok (.getfield 79, 3) := by decide +kernel
theorem dX10_readsNumber_56 : decode cX10_readsNumber 56 = .ok (.invokevirtual 96, 3) := by decide +kernel
theorem dX10_readsNumber_59 : decode cX10_readsNumber 59 = .ok (.ireturn, 1) := by decide +kernel
theorem dX10_readsNumber_60 : decode cX10_readsNumber 60 = .ok (.aload_n 0, 1) := by decide +kernel
theorem dX10_readsNumber_61 : decode cX10_readsNumber 61 = .ok (.bipush 10, 2) := by decide +kernel
theorem dX10_readsNumber_63 : decode cX10_readsNumber 63 = .ok (.aload_n 0, 1) := by decide +kernel
theorem dX10_readsNumber_64 : decode cX10_readsNumber 64 = .ok (.getfield 100, 3) := by decide +kernel
theorem dX10_readsNumber_67 : decode cX10_readsNumber 67 = .ok (.imul, 1) := by decide +kernel
theorem dX10_readsNumber_68 : decode cX10_readsNumber 68 = .ok (.aload_n 0, 1) := by decide +kernel
theorem dX10_readsNumber_69 : decode cX10_readsNumber 69 = .ok (.invokevirtual 88, 3) := by decide +kernel
theorem dX10_readsNumber_72 : decode cX10_readsNumber 72 = .ok (.iadd, 1) := by decide +kernel
theorem dX10_readsNumber_73 : decode cX10_readsNumber 73 = .ok (.bipush 48, 2) := by decide +kernel
theorem dX10_readsNumber_75 : decode cX10_readsNumber 75 = .ok (.isub, 1) := by decide +kernel
theorem dX10_readsNumber_76 : decode cX10_readsNumber 76 = .ok (.putfield 100, 3) := by decide +kernel
theorem dX10_readsNumber_79 : decode cX10_readsNumber 79 = .ok (.aload_n 0, 1) := by decide +kernel
theorem dX10_readsNumber_80 : decode cX10_readsNumber 80 = .ok (.aload_n 0, 1) := by decide +kernel
theorem dX10_readsNumber_81 : decode cX10_readsNumber 81 = .ok (.getfield 79, 3) := by decide +kernel
theorem dX10_readsNumber_84 : decode cX10_readsNumber 84 = .ok (.iconst 1, 1) := by decide +kernel
theorem dX10_readsNumber_85 : decode cX10_readsNumber 85 = .ok (.iadd, 1) := by decide +kernel
theorem dX10_readsNumber_86 : decode cX10_readsNumber 86 = .ok (.putfield 79, 3) := by decide +kernel
theorem dX10_readsNumber_89 : decode cX10_readsNumber 89 = .ok (.goto (-59), 3) := by decide +kernel
theorem dX10_readsNumber_92 : decode cX10_readsNumber 92 = .ok (.aload_n 0, 1) := by decide +kernel
theorem dX10_readsNumber_93 : decode cX10_readsNumber 93 = .ok (.getfield 100, 3) := by decide +kernel
theorem dX10_readsNumber_96 : decode cX10_readsNumber 96 = .ok (.iload_n 1, 1) := by decide +kernel
theorem dX10_readsNumber_97 : decode cX10_readsNumber 97 = .ok (.iload_n 2, 1) := by decide +kernel
theorem dX10_readsNumber_98 : decode cX10_readsNumber 98 = .ok (.invokestatic 67, 3) := by decide +kernel
theorem dX10_readsNumber_101 : decode cX10_readsNumber 101 = .ok (.ifCond .ne 12, 3) := by decide +kernel
theorem dX10_readsNumber_104 : decode cX10_readsNumber 104 = .ok (.aload_n 0, 1) := by decide +kernel
theorem dX10_readsNumber_105 : decode cX10_readsNumber 105 = .ok (.iconst 3, 1) := by decide +kernel
theorem dX10_readsNumber_106 : decode cX10_readsNumber 106 = .ok (.iload_n 3, 1) := by decide +kernel
theorem dX10_readsNumber_107 : decode cX10_readsNumber 107 = .ok (.invokevirtual 96, 3) := by decide +kernel
theorem dX10_readsNumber_110 : decode cX10_readsNumber 110 = .ok (.ifCond .eq 7, 3) := by decide +kernel
theorem dX10_readsNumber_113 : decode cX10_readsNumber 113 = .ok (.iconst 1, 1) := by decide +kernel
theorem dX10_readsNumber_114 : decode cX10_readsNumber 114 = .ok (.goto 4, 3) := by decide +kernel
theorem dX10_readsNumber_117 : decode cX10_readsNumber 117 = .ok (.iconst 0, 1) := by decide +kernel
theorem dX10_readsNumber_118 : decode cX10_readsNumber 118 = .ok (.ireturn, 1) := by decide +kernel
theorem dX10_notes_0 : decode cX10_notes 0 = .ok (.aload_n 0, 1) := by decide +kernel
theorem dX10_notes_1 : decode cX10_notes 1 = .ok (.getfield 17, 3) := by decide +kernel
theorem dX10_notes_4 : decode cX10_notes 4 = .ok (.aload_n 0, 1) := by decide +kernel
theorem dX10_notes_5 : decode cX10_notes 5 = .ok (.getfield 103, 3) := by decide +kernel
theorem dX10_notes_8 : decode cX10_notes 8 = .ok (.ldc 62, 2) := by decide +kernel
theorem dX10_notes_10 : decode cX10_notes 10 = .ok (.iload_n 1, 1) := by decide +kernel
theorem dX10_notes_11 : decode cX10_notes 11 = .ok (.imul, 1) := by decide +kernel
theorem dX10_notes_12 : decode cX10_notes 12 = .ok (.iload_n 2, 1) := by decide +kernel
theorem dX10_notes_13 : decode cX10_notes 13 = .ok (.iadd, 1) := by decide +kernel
theorem dX10_notes_14 : decode cX10_notes 14 = .ok (.iastore, 1) := by decide +kernel
theorem dX10_notes_15 : decode cX10_notes 15 = .ok (.aload_n 0, 1) := by decide +kernel
theorem dX10_notes_16 : decode cX10_notes 16 = .ok (.aload_n 0, 1) := by decide +kernel
theorem dX10_notes_17 : decode cX10_notes 17 = .ok (.getfield 103, 3) := by decide +kernel
theorem dX10_notes_20 : decode cX10_notes 20 = .ok (.iconst 1, 1) := by decide +kernel
theorem dX10_notes_21 : decode cX10_notes 21 = .ok (.iadd, 1) := by decide +kernel
theorem dX10_notes_22 : decode cX10_notes 22 = .ok (.putfield 103, 3) := by decide +kernel
theorem dX10_notes_25 : decode cX10_notes 25 = .ok (.return_, 1) := by decide +kernel
theorem dX10_waitsFor_0 : decode cX10_waitsFor 0 = .ok (.aload_n 0, 1) := by decide +kernel
theorem dX10_waitsFor_1 : decode cX10_waitsFor 1 = .ok (.getfield 20, 3) := by decide +kernel
theorem dX10_waitsFor_4 : decode cX10_waitsFor 4 = .ok (.aload_n 0, 1) := by decide +kernel
theorem dX10_waitsFor_5 : decode cX10_waitsFor 5 = .ok (.getfield 106, 3) := by decide +kernel
theorem dX10_waitsFor_8 : decode cX10_waitsFor 8 = .ok (.ldc 62, 2) := by decide +kernel
theorem dX10_waitsFor_10 : decode cX10_waitsFor 10 = .ok (.iload_n 1, 1) := by decide +kernel
theorem dX10_waitsFor_11 : decode cX10_waitsFor 11 = .ok (.imul, 1) := by decide +kernel
theorem dX10_waitsFor_12 : decode cX10_waitsFor 12 = .ok (.iload_n 2, 1) := by decide +kernel
theorem dX10_waitsFor_13 : decode cX10_waitsFor 13 = .ok (.iadd, 1) := by decide +kernel
theorem dX10_waitsFor_14 : decode cX10_waitsFor 14 = .ok (.iastore, 1) := by decide +kernel
theorem dX10_waitsFor_15 : decode cX10_waitsFor 15 = .ok (.aload_n 0, 1) := by decide +kernel
theorem dX10_waitsFor_16 : decode cX10_waitsFor 16 = .ok (.aload_n 0, 1) := by decide +kernel
theorem dX10_waitsFor_17 : decode cX10_waitsFor 17 = .ok (.getfield 106, 3) := by decide +kernel
theorem dX10_waitsFor_20 : decode cX10_waitsFor 20 = .ok (.iconst 1, 1) := by decide +kernel
theorem dX10_waitsFor_21 : decode cX10_waitsFor 21 = .ok (.iadd, 1) := by decide +kernel
theorem dX10_waitsFor_22 : decode cX10_waitsFor 22 = .ok (.putfield 106, 3) := by decide +kernel
theorem dX10_waitsFor_25 : decode cX10_waitsFor 25 = .ok (.return_, 1) := by decide +kernel
theorem dX10_uppermost_0 : decode cX10_uppermost 0 = .ok (.aload_n 0, 1) := by decide +kernel
theorem dX10_uppermost_1 : decode cX10_uppermost 1 = .ok (.getfield 106, 3) := by decide +kernel
theorem dX10_uppermost_4 : decode cX10_uppermost 4 = .ok (.ifCond .ne 7, 3) := by decide +kernel
theorem dX10_uppermost_7 : decode cX10_uppermost 7 = .ok (.iconst (-1), 1) := by decide +kernel
theorem dX10_uppermost_8 : decode cX10_uppermost 8 = .ok (.goto 17, 3) := by decide +kernel
theorem dX10_uppermost_11 : decode cX10_uppermost 11 = .ok (.aload_n 0, 1) := by decide +kernel
theorem dX10_uppermost_12 : decode cX10_uppermost 12 = .ok (.getfield 20, 3) := by decide +kernel
theorem dX10_uppermost_15 : decode cX10_uppermost 15 = .ok (.aload_n 0, 1) := by decide +kernel
theorem dX10_uppermost_16 : decode cX10_uppermost 16 = .ok (.getfield 106, 3) := by decide +kernel
theorem dX10_uppermost_19 : decode cX10_uppermost 19 = .ok (.iconst 1, 1) := by decide +kernel
theorem dX10_uppermost_20 : decode cX10_uppermost 20 = .ok (.isub, 1) := by decide +kernel
theorem dX10_uppermost_21 : decode cX10_uppermost 21 = .ok (.iaload, 1) := by decide +kernel
theorem dX10_uppermost_22 : decode cX10_uppermost 22 = .ok (.ldc 62, 2) := by decide +kernel
theorem dX10_uppermost_24 : decode cX10_uppermost 24 = .ok (.idiv, 1) := by decide +kernel
theorem dX10_uppermost_25 : decode cX10_uppermost 25 = .ok (.ireturn, 1) := by decide +kernel
theorem dX10_opens_0 : decode cX10_opens 0 = .ok (.aload_n 0, 1) := by decide +kernel
theorem dX10_opens_1 : decode cX10_opens 1 = .ok (.getfield 109, 3) := by decide +kernel
theorem dX10_opens_4 : decode cX10_opens 4 = .ok (.bipush 6, 2) := by decide +kernel
theorem dX10_opens_6 : decode cX10_opens 6 = .ok (.if_icmp .ne 13, 3) := by decide +kernel
theorem dX10_opens_9 : decode cX10_opens 9 = .ok (.aload_n 0, 1) := by decide +kernel
theorem dX10_opens_10 : decode cX10_opens 10 = .ok (.iconst 5, 1) := by decide +kernel
theorem dX10_opens_11 : decode cX10_opens 11 = .ok (.aload_n 0, 1) := by decide +kernel
theorem dX10_opens_12 : decode cX10_opens 12 = .ok (.getfield 79, 3) := by decide +kernel
theorem dX10_opens_15 : decode cX10_opens 15 = .ok (.invokevirtual 96, 3) := by decide +kernel
