theorem dX0_init_0 : decode cX0_init 0 = .ok (.aload_n 0, 1) := by decide +kernel
theorem dX0_init_1 : decode cX0_init 1 = .ok (.invokespecial 3, 3) := by decide +kernel
theorem dX0_init_4 : decode cX0_init 4 = .ok (.aload_n 0, 1) := by decide +kernel
theorem dX0_init_5 : decode cX0_init 5 = .ok (.sipush 256, 3) := by decide +kernel
theorem dX0_init_8 : decode cX0_init 8 = .ok (.newarray .int, 2) := by decide +kernel
theorem dX0_init_10 : decode cX0_init 10 = .ok (.putfield 9, 3) := by decide +kernel
theorem dX0_init_13 : decode cX0_init 13 = .ok (.aload_n 0, 1) := by decide +kernel
theorem dX0_init_14 : decode cX0_init 14 = .ok (.sipush 256, 3) := by decide +kernel
theorem dX0_init_17 : decode cX0_init 17 = .ok (.newarray .int, 2) := by decide +kernel
theorem dX0_init_19 : decode cX0_init 19 = .ok (.putfield 15, 3) := by decide +kernel
theorem dX0_init_22 : decode cX0_init 22 = .ok (.aload_n 0, 1) := by decide +kernel
theorem dX0_init_23 : decode cX0_init 23 = .ok (.sipush 256, 3) := by decide +kernel
theorem dX0_init_26 : decode cX0_init 26 = .ok (.newarray .int, 2) := by decide +kernel
theorem dX0_init_28 : decode cX0_init 28 = .ok (.putfield 18, 3) := by decide +kernel
theorem dX0_init_31 : decode cX0_init 31 = .ok (.aload_n 0, 1) := by decide +kernel
theorem dX0_init_32 : decode cX0_init 32 = .ok (.sipush 256, 3) := by decide +kernel
theorem dX0_init_35 : decode cX0_init 35 = .ok (.newarray .int, 2) := by decide +kernel
theorem dX0_init_37 : decode cX0_init 37 = .ok (.putfield 21, 3) := by decide +kernel
theorem dX0_init_40 : decode cX0_init 40 = .ok (.aload_n 0, 1) := by decide +kernel
theorem dX0_init_41 : decode cX0_init 41 = .ok (.sipush 1536, 3) := by decide +kernel
theorem dX0_init_44 : decode cX0_init 44 = .ok (.newarray .long, 2) := by decide +kernel
theorem dX0_init_46 : decode cX0_init 46 = .ok (.putfield 24, 3) := by decide +kernel
theorem dX0_init_49 : decode cX0_init 49 = .ok (.aload_n 0, 1) := by decide +kernel
theorem dX0_init_50 : decode cX0_init 50 = .ok (.bipush 64, 2) := by decide +kernel
theorem dX0_init_52 : decode cX0_init 52 = .ok (.newarray .int, 2) := by decide +kernel
theorem dX0_init_54 : decode cX0_init 54 = .ok (.putfield 28, 3) := by decide +kernel
theorem dX0_init_57 : decode cX0_init 57 = .ok (.aload_n 0, 1) := by decide +kernel
theorem dX0_init_58 : decode cX0_init 58 = .ok (.bipush 64, 2) := by decide +kernel
theorem dX0_init_60 : decode cX0_init 60 = .ok (.newarray .int, 2) := by decide +kernel
theorem dX0_init_62 : decode cX0_init 62 = .ok (.putfield 31, 3) := by decide +kernel
theorem dX0_init_65 : decode cX0_init 65 = .ok (.aload_n 0, 1) := by decide +kernel
theorem dX0_init_66 : decode cX0_init 66 = .ok (.bipush 64, 2) := by decide +kernel
theorem dX0_init_68 : decode cX0_init 68 = .ok (.newarray .int, 2) := by decide +kernel
theorem dX0_init_70 : decode cX0_init 70 = .ok (.putfield 34, 3) := by decide +kernel
theorem dX0_init_73 : decode cX0_init 73 = .ok (.aload_n 0, 1) := by decide +kernel
theorem dX0_init_74 : decode cX0_init 74 = .ok (.bipush 64, 2) := by decide +kernel
theorem dX0_init_76 : decode cX0_init 76 = .ok (.newarray .int, 2) := by decide +kernel
theorem dX0_init_78 : decode cX0_init 78 = .ok (.putfield 37, 3) := by decide +kernel
theorem dX0_init_81 : decode cX0_init 81 = .ok (.aload_n 0, 1) := by decide +kernel
theorem dX0_init_82 : decode cX0_init 82 = .ok (.sipush 300, 3) := by decide +kernel
theorem dX0_init_85 : decode cX0_init 85 = .ok (.newarray .long, 2) := by decide +kernel
theorem dX0_init_87 : decode cX0_init 87 = .ok (.putfield 40, 3) := by decide +kernel
theorem dX0_init_90 : decode cX0_init 90 = .ok (.aload_n 0, 1) := by decide +kernel
theorem dX0_init_91 : decode cX0_init 91 = .ok (.iconst 0, 1) := by decide +kernel
theorem dX0_init_92 : decode cX0_init 92 = .ok (.putfield 43, 3) := by decide +kernel
theorem dX0_init_95 : decode cX0_init 95 = .ok (.aload_n 0, 1) := by decide +kernel
theorem dX0_init_96 : decode cX0_init 96 = .ok (.iconst 3, 1) := by decide +kernel
theorem dX0_init_97 : decode cX0_init 97 = .ok (.putfield 47, 3) := by decide +kernel
theorem dX0_init_100 : decode cX0_init 100 = .ok (.return_, 1) := by decide +kernel
theorem dX0_clear_0 : decode cX0_clear 0 = .ok (.aload_n 0, 1) := by decide +kernel
theorem dX0_clear_1 : decode cX0_clear 1 = .ok (.iload_n 1, 1) := by decide +kernel
theorem dX0_clear_2 : decode cX0_clear 2 = .ok (.putfield 47, 3) := by decide +kernel
theorem dX0_clear_5 : decode cX0_clear 5 = .ok (.aload_n 0, 1) := by decide +kernel
theorem dX0_clear_6 : decode cX0_clear 6 = .ok (.getfield 9, 3) := by decide +kernel
theorem dX0_clear_9 : decode cX0_clear 9 = .ok (.iconst (-1), 1) := by decide +kernel
theorem dX0_clear_10 : decode cX0_clear 10 = .ok (.invokestatic 50, 3) := by decide +kernel
theorem dX0_clear_13 : decode cX0_clear 13 = .ok (.aload_n 0, 1) := by decide +kernel
theorem dX0_clear_14 : decode cX0_clear 14 = .ok (.getfield 34, 3) := by decide +kernel
theorem dX0_clear_17 : decode cX0_clear 17 = .ok (.iconst 0, 1) := by decide +kernel
theorem dX0_clear_18 : decode cX0_clear 18 = .ok (.invokestatic 50, 3) := by decide +kernel
theorem dX0_clear_21 : decode cX0_clear 21 = .ok (.aload_n 0, 1) := by decide +kernel
theorem dX0_clear_22 : decode cX0_clear 22 = .ok (.getfield 37, 3) := by decide +kernel
theorem dX0_clear_25 : decode cX0_clear 25 = .ok (.iconst 0, 1) := by decide +kernel
theorem dX0_clear_26 : decode cX0_clear 26 = .ok (.invokestatic 50, 3) := by decide +kernel
theorem dX0_clear_29 : decode cX0_clear 29 = .ok (.aload_n 0, 1) := by decide +kernel
theorem dX0_clear_30 : decode cX0_clear 30 = .ok (.getfield 28, 3) := by decide +kernel
theorem dX0_clear_33 : decode cX0_clear 33 = .ok (.iconst (-1), 1) := by decide +kernel
theorem dX0_clear_34 : decode cX0_clear 34 = .ok (.invokestatic 50, 3) := by decide +kernel
theorem dX0_clear_37 : decode cX0_clear 37 = .ok (.aload_n 0, 1) := by decide +kernel
theorem dX0_clear_38 : decode cX0_clear 38 = .ok (.getfield 31, 3) := by decide +kernel
theorem dX0_clear_41 : decode cX0_clear 41 = .ok (.iconst (-1), 1) := by decide +kernel
theorem dX0_clear_42 : decode cX0_clear 42 = .ok (.invokestatic 50, 3) := by decide +kernel
theorem dX0_clear_45 : decode cX0_clear 45 = .ok (.iconst 0, 1) := by decide +kernel
theorem dX0_clear_46 : decode cX0_clear 46 = .ok (.istore_n 3, 1) := by decide +kernel
theorem dX0_clear_47 : decode cX0_clear 47 = .ok (.iload_n 3, 1) := by decide +kernel
theorem dX0_clear_48 : decode cX0_clear 48 = .ok (.iload_n 2, 1) := by decide +kernel
theorem dX0_clear_49 : decode cX0_clear 49 = .ok (.if_icmp .ge 15, 3) := by decide +kernel
theorem dX0_clear_52 : decode cX0_clear 52 = .ok (.aload_n 0, 1) := by decide +kernel
theorem dX0_clear_53 : decode cX0_clear 53 = .ok (.iload_n 3, 1) := by decide +kernel
theorem dX0_clear_54 : decode cX0_clear 54 = .ok (.invokevirtual 56, 3) := by decide +kernel
theorem dX0_clear_57 : decode cX0_clear 57 = .ok (.pop, 1) := by decide +kernel
theorem dX0_clear_58 : decode cX0_clear 58 = .ok (.iinc 3 1, 3) := by decide +kernel
theorem dX0_clear_61 : decode cX0_clear 61 = .ok (.goto (-14), 3) := by decide +kernel
theorem dX0_clear_64 : decode cX0_clear 64 = .ok (.return_, 1) := by decide +kernel
theorem dX0_copyFrom_0 : decode cX0_copyFrom 0 = .ok (.aload_n 0, 1) := by decide +kernel
theorem dX0_copyFrom_1 : decode cX0_copyFrom 1 = .ok (.aload_n 1, 1) := by decide +kernel
theorem dX0_copyFrom_2 : decode cX0_copyFrom 2 = .ok (.getfield 47, 3) := by decide +kernel
theorem dX0_copyFrom_5 : decode cX0_copyFrom 5 = .ok (.putfield 47, 3) := by decide +kernel
theorem dX0_copyFrom_8 : decode cX0_copyFrom 8 = .ok (.aload_n 1, 1) := by decide +kernel
theorem dX0_copyFrom_9 : decode cX0_copyFrom 9 = .ok (.getfield 9, 3) := by decide +kernel
theorem dX0_copyFrom_12 : decode cX0_copyFrom 12 = .ok (.iconst 0, 1) := by decide +kernel
theorem dX0_copyFrom_13 : decode cX0_copyFrom 13 = .ok (.aload_n 0, 1) := by decide +kernel
theorem dX0_copyFrom_14 : decode cX0_copyFrom 14 = .ok (.getfield 9, 3) := by decide +kernel
theorem dX0_copyFrom_17 : decode cX0_copyFrom 17 = .ok (.iconst 0, 1) := by decide +kernel
theorem dX0_copyFrom_18 : decode cX0_copyFrom 18 = .ok (.sipush 256, 3) := by decide +kernel
theorem dX0_copyFrom_21 : decode cX0_copyFrom 21 = .ok (.invokestatic 60, 3) := by decide +kernel
theorem dX0_copyFrom_24 : decode cX0_copyFrom 24 = .ok (.aload_n 1, 1) := by decide +kernel
theorem dX0_copyFrom_25 : decode cX0_copyFrom 25 = .ok (.getfield 15, 3) := by decide +kernel
theorem dX0_copyFrom_28 : decode cX0_copyFrom 28 = .ok (.iconst 0, 1) := by decide +kernel
theorem dX0_copyFrom_29 : decode cX0_copyFrom 29 = .ok (.aload_n 0, 1) := by decide +kernel
theorem dX0_copyFrom_30 : decode cX0_copyFrom 30 = .ok (.getfield 15, 3) := by decide +kernel
theorem dX0_copyFrom_33 : decode cX0_copyFrom 33 = .ok (.iconst 0, 1) := by decide +kernel
theorem dX0_copyFrom_34 : decode cX0_copyFrom 34 = .ok (.sipush 256, 3) := by decide +kernel
theorem dX0_copyFrom_37 : decode cX0_copyFrom 37 = .ok (.invokestatic 60, 3) := by decide +kernel
theorem dX0_copyFrom_40 : decode cX0_copyFrom 40 = .ok (.aload_n 1, 1) := by decide +kernel
theorem dX0_copyFrom_41 : decode cX0_copyFrom 41 = .ok (.getfield 18, 3) := by decide +kernel
theorem dX0_copyFrom_44 : decode cX0_copyFrom 44 = .ok (.iconst 0, 1) := by decide +kernel
theorem dX0_copyFrom_45 : decode cX0_copyFrom 45 = .ok (.aload_n 0, 1) := by decide +kernel
theorem dX0_copyFrom_46 : decode cX0_copyFrom 46 = .ok (.getfield 18, 3) := by decide +kernel
theorem dX0_copyFrom_49 : decode cX0_copyFrom 49 = .ok (.iconst 0, 1) := by decide +kernel
theorem dX0_copyFrom_50 : decode cX0_copyFrom 50 = .ok (.sipush 256, 3) := by decide +kernel
theorem dX0_copyFrom_53 : decode cX0_copyFrom 53 = .ok (.invokestatic 60, 3) := by decide +kernel
theorem dX0_copyFrom_56 : decode cX0_copyFrom 56 = .ok (.aload_n 1, 1) := by decide +kernel
theorem dX0_copyFrom_57 : decode cX0_copyFrom 57 = .ok (.getfield 21, 3) := by decide +kernel
theorem dX0_copyFrom_60 : decode cX0_copyFrom 60 = .ok (.iconst 0, 1) := by decide +kernel
theorem dX0_copyFrom_61 : decode cX0_copyFrom 61 = .ok (.aload_n 0, 1) := by decide +kernel
theorem dX0_copyFrom_62 : decode cX0_copyFrom 62 = .ok (.getfield 21, 3) := by decide +kernel
theorem dX0_copyFrom_65 : decode cX0_copyFrom 65 = .ok (.iconst 0, 1) := by decide +kernel
theorem dX0_copyFrom_66 : decode cX0_copyFrom 66 = .ok (.sipush 256, 3) := by decide +kernel
theorem dX0_copyFrom_69 : decode cX0_copyFrom 69 = .ok (.invokestatic 60, 3) := by decide +kernel
theorem dX0_copyFrom_72 : decode cX0_copyFrom 72 = .ok (.aload_n 1, 1) := by decide +kernel
theorem dX0_copyFrom_73 : decode cX0_copyFrom 73 = .ok (.getfield 24, 3) := by decide +kernel
theorem dX0_copyFrom_76 : decode cX0_copyFrom 76 = .ok (.iconst 0, 1) := by decide +kernel
theorem dX0_copyFrom_77 : decode cX0_copyFrom 77 = .ok (.aload_n 0, 1) := by decide +kernel
theorem dX0_copyFrom_78 : decode cX0_copyFrom 78 = .ok (.getfield 24, 3) := by decide +kernel
theorem dX0_copyFrom_81 : decode cX0_copyFrom 81 = .ok (.iconst 0, 1) := by decide +kernel
theorem dX0_copyFrom_82 : decode cX0_copyFrom 82 = .ok (.sipush 1536, 3) := by decide +kernel
theorem dX0_copyFrom_85 : decode cX0_copyFrom 85 = .ok (.invokestatic 60, 3) := by decide +kernel
theorem dX0_copyFrom_88 : decode cX0_copyFrom 88 = .ok (.aload_n 1, 1) := by decide +kernel
theorem dX0_copyFrom_89 : decode cX0_copyFrom 89 = .ok (.getfield 28, 3) := by decide +kernel
theorem dX0_copyFrom_92 : decode cX0_copyFrom 92 = .ok (.iconst 0, 1) := by decide +kernel
theorem dX0_copyFrom_93 : decode cX0_copyFrom 93 = .ok (.aload_n 0, 1) := by decide +kernel
theorem dX0_copyFrom_94 : decode cX0_copyFrom 94 = .ok (.getfield 28, 3) := by decide +kernel
theorem dX0_copyFrom_97 : decode cX0_copyFrom 97 = .ok (.iconst 0, 1) := by decide +kernel
theorem dX0_copyFrom_98 : decode cX0_copyFrom 98 = .ok (.bipush 64, 2) := by decide +kernel
theorem dX0_copyFrom_100 : decode cX0_copyFrom 100 = .ok (.invokestatic 60, 3) := by decide +kernel
theorem dX0_copyFrom_103 : decode cX0_copyFrom 103 = .ok (.aload_n 1, 1) := by decide +kernel
theorem dX0_copyFrom_104 : decode cX0_copyFrom 104 = .ok (.getfield 31, 3) := by decide +kernel
theorem dX0_copyFrom_107 : decode cX0_copyFrom 107 = .ok (.iconst 0, 1) := by decide +kernel
theorem dX0_copyFrom_108 : decode cX0_copyFrom 108 = .ok (.aload_n 0, 1) := by decide +kernel
theorem dX0_copyFrom_109 : decode cX0_copyFrom 109 = .ok (.getfield 31, 3) := by decide +kernel
theorem dX0_copyFrom_112 : decode cX0_copyFrom 112 = .ok (.iconst 0, 1) := by decide +kernel
theorem dX0_copyFrom_113 : decode cX0_copyFrom 113 = .ok (.bipush 64, 2) := by decide +kernel
theorem dX0_copyFrom_115 : decode cX0_copyFrom 115 = .ok (.invokestatic 60, 3) := by decide +kernel
theorem dX0_copyFrom_118 : decode cX0_copyFrom 118 = .ok (.aload_n 1, 1) := by decide +kernel
theorem dX0_copyFrom_119 : decode cX0_copyFrom 119 = .ok (.getfield 34, 3) := by decide +kernel
theorem dX0_copyFrom_122 : decode cX0_copyFrom 122 = .ok (.iconst 0, 1) := by decide +kernel
theorem dX0_copyFrom_123 : decode cX0_copyFrom 123 = .ok (.aload_n 0, 1) := by decide +kernel
theorem dX0_copyFrom_124 : decode cX0_copyFrom 124 = .ok (.getfield 34, 3) := by decide +kernel
theorem dX0_copyFrom_127 : decode cX0_copyFrom 127 = .ok (.iconst 0, 1) := by decide +kernel
theorem dX0_copyFrom_128 : decode cX0_copyFrom 128 = .ok (.bipush 64, 2) := by decide +kernel
theorem dX0_copyFrom_130 : decode cX0_copyFrom 130 = .ok (.invokestatic 60, 3) := by decide +kernel
theorem dX0_copyFrom_133 : decode cX0_copyFrom 133 = .ok (.aload_n 1, 1) := by decide +kernel
theorem dX0_copyFrom_134 : decode cX0_copyFrom 134 = .ok (.getfield 37, 3) := by decide +kernel
theorem dX0_copyFrom_137 : decode cX0_copyFrom 137 = .ok (.iconst 0, 1) := by decide +kernel
theorem dX0_copyFrom_138 : decode cX0_copyFrom 138 = .ok (.aload_n 0, 1) := by decide +kernel
theorem dX0_copyFrom_139 : decode cX0_copyFrom 139 = .ok (.getfield 37, 3) := by decide +kernel
theorem dX0_copyFrom_142 : decode cX0_copyFrom 142 = .ok (.iconst 0, 1) := by decide +kernel
theorem dX0_copyFrom_143 : decode cX0_copyFrom 143 = .ok (.bipush 64, 2) := by decide +kernel
theorem dX0_copyFrom_145 : decode cX0_copyFrom 145 = .ok (.invokestatic 60, 3) := by decide +kernel
theorem dX0_copyFrom_148 : decode cX0_copyFrom 148 = .ok (.return_, 1) := by decide +kernel
theorem dX0_addPage_0 : decode cX0_addPage 0 = .ok (.iconst 0, 1) := by decide +kernel
theorem dX0_addPage_1 : decode cX0_addPage 1 = .ok (.istore_n 2, 1) := by decide +kernel
theorem dX0_addPage_2 : decode cX0_addPage 2 = .ok (.iload_n 2, 1) := by decide +kernel
theorem dX0_addPage_3 : decode cX0_addPage 3 = .ok (.sipush 256, 3) := by decide +kernel
theorem dX0_addPage_6 : decode cX0_addPage 6 = .ok (.if_icmp .ge 19, 3) := by decide +kernel
theorem dX0_addPage_9 : decode cX0_addPage 9 = .ok (.aload_n 0, 1) := by decide +kernel
theorem dX0_addPage_10 : decode cX0_addPage 10 = .ok (.getfield 9, 3) := by decide +kernel
theorem dX0_addPage_13 : decode cX0_addPage 13 = .ok (.iload_n 2, 1) := by decide +kernel
theorem dX0_addPage_14 : decode cX0_addPage 14 = .ok (.iaload, 1) := by decide +kernel
theorem dX0_addPage_15 : decode cX0_addPage 15 = .ok (.iconst (-1), 1) := by decide +kernel
theorem dX0_addPage_16 : decode cX0_addPage 16 = .ok (.if_icmp .eq 9, 3) := by decide +kernel
theorem dX0_addPage_19 : decode cX0_addPage 19 = .ok (.iinc 2 1, 3) := by decide +kernel
theorem dX0_addPage_22 : decode cX0_addPage 22 = .ok (.goto (-20), 3) := by decide +kernel
theorem dX0_addPage_25 : decode cX0_addPage 25 = .ok (.iload_n 2, 1) := by decide +kernel
theorem dX0_addPage_26 : decode cX0_addPage 26 = .ok (.sipush 256, 3) := by decide +kernel
theorem dX0_addPage_29 : decode cX0_addPage 29 = .ok (.if_icmp .ne 5, 3) := by decide +kernel
theorem dX0_addPage_32 : decode cX0_addPage 32 = .ok (.iconst (-1), 1) := by decide +kernel
theorem dX0_addPage_33 : decode cX0_addPage 33 = .ok (.ireturn, 1) := by decide +kernel
theorem dX0_addPage_34 : decode cX0_addPage 34 = .ok (.aload_n 0, 1) := by decide +kernel
theorem dX0_addPage_35 : decode cX0_addPage 35 = .ok (.getfield 9, 3) := by decide +kernel
theorem dX0_addPage_38 : decode cX0_addPage 38 = .ok (.iload_n 2, 1) := by decide +kernel
theorem dX0_addPage_39 : decode cX0_addPage 39 = .ok (.iload_n 1, 1) := by decide +kernel
theorem dX0_addPage_40 : decode cX0_addPage 40 = .ok (.iastore, 1) := by decide +kernel
theorem dX0_addPage_41 : decode cX0_addPage 41 = .ok (.aload_n 0, 1) := by decide +kernel
theorem dX0_addPage_42 : decode cX0_addPage 42 = .ok (.getfield 15, 3) := by decide +kernel
theorem dX0_addPage_45 : decode cX0_addPage 45 = .ok (.iload_n 2, 1) := by decide +kernel
theorem dX0_addPage_46 : decode cX0_addPage 46 = .ok (.aload_n 0, 1) := by decide +kernel
theorem dX0_addPage_47 : decode cX0_addPage 47 = .ok (.getfield 37, 3) := by decide +kernel
theorem dX0_addPage_50 : decode cX0_addPage 50 = .ok (.iload_n 1, 1) := by decide +kernel
theorem dX0_addPage_51 : decode cX0_addPage 51 = .ok (.iaload, 1) := by decide +kernel
theorem dX0_addPage_52 : decode cX0_addPage 52 = .ok (.iastore, 1) := by decide +kernel
theorem dX0_addPage_53 : decode cX0_addPage 53 = .ok (.aload_n 0, 1) := by decide +kernel
theorem dX0_addPage_54 : decode cX0_addPage 54 = .ok (.getfield 18, 3) := by decide +kernel
theorem dX0_addPage_57 : decode cX0_addPage 57 = .ok (.iload_n 2, 1) := by decide +kernel
theorem dX0_addPage_58 : decode cX0_addPage 58 = .ok (.iconst 0, 1) := by decide +kernel
theorem dX0_addPage_59 : decode cX0_addPage 59 = .ok (.iastore, 1) := by decide +kernel
theorem dX0_addPage_60 : decode cX0_addPage 60 = .ok (.aload_n 0, 1) := by decide +kernel
theorem dX0_addPage_61 : decode cX0_addPage 61 = .ok (.getfield 21, 3) := by decide +kernel
theorem dX0_addPage_64 : decode cX0_addPage 64 = .ok (.iload_n 2, 1) := by decide +kernel
theorem dX0_addPage_65 : decode cX0_addPage 65 = .ok (.iconst (-1), 1) := by decide +kernel
theorem dX0_addPage_66 : decode cX0_addPage 66 = .ok (.iastore, 1) := by decide +kernel
theorem dX0_addPage_67 : decode cX0_addPage 67 = .ok (.aload_n 0, 1) := by decide +kernel
theorem dX0_addPage_68 : decode cX0_addPage 68 = .ok (.getfield 37, 3) := by decide +kernel
theorem dX0_addPage_71 : decode cX0_addPage 71 = .ok (.iload_n 1, 1) := by decide +kernel
theorem dX0_addPage_72 : decode cX0_addPage 72 = .ok (.iaload, 1) := by decide +kernel
theorem dX0_addPage_73 : decode cX0_addPage 73 = .ok (.ifCond .ne 13, 3) := by decide +kernel
theorem dX0_addPage_76 : decode cX0_addPage 76 = .ok (.aload_n 0, 1) := by decide +kernel
theorem dX0_addPage_77 : decode cX0_addPage 77 = .ok (.getfield 28, 3) := by decide +kernel
theorem dX0_addPage_80 : decode cX0_addPage 80 = .ok (.iload_n 1, 1) := by decide +kernel
theorem dX0_addPage_81 : decode cX0_addPage 81 = .ok (.iload_n 2, 1) := by decide +kernel
theorem dX0_addPage_82 : decode cX0_addPage 82 = .ok (.iastore, 1) := by decide +kernel
theorem dX0_addPage_83 : decode cX0_addPage 83 = .ok (.goto 15, 3) := by decide +kernel
theorem dX0_addPage_86 : decode cX0_addPage 86 = .ok (.aload_n 0, 1) := by decide +kernel
theorem dX0_addPage_87 : decode cX0_addPage 87 = .ok (.getfield 21, 3) := by decide +kernel
theorem dX0_addPage_90 : decode cX0_addPage 90 = .ok (.aload_n 0, 1) := by decide +kernel
theorem dX0_addPage_91 : decode cX0_addPage 91 = .ok (.getfield 31, 3) := by decide +kernel
theorem dX0_addPage_94 : decode cX0_addPage 94 = .ok (.iload_n 1, 1) := by decide +kernel
theorem dX0_addPage_95 : decode cX0_addPage 95 = .ok (.iaload, 1) := by decide +kernel
theorem dX0_addPage_96 : decode cX0_addPage 96 = .ok (.iload_n 2, 1) := by decide +kernel
theorem dX0_addPage_97 : decode cX0_addPage 97 = .ok (.iastore, 1) := by decide +kernel
theorem dX0_addPage_98 : decode cX0_addPage 98 = .ok (.aload_n 0, 1) := by decide +kernel
theorem dX0_addPage_99 : decode cX0_addPage 99 = .ok (.getfield 31, 3) := by decide +kernel
theorem dX0_addPage_102 : decode cX0_addPage 102 = .ok (.iload_n 1, 1) := by decide +kernel
theorem dX0_addPage_103 : decode cX0_addPage 103 = .ok (.iload_n 2, 1) := by decide +kernel
theorem dX0_addPage_104 : decode cX0_addPage 104 = .ok (.iastore, 1) := by decide +kernel
theorem dX0_addPage_105 : decode cX0_addPage 105 = .ok (.aload_n 0, 1) := by decide +kernel
theorem dX0_addPage_106 : decode cX0_addPage 106 = .ok (.getfield 37, 3) := by decide +kernel
theorem dX0_addPage_109 : decode cX0_addPage 109 = .ok (.iload_n 1, 1) := by decide +kernel
theorem dX0_addPage_110 : decode cX0_addPage 110 = .ok (.dup2, 1) := by decide +kernel
theorem dX0_addPage_111 : decode cX0_addPage 111 = .ok (.iaload, 1) := by decide +kernel
theorem dX0_addPage_112 : decode cX0_addPage 112 = .ok (.iconst 1, 1) := by decide +kernel
theorem dX0_addPage_113 : decode cX0_addPage 113 = .ok (.iadd, 1) := by decide +kernel
theorem dX0_addPage_114 : decode cX0_addPage 114 = .ok (.iastore, 1) := by decide +kernel
theorem dX0_addPage_115 : decode cX0_addPage 115 = .ok (.iload_n 2, 1) := by decide +kernel
theorem dX0_addPage_116 : decode cX0_addPage 116 = .ok (.ireturn, 1) := by decide +kernel
theorem dX0_append_0 : decode cX0_append 0 = .ok (.aload_n 0, 1) := by decide +kernel
theorem dX0_append_1 : decode cX0_append 1 = .ok (.getfield 31, 3) := by decide +kernel
theorem dX0_append_4 : decode cX0_append 4 = .ok (.iload_n 1, 1) := by decide +kernel
theorem dX0_append_5 : decode cX0_append 5 = .ok (.iaload, 1) := by decide +kernel
theorem dX0_append_6 : decode cX0_append 6 = .ok (.istore 4, 2) := by decide +kernel
theorem dX0_append_8 : decode cX0_append 8 = .ok (.iload 4, 2) := by decide +kernel
theorem dX0_append_10 : decode cX0_append 10 = .ok (.iconst (-1), 1) := by decide +kernel
theorem dX0_append_11 : decode cX0_append 11 = .ok (.if_icmp .eq 17, 3) := by decide +kernel
theorem dX0_append_14 : decode cX0_append 14 = .ok (.aload_n 0, 1) := by decide +kernel
theorem dX0_append_15 : decode cX0_append 15 = .ok (.getfield 18, 3) := by decide +kernel
theorem dX0_append_18 : decode cX0_append 18 = .ok (.iload 4, 2) := by decide +kernel
theorem dX0_append_20 : decode cX0_append 20 = .ok (.iaload, 1) := by decide +kernel
theorem dX0_append_21 : decode cX0_append 21 = .ok (.aload_n 0, 1) := by decide +kernel
theorem dX0_append_22 : decode cX0_append 22 = .ok (.getfield 47, 3) := by decide +kernel
theorem dX0_append_25 : decode cX0_append 25 = .ok (.if_icmp .lt 7, 3) := by decide +kernel
theorem dX0_append_28 : decode cX0_append 28 = .ok (.iconst 1, 1) := by decide +kernel
theorem dX0_append_29 : decode cX0_append 29 = .ok (.goto 4, 3) := by decide +kernel
theorem dX0_append_32 : decode cX0_append 32 = .ok (.iconst 0, 1) := by decide +kernel
theorem dX0_append_33 : decode cX0_append 33 = .ok (.istore 5, 2) := by decide +kernel
theorem dX0_append_35 : decode cX0_append 35 = .ok (.iload 5, 2) := by decide +kernel
theorem dX0_append_37 : decode cX0_append 37 = .ok (.ifCond .eq 10, 3) := by decide +kernel
theorem dX0_append_40 : decode cX0_append 40 = .ok (.aload_n 0, 1) := by decide +kernel
theorem dX0_append_41 : decode cX0_append 41 = .ok (.iload_n 1, 1) := by decide +kernel
theorem dX0_append_42 : decode cX0_append 42 = .ok (.invokevirtual 56, 3) := by decide +kernel
theorem dX0_append_45 : decode cX0_append 45 = .ok (.istore 4, 2) := by decide +kernel
theorem dX0_append_47 : decode cX0_append 47 = .ok (.iload 4, 2) := by decide +kernel
theorem dX0_append_49 : decode cX0_append 49 = .ok (.iconst (-1), 1) := by decide +kernel
theorem dX0_append_50 : decode cX0_append 50 = .ok (.if_icmp .ne 5, 3) := by decide +kernel
theorem dX0_append_53 : decode cX0_append 53 = .ok (.iconst 0, 1) := by decide +kernel
theorem dX0_append_54 : decode cX0_append 54 = .ok (.ireturn, 1) := by decide +kernel
theorem dX0_append_55 : decode cX0_append 55 = .ok (.aload_n 0, 1) := by decide +kernel
theorem dX0_append_56 : decode cX0_append 56 = .ok (.getfield 24, 3) := by decide +kernel
theorem dX0_append_59 : decode cX0_append 59 = .ok (.iload 4, 2) := by decide +kernel
theorem dX0_append_61 : decode cX0_append 61 = .ok (.bipush 6, 2) := by decide +kernel
theorem dX0_append_63 : decode cX0_append 63 = .ok (.imul, 1) := by decide +kernel
theorem dX0_append_64 : decode cX0_append 64 = .ok (.aload_n 0, 1) := by decide +kernel
theorem dX0_append_65 : decode cX0_append 65 = .ok (.getfield 18, 3) := by decide +kernel
theorem dX0_append_68 : decode cX0_append 68 = .ok (.iload 4, 2) := by decide +kernel
theorem dX0_append_70 : decode cX0_append 70 = .ok (.iaload, 1) := by decide +kernel
theorem dX0_append_71 : decode cX0_append 71 = .ok (.iadd, 1) := by decide +kernel
theorem dX0_append_72 : decode cX0_append 72 = .ok (.lload_n 2, 1) := by decide +kernel
theorem dX0_append_73 : decode cX0_append 73 = .ok (.lastore, 1) := by decide +kernel
theorem dX0_append_74 : decode cX0_append 74 = .ok (.aload_n 0, 1) := by decide +kernel
theorem dX0_append_75 : decode cX0_append 75 = .ok (.getfield 18, 3) := by decide +kernel
theorem dX0_append_78 : decode cX0_append 78 = .ok (.iload 4, 2) := by decide +kernel
theorem dX0_append_80 : decode cX0_append 80 = .ok (.dup2, 1) := by decide +kernel
theorem dX0_append_81 : decode cX0_append 81 = .ok (.iaload, 1) := by decide +kernel
theorem dX0_append_82 : decode cX0_append 82 = .ok (.iconst 1, 1) := by decide +kernel
theorem dX0_append_83 : decode cX0_append 83 = .ok (.iadd, 1) := by decide +kernel
theorem dX0_append_84 : decode cX0_append 84 = .ok (.iastore, 1) := by decide +kernel
theorem dX0_append_85 : decode cX0_append 85 = .ok (.aload_n 0, 1) := by decide +kernel
theorem dX0_append_86 : decode cX0_append 86 = .ok (.getfield 34, 3) := by decide +kernel
theorem dX0_append_89 : decode cX0_append 89 = .ok (.iload_n 1, 1) := by decide +kernel
theorem dX0_append_90 : decode cX0_append 90 = .ok (.dup2, 1) := by decide +kernel
theorem dX0_append_91 : decode cX0_append 91 = .ok (.iaload, 1) := by decide +kernel
theorem dX0_append_92 : decode cX0_append 92 = .ok (.iconst 1, 1) := by decide +kernel
theorem dX0_append_93 : decode cX0_append 93 = .ok (.iadd, 1) := by decide +kernel
theorem dX0_append_94 : decode cX0_append 94 = .ok (.iastore, 1) := by decide +kernel
theorem dX0_append_95 : decode cX0_append 95 = .ok (.iload 5, 2) := by decide +kernel
theorem dX0_append_97 : decode cX0_append 97 = .ok (.ireturn, 1) := by decide +kernel
theorem dX0_slotOf_0 : decode cX0_slotOf 0 = .ok (.aload_n 0, 1) := by decide +kernel
theorem dX0_slotOf_1 : decode cX0_slotOf 1 = .ok (.getfield 28, 3) := by decide +kernel
theorem dX0_slotOf_4 : decode cX0_slotOf 4 = .ok (.iload_n 1, 1) := by decide +kernel
theorem dX0_slotOf_5 : decode cX0_slotOf 5 = .ok (.iaload, 1) := by decide +kernel
theorem dX0_slotOf_6 : decode cX0_slotOf 6 = .ok (.istore_n 3, 1) := by decide +kernel
theorem dX0_slotOf_7 : decode cX0_slotOf 7 = .ok (.iconst 0, 1) := by decide +kernel
theorem dX0_slotOf_8 : decode cX0_slotOf 8 = .ok (.istore 4, 2) := by decide +kernel
theorem dX0_slotOf_10 : decode cX0_slotOf 10 = .ok (.iload 4, 2) := by decide +kernel
theorem dX0_slotOf_12 : decode cX0_slotOf 12 = .ok (.aload_n 0, 1) := by decide +kernel
theorem dX0_slotOf_13 : decode cX0_slotOf 13 = .ok (.getfield 37, 3) := by decide +kernel
theorem dX0_slotOf_16 : decode cX0_slotOf 16 = .ok (.iload_n 1, 1) := by decide +kernel
theorem dX0_slotOf_17 : decode cX0_slotOf 17 = .ok (.iaload, 1) := by decide +kernel
theorem dX0_slotOf_18 : decode cX0_slotOf 18 = .ok (.if_icmp .ge 68, 3) := by decide +kernel
theorem dX0_slotOf_21 : decode cX0_slotOf 21 = .ok (.iload_n 3, 1) := by decide +kernel
theorem dX0_slotOf_22 : decode cX0_slotOf 22 = .ok (.iconst (-1), 1) := by decide +kernel
theorem dX0_slotOf_23 : decode cX0_slotOf 23 = .ok (.if_icmp .eq 63, 3) := by decide +kernel
theorem dX0_slotOf_26 : decode cX0_slotOf 26 = .ok (.iload_n 3, 1) := by decide +kernel
theorem dX0_slotOf_27 : decode cX0_slotOf 27 = .ok (.bipush 6, 2) := by decide +kernel
theorem dX0_slotOf_29 : decode cX0_slotOf 29 = .ok (.imul, 1) := by decide +kernel
theorem dX0_slotOf_30 : decode cX0_slotOf 30 = .ok (.istore 5, 2) := by decide +kernel
theorem dX0_slotOf_32 : decode cX0_slotOf 32 = .ok (.iload 5, 2) := by decide +kernel
theorem dX0_slotOf_34 : decode cX0_slotOf 34 = .ok (.istore 6, 2) := by decide +kernel
theorem dX0_slotOf_36 : decode cX0_slotOf 36 = .ok (.iload 6, 2) := by decide +kernel
theorem dX0_slotOf_38 : decode cX0_slotOf 38 = .ok (.iload 5, 2) := by decide +kernel
theorem dX0_slotOf_40 : decode cX0_slotOf 40 = .ok (.aload_n 0, 1) := by decide +kernel
theorem dX0_slotOf_41 : decode cX0_slotOf 41 = .ok (.getfield 18, 3) := by decide +kernel
theorem dX0_slotOf_44 : decode cX0_slotOf 44 = .ok (.iload_n 3, 1) := by decide +kernel
theorem dX0_slotOf_45 : decode cX0_slotOf 45 = .ok (.iaload, 1) := by decide +kernel
theorem dX0_slotOf_46 : decode cX0_slotOf 46 = .ok (.iadd, 1) := by decide +kernel
theorem dX0_slotOf_47 : decode cX0_slotOf 47 = .ok (.if_icmp .ge 26, 3) := by decide +kernel
theorem dX0_slotOf_50 : decode cX0_slotOf 50 = .ok (.aload_n 0, 1) := by decide +kernel
theorem dX0_slotOf_51 : decode cX0_slotOf 51 = .ok (.getfield 24, 3) := by decide +kernel
theorem dX0_slotOf_54 : decode cX0_slotOf 54 = .ok (.iload 6, 2) := by decide +kernel
theorem dX0_slotOf_56 : decode cX0_slotOf 56 = .ok (.laload, 1) := by decide +kernel
theorem dX0_slotOf_57 : decode cX0_slotOf 57 = .ok (.invokestatic 66, 3) := by decide +kernel
theorem dX0_slotOf_60 : decode cX0_slotOf 60 = .ok (.iload_n 2, 1) := by decide +kernel
theorem dX0_slotOf_61 : decode cX0_slotOf 61 = .ok (.if_icmp .ne 6, 3) := by decide +kernel
theorem dX0_slotOf_64 : decode cX0_slotOf 64 = .ok (.iload 6, 2) := by decide +kernel
theorem dX0_slotOf_66 : decode cX0_slotOf 66 = .ok (.ireturn, 1) := by decide +kernel
theorem dX0_slotOf_67 : decode cX0_slotOf 67 = .ok (.iinc 6 1, 3) := by decide +kernel
theorem dX0_slotOf_70 : decode cX0_slotOf 70 = .ok (.goto (-34), 3) := by decide +kernel
theorem dX0_slotOf_73 : decode cX0_slotOf 73 = .ok (.aload_n 0, 1) := by decide +kernel
theorem dX0_slotOf_74 : decode cX0_slotOf 74 = .ok (.getfield 21, 3) := by decide +kernel
theorem dX0_slotOf_77 : decode cX0_slotOf 77 = .ok (.iload_n 3, 1) := by decide +kernel
theorem dX0_slotOf_78 : decode cX0_slotOf 78 = .ok (.iaload, 1) := by decide +kernel
theorem dX0_slotOf_79 : decode cX0_slotOf 79 = .ok (.istore_n 3, 1) := by decide +kernel
theorem dX0_slotOf_80 : decode cX0_slotOf 80 = .ok (.iinc 4 1, 3) := by decide +kernel
theorem dX0_slotOf_83 : decode cX0_slotOf 83 = .ok (.goto (-73), 3) := by decide +kernel
theorem dX0_slotOf_86 : decode cX0_slotOf 86 = .ok (.iconst (-1), 1) := by decide +kernel
theorem dX0_slotOf_87 : decode cX0_slotOf 87 = .ok (.ireturn, 1) := by decide +kernel
theorem dX0_pageAt_0 : decode cX0_pageAt 0 = .ok (.iload_n 2, 1) := by decide +kernel
theorem dX0_pageAt_1 : decode cX0_pageAt 1 = .ok (.ifCond .lt 13, 3) := by decide +kernel
theorem dX0_pageAt_4 : decode cX0_pageAt 4 = .ok (.iload_n 2, 1) := by decide +kernel
theorem dX0_pageAt_5 : decode cX0_pageAt 5 = .ok (.aload_n 0, 1) := by decide +kernel
theorem dX0_pageAt_6 : decode cX0_pageAt 6 = .ok (.getfield 37, 3) := by decide +kernel
theorem dX0_pageAt_9 : decode cX0_pageAt 9 = .ok (.iload_n 1, 1) := by decide +kernel
theorem dX0_pageAt_10 : decode cX0_pageAt 10 = .ok (.iaload, 1) := by decide +kernel
theorem dX0_pageAt_11 : decode cX0_pageAt 11 = .ok (.if_icmp .lt 5, 3) := by decide +kernel
theorem dX0_pageAt_14 : decode cX0_pageAt 14 = .ok (.iconst (-1), 1) := by decide +kernel
theorem dX0_pageAt_15 : decode cX0_pageAt 15 = .ok (.ireturn, 1) := by decide +kernel
theorem dX0_pageAt_16 : decode cX0_pageAt 16 = .ok (.aload_n 0, 1) := by decide +kernel
theorem dX0_pageAt_17 : decode cX0_pageAt 17 = .ok (.getfield 28, 3) := by decide +kernel
theorem dX0_pageAt_20 : decode cX0_pageAt 20 = .ok (.iload_n 1, 1) := by decide +kernel
theorem dX0_pageAt_21 : decode cX0_pageAt 21 = .ok (.iaload, 1) := by decide +kernel
theorem dX0_pageAt_22 : decode cX0_pageAt 22 = .ok (.istore_n 3, 1) := by decide +kernel
theorem dX0_pageAt_23 : decode cX0_pageAt 23 = .ok (.iconst 0, 1) := by decide +kernel
theorem dX0_pageAt_24 : decode cX0_pageAt 24 = .ok (.istore 4, 2) := by decide +kernel
theorem dX0_pageAt_26 : decode cX0_pageAt 26 = .ok (.iload 4, 2) := by decide +kernel
theorem dX0_pageAt_28 : decode cX0_pageAt 28 = .ok (.iload_n 2, 1) := by decide +kernel
theorem dX0_pageAt_29 : decode cX0_pageAt 29 = .ok (.if_icmp .ge 21, 3) := by decide +kernel
theorem dX0_pageAt_32 : decode cX0_pageAt 32 = .ok (.iload_n 3, 1) := by decide +kernel
theorem dX0_pageAt_33 : decode cX0_pageAt 33 = .ok (.iconst (-1), 1) := by decide +kernel
theorem dX0_pageAt_34 : decode cX0_pageAt 34 = .ok (.if_icmp .eq 16, 3) := by decide +kernel
theorem dX0_pageAt_37 : decode cX0_pageAt 37 = .ok (.aload_n 0, 1) := by decide +kernel
theorem dX0_pageAt_38 : decode cX0_pageAt 38 = .ok (.getfield 21, 3) := by decide +kernel
theorem dX0_pageAt_41 : decode cX0_pageAt 41 = .ok (.iload_n 3, 1) := by decide +kernel
theorem dX0_pageAt_42 : decode cX0_pageAt 42 = .ok (.iaload, 1) := by decide +kernel
theorem dX0_pageAt_43 : decode cX0_pageAt 43 = .ok (.istore_n 3, 1) := by decide +kernel
theorem dX0_pageAt_44 : decode cX0_pageAt 44 = .ok (.iinc 4 1, 3) := by decide +kernel
theorem dX0_pageAt_47 : decode cX0_pageAt 47 = .ok (.goto (-21), 3) := by decide +kernel
theorem dX0_pageAt_50 : decode cX0_pageAt 50 = .ok (.iload_n 3, 1) := by decide +kernel
theorem dX0_pageAt_51 : decode cX0_pageAt 51 = .ok (.ireturn, 1) := by decide +kernel
theorem dX0_pageOfKey_0 : decode cX0_pageOfKey 0 = .ok (.iload_n 2, 1) := by decide +kernel
theorem dX0_pageOfKey_1 : decode cX0_pageOfKey 1 = .ok (.ifCond .lt 21, 3) := by decide +kernel
theorem dX0_pageOfKey_4 : decode cX0_pageOfKey 4 = .ok (.iload_n 2, 1) := by decide +kernel
theorem dX0_pageOfKey_5 : decode cX0_pageOfKey 5 = .ok (.aload_n 0, 1) := by decide +kernel
theorem dX0_pageOfKey_6 : decode cX0_pageOfKey 6 = .ok (.getfield 34, 3) := by decide +kernel
theorem dX0_pageOfKey_9 : decode cX0_pageOfKey 9 = .ok (.iload_n 1, 1) := by decide +kernel
theorem dX0_pageOfKey_10 : decode cX0_pageOfKey 10 = .ok (.iaload, 1) := by decide +kernel
theorem dX0_pageOfKey_11 : decode cX0_pageOfKey 11 = .ok (.if_icmp .ge 11, 3) := by decide +kernel
theorem dX0_pageOfKey_14 : decode cX0_pageOfKey 14 = .ok (.aload_n 0, 1) := by decide +kernel
theorem dX0_pageOfKey_15 : decode cX0_pageOfKey 15 = .ok (.getfield 47, 3) := by decide +kernel
theorem dX0_pageOfKey_18 : decode cX0_pageOfKey 18 = .ok (.iconst 1, 1) := by decide +kernel
theorem dX0_pageOfKey_19 : decode cX0_pageOfKey 19 = .ok (.if_icmp .ge 7, 3) := by decide +kernel
theorem dX0_pageOfKey_22 : decode cX0_pageOfKey 22 = .ok (.iconst (-1), 1) := by decide +kernel
theorem dX0_pageOfKey_23 : decode cX0_pageOfKey 23 = .ok (.goto 14, 3) := by decide +kernel
theorem dX0_pageOfKey_26 : decode cX0_pageOfKey 26 = .ok (.aload_n 0, 1) := by decide +kernel
theorem dX0_pageOfKey_27 : decode cX0_pageOfKey 27 = .ok (.iload_n 1, 1) := by decide +kernel
theorem dX0_pageOfKey_28 : decode cX0_pageOfKey 28 = .ok (.iload_n 2, 1) := by decide +kernel
theorem dX0_pageOfKey_29 : decode cX0_pageOfKey 29 = .ok (.aload_n 0, 1) := by decide +kernel
theorem dX0_pageOfKey_30 : decode cX0_pageOfKey 30 = .ok (.getfield 47, 3) := by decide +kernel
theorem dX0_pageOfKey_33 : decode cX0_pageOfKey 33 = .ok (.idiv, 1) := by decide +kernel
theorem dX0_pageOfKey_34 : decode cX0_pageOfKey 34 = .ok (.invokevirtual 72, 3) := by decide +kernel
theorem dX0_pageOfKey_37 : decode cX0_pageOfKey 37 = .ok (.ireturn, 1) := by decide +kernel
theorem dX0_keyAt_0 : decode cX0_keyAt 0 = .ok (.aload_n 0, 1) := by decide +kernel
theorem dX0_keyAt_1 : decode cX0_keyAt 1 = .ok (.iload_n 1, 1) := by decide +kernel
theorem dX0_keyAt_2 : decode cX0_keyAt 2 = .ok (.iload_n 2, 1) := by decide +kernel
theorem dX0_keyAt_3 : decode cX0_keyAt 3 = .ok (.invokevirtual 76, 3) := by decide +kernel
theorem dX0_keyAt_6 : decode cX0_keyAt 6 = .ok (.istore_n 3, 1) := by decide +kernel
theorem dX0_keyAt_7 : decode cX0_keyAt 7 = .ok (.iload_n 3, 1) := by decide +kernel
theorem dX0_keyAt_8 : decode cX0_keyAt 8 = .ok (.iconst (-1), 1) := by decide +kernel
theorem dX0_keyAt_9 : decode cX0_keyAt 9 = .ok (.if_icmp .ne 8, 3) := by decide +kernel
theorem dX0_keyAt_12 : decode cX0_keyAt 12 = .ok (.bipush (-4), 2) := by decide +kernel
theorem dX0_keyAt_14 : decode cX0_keyAt 14 = .ok (.goto 22, 3) := by decide +kernel
theorem dX0_keyAt_17 : decode cX0_keyAt 17 = .ok (.aload_n 0, 1) := by decide +kernel
theorem dX0_keyAt_18 : decode cX0_keyAt 18 = .ok (.getfield 24, 3) := by decide +kernel
theorem dX0_keyAt_21 : decode cX0_keyAt 21 = .ok (.iload_n 3, 1) := by decide +kernel
theorem dX0_keyAt_22 : decode cX0_keyAt 22 = .ok (.bipush 6, 2) := by decide +kernel
theorem dX0_keyAt_24 : decode cX0_keyAt 24 = .ok (.imul, 1) := by decide +kernel
theorem dX0_keyAt_25 : decode cX0_keyAt 25 = .ok (.iload_n 2, 1) := by decide +kernel
theorem dX0_keyAt_26 : decode cX0_keyAt 26 = .ok (.aload_n 0, 1) := by decide +kernel
theorem dX0_keyAt_27 : decode cX0_keyAt 27 = .ok (.getfield 47, 3) := by decide +kernel
theorem dX0_keyAt_30 : decode cX0_keyAt 30 = .ok (.irem, 1) := by decide +kernel
theorem dX0_keyAt_31 : decode cX0_keyAt 31 = .ok (.iadd, 1) := by decide +kernel
theorem dX0_keyAt_32 : decode cX0_keyAt 32 = .ok (.laload, 1) := by decide +kernel
theorem dX0_keyAt_33 : decode cX0_keyAt 33 = .ok (.invokestatic 66, 3) := by decide +kernel
theorem dX0_keyAt_36 : decode cX0_keyAt 36 = .ok (.ireturn, 1) := by decide +kernel
theorem dX0_fillFromLast_0 : decode cX0_fillFromLast 0 = .ok (.aload_n 0, 1) := by decide +kernel
theorem dX0_fillFromLast_1 : decode cX0_fillFromLast 1 = .ok (.getfield 31, 3) := by decide +kernel
theorem dX0_fillFromLast_4 : decode cX0_fillFromLast 4 = .ok (.iload_n 1, 1) := by decide +kernel
theorem dX0_fillFromLast_5 : decode cX0_fillFromLast 5 = .ok (.iaload, 1) := by decide +kernel
theorem dX0_fillFromLast_6 : decode cX0_fillFromLast 6 = .ok (.istore_n 3, 1) := by decide +kernel
theorem dX0_fillFromLast_7 : decode cX0_fillFromLast 7 = .ok (.iload_n 3, 1) := by decide +kernel
theorem dX0_fillFromLast_8 : decode cX0_fillFromLast 8 = .ok (.iconst (-1), 1) := by decide +kernel
theorem dX0_fillFromLast_9 : decode cX0_fillFromLast 9 = .ok (.if_icmp .eq 12, 3) := by decide +kernel
theorem dX0_fillFromLast_12 : decode cX0_fillFromLast 12 = .ok (.aload_n 0, 1) := by decide +kernel
theorem dX0_fillFromLast_13 : decode cX0_fillFromLast 13 = .ok (.getfield 18, 3) := by decide +kernel
theorem dX0_fillFromLast_16 : decode cX0_fillFromLast 16 = .ok (.iload_n 3, 1) := by decide +kernel
theorem dX0_fillFromLast_17 : decode cX0_fillFromLast 17 = .ok (.iaload, 1) := by decide +kernel
theorem dX0_fillFromLast_18 : decode cX0_fillFromLast 18 = .ok (.ifCond .ne 5, 3) := by decide +kernel
theorem dX0_fillFromLast_21 : decode cX0_fillFromLast 21 = .ok (.iconst 0, 1) := by decide +kernel
theorem dX0_fillFromLast_22 : decode cX0_fillFromLast 22 = .ok (.ireturn, 1) := by decide +kernel
theorem dX0_fillFromLast_23 : decode cX0_fillFromLast 23 = .ok (.aload_n 0, 1) := by decide +kernel
theorem dX0_fillFromLast_24 : decode cX0_fillFromLast 24 = .ok (.getfield 24, 3) := by decide +kernel
theorem dX0_fillFromLast_27 : decode cX0_fillFromLast 27 = .ok (.iload_n 2, 1) := by decide +kernel
theorem dX0_fillFromLast_28 : decode cX0_fillFromLast 28 = .ok (.aload_n 0, 1) := by decide +kernel
theorem dX0_fillFromLast_29 : decode cX0_fillFromLast 29 = .ok (.getfield 24, 3) := by decide +kernel
theorem dX0_fillFromLast_32 : decode cX0_fillFromLast 32 = .ok (.iload_n 3, 1) := by decide +kernel
theorem dX0_fillFromLast_33 : decode cX0_fillFromLast 33 = .ok (.bipush 6, 2) := by decide +kernel
theorem dX0_fillFromLast_35 : decode cX0_fillFromLast 35 = .ok (.imul, 1) := by decide +kernel
theorem dX0_fillFromLast_36 : decode cX0_fillFromLast 36 = .ok (.aload_n 0, 1) := by decide +kernel
theorem dX0_fillFromLast_37 : decode cX0_fillFromLast 37 = .ok (.getfield 18, 3) := by decide +kernel
theorem dX0_fillFromLast_40 : decode cX0_fillFromLast 40 = .ok (.iload_n 3, 1) := by decide +kernel
theorem dX0_fillFromLast_41 : decode cX0_fillFromLast 41 = .ok (.iaload, 1) := by decide +kernel
theorem dX0_fillFromLast_42 : decode cX0_fillFromLast 42 = .ok (.iadd, 1) := by decide +kernel
theorem dX0_fillFromLast_43 : decode cX0_fillFromLast 43 = .ok (.iconst 1, 1) := by decide +kernel
theorem dX0_fillFromLast_44 : decode cX0_fillFromLast 44 = .ok (.isub, 1) := by decide +kernel
theorem dX0_fillFromLast_45 : decode cX0_fillFromLast 45 = .ok (.laload, 1) := by decide +kernel
theorem dX0_fillFromLast_46 : decode cX0_fillFromLast 46 = .ok (.lastore, 1) := by decide +kernel
theorem dX0_fillFromLast_47 : decode cX0_fillFromLast 47 = .ok (.aload_n 0, 1) := by decide +kernel
theorem dX0_fillFromLast_48 : decode cX0_fillFromLast 48 = .ok (.getfield 18, 3) := by decide +kernel
theorem dX0_fillFromLast_51 : decode cX0_fillFromLast 51 = .ok (.iload_n 3, 1) := by decide +kernel
theorem dX0_fillFromLast_52 : decode cX0_fillFromLast 52 = .ok (.dup2, 1) := by decide +kernel
theorem dX0_fillFromLast_53 : decode cX0_fillFromLast 53 = .ok (.iaload, 1) := by decide +kernel
theorem dX0_fillFromLast_54 : decode cX0_fillFromLast 54 = .ok (.iconst 1, 1) := by decide +kernel
theorem dX0_fillFromLast_55 : decode cX0_fillFromLast 55 = .ok (.isub, 1) := by decide +kernel
theorem dX0_fillFromLast_56 : decode cX0_fillFromLast 56 = .ok (.iastore, 1) := by decide +kernel
theorem dX0_fillFromLast_57 : decode cX0_fillFromLast 57 = .ok (.aload_n 0, 1) := by decide +kernel
theorem dX0_fillFromLast_58 : decode cX0_fillFromLast 58 = .ok (.getfield 34, 3) := by decide +kernel
theorem dX0_fillFromLast_61 : decode cX0_fillFromLast 61 = .ok (.iload_n 1, 1) := by decide +kernel
theorem dX0_fillFromLast_62 : decode cX0_fillFromLast 62 = .ok (.dup2, 1) := by decide +kernel
theorem dX0_fillFromLast_63 : decode cX0_fillFromLast 63 = .ok (.iaload, 1) := by decide +kernel
theorem dX0_fillFromLast_64 : decode cX0_fillFromLast 64 = .ok (.iconst 1, 1) := by decide +kernel
theorem dX0_fillFromLast_65 : decode cX0_fillFromLast 65 = .ok (.isub, 1) := by decide +kernel
theorem dX0_fillFromLast_66 : decode cX0_fillFromLast 66 = .ok (.iastore, 1) := by decide +kernel
theorem dX0_fillFromLast_67 : decode cX0_fillFromLast 67 = .ok (.aload_n 0, 1) := by decide +kernel
theorem dX0_fillFromLast_68 : decode cX0_fillFromLast 68 = .ok (.getfield 18, 3) := by decide +kernel
theorem dX0_fillFromLast_71 : decode cX0_fillFromLast 71 = .ok (.iload_n 3, 1) := by decide +kernel
theorem dX0_fillFromLast_72 : decode cX0_fillFromLast 72 = .ok (.iaload, 1) := by decide +kernel
theorem dX0_fillFromLast_73 : decode cX0_fillFromLast 73 = .ok (.ifCond .ne 18, 3) := by decide +kernel
theorem dX0_fillFromLast_76 : decode cX0_fillFromLast 76 = .ok (.aload_n 0, 1) := by decide +kernel
theorem dX0_fillFromLast_77 : decode cX0_fillFromLast 77 = .ok (.getfield 37, 3) := by decide +kernel
theorem dX0_fillFromLast_80 : decode cX0_fillFromLast 80 = .ok (.iload_n 1, 1) := by decide +kernel
theorem dX0_fillFromLast_81 : decode cX0_fillFromLast 81 = .ok (.iaload, 1) := by decide +kernel
theorem dX0_fillFromLast_82 : decode cX0_fillFromLast 82 = .ok (.iconst 1, 1) := by decide +kernel
theorem dX0_fillFromLast_83 : decode cX0_fillFromLast 83 = .ok (.if_icmp .le 8, 3) := by decide +kernel
theorem dX0_fillFromLast_86 : decode cX0_fillFromLast 86 = .ok (.aload_n 0, 1) := by decide +kernel
theorem dX0_fillFromLast_87 : decode cX0_fillFromLast 87 = .ok (.iload_n 1, 1) := by decide +kernel
theorem dX0_fillFromLast_88 : decode cX0_fillFromLast 88 = .ok (.invokevirtual 79, 3) := by decide +kernel
theorem dX0_fillFromLast_91 : decode cX0_fillFromLast 91 = .ok (.iload_n 2, 1) := by decide +kernel
theorem dX0_fillFromLast_92 : decode cX0_fillFromLast 92 = .ok (.bipush 6, 2) := by decide +kernel
theorem dX0_fillFromLast_94 : decode cX0_fillFromLast 94 = .ok (.idiv, 1) := by decide +kernel
theorem dX0_fillFromLast_95 : decode cX0_fillFromLast 95 = .ok (.iload_n 3, 1) := by decide +kernel
theorem dX0_fillFromLast_96 : decode cX0_fillFromLast 96 = .ok (.if_icmp .eq 7, 3) := by decide +kernel
theorem dX0_fillFromLast_99 : decode cX0_fillFromLast 99 = .ok (.iconst 1, 1) := by decide +kernel
theorem dX0_fillFromLast_100 : decode cX0_fillFromLast 100 = .ok (.goto 4, 3) := by decide +kernel
theorem dX0_fillFromLast_103 : decode cX0_fillFromLast 103 = .ok (.iconst 0, 1) := by decide +kernel
theorem dX0_fillFromLast_104 : decode cX0_fillFromLast 104 = .ok (.ireturn, 1) := by decide +kernel
theorem dX0_dropLastPage_0 : decode cX0_dropLastPage 0 = .ok (.aload_n 0, 1) := by decide +kernel
theorem dX0_dropLastPage_1 : decode cX0_dropLastPage 1 = .ok (.iload_n 1, 1) := by decide +kernel
theorem dX0_dropLastPage_2 : decode cX0_dropLastPage 2 = .ok (.aload_n 0, 1) := by decide +kernel
theorem dX0_dropLastPage_3 : decode cX0_dropLastPage 3 = .ok (.getfield 37, 3) := by decide +kernel
theorem dX0_dropLastPage_6 : decode cX0_dropLastPage 6 = .ok (.iload_n 1, 1) := by decide +kernel
theorem dX0_dropLastPage_7 : decode cX0_dropLastPage 7 = .ok (.iaload, 1) := by decide +kernel
theorem dX0_dropLastPage_8 : decode cX0_dropLastPage 8 = .ok (.iconst 2, 1) := by decide +kernel
theorem dX0_dropLastPage_9 : decode cX0_dropLastPage 9 = .ok (.isub, 1) := by decide +kernel
theorem dX0_dropLastPage_10 : decode cX0_dropLastPage 10 = .ok (.invokevirtual 72, 3) := by decide +kernel
theorem dX0_dropLastPage_13 : decode cX0_dropLastPage 13 = .ok (.istore_n 2, 1) := by decide +kernel
theorem dX0_dropLastPage_14 : decode cX0_dropLastPage 14 = .ok (.iload_n 2, 1) := by decide +kernel
theorem dX0_dropLastPage_15 : decode cX0_dropLastPage 15 = .ok (.iconst (-1), 1) := by decide +kernel
theorem dX0_dropLastPage_16 : decode cX0_dropLastPage 16 = .ok (.if_icmp .ne 4, 3) := by decide +kernel
theorem dX0_dropLastPage_19 : decode cX0_dropLastPage 19 = .ok (.return_, 1) := by decide +kernel
theorem dX0_dropLastPage_20 : decode cX0_dropLastPage 20 = .ok (.aload_n 0, 1) := by decide +kernel
theorem dX0_dropLastPage_21 : decode cX0_dropLastPage 21 = .ok (.getfield 9, 3) := by decide +kernel
theorem dX0_dropLastPage_24 : decode cX0_dropLastPage 24 = .ok (.aload_n 0, 1) := by decide +kernel
theorem dX0_dropLastPage_25 : decode cX0_dropLastPage 25 = .ok (.getfield 31, 3) := by decide +kernel
theorem dX0_dropLastPage_28 : decode cX0_dropLastPage 28 = .ok (.iload_n 1, 1) := by decide +kernel
theorem dX0_dropLastPage_29 : decode cX0_dropLastPage 29 = .ok (.iaload, 1) := by decide +kernel
theorem dX0_dropLastPage_30 : decode cX0_dropLastPage 30 = .ok (.iconst (-1), 1) := by decide +kernel
theorem dX0_dropLastPage_31 : decode cX0_dropLastPage 31 = .ok (.iastore, 1) := by decide +kernel
theorem dX0_dropLastPage_32 : decode cX0_dropLastPage 32 = .ok (.aload_n 0, 1) := by decide +kernel
theorem dX0_dropLastPage_33 : decode cX0_dropLastPage 33 = .ok (.getfield 21, 3) := by decide +kernel
theorem dX0_dropLastPage_36 : decode cX0_dropLastPage 36 = .ok (.iload_n 2, 1) := by decide +kernel
theorem dX0_dropLastPage_37 : decode cX0_dropLastPage 37 = .ok (.iconst (-1), 1) := by decide +kernel
theorem dX0_dropLastPage_38 : decode cX0_dropLastPage 38 = .ok (.iastore, 1) := by decide +kernel
theorem dX0_dropLastPage_39 : decode cX0_dropLastPage 39 = .ok (.aload_n 0, 1) := by decide +kernel
theorem dX0_dropLastPage_40 : decode cX0_dropLastPage 40 = .ok (.getfield 31, 3) := by decide +kernel
theorem dX0_dropLastPage_43 : decode cX0_dropLastPage 43 = .ok (.iload_n 1, 1) := by decide +kernel
theorem dX0_dropLastPage_44 : decode cX0_dropLastPage 44 = .ok (.iload_n 2, 1) := by decide +kernel
theorem dX0_dropLastPage_45 : decode cX0_dropLastPage 45 = .ok (.iastore, 1) := by decide +kernel
theorem dX0_dropLastPage_46 : decode cX0_dropLastPage 46 = .ok (.aload_n 0, 1) := by decide +kernel
theorem dX0_dropLastPage_47 : decode cX0_dropLastPage 47 = .ok (.getfield 37, 3) := by decide +kernel
theorem dX0_dropLastPage_50 : decode cX0_dropLastPage 50 = .ok (.iload_n 1, 1) := by decide +kernel
theorem dX0_dropLastPage_51 : decode cX0_dropLastPage 51 = .ok (.dup2, 1) := by decide +kernel
theorem dX0_dropLastPage_52 : decode cX0_dropLastPage 52 = .ok (.iaload, 1) := by decide +kernel
theorem dX0_dropLastPage_53 : decode cX0_dropLastPage 53 = .ok (.iconst 1, 1) := by decide +kernel
theorem dX0_dropLastPage_54 : decode cX0_dropLastPage 54 = .ok (.isub, 1) := by decide +kernel
theorem dX0_dropLastPage_55 : decode cX0_dropLastPage 55 = .ok (.iastore, 1) := by decide +kernel
theorem dX0_dropLastPage_56 : decode cX0_dropLastPage 56 = .ok (.return_, 1) := by decide +kernel
theorem dX0_gather_0 : decode cX0_gather 0 = .ok (.aload_n 0, 1) := by decide +kernel
theorem dX0_gather_1 : decode cX0_gather 1 = .ok (.iconst 0, 1) := by decide +kernel
theorem dX0_gather_2 : decode cX0_gather 2 = .ok (.putfield 43, 3) := by decide +kernel
theorem dX0_gather_5 : decode cX0_gather 5 = .ok (.aload_n 0, 1) := by decide +kernel
theorem dX0_gather_6 : decode cX0_gather 6 = .ok (.getfield 28, 3) := by decide +kernel
theorem dX0_gather_9 : decode cX0_gather 9 = .ok (.iload_n 1, 1) := by decide +kernel
theorem dX0_gather_10 : decode cX0_gather 10 = .ok (.iaload, 1) := by decide +kernel
theorem dX0_gather_11 : decode cX0_gather 11 = .ok (.istore_n 2, 1) := by decide +kernel
theorem dX0_gather_12 : decode cX0_gather 12 = .ok (.iconst 0, 1) := by decide +kernel
theorem dX0_gather_13 : decode cX0_gather 13 = .ok (.istore_n 3, 1) := by decide +kernel
theorem dX0_gather_14 : decode cX0_gather 14 = .ok (.iload_n 3, 1) := by decide +kernel
theorem dX0_gather_15 : decode cX0_gather 15 = .ok (.aload_n 0, 1) := by decide +kernel
theorem dX0_gather_16 : decode cX0_gather 16 = .ok (.getfield 37, 3) := by decide +kernel
theorem dX0_gather_19 : decode cX0_gather 19 = .ok (.iload_n 1, 1) := by decide +kernel
theorem dX0_gather_20 : decode cX0_gather 20 = .ok (.iaload, 1) := by decide +kernel
theorem dX0_gather_21 : decode cX0_gather 21 = .ok (.if_icmp .ge 72, 3) := by decide +kernel
theorem dX0_gather_24 : decode cX0_gather 24 = .ok (.iload_n 2, 1) := by decide +kernel
theorem dX0_gather_25 : decode cX0_gather 25 = .ok (.iconst (-1), 1) := by decide +kernel
theorem dX0_gather_26 : decode cX0_gather 26 = .ok (.if_icmp .eq 67, 3) := by decide +kernel
theorem dX0_gather_29 : decode cX0_gather 29 = .ok (.aload_n 0, 1) := by decide +kernel
theorem dX0_gather_30 : decode cX0_gather 30 = .ok (.getfield 18, 3) := by decide +kernel
theorem dX0_gather_33 : decode cX0_gather 33 = .ok (.iload_n 2, 1) := by decide +kernel
theorem dX0_gather_34 : decode cX0_gather 34 = .ok (.iaload, 1) := by decide +kernel
theorem dX0_gather_35 : decode cX0_gather 35 = .ok (.sipush 300, 3) := by decide +kernel
theorem dX0_gather_38 : decode cX0_gather 38 = .ok (.aload_n 0, 1) := by decide +kernel
theorem dX0_gather_39 : decode cX0_gather 39 = .ok (.getfield 43, 3) := by decide +kernel
theorem dX0_gather_42 : decode cX0_gather 42 = .ok (.isub, 1) := by decide +kernel
theorem dX0_gather_43 : decode cX0_gather 43 = .ok (.invokestatic 83, 3) := by decide +kernel
theorem dX0_gather_46 : decode cX0_gather 46 = .ok (.istore 4, 2) := by decide +kernel
theorem dX0_gather_48 : decode cX0_gather 48 = .ok (.aload_n 0, 1) := by decide +kernel
theorem dX0_gather_49 : decode cX0_gather 49 = .ok (.getfield 24, 3) := by decide +kernel
theorem dX0_gather_52 : decode cX0_gather 52 = .ok (.iload_n 2, 1) := by decide +kernel
theorem dX0_gather_53 : decode cX0_gather 53 = .ok (.bipush 6, 2) := by decide +kernel
theorem dX0_gather_55 : decode cX0_gather 55 = .ok (.imul, 1) := by decide +kernel
theorem dX0_gather_56 : decode cX0_gather 56 = .ok (.aload_n 0, 1) := by decide +kernel
theorem dX0_gather_57 : decode cX0_gather 57 = .ok (.getfield 40, 3) := by decide +kernel
theorem dX0_gather_60 : decode cX0_gather 60 = .ok (.aload_n 0, 1) := by decide +kernel
theorem dX0_gather_61 : decode cX0_gather 61 = .ok (.getfield 43, 3) := by decide +kernel
theorem dX0_gather_64 : decode cX0_gather 64 = .ok (.iload 4, 2) := by decide +kernel
theorem dX0_gather_66 : decode cX0_gather 66 = .ok (.invokestatic 60, 3) := by decide +kernel
theorem dX0_gather_69 : decode cX0_gather 69 = .ok (.aload_n 0, 1) := by decide +kernel
theorem dX0_gather_70 : decode cX0_gather 70 = .ok (.dup, 1) := by decide +kernel
theorem dX0_gather_71 : decode cX0_gather 71 = .ok (.getfield 43, 3) := by decide +kernel
theorem dX0_gather_74 : decode cX0_gather 74 = .ok (.iload 4, 2) := by decide +kernel
theorem dX0_gather_76 : decode cX0_gather 76 = .ok (.iadd, 1) := by decide +kernel
theorem dX0_gather_77 : decode cX0_gather 77 = .ok (.putfield 43, 3) := by decide +kernel
theorem dX0_gather_80 : decode cX0_gather 80 = .ok (.aload_n 0, 1) := by decide +kernel
theorem dX0_gather_81 : decode cX0_gather 81 = .ok (.getfield 21, 3) := by decide +kernel
theorem dX0_gather_84 : decode cX0_gather 84 = .ok (.iload_n 2, 1) := by decide +kernel
theorem dX0_gather_85 : decode cX0_gather 85 = .ok (.iaload, 1) := by decide +kernel
theorem dX0_gather_86 : decode cX0_gather 86 = .ok (.istore_n 2, 1) := by decide +kernel
theorem dX0_gather_87 : decode cX0_gather 87 = .ok (.iinc 3 1, 3) := by decide +kernel
theorem dX0_gather_90 : decode cX0_gather 90 = .ok (.goto (-76), 3) := by decide +kernel
theorem dX0_gather_93 : decode cX0_gather 93 = .ok (.return_, 1) := by decide +kernel
theorem dX0_empty_0 : decode cX0_empty 0 = .ok (.aload_n 0, 1) := by decide +kernel
theorem dX0_empty_1 : decode cX0_empty 1 = .ok (.getfield 28, 3) := by decide +kernel
theorem dX0_empty_4 : decode cX0_empty 4 = .ok (.iload_n 1, 1) := by decide +kernel
theorem dX0_empty_5 : decode cX0_empty 5 = .ok (.iaload, 1) := by decide +kernel
theorem dX0_empty_6 : decode cX0_empty 6 = .ok (.istore_n 3, 1) := by decide +kernel
theorem dX0_empty_7 : decode cX0_empty 7 = .ok (.iload_n 3, 1) := by decide +kernel
theorem dX0_empty_8 : decode cX0_empty 8 = .ok (.istore 4, 2) := by decide +kernel
theorem dX0_empty_10 : decode cX0_empty 10 = .ok (.iconst 0, 1) := by decide +kernel
theorem dX0_empty_11 : decode cX0_empty 11 = .ok (.istore 5, 2) := by decide +kernel
theorem dX0_empty_13 : decode cX0_empty 13 = .ok (.iload 5, 2) := by decide +kernel
theorem dX0_empty_15 : decode cX0_empty 15 = .ok (.aload_n 0, 1) := by decide +kernel
theorem dX0_empty_16 : decode cX0_empty 16 = .ok (.getfield 37, 3) := by decide +kernel
theorem dX0_empty_19 : decode cX0_empty 19 = .ok (.iload_n 1, 1) := by decide +kernel
theorem dX0_empty_20 : decode cX0_empty 20 = .ok (.iaload, 1) := by decide +kernel
theorem dX0_empty_21 : decode cX0_empty 21 = .ok (.if_icmp .ge 32, 3) := by decide +kernel
theorem dX0_empty_24 : decode cX0_empty 24 = .ok (.iload 4, 2) := by decide +kernel
theorem dX0_empty_26 : decode cX0_empty 26 = .ok (.iconst (-1), 1) := by decide +kernel
theorem dX0_empty_27 : decode cX0_empty 27 = .ok (.if_icmp .eq 26, 3) := by decide +kernel
theorem dX0_empty_30 : decode cX0_empty 30 = .ok (.aload_n 0, 1) := by decide +kernel
theorem dX0_empty_31 : decode cX0_empty 31 = .ok (.getfield 9, 3) := by decide +kernel
theorem dX0_empty_34 : decode cX0_empty 34 = .ok (.iload 4, 2) := by decide +kernel
theorem dX0_empty_36 : decode cX0_empty 36 = .ok (.iconst (-1), 1) := by decide +kernel
theorem dX0_empty_37 : decode cX0_empty 37 = .ok (.iastore, 1) := by decide +kernel
theorem dX0_empty_38 : decode cX0_empty 38 = .ok (.aload_n 0, 1) := by decide +kernel
theorem dX0_empty_39 : decode cX0_empty 39 = .ok (.getfield 21, 3) := by decide +kernel
theorem dX0_empty_42 : decode cX0_empty 42 = .ok (.iload 4, 2) := by decide +kernel
theorem dX0_empty_44 : decode cX0_empty 44 = .ok (.iaload, 1) := by decide +kernel
theorem dX0_empty_45 : decode cX0_empty 45 = .ok (.istore 4, 2) := by decide +kernel
theorem dX0_empty_47 : decode cX0_empty 47 = .ok (.iinc 5 1, 3) := by decide +kernel
theorem dX0_empty_50 : decode cX0_empty 50 = .ok (.goto (-37), 3) := by decide +kernel
theorem dX0_empty_53 : decode cX0_empty 53 = .ok (.aload_n 0, 1) := by decide +kernel
theorem dX0_empty_54 : decode cX0_empty 54 = .ok (.getfield 34, 3) := by decide +kernel
theorem dX0_empty_57 : decode cX0_empty 57 = .ok (.iload_n 1, 1) := by decide +kernel
theorem dX0_empty_58 : decode cX0_empty 58 = .ok (.iconst 0, 1) := by decide +kernel
theorem dX0_empty_59 : decode cX0_empty 59 = .ok (.iastore, 1) := by decide +kernel
theorem dX0_empty_60 : decode cX0_empty 60 = .ok (.aload_n 0, 1) := by decide +kernel
theorem dX0_empty_61 : decode cX0_empty 61 = .ok (.getfield 37, 3) := by decide +kernel
theorem dX0_empty_64 : decode cX0_empty 64 = .ok (.iload_n 1, 1) := by decide +kernel
theorem dX0_empty_65 : decode cX0_empty 65 = .ok (.iconst 0, 1) := by decide +kernel
theorem dX0_empty_66 : decode cX0_empty 66 = .ok (.iastore, 1) := by decide +kernel
theorem dX0_empty_67 : decode cX0_empty 67 = .ok (.aload_n 0, 1) := by decide +kernel
theorem dX0_empty_68 : decode cX0_empty 68 = .ok (.getfield 28, 3) := by decide +kernel
theorem dX0_empty_71 : decode cX0_empty 71 = .ok (.iload_n 1, 1) := by decide +kernel
theorem dX0_empty_72 : decode cX0_empty 72 = .ok (.iconst (-1), 1) := by decide +kernel
theorem dX0_empty_73 : decode cX0_empty 73 = .ok (.iastore, 1) := by decide +kernel
theorem dX0_empty_74 : decode cX0_empty 74 = .ok (.aload_n 0, 1) := by decide +kernel
theorem dX0_empty_75 : decode cX0_empty 75 = .ok (.getfield 31, 3) := by decide +kernel
theorem dX0_empty_78 : decode cX0_empty 78 = .ok (.iload_n 1, 1) := by decide +kernel
theorem dX0_empty_79 : decode cX0_empty 79 = .ok (.iconst (-1), 1) := by decide +kernel
theorem dX0_empty_80 : decode cX0_empty 80 = .ok (.iastore, 1) := by decide +kernel
theorem dX0_empty_81 : decode cX0_empty 81 = .ok (.iload_n 2, 1) := by decide +kernel
theorem dX0_empty_82 : decode cX0_empty 82 = .ok (.ifCond .eq 50, 3) := by decide +kernel
theorem dX0_empty_85 : decode cX0_empty 85 = .ok (.iload_n 3, 1) := by decide +kernel
theorem dX0_empty_86 : decode cX0_empty 86 = .ok (.iconst (-1), 1) := by decide +kernel
theorem dX0_empty_87 : decode cX0_empty 87 = .ok (.if_icmp .eq 45, 3) := by decide +kernel
theorem dX0_empty_90 : decode cX0_empty 90 = .ok (.aload_n 0, 1) := by decide +kernel
theorem dX0_empty_91 : decode cX0_empty 91 = .ok (.getfield 9, 3) := by decide +kernel
theorem dX0_empty_94 : decode cX0_empty 94 = .ok (.iload_n 3, 1) := by decide +kernel
theorem dX0_empty_95 : decode cX0_empty 95 = .ok (.iload_n 1, 1) := by decide +kernel
theorem dX0_empty_96 : decode cX0_empty 96 = .ok (.iastore, 1) := by decide +kernel
theorem dX0_empty_97 : decode cX0_empty 97 = .ok (.aload_n 0, 1) := by decide +kernel
theorem dX0_empty_98 : decode cX0_empty 98 = .ok (.getfield 18, 3) := by decide +kernel
theorem dX0_empty_101 : decode cX0_empty 101 = .ok (.iload_n 3, 1) := by decide +kernel
theorem dX0_empty_102 : decode cX0_empty 102 = .ok (.iconst 0, 1) := by decide +kernel
theorem dX0_empty_103 : decode cX0_empty 103 = .ok (.iastore, 1) := by decide +kernel
theorem dX0_empty_104 : decode cX0_empty 104 = .ok (.aload_n 0, 1) := by decide +kernel
theorem dX0_empty_105 : decode cX0_empty 105 = .ok (.getfield 21, 3) := by decide +kernel
theorem dX0_empty_108 : decode cX0_empty 108 = .ok (.iload_n 3, 1) := by decide +kernel
theorem dX0_empty_109 : decode cX0_empty 109 = .ok (.iconst (-1), 1) := by decide +kernel
theorem dX0_empty_110 : decode cX0_empty 110 = .ok (.iastore, 1) := by decide +kernel
theorem dX0_empty_111 : decode cX0_empty 111 = .ok (.aload_n 0, 1) := by decide +kernel
theorem dX0_empty_112 : decode cX0_empty 112 = .ok (.getfield 28, 3) := by decide +kernel
theorem dX0_empty_115 : decode cX0_empty 115 = .ok (.iload_n 1, 1) := by decide +kernel
theorem dX0_empty_116 : decode cX0_empty 116 = .ok (.iload_n 3, 1) := by decide +kernel
theorem dX0_empty_117 : decode cX0_empty 117 = .ok (.iastore, 1) := by decide +kernel
theorem dX0_empty_118 : decode cX0_empty 118 = .ok (.aload_n 0, 1) := by decide +kernel
theorem dX0_empty_119 : decode cX0_empty 119 = .ok (.getfield 31, 3) := by decide +kernel
theorem dX0_empty_122 : decode cX0_empty 122 = .ok (.iload_n 1, 1) := by decide +kernel
theorem dX0_empty_123 : decode cX0_empty 123 = .ok (.iload_n 3, 1) := by decide +kernel
theorem dX0_empty_124 : decode cX0_empty 124 = .ok (.iastore, 1) := by decide +kernel
theorem dX0_empty_125 : decode cX0_empty 125 = .ok (.aload_n 0, 1) := by decide +kernel
theorem dX0_empty_126 : decode cX0_empty 126 = .ok (.getfield 37, 3) := by decide +kernel
theorem dX0_empty_129 : decode cX0_empty 129 = .ok (.iload_n 1, 1) := by decide +kernel
theorem dX0_empty_130 : decode cX0_empty 130 = .ok (.iconst 1, 1) := by decide +kernel
theorem dX0_empty_131 : decode cX0_empty 131 = .ok (.iastore, 1) := by decide +kernel
theorem dX0_empty_132 : decode cX0_empty 132 = .ok (.return_, 1) := by decide +kernel
theorem dX0_usedPages_0 : decode cX0_usedPages 0 = .ok (.iconst 0, 1) := by decide +kernel
theorem dX0_usedPages_1 : decode cX0_usedPages 1 = .ok (.istore_n 1, 1) := by decide +kernel
theorem dX0_usedPages_2 : decode cX0_usedPages 2 = .ok (.iconst 0, 1) := by decide +kernel
theorem dX0_usedPages_3 : decode cX0_usedPages 3 = .ok (.istore_n 2, 1) := by decide +kernel
theorem dX0_usedPages_4 : decode cX0_usedPages 4 = .ok (.iload_n 2, 1) := by decide +kernel
theorem dX0_usedPages_5 : decode cX0_usedPages 5 = .ok (.sipush 256, 3) := by decide +kernel
theorem dX0_usedPages_8 : decode cX0_usedPages 8 = .ok (.if_icmp .ge 22, 3) := by decide +kernel
theorem dX0_usedPages_11 : decode cX0_usedPages 11 = .ok (.aload_n 0, 1) := by decide +kernel
theorem dX0_usedPages_12 : decode cX0_usedPages 12 = .ok (.getfield 9, 3) := by decide +kernel
theorem dX0_usedPages_15 : decode cX0_usedPages 15 = .ok (.iload_n 2, 1) := by decide +kernel
theorem dX0_usedPages_16 : decode cX0_usedPages 16 = .ok (.iaload, 1) := by decide +kernel
theorem dX0_usedPages_17 : decode cX0_usedPages 17 = .ok (.iconst (-1), 1) := by decide +kernel
theorem dX0_usedPages_18 : decode cX0_usedPages 18 = .ok (.if_icmp .eq 6, 3) := by decide +kernel
theorem dX0_usedPages_21 : decode cX0_usedPages 21 = .ok (.iinc 1 1, 3) := by decide +kernel
theorem dX0_usedPages_24 : decode cX0_usedPages 24 = .ok (.iinc 2 1, 3) := by decide +kernel
theorem dX0_usedPages_27 : decode cX0_usedPages 27 = .ok (.goto (-23), 3) := by decide +kernel
theorem dX0_usedPages_30 : decode cX0_usedPages 30 = .ok (.iload_n 1, 1) := by decide +kernel
theorem dX0_usedPages_31 : decode cX0_usedPages 31 = .ok (.ireturn, 1) := by decide +kernel
theorem dX0_longest_0 : decode cX0_longest 0 = .ok (.iconst 0, 1) := by decide +kernel
theorem dX0_longest_1 : decode cX0_longest 1 = .ok (.istore_n 2, 1) := by decide +kernel
theorem dX0_longest_2 : decode cX0_longest 2 = .ok (.iconst 0, 1) := by decide +kernel
theorem dX0_longest_3 : decode cX0_longest 3 = .ok (.istore_n 3, 1) := by decide +kernel
theorem dX0_longest_4 : decode cX0_longest 4 = .ok (.iload_n 3, 1) := by decide +kernel
theorem dX0_longest_5 : decode cX0_longest 5 = .ok (.iload_n 1, 1) := by decide +kernel
theorem dX0_longest_6 : decode cX0_longest 6 = .ok (.if_icmp .ge 20, 3) := by decide +kernel
theorem dX0_longest_9 : decode cX0_longest 9 = .ok (.iload_n 2, 1) := by decide +kernel
theorem dX0_longest_10 : decode cX0_longest 10 = .ok (.aload_n 0, 1) := by decide +kernel
theorem dX0_longest_11 : decode cX0_longest 11 = .ok (.getfield 37, 3) := by decide +kernel
theorem dX0_longest_14 : decode cX0_longest 14 = .ok (.iload_n 3, 1) := by decide +kernel
theorem dX0_longest_15 : decode cX0_longest 15 = .ok (.iaload, 1) := by decide +kernel
theorem dX0_longest_16 : decode cX0_longest 16 = .ok (.invokestatic 88, 3) := by decide +kernel
theorem dX0_longest_19 : decode cX0_longest 19 = .ok (.istore_n 2, 1) := by decide +kernel
theorem dX0_longest_20 : decode cX0_longest 20 = .ok (.iinc 3 1, 3) := by decide +kernel
theorem dX0_longest_23 : decode cX0_longest 23 = .ok (.goto (-19), 3) := by decide +kernel
theorem dX0_longest_26 : decode cX0_longest 26 = .ok (.iload_n 2, 1) := by decide +kernel
theorem dX0_longest_27 : decode cX0_longest 27 = .ok (.ireturn, 1) := by decide +kernel
theorem dX0_withoutKeys_0 : decode cX0_withoutKeys 0 = .ok (.iconst 0, 1) := by decide +kernel
theorem dX0_withoutKeys_1 : decode cX0_withoutKeys 1 = .ok (.istore_n 2, 1) := by decide +kernel
theorem dX0_withoutKeys_2 : decode cX0_withoutKeys 2 = .ok (.iconst 0, 1) := by decide +kernel
theorem dX0_withoutKeys_3 : decode cX0_withoutKeys 3 = .ok (.istore_n 3, 1) := by decide +kernel
theorem dX0_withoutKeys_4 : decode cX0_withoutKeys 4 = .ok (.iload_n 3, 1) := by decide +kernel
theorem dX0_withoutKeys_5 : decode cX0_withoutKeys 5 = .ok (.iload_n 1, 1) := by decide +kernel
theorem dX0_withoutKeys_6 : decode cX0_withoutKeys 6 = .ok (.if_icmp .ge 21, 3) := by decide +kernel
theorem dX0_withoutKeys_9 : decode cX0_withoutKeys 9 = .ok (.aload_n 0, 1) := by decide +kernel
theorem dX0_withoutKeys_10 : decode cX0_withoutKeys 10 = .ok (.getfield 34, 3) := by decide +kernel
theorem dX0_withoutKeys_13 : decode cX0_withoutKeys 13 = .ok (.iload_n 3, 1) := by decide +kernel
theorem dX0_withoutKeys_14 : decode cX0_withoutKeys 14 = .ok (.iaload, 1) := by decide +kernel
theorem dX0_withoutKeys_15 : decode cX0_withoutKeys 15 = .ok (.ifCond .ne 6, 3) := by decide +kernel
theorem dX0_withoutKeys_18 : decode cX0_withoutKeys 18 = .ok (.iinc 2 1, 3) := by decide +kernel
theorem dX0_withoutKeys_21 : decode cX0_withoutKeys 21 = .ok (.iinc 3 1, 3) := by decide +kernel
theorem dX0_withoutKeys_24 : decode cX0_withoutKeys 24 = .ok (.goto (-20), 3) := by decide +kernel
theorem dX0_withoutKeys_27 : decode cX0_withoutKeys 27 = .ok (.iload_n 2, 1) := by decide +kernel
theorem dX0_withoutKeys_28 : decode cX0_withoutKeys 28 = .ok (.ireturn, 1) := by decide +kernel
theorem dX0_allReads_0 : decode cX0_allReads 0 = .ok (.iconst 0, 1) := by decide +kernel
theorem dX0_allReads_1 : decode cX0_allReads 1 = .ok (.istore_n 1, 1) := by decide +kernel
theorem dX0_allReads_2 : decode cX0_allReads 2 = .ok (.iconst 0, 1) := by decide +kernel
theorem dX0_allReads_3 : decode cX0_allReads 3 = .ok (.istore_n 2, 1) := by decide +kernel
theorem dX0_allReads_4 : decode cX0_allReads 4 = .ok (.iload_n 2, 1) := by decide +kernel
theorem dX0_allReads_5 : decode cX0_allReads 5 = .ok (.sipush 256, 3) := by decide +kernel
theorem dX0_allReads_8 : decode cX0_allReads 8 = .ok (.if_icmp .ge 37, 3) := by decide +kernel
theorem dX0_allReads_11 : decode cX0_allReads 11 = .ok (.aload_n 0, 1) := by decide +kernel
theorem dX0_allReads_12 : decode cX0_allReads 12 = .ok (.getfield 9, 3) := by decide +kernel
theorem dX0_allReads_15 : decode cX0_allReads 15 = .ok (.iload_n 2, 1) := by decide +kernel
theorem dX0_allReads_16 : decode cX0_allReads 16 = .ok (.iaload, 1) := by decide +kernel
theorem dX0_allReads_17 : decode cX0_allReads 17 = .ok (.iconst (-1), 1) := by decide +kernel
theorem dX0_allReads_18 : decode cX0_allReads 18 = .ok (.if_icmp .eq 21, 3) := by decide +kernel
theorem dX0_allReads_21 : decode cX0_allReads 21 = .ok (.iload_n 1, 1) := by decide +kernel
theorem dX0_allReads_22 : decode cX0_allReads 22 = .ok (.aload_n 0, 1) := by decide +kernel
theorem dX0_allReads_23 : decode cX0_allReads 23 = .ok (.getfield 18, 3) := by decide +kernel
theorem dX0_allReads_26 : decode cX0_allReads 26 = .ok (.iload_n 2, 1) := by decide +kernel
theorem dX0_allReads_27 : decode cX0_allReads 27 = .ok (.iaload, 1) := by decide +kernel
theorem dX0_allReads_28 : decode cX0_allReads 28 = .ok (.aload_n 0, 1) := by decide +kernel
theorem dX0_allReads_29 : decode cX0_allReads 29 = .ok (.getfield 15, 3) := by decide +kernel
theorem dX0_allReads_32 : decode cX0_allReads 32 = .ok (.iload_n 2, 1) := by decide +kernel
theorem dX0_allReads_33 : decode cX0_allReads 33 = .ok (.iaload, 1) := by decide +kernel
theorem dX0_allReads_34 : decode cX0_allReads 34 = .ok (.iconst 1, 1) := by decide +kernel
theorem dX0_allReads_35 : decode cX0_allReads 35 = .ok (.iadd, 1) := by decide +kernel
theorem dX0_allReads_36 : decode cX0_allReads 36 = .ok (.imul, 1) := by decide +kernel
theorem dX0_allReads_37 : decode cX0_allReads 37 = .ok (.iadd, 1) := by decide +kernel
theorem dX0_allReads_38 : decode cX0_allReads 38 = .ok (.istore_n 1, 1) := by decide +kernel
theorem dX0_allReads_39 : decode cX0_allReads 39 = .ok (.iinc 2 1, 3) := by decide +kernel
theorem dX0_allReads_42 : decode cX0_allReads 42 = .ok (.goto (-38), 3) := by decide +kernel
theorem dX0_allReads_45 : decode cX0_allReads 45 = .ok (.iload_n 1, 1) := by decide +kernel
theorem dX0_allReads_46 : decode cX0_allReads 46 = .ok (.ireturn, 1) := by decide +kernel
theorem dX0_mostReads_0 : decode cX0_mostReads 0 = .ok (.iconst 0, 1) := by decide +kernel
theorem dX0_mostReads_1 : decode cX0_mostReads 1 = .ok (.istore_n 1, 1) := by decide +kernel
theorem dX0_mostReads_2 : decode cX0_mostReads 2 = .ok (.iconst 0, 1) := by decide +kernel
theorem dX0_mostReads_3 : decode cX0_mostReads 3 = .ok (.istore_n 2, 1) := by decide +kernel
theorem dX0_mostReads_4 : decode cX0_mostReads 4 = .ok (.iload_n 2, 1) := by decide +kernel
theorem dX0_mostReads_5 : decode cX0_mostReads 5 = .ok (.sipush 256, 3) := by decide +kernel
theorem dX0_mostReads_8 : decode cX0_mostReads 8 = .ok (.if_icmp .ge 41, 3) := by decide +kernel
theorem dX0_mostReads_11 : decode cX0_mostReads 11 = .ok (.aload_n 0, 1) := by decide +kernel
theorem dX0_mostReads_12 : decode cX0_mostReads 12 = .ok (.getfield 9, 3) := by decide +kernel
theorem dX0_mostReads_15 : decode cX0_mostReads 15 = .ok (.iload_n 2, 1) := by decide +kernel
theorem dX0_mostReads_16 : decode cX0_mostReads 16 = .ok (.iaload, 1) := by decide +kernel
theorem dX0_mostReads_17 : decode cX0_mostReads 17 = .ok (.iconst (-1), 1) := by decide +kernel
theorem dX0_mostReads_18 : decode cX0_mostReads 18 = .ok (.if_icmp .eq 25, 3) := by decide +kernel
theorem dX0_mostReads_21 : decode cX0_mostReads 21 = .ok (.aload_n 0, 1) := by decide +kernel
theorem dX0_mostReads_22 : decode cX0_mostReads 22 = .ok (.getfield 18, 3) := by decide +kernel
theorem dX0_mostReads_25 : decode cX0_mostReads 25 = .ok (.iload_n 2, 1) := by decide +kernel
theorem dX0_mostReads_26 : decode cX0_mostReads 26 = .ok (.iaload, 1) := by decide +kernel
theorem dX0_mostReads_27 : decode cX0_mostReads 27 = .ok (.ifCond .le 16, 3) := by decide +kernel
theorem dX0_mostReads_30 : decode cX0_mostReads 30 = .ok (.iload_n 1, 1) := by decide +kernel
theorem dX0_mostReads_31 : decode cX0_mostReads 31 = .ok (.aload_n 0, 1) := by decide +kernel
theorem dX0_mostReads_32 : decode cX0_mostReads 32 = .ok (.getfield 15, 3) := by decide +kernel
theorem dX0_mostReads_35 : decode cX0_mostReads 35 = .ok (.iload_n 2, 1) := by decide +kernel
theorem dX0_mostReads_36 : decode cX0_mostReads 36 = .ok (.iaload, 1) := by decide +kernel
theorem dX0_mostReads_37 : decode cX0_mostReads 37 = .ok (.iconst 1, 1) := by decide +kernel
theorem dX0_mostReads_38 : decode cX0_mostReads 38 = .ok (.iadd, 1) := by decide +kernel
theorem dX0_mostReads_39 : decode cX0_mostReads 39 = .ok (.invokestatic 88, 3) := by decide +kernel
theorem dX0_mostReads_42 : decode cX0_mostReads 42 = .ok (.istore_n 1, 1) := by decide +kernel
theorem dX0_mostReads_43 : decode cX0_mostReads 43 = .ok (.iinc 2 1, 3) := by decide +kernel
theorem dX0_mostReads_46 : decode cX0_mostReads 46 = .ok (.goto (-42), 3) := by decide +kernel
theorem dX0_mostReads_49 : decode cX0_mostReads 49 = .ok (.iload_n 1, 1) := by decide +kernel
theorem dX0_mostReads_50 : decode cX0_mostReads 50 = .ok (.ireturn, 1) := by decide +kernel
theorem dX0_keysCosting_0 : decode cX0_keysCosting 0 = .ok (.iconst 0, 1) := by decide +kernel
theorem dX0_keysCosting_1 : decode cX0_keysCosting 1 = .ok (.istore_n 2, 1) := by decide +kernel
theorem dX0_keysCosting_2 : decode cX0_keysCosting 2 = .ok (.iconst 0, 1) := by decide +kernel
theorem dX0_keysCosting_3 : decode cX0_keysCosting 3 = .ok (.istore_n 3, 1) := by decide +kernel
theorem dX0_keysCosting_4 : decode cX0_keysCosting 4 = .ok (.iload_n 3, 1) := by decide +kernel
theorem dX0_keysCosting_5 : decode cX0_keysCosting 5 = .ok (.sipush 256, 3) := by decide +kernel
theorem dX0_keysCosting_8 : decode cX0_keysCosting 8 = .ok (.if_icmp .ge 40, 3) := by decide +kernel
theorem dX0_keysCosting_11 : decode cX0_keysCosting 11 = .ok (.aload_n 0, 1) := by decide +kernel
theorem dX0_keysCosting_12 : decode cX0_keysCosting 12 = .ok (.getfield 9, 3) := by decide +kernel
theorem dX0_keysCosting_15 : decode cX0_keysCosting 15 = .ok (.iload_n 3, 1) := by decide +kernel
theorem dX0_keysCosting_16 : decode cX0_keysCosting 16 = .ok (.iaload, 1) := by decide +kernel
theorem dX0_keysCosting_17 : decode cX0_keysCosting 17 = .ok (.iconst (-1), 1) := by decide +kernel
theorem dX0_keysCosting_18 : decode cX0_keysCosting 18 = .ok (.if_icmp .eq 24, 3) := by decide +kernel
theorem dX0_keysCosting_21 : decode cX0_keysCosting 21 = .ok (.aload_n 0, 1) := by decide +kernel
theorem dX0_keysCosting_22 : decode cX0_keysCosting 22 = .ok (.getfield 15, 3) := by decide +kernel
theorem dX0_keysCosting_25 : decode cX0_keysCosting 25 = .ok (.iload_n 3, 1) := by decide +kernel
theorem dX0_keysCosting_26 : decode cX0_keysCosting 26 = .ok (.iaload, 1) := by decide +kernel
theorem dX0_keysCosting_27 : decode cX0_keysCosting 27 = .ok (.iconst 1, 1) := by decide +kernel
theorem dX0_keysCosting_28 : decode cX0_keysCosting 28 = .ok (.iadd, 1) := by decide +kernel
theorem dX0_keysCosting_29 : decode cX0_keysCosting 29 = .ok (.iload_n 1, 1) := by decide +kernel
theorem dX0_keysCosting_30 : decode cX0_keysCosting 30 = .ok (.if_icmp .ne 12, 3) := by decide +kernel
theorem dX0_keysCosting_33 : decode cX0_keysCosting 33 = .ok (.iload_n 2, 1) := by decide +kernel
theorem dX0_keysCosting_34 : decode cX0_keysCosting 34 = .ok (.aload_n 0, 1) := by decide +kernel
theorem dX0_keysCosting_35 : decode cX0_keysCosting 35 = .ok (.getfield 18, 3) := by decide +kernel
theorem dX0_keysCosting_38 : decode cX0_keysCosting 38 = .ok (.iload_n 3, 1) := by decide +kernel
theorem dX0_keysCosting_39 : decode cX0_keysCosting 39 = .ok (.iaload, 1) := by decide +kernel
theorem dX0_keysCosting_40 : decode cX0_keysCosting 40 = .ok (.iadd, 1) := by decide +kernel
theorem dX0_keysCosting_41 : decode cX0_keysCosting 41 = .ok (.istore_n 2, 1) := by decide +kernel
theorem dX0_keysCosting_42 : decode cX0_keysCosting 42 = .ok (.iinc 3 1, 3) := by decide +kernel
theorem dX0_keysCosting_45 : decode cX0_keysCosting 45 = .ok (.goto (-41), 3) := by decide +kernel
theorem dX0_keysCosting_48 : decode cX0_keysCosting 48 = .ok (.iload_n 2, 1) := by decide +kernel
theorem dX0_keysCosting_49 : decode cX0_keysCosting 49 = .ok (.ireturn, 1) := by decide +kernel
theorem dX1_of_0 : decode cX1_of 0 = .ok (.iload_n 2, 1) := by decide +kernel
theorem dX1_of_1 : decode cX1_of 1 = .ok (.i2l, 1) := by decide +kernel
theorem dX1_of_2 : decode cX1_of 2 = .ok (.bipush 24, 2) := by decide +kernel
theorem dX1_of_4 : decode cX1_of 4 = .ok (.lshl, 1) := by decide +kernel
theorem dX1_of_5 : decode cX1_of 5 = .ok (.iload_n 0, 1) := by decide +kernel
theorem dX1_of_6 : decode cX1_of 6 = .ok (.i2l, 1) := by decide +kernel
theorem dX1_of_7 : decode cX1_of 7 = .ok (.bipush 8, 2) := by decide +kernel
theorem dX1_of_9 : decode cX1_of 9 = .ok (.lshl, 1) := by decide +kernel
theorem dX1_of_10 : decode cX1_of 10 = .ok (.lor, 1) := by decide +kernel
theorem dX1_of_11 : decode cX1_of 11 = .ok (.iload_n 1, 1) := by decide +kernel
theorem dX1_of_12 : decode cX1_of 12 = .ok (.i2l, 1) := by decide +kernel
theorem dX1_of_13 : decode cX1_of 13 = .ok (.lor, 1) := by decide +kernel
theorem dX1_of_14 : decode cX1_of 14 = .ok (.lreturn, 1) := by decide +kernel
theorem dX1_keyOf_0 : decode cX1_keyOf 0 = .ok (.lload_n 0, 1) := by decide +kernel
theorem dX1_keyOf_1 : decode cX1_keyOf 1 = .ok (.bipush 8, 2) := by decide +kernel
theorem dX1_keyOf_3 : decode cX1_keyOf 3 = .ok (.lshr, 1) := by decide +kernel
theorem dX1_keyOf_4 : decode cX1_keyOf 4 = .ok (.ldc2_w 9, 3) := by decide +kernel
theorem dX1_keyOf_7 : decode cX1_keyOf 7 = .ok (.land, 1) := by decide +kernel
theorem dX1_keyOf_8 : decode cX1_keyOf 8 = .ok (.l2i, 1) := by decide +kernel
theorem dX1_keyOf_9 : decode cX1_keyOf 9 = .ok (.ireturn, 1) := by decide +kernel
theorem dX1_valueOf_0 : decode cX1_valueOf 0 = .ok (.lload_n 0, 1) := by decide +kernel
theorem dX1_valueOf_1 : decode cX1_valueOf 1 = .ok (.ldc2_w 11, 3) := by decide +kernel
theorem dX1_valueOf_4 : decode cX1_valueOf 4 = .ok (.land, 1) := by decide +kernel
theorem dX1_valueOf_5 : decode cX1_valueOf 5 = .ok (.l2i, 1) := by decide +kernel
theorem dX1_valueOf_6 : decode cX1_valueOf 6 = .ok (.ireturn, 1) := by decide +kernel
theorem dX1_hashOf_0 : decode cX1_hashOf 0 = .ok (.lload_n 0, 1) := by decide +kernel
theorem dX1_hashOf_1 : decode cX1_hashOf 1 = .ok (.bipush 24, 2) := by decide +kernel
theorem dX1_hashOf_3 : decode cX1_hashOf 3 = .ok (.lshr, 1) := by decide +kernel
theorem dX1_hashOf_4 : decode cX1_hashOf 4 = .ok (.ldc2_w 9, 3) := by decide +kernel
theorem dX1_hashOf_7 : decode cX1_hashOf 7 = .ok (.land, 1) := by decide +kernel
theorem dX1_hashOf_8 : decode cX1_hashOf 8 = .ok (.l2i, 1) := by decide +kernel
theorem dX1_hashOf_9 : decode cX1_hashOf 9 = .ok (.ireturn, 1) := by decide +kernel
theorem dX2_init_0 : decode cX2_init 0 = .ok (.aload_n 0, 1) := by decide +kernel
theorem dX2_init_1 : decode cX2_init 1 = .ok (.invokespecial 3, 3) := by decide +kernel
theorem dX2_init_4 : decode cX2_init 4 = .ok (.aload_n 0, 1) := by decide +kernel
theorem dX2_init_5 : decode cX2_init 5 = .ok (.new 9, 3) := by decide +kernel
theorem dX2_init_8 : decode cX2_init 8 = .ok (.dup, 1) := by decide +kernel
theorem dX2_init_9 : decode cX2_init 9 = .ok (.invokespecial 11, 3) := by decide +kernel
theorem dX2_init_12 : decode cX2_init 12 = .ok (.putfield 12, 3) := by decide +kernel
theorem dX2_init_15 : decode cX2_init 15 = .ok (.aload_n 0, 1) := by decide +kernel
theorem dX2_init_16 : decode cX2_init 16 = .ok (.new 18, 3) := by decide +kernel
theorem dX2_init_19 : decode cX2_init 19 = .ok (.dup, 1) := by decide +kernel
theorem dX2_init_20 : decode cX2_init 20 = .ok (.invokespecial 20, 3) := by decide +kernel
theorem dX2_init_23 : decode cX2_init 23 = .ok (.putfield 21, 3) := by decide +kernel
theorem dX2_init_26 : decode cX2_init 26 = .ok (.aload_n 0, 1) := by decide +kernel
theorem dX2_init_27 : decode cX2_init 27 = .ok (.new 25, 3) := by decide +kernel
theorem dX2_init_30 : decode cX2_init 30 = .ok (.dup, 1) := by decide +kernel
theorem dX2_init_31 : decode cX2_init 31 = .ok (.invokespecial 27, 3) := by decide +kernel
theorem dX2_init_34 : decode cX2_init 34 = .ok (.putfield 28, 3) := by decide +kernel
theorem dX2_init_37 : decode cX2_init 37 = .ok (.aload_n 0, 1) := by decide +kernel
theorem dX2_init_38 : decode cX2_init 38 = .ok (.new 32, 3) := by decide +kernel
theorem dX2_init_41 : decode cX2_init 41 = .ok (.dup, 1) := by decide +kernel
theorem dX2_init_42 : decode cX2_init 42 = .ok (.invokespecial 34, 3) := by decide +kernel
theorem dX2_init_45 : decode cX2_init 45 = .ok (.putfield 35, 3) := by decide +kernel
theorem dX2_init_48 : decode cX2_init 48 = .ok (.aload_n 0, 1) := by decide +kernel
theorem dX2_init_49 : decode cX2_init 49 = .ok (.iconst 2, 1) := by decide +kernel
theorem dX2_init_50 : decode cX2_init 50 = .ok (.putfield 39, 3) := by decide +kernel
theorem dX2_init_53 : decode cX2_init 53 = .ok (.aload_n 0, 1) := by decide +kernel
theorem dX2_init_54 : decode cX2_init 54 = .ok (.bipush 80, 2) := by decide +kernel
theorem dX2_init_56 : decode cX2_init 56 = .ok (.putfield 43, 3) := by decide +kernel
theorem dX2_init_59 : decode cX2_init 59 = .ok (.aload_n 0, 1) := by decide +kernel
theorem dX2_init_60 : decode cX2_init 60 = .ok (.bipush 40, 2) := by decide +kernel
theorem dX2_init_62 : decode cX2_init 62 = .ok (.putfield 46, 3) := by decide +kernel
theorem dX2_init_65 : decode cX2_init 65 = .ok (.aload_n 0, 1) := by decide +kernel
theorem dX2_init_66 : decode cX2_init 66 = .ok (.iconst 1, 1) := by decide +kernel
theorem dX2_init_67 : decode cX2_init 67 = .ok (.putfield 49, 3) := by decide +kernel
theorem dX2_init_70 : decode cX2_init 70 = .ok (.aload_n 0, 1) := by decide +kernel
theorem dX2_init_71 : decode cX2_init 71 = .ok (.iconst 0, 1) := by decide +kernel
theorem dX2_init_72 : decode cX2_init 72 = .ok (.putfield 52, 3) := by decide +kernel
theorem dX2_init_75 : decode cX2_init 75 = .ok (.aload_n 0, 1) := by decide +kernel
theorem dX2_init_76 : decode cX2_init 76 = .ok (.iconst 0, 1) := by decide +kernel
theorem dX2_init_77 : decode cX2_init 77 = .ok (.putfield 55, 3) := by decide +kernel
theorem dX2_init_80 : decode cX2_init 80 = .ok (.aload_n 0, 1) := by decide +kernel
theorem dX2_init_81 : decode cX2_init 81 = .ok (.iconst 0, 1) := by decide +kernel
theorem dX2_init_82 : decode cX2_init 82 = .ok (.putfield 58, 3) := by decide +kernel
theorem dX2_init_85 : decode cX2_init 85 = .ok (.aload_n 0, 1) := by decide +kernel
theorem dX2_init_86 : decode cX2_init 86 = .ok (.iconst 0, 1) := by decide +kernel
theorem dX2_init_87 : decode cX2_init 87 = .ok (.putfield 61, 3) := by decide +kernel
theorem dX2_init_90 : decode cX2_init 90 = .ok (.aload_n 0, 1) := by decide +kernel
theorem dX2_init_91 : decode cX2_init 91 = .ok (.iconst 0, 1) := by decide +kernel
theorem dX2_init_92 : decode cX2_init 92 = .ok (.putfield 64, 3) := by decide +kernel
theorem dX2_init_95 : decode cX2_init 95 = .ok (.aload_n 0, 1) := by decide +kernel
theorem dX2_init_96 : decode cX2_init 96 = .ok (.iconst 0, 1) := by decide +kernel
theorem dX2_init_97 : decode cX2_init 97 = .ok (.putfield 67, 3) := by decide +kernel
theorem dX2_init_100 : decode cX2_init 100 = .ok (.aload_n 0, 1) := by decide +kernel
theorem dX2_init_101 : decode cX2_init 101 = .ok (.iconst 1, 1) := by decide +kernel
theorem dX2_init_102 : decode cX2_init 102 = .ok (.putfield 70, 3) := by decide +kernel
theorem dX2_init_105 : decode cX2_init 105 = .ok (.aload_n 0, 1) := by decide +kernel
theorem dX2_init_106 : decode cX2_init 106 = .ok (.getfield 21, 3) := by decide +kernel
theorem dX2_init_109 : decode cX2_init 109 = .ok (.iconst 3, 1) := by decide +kernel
theorem dX2_init_110 : decode cX2_init 110 = .ok (.aload_n 0, 1) := by decide +kernel
theorem dX2_init_111 : decode cX2_init 111 = .ok (.getfield 39, 3) := by decide +kernel
theorem dX2_init_114 : decode cX2_init 114 = .ok (.invokevirtual 73, 3) := by decide +kernel
theorem dX2_init_117 : decode cX2_init 117 = .ok (.return_, 1) := by decide +kernel
theorem dX2_reset_0 : decode cX2_reset 0 = .ok (.aload_n 0, 1) := by decide +kernel
theorem dX2_reset_1 : decode cX2_reset 1 = .ok (.iload_n 1, 1) := by decide +kernel
theorem dX2_reset_2 : decode cX2_reset 2 = .ok (.putfield 39, 3) := by decide +kernel
theorem dX2_reset_5 : decode cX2_reset 5 = .ok (.aload_n 0, 1) := by decide +kernel
theorem dX2_reset_6 : decode cX2_reset 6 = .ok (.iload_n 3, 1) := by decide +kernel
theorem dX2_reset_7 : decode cX2_reset 7 = .ok (.putfield 43, 3) := by decide +kernel
theorem dX2_reset_10 : decode cX2_reset 10 = .ok (.aload_n 0, 1) := by decide +kernel
theorem dX2_reset_11 : decode cX2_reset 11 = .ok (.iload 4, 2) := by decide +kernel
theorem dX2_reset_13 : decode cX2_reset 13 = .ok (.putfield 46, 3) := by decide +kernel
theorem dX2_reset_16 : decode cX2_reset 16 = .ok (.aload_n 0, 1) := by decide +kernel
theorem dX2_reset_17 : decode cX2_reset 17 = .ok (.iload 5, 2) := by decide +kernel
theorem dX2_reset_19 : decode cX2_reset 19 = .ok (.putfield 49, 3) := by decide +kernel
theorem dX2_reset_22 : decode cX2_reset 22 = .ok (.aload_n 0, 1) := by decide +kernel
theorem dX2_reset_23 : decode cX2_reset 23 = .ok (.iconst 0, 1) := by decide +kernel
theorem dX2_reset_24 : decode cX2_reset 24 = .ok (.putfield 52, 3) := by decide +kernel
theorem dX2_reset_27 : decode cX2_reset 27 = .ok (.aload_n 0, 1) := by decide +kernel
theorem dX2_reset_28 : decode cX2_reset 28 = .ok (.iconst 0, 1) := by decide +kernel
theorem dX2_reset_29 : decode cX2_reset 29 = .ok (.putfield 55, 3) := by decide +kernel
theorem dX2_reset_32 : decode cX2_reset 32 = .ok (.aload_n 0, 1) := by decide +kernel
theorem dX2_reset_33 : decode cX2_reset 33 = .ok (.iconst 0, 1) := by decide +kernel
theorem dX2_reset_34 : decode cX2_reset 34 = .ok (.putfield 58, 3) := by decide +kernel
theorem dX2_reset_37 : decode cX2_reset 37 = .ok (.aload_n 0, 1) := by decide +kernel
theorem dX2_reset_38 : decode cX2_reset 38 = .ok (.iconst 0, 1) := by decide +kernel
theorem dX2_reset_39 : decode cX2_reset 39 = .ok (.putfield 61, 3) := by decide +kernel
theorem dX2_reset_42 : decode cX2_reset 42 = .ok (.aload_n 0, 1) := by decide +kernel
theorem dX2_reset_43 : decode cX2_reset 43 = .ok (.iconst 0, 1) := by decide +kernel
theorem dX2_reset_44 : decode cX2_reset 44 = .ok (.putfield 64, 3) := by decide +kernel
theorem dX2_reset_47 : decode cX2_reset 47 = .ok (.aload_n 0, 1) := by decide +kernel
theorem dX2_reset_48 : decode cX2_reset 48 = .ok (.iconst 0, 1) := by decide +kernel
theorem dX2_reset_49 : decode cX2_reset 49 = .ok (.putfield 67, 3) := by decide +kernel
theorem dX2_reset_52 : decode cX2_reset 52 = .ok (.aload_n 0, 1) := by decide +kernel
theorem dX2_reset_53 : decode cX2_reset 53 = .ok (.getfield 28, 3) := by decide +kernel
theorem dX2_reset_56 : decode cX2_reset 56 = .ok (.iconst 0, 1) := by decide +kernel
theorem dX2_reset_57 : decode cX2_reset 57 = .ok (.putfield 77, 3) := by decide +kernel
theorem dX2_reset_60 : decode cX2_reset 60 = .ok (.aload_n 0, 1) := by decide +kernel
theorem dX2_reset_61 : decode cX2_reset 61 = .ok (.getfield 21, 3) := by decide +kernel
theorem dX2_reset_64 : decode cX2_reset 64 = .ok (.iload_n 2, 1) := by decide +kernel
theorem dX2_reset_65 : decode cX2_reset 65 = .ok (.aload_n 0, 1) := by decide +kernel
theorem dX2_reset_66 : decode cX2_reset 66 = .ok (.getfield 39, 3) := by decide +kernel
theorem dX2_reset_69 : decode cX2_reset 69 = .ok (.invokevirtual 73, 3) := by decide +kernel
theorem dX2_reset_72 : decode cX2_reset 72 = .ok (.aload_n 0, 1) := by decide +kernel
theorem dX2_reset_73 : decode cX2_reset 73 = .ok (.getfield 35, 3) := by decide +kernel
theorem dX2_reset_76 : decode cX2_reset 76 = .ok (.invokevirtual 80, 3) := by decide +kernel
theorem dX2_reset_79 : decode cX2_reset 79 = .ok (.return_, 1) := by decide +kernel
theorem dX2_copyFrom_0 : decode cX2_copyFrom 0 = .ok (.aload_n 0, 1) := by decide +kernel
theorem dX2_copyFrom_1 : decode cX2_copyFrom 1 = .ok (.aload_n 1, 1) := by decide +kernel
theorem dX2_copyFrom_2 : decode cX2_copyFrom 2 = .ok (.getfield 39, 3) := by decide +kernel
theorem dX2_copyFrom_5 : decode cX2_copyFrom 5 = .ok (.putfield 39, 3) := by decide +kernel
theorem dX2_copyFrom_8 : decode cX2_copyFrom 8 = .ok (.aload_n 0, 1) := by decide +kernel
theorem dX2_copyFrom_9 : decode cX2_copyFrom 9 = .ok (.aload_n 1, 1) := by decide +kernel
theorem dX2_copyFrom_10 : decode cX2_copyFrom 10 = .ok (.getfield 43, 3) := by decide +kernel
theorem dX2_copyFrom_13 : decode cX2_copyFrom 13 = .ok (.putfield 43, 3) := by decide +kernel
theorem dX2_copyFrom_16 : decode cX2_copyFrom 16 = .ok (.aload_n 0, 1) := by decide +kernel
theorem dX2_copyFrom_17 : decode cX2_copyFrom 17 = .ok (.aload_n 1, 1) := by decide +kernel
theorem dX2_copyFrom_18 : decode cX2_copyFrom 18 = .ok (.getfield 46, 3) := by decide +kernel
theorem dX2_copyFrom_21 : decode cX2_copyFrom 21 = .ok (.putfield 46, 3) := by decide +kernel
theorem dX2_copyFrom_24 : decode cX2_copyFrom 24 = .ok (.aload_n 0, 1) := by decide +kernel
theorem dX2_copyFrom_25 : decode cX2_copyFrom 25 = .ok (.aload_n 1, 1) := by decide +kernel
theorem dX2_copyFrom_26 : decode cX2_copyFrom 26 = .ok (.getfield 49, 3) := by decide +kernel
theorem dX2_copyFrom_29 : decode cX2_copyFrom 29 = .ok (.putfield 49, 3) := by decide +kernel
theorem dX2_copyFrom_32 : decode cX2_copyFrom 32 = .ok (.aload_n 0, 1) := by decide +kernel
theorem dX2_copyFrom_33 : decode cX2_copyFrom 33 = .ok (.aload_n 1, 1) := by decide +kernel
theorem dX2_copyFrom_34 : decode cX2_copyFrom 34 = .ok (.getfield 52, 3) := by decide +kernel
theorem dX2_copyFrom_37 : decode cX2_copyFrom 37 = .ok (.putfield 52, 3) := by decide +kernel
theorem dX2_copyFrom_40 : decode cX2_copyFrom 40 = .ok (.aload_n 0, 1) := by decide +kernel
theorem dX2_copyFrom_41 : decode cX2_copyFrom 41 = .ok (.aload_n 1, 1) := by decide +kernel
theorem dX2_copyFrom_42 : decode cX2_copyFrom 42 = .ok (.getfield 55, 3) := by decide +kernel
theorem dX2_copyFrom_45 : decode cX2_copyFrom 45 = .ok (.putfield 55, 3) := by decide +kernel
theorem dX2_copyFrom_48 : decode cX2_copyFrom 48 = .ok (.aload_n 0, 1) := by decide +kernel
theorem dX2_copyFrom_49 : decode cX2_copyFrom 49 = .ok (.aload_n 1, 1) := by decide +kernel
theorem dX2_copyFrom_50 : decode cX2_copyFrom 50 = .ok (.getfield 58, 3) := by decide +kernel
theorem dX2_copyFrom_53 : decode cX2_copyFrom 53 = .ok (.putfield 58, 3) := by decide +kernel
theorem dX2_copyFrom_56 : decode cX2_copyFrom 56 = .ok (.aload_n 0, 1) := by decide +kernel
theorem dX2_copyFrom_57 : decode cX2_copyFrom 57 = .ok (.aload_n 1, 1) := by decide +kernel
theorem dX2_copyFrom_58 : decode cX2_copyFrom 58 = .ok (.getfield 61, 3) := by decide +kernel
theorem dX2_copyFrom_61 : decode cX2_copyFrom 61 = .ok (.putfield 61, 3) := by decide +kernel
theorem dX2_copyFrom_64 : decode cX2_copyFrom 64 = .ok (.aload_n 0, 1) := by decide +kernel
theorem dX2_copyFrom_65 : decode cX2_copyFrom 65 = .ok (.aload_n 1, 1) := by decide +kernel
theorem dX2_copyFrom_66 : decode cX2_copyFrom 66 = .ok (.getfield 64, 3) := by decide +kernel
theorem dX2_copyFrom_69 : decode cX2_copyFrom 69 = .ok (.putfield 64, 3) := by decide +kernel
theorem dX2_copyFrom_72 : decode cX2_copyFrom 72 = .ok (.aload_n 0, 1) := by decide +kernel
theorem dX2_copyFrom_73 : decode cX2_copyFrom 73 = .ok (.aload_n 1, 1) := by decide +kernel
theorem dX2_copyFrom_74 : decode cX2_copyFrom 74 = .ok (.getfield 67, 3) := by decide +kernel
theorem dX2_copyFrom_77 : decode cX2_copyFrom 77 = .ok (.putfield 67, 3) := by decide +kernel
theorem dX2_copyFrom_80 : decode cX2_copyFrom 80 = .ok (.aload_n 0, 1) := by decide +kernel
theorem dX2_copyFrom_81 : decode cX2_copyFrom 81 = .ok (.aload_n 1, 1) := by decide +kernel
theorem dX2_copyFrom_82 : decode cX2_copyFrom 82 = .ok (.getfield 70, 3) := by decide +kernel
theorem dX2_copyFrom_85 : decode cX2_copyFrom 85 = .ok (.putfield 70, 3) := by decide +kernel
theorem dX2_copyFrom_88 : decode cX2_copyFrom 88 = .ok (.aload_n 0, 1) := by decide +kernel
theorem dX2_copyFrom_89 : decode cX2_copyFrom 89 = .ok (.getfield 12, 3) := by decide +kernel
theorem dX2_copyFrom_92 : decode cX2_copyFrom 92 = .ok (.aload_n 1, 1) := by decide +kernel
theorem dX2_copyFrom_93 : decode cX2_copyFrom 93 = .ok (.getfield 12, 3) := by decide +kernel
theorem dX2_copyFrom_96 : decode cX2_copyFrom 96 = .ok (.invokevirtual 83, 3) := by decide +kernel
theorem dX2_copyFrom_99 : decode cX2_copyFrom 99 = .ok (.aload_n 0, 1) := by decide +kernel
theorem dX2_copyFrom_100 : decode cX2_copyFrom 100 = .ok (.getfield 21, 3) := by decide +kernel
theorem dX2_copyFrom_103 : decode cX2_copyFrom 103 = .ok (.aload_n 1, 1) := by decide +kernel
theorem dX2_copyFrom_104 : decode cX2_copyFrom 104 = .ok (.getfield 21, 3) := by decide +kernel
theorem dX2_copyFrom_107 : decode cX2_copyFrom 107 = .ok (.invokevirtual 87, 3) := by decide +kernel
theorem dX2_copyFrom_110 : decode cX2_copyFrom 110 = .ok (.aload_n 0, 1) := by decide +kernel
theorem dX2_copyFrom_111 : decode cX2_copyFrom 111 = .ok (.getfield 28, 3) := by decide +kernel
theorem dX2_copyFrom_114 : decode cX2_copyFrom 114 = .ok (.aload_n 1, 1) := by decide +kernel
theorem dX2_copyFrom_115 : decode cX2_copyFrom 115 = .ok (.getfield 28, 3) := by decide +kernel
theorem dX2_copyFrom_118 : decode cX2_copyFrom 118 = .ok (.invokevirtual 90, 3) := by decide +kernel
theorem dX2_copyFrom_121 : decode cX2_copyFrom 121 = .ok (.aload_n 0, 1) := by decide +kernel
theorem dX2_copyFrom_122 : decode cX2_copyFrom 122 = .ok (.getfield 35, 3) := by decide +kernel
theorem dX2_copyFrom_125 : decode cX2_copyFrom 125 = .ok (.aload_n 1, 1) := by decide +kernel
theorem dX2_copyFrom_126 : decode cX2_copyFrom 126 = .ok (.getfield 35, 3) := by decide +kernel
theorem dX2_copyFrom_129 : decode cX2_copyFrom 129 = .ok (.invokevirtual 93, 3) := by decide +kernel
theorem dX2_copyFrom_132 : decode cX2_copyFrom 132 = .ok (.return_, 1) := by decide +kernel
theorem dX2_span_0 : decode cX2_span 0 = .ok (.aload_n 0, 1) := by decide +kernel
theorem dX2_span_1 : decode cX2_span 1 = .ok (.getfield 39, 3) := by decide +kernel
theorem dX2_span_4 : decode cX2_span 4 = .ok (.aload_n 0, 1) := by decide +kernel
theorem dX2_span_5 : decode cX2_span 5 = .ok (.getfield 52, 3) := by decide +kernel
theorem dX2_span_8 : decode cX2_span 8 = .ok (.ishl, 1) := by decide +kernel
theorem dX2_span_9 : decode cX2_span 9 = .ok (.ireturn, 1) := by decide +kernel
theorem dX2_buckets_0 : decode cX2_buckets 0 = .ok (.aload_n 0, 1) := by decide +kernel
theorem dX2_buckets_1 : decode cX2_buckets 1 = .ok (.getfield 39, 3) := by decide +kernel
theorem dX2_buckets_4 : decode cX2_buckets 4 = .ok (.aload_n 0, 1) := by decide +kernel
theorem dX2_buckets_5 : decode cX2_buckets 5 = .ok (.getfield 52, 3) := by decide +kernel
theorem dX2_buckets_8 : decode cX2_buckets 8 = .ok (.ishl, 1) := by decide +kernel
theorem dX2_buckets_9 : decode cX2_buckets 9 = .ok (.aload_n 0, 1) := by decide +kernel
theorem dX2_buckets_10 : decode cX2_buckets 10 = .ok (.getfield 55, 3) := by decide +kernel
theorem dX2_buckets_13 : decode cX2_buckets 13 = .ok (.iadd, 1) := by decide +kernel
theorem dX2_buckets_14 : decode cX2_buckets 14 = .ok (.ireturn, 1) := by decide +kernel
theorem dX2_isFull_0 : decode cX2_isFull 0 = .ok (.aload_n 0, 1) := by decide +kernel
theorem dX2_isFull_1 : decode cX2_isFull 1 = .ok (.invokevirtual 96, 3) := by decide +kernel
theorem dX2_isFull_4 : decode cX2_isFull 4 = .ok (.bipush 64, 2) := by decide +kernel
theorem dX2_isFull_6 : decode cX2_isFull 6 = .ok (.if_icmp .lt 7, 3) := by decide +kernel
theorem dX2_isFull_9 : decode cX2_isFull 9 = .ok (.iconst 1, 1) := by decide +kernel
theorem dX2_isFull_10 : decode cX2_isFull 10 = .ok (.goto 4, 3) := by decide +kernel
theorem dX2_isFull_13 : decode cX2_isFull 13 = .ok (.iconst 0, 1) := by decide +kernel
theorem dX2_isFull_14 : decode cX2_isFull 14 = .ok (.ireturn, 1) := by decide +kernel
theorem dX2_load_0 : decode cX2_load 0 = .ok (.aload_n 0, 1) := by decide +kernel
theorem dX2_load_1 : decode cX2_load 1 = .ok (.invokevirtual 96, 3) := by decide +kernel
theorem dX2_load_4 : decode cX2_load 4 = .ok (.aload_n 0, 1) := by decide +kernel
theorem dX2_load_5 : decode cX2_load 5 = .ok (.getfield 21, 3) := by decide +kernel
theorem dX2_load_8 : decode cX2_load 8 = .ok (.getfield 100, 3) := by decide +kernel
theorem dX2_load_11 : decode cX2_load 11 = .ok (.imul, 1) := by decide +kernel
theorem dX2_load_12 : decode cX2_load 12 = .ok (.istore_n 1, 1) := by decide +kernel
theorem dX2_load_13 : decode cX2_load 13 = .ok (.iload_n 1, 1) := by decide +kernel
theorem dX2_load_14 : decode cX2_load 14 = .ok (.iconst 1, 1) := by decide +kernel
theorem dX2_load_15 : decode cX2_load 15 = .ok (.if_icmp .ge 7, 3) := by decide +kernel
theorem dX2_load_18 : decode cX2_load 18 = .ok (.iconst 0, 1) := by decide +kernel
theorem dX2_load_19 : decode cX2_load 19 = .ok (.goto 15, 3) := by decide +kernel
theorem dX2_load_22 : decode cX2_load 22 = .ok (.bipush 100, 2) := by decide +kernel
theorem dX2_load_24 : decode cX2_load 24 = .ok (.aload_n 0, 1) := by decide +kernel
theorem dX2_load_25 : decode cX2_load 25 = .ok (.getfield 28, 3) := by decide +kernel
theorem dX2_load_28 : decode cX2_load 28 = .ok (.getfield 77, 3) := by decide +kernel
theorem dX2_load_31 : decode cX2_load 31 = .ok (.imul, 1) := by decide +kernel
theorem dX2_load_32 : decode cX2_load 32 = .ok (.iload_n 1, 1) := by decide +kernel
theorem dX2_load_33 : decode cX2_load 33 = .ok (.idiv, 1) := by decide +kernel
theorem dX2_load_34 : decode cX2_load 34 = .ok (.ireturn, 1) := by decide +kernel
theorem dX2_addressOf_0 : decode cX2_addressOf 0 = .ok (.iload_n 1, 1) := by decide +kernel
theorem dX2_addressOf_1 : decode cX2_addressOf 1 = .ok (.aload_n 0, 1) := by decide +kernel
theorem dX2_addressOf_2 : decode cX2_addressOf 2 = .ok (.invokevirtual 103, 3) := by decide +kernel
theorem dX2_addressOf_5 : decode cX2_addressOf 5 = .ok (.aload_n 0, 1) := by decide +kernel
theorem dX2_addressOf_6 : decode cX2_addressOf 6 = .ok (.getfield 55, 3) := by decide +kernel
theorem dX2_addressOf_9 : decode cX2_addressOf 9 = .ok (.invokestatic 106, 3) := by decide +kernel
theorem dX2_addressOf_12 : decode cX2_addressOf 12 = .ok (.ireturn, 1) := by decide +kernel
theorem dX2_spanAmong_0 : decode cX2_spanAmong 0 = .ok (.aload_n 0, 1) := by decide +kernel
theorem dX2_spanAmong_1 : decode cX2_spanAmong 1 = .ok (.getfield 39, 3) := by decide +kernel
theorem dX2_spanAmong_4 : decode cX2_spanAmong 4 = .ok (.istore_n 2, 1) := by decide +kernel
theorem dX2_spanAmong_5 : decode cX2_spanAmong 5 = .ok (.iconst 0, 1) := by decide +kernel
theorem dX2_spanAmong_6 : decode cX2_spanAmong 6 = .ok (.istore_n 3, 1) := by decide +kernel
theorem dX2_spanAmong_7 : decode cX2_spanAmong 7 = .ok (.iload_n 3, 1) := by decide +kernel
theorem dX2_spanAmong_8 : decode cX2_spanAmong 8 = .ok (.bipush 64, 2) := by decide +kernel
theorem dX2_spanAmong_10 : decode cX2_spanAmong 10 = .ok (.if_icmp .ge 20, 3) := by decide +kernel
theorem dX2_spanAmong_13 : decode cX2_spanAmong 13 = .ok (.iload_n 2, 1) := by decide +kernel
theorem dX2_spanAmong_14 : decode cX2_spanAmong 14 = .ok (.iconst 2, 1) := by decide +kernel
theorem dX2_spanAmong_15 : decode cX2_spanAmong 15 = .ok (.imul, 1) := by decide +kernel
theorem dX2_spanAmong_16 : decode cX2_spanAmong 16 = .ok (.iload_n 1, 1) := by decide +kernel
theorem dX2_spanAmong_17 : decode cX2_spanAmong 17 = .ok (.if_icmp .gt 13, 3) := by decide +kernel
theorem dX2_spanAmong_20 : decode cX2_spanAmong 20 = .ok (.iload_n 2, 1) := by decide +kernel
theorem dX2_spanAmong_21 : decode cX2_spanAmong 21 = .ok (.iconst 2, 1) := by decide +kernel
theorem dX2_spanAmong_22 : decode cX2_spanAmong 22 = .ok (.imul, 1) := by decide +kernel
theorem dX2_spanAmong_23 : decode cX2_spanAmong 23 = .ok (.istore_n 2, 1) := by decide +kernel
theorem dX2_spanAmong_24 : decode cX2_spanAmong 24 = .ok (.iinc 3 1, 3) := by decide +kernel
theorem dX2_spanAmong_27 : decode cX2_spanAmong 27 = .ok (.goto (-20), 3) := by decide +kernel
theorem dX2_spanAmong_30 : decode cX2_spanAmong 30 = .ok (.iload_n 2, 1) := by decide +kernel
theorem dX2_spanAmong_31 : decode cX2_spanAmong 31 = .ok (.ireturn, 1) := by decide +kernel
theorem dX2_addressAmong_0 : decode cX2_addressAmong 0 = .ok (.aload_n 0, 1) := by decide +kernel
theorem dX2_addressAmong_1 : decode cX2_addressAmong 1 = .ok (.iload_n 2, 1) := by decide +kernel
theorem dX2_addressAmong_2 : decode cX2_addressAmong 2 = .ok (.invokevirtual 110, 3) := by decide +kernel
theorem dX2_addressAmong_5 : decode cX2_addressAmong 5 = .ok (.istore_n 3, 1) := by decide +kernel
theorem dX2_addressAmong_6 : decode cX2_addressAmong 6 = .ok (.iload_n 1, 1) := by decide +kernel
theorem dX2_addressAmong_7 : decode cX2_addressAmong 7 = .ok (.iload_n 3, 1) := by decide +kernel
theorem dX2_addressAmong_8 : decode cX2_addressAmong 8 = .ok (.iload_n 2, 1) := by decide +kernel
theorem dX2_addressAmong_9 : decode cX2_addressAmong 9 = .ok (.iload_n 3, 1) := by decide +kernel
theorem dX2_addressAmong_10 : decode cX2_addressAmong 10 = .ok (.isub, 1) := by decide +kernel
theorem dX2_addressAmong_11 : decode cX2_addressAmong 11 = .ok (.invokestatic 106, 3) := by decide +kernel
theorem dX2_addressAmong_14 : decode cX2_addressAmong 14 = .ok (.ireturn, 1) := by decide +kernel
theorem dX2_address_0 : decode cX2_address 0 = .ok (.iload_n 1, 1) := by decide +kernel
theorem dX2_address_1 : decode cX2_address 1 = .ok (.iconst 1, 1) := by decide +kernel
theorem dX2_address_2 : decode cX2_address 2 = .ok (.if_icmp .ge 5, 3) := by decide +kernel
theorem dX2_address_5 : decode cX2_address 5 = .ok (.iconst 0, 1) := by decide +kernel
theorem dX2_address_6 : decode cX2_address 6 = .ok (.ireturn, 1) := by decide +kernel
theorem dX2_address_7 : decode cX2_address 7 = .ok (.iload_n 0, 1) := by decide +kernel
theorem dX2_address_8 : decode cX2_address 8 = .ok (.iload_n 1, 1) := by decide +kernel
theorem dX2_address_9 : decode cX2_address 9 = .ok (.irem, 1) := by decide +kernel
theorem dX2_address_10 : decode cX2_address 10 = .ok (.istore_n 3, 1) := by decide +kernel
theorem dX2_address_11 : decode cX2_address 11 = .ok (.iload_n 3, 1) := by decide +kernel
theorem dX2_address_12 : decode cX2_address 12 = .ok (.iload_n 2, 1) := by decide +kernel
theorem dX2_address_13 : decode cX2_address 13 = .ok (.if_icmp .ge 11, 3) := by decide +kernel
theorem dX2_address_16 : decode cX2_address 16 = .ok (.iload_n 0, 1) := by decide +kernel
theorem dX2_address_17 : decode cX2_address 17 = .ok (.iconst 2, 1) := by decide +kernel
theorem dX2_address_18 : decode cX2_address 18 = .ok (.iload_n 1, 1) := by decide +kernel
theorem dX2_address_19 : decode cX2_address 19 = .ok (.imul, 1) := by decide +kernel
theorem dX2_address_20 : decode cX2_address 20 = .ok (.irem, 1) := by decide +kernel
theorem dX2_address_21 : decode cX2_address 21 = .ok (.goto 4, 3) := by decide +kernel
theorem dX2_address_24 : decode cX2_address 24 = .ok (.iload_n 3, 1) := by decide +kernel
theorem dX2_address_25 : decode cX2_address 25 = .ok (.ireturn, 1) := by decide +kernel
theorem dX2_hashAt_0 : decode cX2_hashAt 0 = .ok (.aload_n 0, 1) := by decide +kernel
theorem dX2_hashAt_1 : decode cX2_hashAt 1 = .ok (.getfield 28, 3) := by decide +kernel
theorem dX2_hashAt_4 : decode cX2_hashAt 4 = .ok (.iload_n 1, 1) := by decide +kernel
theorem dX2_hashAt_5 : decode cX2_hashAt 5 = .ok (.aload_n 0, 1) := by decide +kernel
theorem dX2_hashAt_6 : decode cX2_hashAt 6 = .ok (.getfield 39, 3) := by decide +kernel
theorem dX2_hashAt_9 : decode cX2_hashAt 9 = .ok (.invokevirtual 114, 3) := by decide +kernel
theorem dX2_hashAt_12 : decode cX2_hashAt 12 = .ok (.ireturn, 1) := by decide +kernel
theorem dX2_holds_0 : decode cX2_holds 0 = .ok (.aload_n 0, 1) := by decide +kernel
theorem dX2_holds_1 : decode cX2_holds 1 = .ok (.getfield 28, 3) := by decide +kernel
theorem dX2_holds_4 : decode cX2_holds 4 = .ok (.iload_n 1, 1) := by decide +kernel
theorem dX2_holds_5 : decode cX2_holds 5 = .ok (.iload_n 2, 1) := by decide +kernel
theorem dX2_holds_6 : decode cX2_holds 6 = .ok (.aload_n 0, 1) := by decide +kernel
theorem dX2_holds_7 : decode cX2_holds 7 = .ok (.getfield 39, 3) := by decide +kernel
theorem dX2_holds_10 : decode cX2_holds 10 = .ok (.invokestatic 118, 3) := by decide +kernel
theorem dX2_holds_13 : decode cX2_holds 13 = .ok (.invokevirtual 122, 3) := by decide +kernel
theorem dX2_holds_16 : decode cX2_holds 16 = .ok (.ireturn, 1) := by decide +kernel
theorem dX2_valueOf_0 : decode cX2_valueOf 0 = .ok (.aload_n 0, 1) := by decide +kernel
theorem dX2_valueOf_1 : decode cX2_valueOf 1 = .ok (.getfield 21, 3) := by decide +kernel
theorem dX2_valueOf_4 : decode cX2_valueOf 4 = .ok (.aload_n 0, 1) := by decide +kernel
theorem dX2_valueOf_5 : decode cX2_valueOf 5 = .ok (.aload_n 0, 1) := by decide +kernel
theorem dX2_valueOf_6 : decode cX2_valueOf 6 = .ok (.getfield 12, 3) := by decide +kernel
theorem dX2_valueOf_9 : decode cX2_valueOf 9 = .ok (.iload_n 1, 1) := by decide +kernel
theorem dX2_valueOf_10 : decode cX2_valueOf 10 = .ok (.invokevirtual 126, 3) := by decide +kernel
theorem dX2_valueOf_13 : decode cX2_valueOf 13 = .ok (.invokevirtual 129, 3) := by decide +kernel
theorem dX2_valueOf_16 : decode cX2_valueOf 16 = .ok (.iload_n 1, 1) := by decide +kernel
theorem dX2_valueOf_17 : decode cX2_valueOf 17 = .ok (.invokevirtual 132, 3) := by decide +kernel
theorem dX2_valueOf_20 : decode cX2_valueOf 20 = .ok (.istore_n 2, 1) := by decide +kernel
theorem dX2_valueOf_21 : decode cX2_valueOf 21 = .ok (.iload_n 2, 1) := by decide +kernel
theorem dX2_valueOf_22 : decode cX2_valueOf 22 = .ok (.iconst (-1), 1) := by decide +kernel
theorem dX2_valueOf_23 : decode cX2_valueOf 23 = .ok (.if_icmp .ne 8, 3) := by decide +kernel
theorem dX2_valueOf_26 : decode cX2_valueOf 26 = .ok (.bipush (-2), 2) := by decide +kernel
theorem dX2_valueOf_28 : decode cX2_valueOf 28 = .ok (.goto 15, 3) := by decide +kernel
theorem dX2_valueOf_31 : decode cX2_valueOf 31 = .ok (.aload_n 0, 1) := by decide +kernel
theorem dX2_valueOf_32 : decode cX2_valueOf 32 = .ok (.getfield 21, 3) := by decide +kernel
theorem dX2_valueOf_35 : decode cX2_valueOf 35 = .ok (.getfield 135, 3) := by decide +kernel
theorem dX2_valueOf_38 : decode cX2_valueOf 38 = .ok (.iload_n 2, 1) := by decide +kernel
theorem dX2_valueOf_39 : decode cX2_valueOf 39 = .ok (.laload, 1) := by decide +kernel
theorem dX2_valueOf_40 : decode cX2_valueOf 40 = .ok (.invokestatic 139, 3) := by decide +kernel
theorem dX2_valueOf_43 : decode cX2_valueOf 43 = .ok (.ireturn, 1) := by decide +kernel
theorem dX2_readsFor_0 : decode cX2_readsFor 0 = .ok (.aload_n 0, 1) := by decide +kernel
theorem dX2_readsFor_1 : decode cX2_readsFor 1 = .ok (.getfield 21, 3) := by decide +kernel
theorem dX2_readsFor_4 : decode cX2_readsFor 4 = .ok (.iload_n 2, 1) := by decide +kernel
theorem dX2_readsFor_5 : decode cX2_readsFor 5 = .ok (.iload_n 1, 1) := by decide +kernel
theorem dX2_readsFor_6 : decode cX2_readsFor 6 = .ok (.invokevirtual 132, 3) := by decide +kernel
theorem dX2_readsFor_9 : decode cX2_readsFor 9 = .ok (.istore_n 3, 1) := by decide +kernel
theorem dX2_readsFor_10 : decode cX2_readsFor 10 = .ok (.iload_n 3, 1) := by decide +kernel
theorem dX2_readsFor_11 : decode cX2_readsFor 11 = .ok (.iconst (-1), 1) := by decide +kernel
theorem dX2_readsFor_12 : decode cX2_readsFor 12 = .ok (.if_icmp .ne 15, 3) := by decide +kernel
theorem dX2_readsFor_15 : decode cX2_readsFor 15 = .ok (.aload_n 0, 1) := by decide +kernel
theorem dX2_readsFor_16 : decode cX2_readsFor 16 = .ok (.getfield 21, 3) := by decide +kernel
theorem dX2_readsFor_19 : decode cX2_readsFor 19 = .ok (.getfield 145, 3) := by decide +kernel
theorem dX2_readsFor_22 : decode cX2_readsFor 22 = .ok (.iload_n 2, 1) := by decide +kernel
theorem dX2_readsFor_23 : decode cX2_readsFor 23 = .ok (.iaload, 1) := by decide +kernel
theorem dX2_readsFor_24 : decode cX2_readsFor 24 = .ok (.goto 17, 3) := by decide +kernel
theorem dX2_readsFor_27 : decode cX2_readsFor 27 = .ok (.aload_n 0, 1) := by decide +kernel
theorem dX2_readsFor_28 : decode cX2_readsFor 28 = .ok (.getfield 21, 3) := by decide +kernel
theorem dX2_readsFor_31 : decode cX2_readsFor 31 = .ok (.getfield 149, 3) := by decide +kernel
theorem dX2_readsFor_34 : decode cX2_readsFor 34 = .ok (.iload_n 3, 1) := by decide +kernel
theorem dX2_readsFor_35 : decode cX2_readsFor 35 = .ok (.bipush 6, 2) := by decide +kernel
theorem dX2_readsFor_37 : decode cX2_readsFor 37 = .ok (.idiv, 1) := by decide +kernel
theorem dX2_readsFor_38 : decode cX2_readsFor 38 = .ok (.iaload, 1) := by decide +kernel
theorem dX2_readsFor_39 : decode cX2_readsFor 39 = .ok (.iconst 1, 1) := by decide +kernel
theorem dX2_readsFor_40 : decode cX2_readsFor 40 = .ok (.iadd, 1) := by decide +kernel
theorem dX2_readsFor_41 : decode cX2_readsFor 41 = .ok (.ireturn, 1) := by decide +kernel
theorem dX2_placeBehind_0 : decode cX2_placeBehind 0 = .ok (.iload_n 1, 1) := by decide +kernel
theorem dX2_placeBehind_1 : decode cX2_placeBehind 1 = .ok (.iconst (-1), 1) := by decide +kernel
theorem dX2_placeBehind_2 : decode cX2_placeBehind 2 = .ok (.if_icmp .ne 5, 3) := by decide +kernel
theorem dX2_placeBehind_5 : decode cX2_placeBehind 5 = .ok (.iconst 0, 1) := by decide +kernel
theorem dX2_placeBehind_6 : decode cX2_placeBehind 6 = .ok (.ireturn, 1) := by decide +kernel
theorem dX2_placeBehind_7 : decode cX2_placeBehind 7 = .ok (.aload_n 0, 1) := by decide +kernel
theorem dX2_placeBehind_8 : decode cX2_placeBehind 8 = .ok (.getfield 28, 3) := by decide +kernel
theorem dX2_placeBehind_11 : decode cX2_placeBehind 11 = .ok (.iload_n 1, 1) := by decide +kernel
theorem dX2_placeBehind_12 : decode cX2_placeBehind 12 = .ok (.aload_n 0, 1) := by decide +kernel
theorem dX2_placeBehind_13 : decode cX2_placeBehind 13 = .ok (.getfield 12, 3) := by decide +kernel
theorem dX2_placeBehind_16 : decode cX2_placeBehind 16 = .ok (.iload_n 1, 1) := by decide +kernel
theorem dX2_placeBehind_17 : decode cX2_placeBehind 17 = .ok (.invokevirtual 126, 3) := by decide +kernel
theorem dX2_placeBehind_20 : decode cX2_placeBehind 20 = .ok (.aload_n 0, 1) := by decide +kernel
theorem dX2_placeBehind_21 : decode cX2_placeBehind 21 = .ok (.getfield 39, 3) := by decide +kernel
theorem dX2_placeBehind_24 : decode cX2_placeBehind 24 = .ok (.invokestatic 118, 3) := by decide +kernel
theorem dX2_placeBehind_27 : decode cX2_placeBehind 27 = .ok (.lconst 1, 1) := by decide +kernel
theorem dX2_placeBehind_28 : decode cX2_placeBehind 28 = .ok (.ladd, 1) := by decide +kernel
theorem dX2_placeBehind_29 : decode cX2_placeBehind 29 = .ok (.invokevirtual 152, 3) := by decide +kernel
theorem dX2_placeBehind_32 : decode cX2_placeBehind 32 = .ok (.ireturn, 1) := by decide +kernel
theorem dX2_look_0 : decode cX2_look 0 = .ok (.aload_n 0, 1) := by decide +kernel
theorem dX2_look_1 : decode cX2_look 1 = .ok (.aload_n 0, 1) := by decide +kernel
theorem dX2_look_2 : decode cX2_look 2 = .ok (.getfield 12, 3) := by decide +kernel
theorem dX2_look_5 : decode cX2_look 5 = .ok (.iload_n 1, 1) := by decide +kernel
theorem dX2_look_6 : decode cX2_look 6 = .ok (.invokevirtual 126, 3) := by decide +kernel
theorem dX2_look_9 : decode cX2_look 9 = .ok (.invokevirtual 129, 3) := by decide +kernel
theorem dX2_look_12 : decode cX2_look 12 = .ok (.istore_n 2, 1) := by decide +kernel
theorem dX2_look_13 : decode cX2_look 13 = .ok (.aload_n 0, 1) := by decide +kernel
theorem dX2_look_14 : decode cX2_look 14 = .ok (.dup, 1) := by decide +kernel
theorem dX2_look_15 : decode cX2_look 15 = .ok (.getfield 58, 3) := by decide +kernel
theorem dX2_look_18 : decode cX2_look 18 = .ok (.aload_n 0, 1) := by decide +kernel
theorem dX2_look_19 : decode cX2_look 19 = .ok (.iload_n 1, 1) := by decide +kernel
theorem dX2_look_20 : decode cX2_look 20 = .ok (.iload_n 2, 1) := by decide +kernel
theorem dX2_look_21 : decode cX2_look 21 = .ok (.invokevirtual 155, 3) := by decide +kernel
theorem dX2_look_24 : decode cX2_look 24 = .ok (.iadd, 1) := by decide +kernel
theorem dX2_look_25 : decode cX2_look 25 = .ok (.putfield 58, 3) := by decide +kernel
theorem dX2_look_28 : decode cX2_look 28 = .ok (.aload_n 0, 1) := by decide +kernel
theorem dX2_look_29 : decode cX2_look 29 = .ok (.getfield 21, 3) := by decide +kernel
theorem dX2_look_32 : decode cX2_look 32 = .ok (.iload_n 2, 1) := by decide +kernel
theorem dX2_look_33 : decode cX2_look 33 = .ok (.iload_n 1, 1) := by decide +kernel
theorem dX2_look_34 : decode cX2_look 34 = .ok (.invokevirtual 132, 3) := by decide +kernel
theorem dX2_look_37 : decode cX2_look 37 = .ok (.istore_n 3, 1) := by decide +kernel
theorem dX2_look_38 : decode cX2_look 38 = .ok (.iload_n 3, 1) := by decide +kernel
theorem dX2_look_39 : decode cX2_look 39 = .ok (.iconst (-1), 1) := by decide +kernel
theorem dX2_look_40 : decode cX2_look 40 = .ok (.if_icmp .ne 8, 3) := by decide +kernel
theorem dX2_look_43 : decode cX2_look 43 = .ok (.bipush (-2), 2) := by decide +kernel
theorem dX2_look_45 : decode cX2_look 45 = .ok (.goto 15, 3) := by decide +kernel
theorem dX2_look_48 : decode cX2_look 48 = .ok (.aload_n 0, 1) := by decide +kernel
theorem dX2_look_49 : decode cX2_look 49 = .ok (.getfield 21, 3) := by decide +kernel
theorem dX2_look_52 : decode cX2_look 52 = .ok (.getfield 135, 3) := by decide +kernel
theorem dX2_look_55 : decode cX2_look 55 = .ok (.iload_n 3, 1) := by decide +kernel
theorem dX2_look_56 : decode cX2_look 56 = .ok (.laload, 1) := by decide +kernel
theorem dX2_look_57 : decode cX2_look 57 = .ok (.invokestatic 139, 3) := by decide +kernel
theorem dX2_look_60 : decode cX2_look 60 = .ok (.ireturn, 1) := by decide +kernel
theorem dX2_store_0 : decode cX2_store 0 = .ok (.aload_n 0, 1) := by decide +kernel
theorem dX2_store_1 : decode cX2_store 1 = .ok (.getfield 12, 3) := by decide +kernel
theorem dX2_store_4 : decode cX2_store 4 = .ok (.iload_n 1, 1) := by decide +kernel
theorem dX2_store_5 : decode cX2_store 5 = .ok (.invokevirtual 126, 3) := by decide +kernel
theorem dX2_store_8 : decode cX2_store 8 = .ok (.istore_n 3, 1) := by decide +kernel
theorem dX2_store_9 : decode cX2_store 9 = .ok (.aload_n 0, 1) := by decide +kernel
theorem dX2_store_10 : decode cX2_store 10 = .ok (.iload_n 3, 1) := by decide +kernel
theorem dX2_store_11 : decode cX2_store 11 = .ok (.invokevirtual 129, 3) := by decide +kernel
theorem dX2_store_14 : decode cX2_store 14 = .ok (.istore 4, 2) := by decide +kernel
theorem dX2_store_16 : decode cX2_store 16 = .ok (.iload_n 1, 1) := by decide +kernel
theorem dX2_store_17 : decode cX2_store 17 = .ok (.iload_n 3, 1) := by decide +kernel
theorem dX2_store_18 : decode cX2_store 18 = .ok (.aload_n 0, 1) := by decide +kernel
theorem dX2_store_19 : decode cX2_store 19 = .ok (.getfield 39, 3) := by decide +kernel
theorem dX2_store_22 : decode cX2_store 22 = .ok (.invokestatic 118, 3) := by decide +kernel
theorem dX2_store_25 : decode cX2_store 25 = .ok (.lstore 5, 2) := by decide +kernel
theorem dX2_store_27 : decode cX2_store 27 = .ok (.aload_n 0, 1) := by decide +kernel
theorem dX2_store_28 : decode cX2_store 28 = .ok (.getfield 28, 3) := by decide +kernel
theorem dX2_store_31 : decode cX2_store 31 = .ok (.lload 5, 2) := by decide +kernel
theorem dX2_store_33 : decode cX2_store 33 = .ok (.invokevirtual 122, 3) := by decide +kernel
theorem dX2_store_36 : decode cX2_store 36 = .ok (.ifCond .eq 18, 3) := by decide +kernel
theorem dX2_store_39 : decode cX2_store 39 = .ok (.aload_n 0, 1) := by decide +kernel
theorem dX2_store_40 : decode cX2_store 40 = .ok (.iload 4, 2) := by decide +kernel
theorem dX2_store_42 : decode cX2_store 42 = .ok (.iload_n 1, 1) := by decide +kernel
theorem dX2_store_43 : decode cX2_store 43 = .ok (.iload_n 1, 1) := by decide +kernel
theorem dX2_store_44 : decode cX2_store 44 = .ok (.iload_n 2, 1) := by decide +kernel
theorem dX2_store_45 : decode cX2_store 45 = .ok (.iload_n 3, 1) := by decide +kernel
theorem dX2_store_46 : decode cX2_store 46 = .ok (.invokestatic 158, 3) := by decide +kernel
theorem dX2_store_49 : decode cX2_store 49 = .ok (.invokevirtual 161, 3) := by decide +kernel
theorem dX2_store_52 : decode cX2_store 52 = .ok (.iconst 1, 1) := by decide +kernel
theorem dX2_store_53 : decode cX2_store 53 = .ok (.ireturn, 1) := by decide +kernel
theorem dX2_store_54 : decode cX2_store 54 = .ok (.aload_n 0, 1) := by decide +kernel
theorem dX2_store_55 : decode cX2_store 55 = .ok (.getfield 28, 3) := by decide +kernel
theorem dX2_store_58 : decode cX2_store 58 = .ok (.getfield 77, 3) := by decide +kernel
theorem dX2_store_61 : decode cX2_store 61 = .ok (.sipush 300, 3) := by decide +kernel
theorem dX2_store_64 : decode cX2_store 64 = .ok (.if_icmp .lt 6, 3) := by decide +kernel
theorem dX2_store_67 : decode cX2_store 67 = .ok (.bipush (-3), 2) := by decide +kernel
theorem dX2_store_69 : decode cX2_store 69 = .ok (.ireturn, 1) := by decide +kernel
theorem dX2_store_70 : decode cX2_store 70 = .ok (.aload_n 0, 1) := by decide +kernel
theorem dX2_store_71 : decode cX2_store 71 = .ok (.dup, 1) := by decide +kernel
theorem dX2_store_72 : decode cX2_store 72 = .ok (.getfield 58, 3) := by decide +kernel
theorem dX2_store_75 : decode cX2_store 75 = .ok (.aload_n 0, 1) := by decide +kernel
theorem dX2_store_76 : decode cX2_store 76 = .ok (.getfield 21, 3) := by decide +kernel
theorem dX2_store_79 : decode cX2_store 79 = .ok (.getfield 145, 3) := by decide +kernel
theorem dX2_store_82 : decode cX2_store 82 = .ok (.iload 4, 2) := by decide +kernel
theorem dX2_store_84 : decode cX2_store 84 = .ok (.iaload, 1) := by decide +kernel
theorem dX2_store_85 : decode cX2_store 85 = .ok (.iadd, 1) := by decide +kernel
theorem dX2_store_86 : decode cX2_store 86 = .ok (.putfield 58, 3) := by decide +kernel
theorem dX2_store_89 : decode cX2_store 89 = .ok (.aload_n 0, 1) := by decide +kernel
theorem dX2_store_90 : decode cX2_store 90 = .ok (.getfield 21, 3) := by decide +kernel
theorem dX2_store_93 : decode cX2_store 93 = .ok (.iload 4, 2) := by decide +kernel
theorem dX2_store_95 : decode cX2_store 95 = .ok (.iload_n 1, 1) := by decide +kernel
theorem dX2_store_96 : decode cX2_store 96 = .ok (.iload_n 2, 1) := by decide +kernel
theorem dX2_store_97 : decode cX2_store 97 = .ok (.iload_n 3, 1) := by decide +kernel
theorem dX2_store_98 : decode cX2_store 98 = .ok (.invokestatic 158, 3) := by decide +kernel
theorem dX2_store_101 : decode cX2_store 101 = .ok (.invokevirtual 165, 3) := by decide +kernel
theorem dX2_store_104 : decode cX2_store 104 = .ok (.istore 7, 2) := by decide +kernel
theorem dX2_store_106 : decode cX2_store 106 = .ok (.aload_n 0, 1) := by decide +kernel
theorem dX2_store_107 : decode cX2_store 107 = .ok (.dup, 1) := by decide +kernel
theorem dX2_store_108 : decode cX2_store 108 = .ok (.getfield 61, 3) := by decide +kernel
theorem dX2_store_111 : decode cX2_store 111 = .ok (.iload 7, 2) := by decide +kernel
theorem dX2_store_113 : decode cX2_store 113 = .ok (.ifCond .eq 7, 3) := by decide +kernel
theorem dX2_store_116 : decode cX2_store 116 = .ok (.iconst 2, 1) := by decide +kernel
theorem dX2_store_117 : decode cX2_store 117 = .ok (.goto 4, 3) := by decide +kernel
theorem dX2_store_120 : decode cX2_store 120 = .ok (.iconst 1, 1) := by decide +kernel
theorem dX2_store_121 : decode cX2_store 121 = .ok (.iadd, 1) := by decide +kernel
theorem dX2_store_122 : decode cX2_store 122 = .ok (.putfield 61, 3) := by decide +kernel
theorem dX2_store_125 : decode cX2_store 125 = .ok (.aload_n 0, 1) := by decide +kernel
theorem dX2_store_126 : decode cX2_store 126 = .ok (.getfield 28, 3) := by decide +kernel
theorem dX2_store_129 : decode cX2_store 129 = .ok (.lload 5, 2) := by decide +kernel
theorem dX2_store_131 : decode cX2_store 131 = .ok (.invokevirtual 169, 3) := by decide +kernel
theorem dX2_store_134 : decode cX2_store 134 = .ok (.aload_n 0, 1) := by decide +kernel
theorem dX2_store_135 : decode cX2_store 135 = .ok (.getfield 49, 3) := by decide +kernel
theorem dX2_store_138 : decode cX2_store 138 = .ok (.iconst 1, 1) := by decide +kernel
theorem dX2_store_139 : decode cX2_store 139 = .ok (.if_icmp .ne 14, 3) := by decide +kernel
theorem dX2_store_142 : decode cX2_store 142 = .ok (.aload_n 0, 1) := by decide +kernel
theorem dX2_store_143 : decode cX2_store 143 = .ok (.invokevirtual 173, 3) := by decide +kernel
theorem dX2_store_146 : decode cX2_store 146 = .ok (.aload_n 0, 1) := by decide +kernel
theorem dX2_store_147 : decode cX2_store 147 = .ok (.getfield 43, 3) := by decide +kernel
theorem dX2_store_150 : decode cX2_store 150 = .ok (.if_icmp .gt 16, 3) := by decide +kernel
theorem dX2_store_153 : decode cX2_store 153 = .ok (.aload_n 0, 1) := by decide +kernel
theorem dX2_store_154 : decode cX2_store 154 = .ok (.getfield 49, 3) := by decide +kernel
theorem dX2_store_157 : decode cX2_store 157 = .ok (.iconst 2, 1) := by decide +kernel
theorem dX2_store_158 : decode cX2_store 158 = .ok (.if_icmp .ne 13, 3) := by decide +kernel
theorem dX2_store_161 : decode cX2_store 161 = .ok (.iload 7, 2) := by decide +kernel
theorem dX2_store_163 : decode cX2_store 163 = .ok (.ifCond .eq 8, 3) := by decide +kernel
theorem dX2_store_166 : decode cX2_store 166 = .ok (.aload_n 0, 1) := by decide +kernel
theorem dX2_store_167 : decode cX2_store 167 = .ok (.invokevirtual 176, 3) := by decide +kernel
theorem dX2_store_170 : decode cX2_store 170 = .ok (.pop, 1) := by decide +kernel
theorem dX2_store_171 : decode cX2_store 171 = .ok (.iconst 0, 1) := by decide +kernel
theorem dX2_store_172 : decode cX2_store 172 = .ok (.ireturn, 1) := by decide +kernel
theorem dX2_overwrite_0 : decode cX2_overwrite 0 = .ok (.aload_n 0, 1) := by decide +kernel
theorem dX2_overwrite_1 : decode cX2_overwrite 1 = .ok (.getfield 21, 3) := by decide +kernel
theorem dX2_overwrite_4 : decode cX2_overwrite 4 = .ok (.iload_n 1, 1) := by decide +kernel
theorem dX2_overwrite_5 : decode cX2_overwrite 5 = .ok (.iload_n 2, 1) := by decide +kernel
theorem dX2_overwrite_6 : decode cX2_overwrite 6 = .ok (.invokevirtual 132, 3) := by decide +kernel
theorem dX2_overwrite_9 : decode cX2_overwrite 9 = .ok (.istore 5, 2) := by decide +kernel
theorem dX2_overwrite_11 : decode cX2_overwrite 11 = .ok (.iload 5, 2) := by decide +kernel
theorem dX2_overwrite_13 : decode cX2_overwrite 13 = .ok (.iconst (-1), 1) := by decide +kernel
theorem dX2_overwrite_14 : decode cX2_overwrite 14 = .ok (.if_icmp .eq 48, 3) := by decide +kernel
theorem dX2_overwrite_17 : decode cX2_overwrite 17 = .ok (.aload_n 0, 1) := by decide +kernel
theorem dX2_overwrite_18 : decode cX2_overwrite 18 = .ok (.dup, 1) := by decide +kernel
theorem dX2_overwrite_19 : decode cX2_overwrite 19 = .ok (.getfield 58, 3) := by decide +kernel
theorem dX2_overwrite_22 : decode cX2_overwrite 22 = .ok (.aload_n 0, 1) := by decide +kernel
theorem dX2_overwrite_23 : decode cX2_overwrite 23 = .ok (.getfield 21, 3) := by decide +kernel
theorem dX2_overwrite_26 : decode cX2_overwrite 26 = .ok (.getfield 149, 3) := by decide +kernel
theorem dX2_overwrite_29 : decode cX2_overwrite 29 = .ok (.iload 5, 2) := by decide +kernel
theorem dX2_overwrite_31 : decode cX2_overwrite 31 = .ok (.bipush 6, 2) := by decide +kernel
theorem dX2_overwrite_33 : decode cX2_overwrite 33 = .ok (.idiv, 1) := by decide +kernel
theorem dX2_overwrite_34 : decode cX2_overwrite 34 = .ok (.iaload, 1) := by decide +kernel
theorem dX2_overwrite_35 : decode cX2_overwrite 35 = .ok (.iconst 1, 1) := by decide +kernel
theorem dX2_overwrite_36 : decode cX2_overwrite 36 = .ok (.iadd, 1) := by decide +kernel
theorem dX2_overwrite_37 : decode cX2_overwrite 37 = .ok (.iadd, 1) := by decide +kernel
theorem dX2_overwrite_38 : decode cX2_overwrite 38 = .ok (.putfield 58, 3) := by decide +kernel
theorem dX2_overwrite_41 : decode cX2_overwrite 41 = .ok (.aload_n 0, 1) := by decide +kernel
theorem dX2_overwrite_42 : decode cX2_overwrite 42 = .ok (.dup, 1) := by decide +kernel
theorem dX2_overwrite_43 : decode cX2_overwrite 43 = .ok (.getfield 61, 3) := by decide +kernel
theorem dX2_overwrite_46 : decode cX2_overwrite 46 = .ok (.iconst 1, 1) := by decide +kernel
theorem dX2_overwrite_47 : decode cX2_overwrite 47 = .ok (.iadd, 1) := by decide +kernel
theorem dX2_overwrite_48 : decode cX2_overwrite 48 = .ok (.putfield 61, 3) := by decide +kernel
theorem dX2_overwrite_51 : decode cX2_overwrite 51 = .ok (.aload_n 0, 1) := by decide +kernel
theorem dX2_overwrite_52 : decode cX2_overwrite 52 = .ok (.getfield 21, 3) := by decide +kernel
theorem dX2_overwrite_55 : decode cX2_overwrite 55 = .ok (.getfield 135, 3) := by decide +kernel
theorem dX2_overwrite_58 : decode cX2_overwrite 58 = .ok (.iload 5, 2) := by decide +kernel
theorem dX2_overwrite_60 : decode cX2_overwrite 60 = .ok (.lload_n 3, 1) := by decide +kernel
theorem dX2_overwrite_61 : decode cX2_overwrite 61 = .ok (.lastore, 1) := by decide +kernel
theorem dX2_overwrite_62 : decode cX2_overwrite 62 = .ok (.return_, 1) := by decide +kernel
theorem dX2_remove_0 : decode cX2_remove 0 = .ok (.aload_n 0, 1) := by decide +kernel
theorem dX2_remove_1 : decode cX2_remove 1 = .ok (.getfield 12, 3) := by decide +kernel
theorem dX2_remove_4 : decode cX2_remove 4 = .ok (.iload_n 1, 1) := by decide +kernel
theorem dX2_remove_5 : decode cX2_remove 5 = .ok (.invokevirtual 126, 3) := by decide +kernel
theorem dX2_remove_8 : decode cX2_remove 8 = .ok (.istore_n 2, 1) := by decide +kernel
theorem dX2_remove_9 : decode cX2_remove 9 = .ok (.aload_n 0, 1) := by decide +kernel
theorem dX2_remove_10 : decode cX2_remove 10 = .ok (.iload_n 2, 1) := by decide +kernel
theorem dX2_remove_11 : decode cX2_remove 11 = .ok (.invokevirtual 129, 3) := by decide +kernel
theorem dX2_remove_14 : decode cX2_remove 14 = .ok (.istore_n 3, 1) := by decide +kernel
theorem dX2_remove_15 : decode cX2_remove 15 = .ok (.aload_n 0, 1) := by decide +kernel
theorem dX2_remove_16 : decode cX2_remove 16 = .ok (.getfield 21, 3) := by decide +kernel
theorem dX2_remove_19 : decode cX2_remove 19 = .ok (.iload_n 3, 1) := by decide +kernel
theorem dX2_remove_20 : decode cX2_remove 20 = .ok (.iload_n 1, 1) := by decide +kernel
theorem dX2_remove_21 : decode cX2_remove 21 = .ok (.invokevirtual 132, 3) := by decide +kernel
theorem dX2_remove_24 : decode cX2_remove 24 = .ok (.istore 4, 2) := by decide +kernel
theorem dX2_remove_26 : decode cX2_remove 26 = .ok (.aload_n 0, 1) := by decide +kernel
theorem dX2_remove_27 : decode cX2_remove 27 = .ok (.dup, 1) := by decide +kernel
theorem dX2_remove_28 : decode cX2_remove 28 = .ok (.getfield 58, 3) := by decide +kernel
theorem dX2_remove_31 : decode cX2_remove 31 = .ok (.aload_n 0, 1) := by decide +kernel
theorem dX2_remove_32 : decode cX2_remove 32 = .ok (.getfield 21, 3) := by decide +kernel
theorem dX2_remove_35 : decode cX2_remove 35 = .ok (.getfield 145, 3) := by decide +kernel
theorem dX2_remove_38 : decode cX2_remove 38 = .ok (.iload_n 3, 1) := by decide +kernel
theorem dX2_remove_39 : decode cX2_remove 39 = .ok (.iaload, 1) := by decide +kernel
theorem dX2_remove_40 : decode cX2_remove 40 = .ok (.iadd, 1) := by decide +kernel
theorem dX2_remove_41 : decode cX2_remove 41 = .ok (.putfield 58, 3) := by decide +kernel
theorem dX2_remove_44 : decode cX2_remove 44 = .ok (.iload 4, 2) := by decide +kernel
theorem dX2_remove_46 : decode cX2_remove 46 = .ok (.iconst (-1), 1) := by decide +kernel
theorem dX2_remove_47 : decode cX2_remove 47 = .ok (.if_icmp .ne 6, 3) := by decide +kernel
theorem dX2_remove_50 : decode cX2_remove 50 = .ok (.bipush (-2), 2) := by decide +kernel
theorem dX2_remove_52 : decode cX2_remove 52 = .ok (.ireturn, 1) := by decide +kernel
