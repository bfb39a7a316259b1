theorem dX10_opens_18 : decode cX10_opens 18 = .ok (.ireturn, 1) := by decide +kernel
theorem dX10_opens_19 : decode cX10_opens 19 = .ok (.aload_n 0, 1) := by decide +kernel
theorem dX10_opens_20 : decode cX10_opens 20 = .ok (.aload_n 0, 1) := by decide +kernel
theorem dX10_opens_21 : decode cX10_opens 21 = .ok (.getfield 109, 3) := by decide +kernel
theorem dX10_opens_24 : decode cX10_opens 24 = .ok (.iconst 1, 1) := by decide +kernel
theorem dX10_opens_25 : decode cX10_opens 25 = .ok (.iadd, 1) := by decide +kernel
theorem dX10_opens_26 : decode cX10_opens 26 = .ok (.putfield 109, 3) := by decide +kernel
theorem dX10_opens_29 : decode cX10_opens 29 = .ok (.aload_n 0, 1) := by decide +kernel
theorem dX10_opens_30 : decode cX10_opens 30 = .ok (.aload_n 0, 1) := by decide +kernel
theorem dX10_opens_31 : decode cX10_opens 31 = .ok (.getfield 79, 3) := by decide +kernel
theorem dX10_opens_34 : decode cX10_opens 34 = .ok (.iconst 1, 1) := by decide +kernel
theorem dX10_opens_35 : decode cX10_opens 35 = .ok (.iadd, 1) := by decide +kernel
theorem dX10_opens_36 : decode cX10_opens 36 = .ok (.putfield 79, 3) := by decide +kernel
theorem dX10_opens_39 : decode cX10_opens 39 = .ok (.iconst 0, 1) := by decide +kernel
theorem dX10_opens_40 : decode cX10_opens 40 = .ok (.istore_n 2, 1) := by decide +kernel
theorem dX10_opens_41 : decode cX10_opens 41 = .ok (.iload_n 1, 1) := by decide +kernel
theorem dX10_opens_42 : decode cX10_opens 42 = .ok (.bipush 11, 2) := by decide +kernel
theorem dX10_opens_44 : decode cX10_opens 44 = .ok (.if_icmp .ne 55, 3) := by decide +kernel
theorem dX10_opens_47 : decode cX10_opens 47 = .ok (.aload_n 0, 1) := by decide +kernel
theorem dX10_opens_48 : decode cX10_opens 48 = .ok (.invokevirtual 88, 3) := by decide +kernel
theorem dX10_opens_51 : decode cX10_opens 51 = .ok (.invokestatic 92, 3) := by decide +kernel
theorem dX10_opens_54 : decode cX10_opens 54 = .ok (.ifCond .ne 13, 3) := by decide +kernel
theorem dX10_opens_57 : decode cX10_opens 57 = .ok (.aload_n 0, 1) := by decide +kernel
theorem dX10_opens_58 : decode cX10_opens 58 = .ok (.iconst 1, 1) := by decide +kernel
theorem dX10_opens_59 : decode cX10_opens 59 = .ok (.aload_n 0, 1) := by decide +kernel
theorem dX10_opens_60 : decode cX10_opens 60 = .ok (.getfield 79, 3) := by decide +kernel
theorem dX10_opens_63 : decode cX10_opens 63 = .ok (.invokevirtual 96, 3) := by decide +kernel
theorem dX10_opens_66 : decode cX10_opens 66 = .ok (.ireturn, 1) := by decide +kernel
theorem dX10_opens_67 : decode cX10_opens 67 = .ok (.aload_n 0, 1) := by decide +kernel
theorem dX10_opens_68 : decode cX10_opens 68 = .ok (.invokevirtual 88, 3) := by decide +kernel
theorem dX10_opens_71 : decode cX10_opens 71 = .ok (.bipush 48, 2) := by decide +kernel
theorem dX10_opens_73 : decode cX10_opens 73 = .ok (.isub, 1) := by decide +kernel
theorem dX10_opens_74 : decode cX10_opens 74 = .ok (.istore_n 2, 1) := by decide +kernel
theorem dX10_opens_75 : decode cX10_opens 75 = .ok (.iload_n 2, 1) := by decide +kernel
theorem dX10_opens_76 : decode cX10_opens 76 = .ok (.ifCond .ne 13, 3) := by decide +kernel
theorem dX10_opens_79 : decode cX10_opens 79 = .ok (.aload_n 0, 1) := by decide +kernel
theorem dX10_opens_80 : decode cX10_opens 80 = .ok (.iconst 3, 1) := by decide +kernel
theorem dX10_opens_81 : decode cX10_opens 81 = .ok (.aload_n 0, 1) := by decide +kernel
theorem dX10_opens_82 : decode cX10_opens 82 = .ok (.getfield 79, 3) := by decide +kernel
theorem dX10_opens_85 : decode cX10_opens 85 = .ok (.invokevirtual 96, 3) := by decide +kernel
theorem dX10_opens_88 : decode cX10_opens 88 = .ok (.ireturn, 1) := by decide +kernel
theorem dX10_opens_89 : decode cX10_opens 89 = .ok (.aload_n 0, 1) := by decide +kernel
theorem dX10_opens_90 : decode cX10_opens 90 = .ok (.aload_n 0, 1) := by decide +kernel
theorem dX10_opens_91 : decode cX10_opens 91 = .ok (.getfield 79, 3) := by decide +kernel
theorem dX10_opens_94 : decode cX10_opens 94 = .ok (.iconst 1, 1) := by decide +kernel
theorem dX10_opens_95 : decode cX10_opens 95 = .ok (.iadd, 1) := by decide +kernel
theorem dX10_opens_96 : decode cX10_opens 96 = .ok (.putfield 79, 3) := by decide +kernel
theorem dX10_opens_99 : decode cX10_opens 99 = .ok (.aload_n 0, 1) := by decide +kernel
theorem dX10_opens_100 : decode cX10_opens 100 = .ok (.iload_n 1, 1) := by decide +kernel
theorem dX10_opens_101 : decode cX10_opens 101 = .ok (.iload_n 2, 1) := by decide +kernel
theorem dX10_opens_102 : decode cX10_opens 102 = .ok (.invokevirtual 112, 3) := by decide +kernel
theorem dX10_opens_105 : decode cX10_opens 105 = .ok (.iconst 1, 1) := by decide +kernel
theorem dX10_opens_106 : decode cX10_opens 106 = .ok (.ireturn, 1) := by decide +kernel
theorem dX10_opener_0 : decode cX10_opener 0 = .ok (.iload_n 0, 1) := by decide +kernel
theorem dX10_opener_1 : decode cX10_opener 1 = .ok (.bipush 40, 2) := by decide +kernel
theorem dX10_opener_3 : decode cX10_opener 3 = .ok (.if_icmp .ne 8, 3) := by decide +kernel
theorem dX10_opener_6 : decode cX10_opener 6 = .ok (.bipush 13, 2) := by decide +kernel
theorem dX10_opener_8 : decode cX10_opener 8 = .ok (.goto 37, 3) := by decide +kernel
theorem dX10_opener_11 : decode cX10_opener 11 = .ok (.iload_n 0, 1) := by decide +kernel
theorem dX10_opener_12 : decode cX10_opener 12 = .ok (.bipush 126, 2) := by decide +kernel
theorem dX10_opener_14 : decode cX10_opener 14 = .ok (.if_icmp .ne 8, 3) := by decide +kernel
theorem dX10_opener_17 : decode cX10_opener 17 = .ok (.bipush 10, 2) := by decide +kernel
theorem dX10_opener_19 : decode cX10_opener 19 = .ok (.goto 26, 3) := by decide +kernel
theorem dX10_opener_22 : decode cX10_opener 22 = .ok (.iload_n 0, 1) := by decide +kernel
theorem dX10_opener_23 : decode cX10_opener 23 = .ok (.bipush 60, 2) := by decide +kernel
theorem dX10_opener_25 : decode cX10_opener 25 = .ok (.if_icmp .ne 8, 3) := by decide +kernel
theorem dX10_opener_28 : decode cX10_opener 28 = .ok (.bipush 11, 2) := by decide +kernel
theorem dX10_opener_30 : decode cX10_opener 30 = .ok (.goto 15, 3) := by decide +kernel
theorem dX10_opener_33 : decode cX10_opener 33 = .ok (.iload_n 0, 1) := by decide +kernel
theorem dX10_opener_34 : decode cX10_opener 34 = .ok (.bipush 114, 2) := by decide +kernel
theorem dX10_opener_36 : decode cX10_opener 36 = .ok (.if_icmp .ne 8, 3) := by decide +kernel
theorem dX10_opener_39 : decode cX10_opener 39 = .ok (.bipush 12, 2) := by decide +kernel
theorem dX10_opener_41 : decode cX10_opener 41 = .ok (.goto 4, 3) := by decide +kernel
theorem dX10_opener_44 : decode cX10_opener 44 = .ok (.iconst (-1), 1) := by decide +kernel
theorem dX10_opener_45 : decode cX10_opener 45 = .ok (.ireturn, 1) := by decide +kernel
theorem dX10_settles_0 : decode cX10_settles 0 = .ok (.aload_n 0, 1) := by decide +kernel
theorem dX10_settles_1 : decode cX10_settles 1 = .ok (.invokevirtual 116, 3) := by decide +kernel
theorem dX10_settles_4 : decode cX10_settles 4 = .ok (.bipush 10, 2) := by decide +kernel
theorem dX10_settles_6 : decode cX10_settles 6 = .ok (.bipush 12, 2) := by decide +kernel
theorem dX10_settles_8 : decode cX10_settles 8 = .ok (.invokestatic 67, 3) := by decide +kernel
theorem dX10_settles_11 : decode cX10_settles 11 = .ok (.ifCond .eq 48, 3) := by decide +kernel
theorem dX10_settles_14 : decode cX10_settles 14 = .ok (.aload_n 0, 1) := by decide +kernel
theorem dX10_settles_15 : decode cX10_settles 15 = .ok (.aload_n 0, 1) := by decide +kernel
theorem dX10_settles_16 : decode cX10_settles 16 = .ok (.invokevirtual 116, 3) := by decide +kernel
theorem dX10_settles_19 : decode cX10_settles 19 = .ok (.aload_n 0, 1) := by decide +kernel
theorem dX10_settles_20 : decode cX10_settles 20 = .ok (.getfield 20, 3) := by decide +kernel
theorem dX10_settles_23 : decode cX10_settles 23 = .ok (.aload_n 0, 1) := by decide +kernel
theorem dX10_settles_24 : decode cX10_settles 24 = .ok (.getfield 106, 3) := by decide +kernel
theorem dX10_settles_27 : decode cX10_settles 27 = .ok (.iconst 1, 1) := by decide +kernel
theorem dX10_settles_28 : decode cX10_settles 28 = .ok (.isub, 1) := by decide +kernel
theorem dX10_settles_29 : decode cX10_settles 29 = .ok (.iaload, 1) := by decide +kernel
theorem dX10_settles_30 : decode cX10_settles 30 = .ok (.ldc 62, 2) := by decide +kernel
theorem dX10_settles_32 : decode cX10_settles 32 = .ok (.irem, 1) := by decide +kernel
theorem dX10_settles_33 : decode cX10_settles 33 = .ok (.invokevirtual 119, 3) := by decide +kernel
theorem dX10_settles_36 : decode cX10_settles 36 = .ok (.aload_n 0, 1) := by decide +kernel
theorem dX10_settles_37 : decode cX10_settles 37 = .ok (.aload_n 0, 1) := by decide +kernel
theorem dX10_settles_38 : decode cX10_settles 38 = .ok (.getfield 106, 3) := by decide +kernel
theorem dX10_settles_41 : decode cX10_settles 41 = .ok (.iconst 1, 1) := by decide +kernel
theorem dX10_settles_42 : decode cX10_settles 42 = .ok (.isub, 1) := by decide +kernel
theorem dX10_settles_43 : decode cX10_settles 43 = .ok (.putfield 106, 3) := by decide +kernel
theorem dX10_settles_46 : decode cX10_settles 46 = .ok (.aload_n 0, 1) := by decide +kernel
theorem dX10_settles_47 : decode cX10_settles 47 = .ok (.aload_n 0, 1) := by decide +kernel
theorem dX10_settles_48 : decode cX10_settles 48 = .ok (.getfield 109, 3) := by decide +kernel
theorem dX10_settles_51 : decode cX10_settles 51 = .ok (.iconst 1, 1) := by decide +kernel
theorem dX10_settles_52 : decode cX10_settles 52 = .ok (.isub, 1) := by decide +kernel
theorem dX10_settles_53 : decode cX10_settles 53 = .ok (.putfield 109, 3) := by decide +kernel
theorem dX10_settles_56 : decode cX10_settles 56 = .ok (.goto (-56), 3) := by decide +kernel
theorem dX10_settles_59 : decode cX10_settles 59 = .ok (.aload_n 0, 1) := by decide +kernel
theorem dX10_settles_60 : decode cX10_settles 60 = .ok (.invokevirtual 116, 3) := by decide +kernel
theorem dX10_settles_63 : decode cX10_settles 63 = .ok (.iconst 2, 1) := by decide +kernel
theorem dX10_settles_64 : decode cX10_settles 64 = .ok (.bipush 9, 2) := by decide +kernel
theorem dX10_settles_66 : decode cX10_settles 66 = .ok (.invokestatic 67, 3) := by decide +kernel
theorem dX10_settles_69 : decode cX10_settles 69 = .ok (.ifCond .eq 22, 3) := by decide +kernel
theorem dX10_settles_72 : decode cX10_settles 72 = .ok (.aload_n 0, 1) := by decide +kernel
theorem dX10_settles_73 : decode cX10_settles 73 = .ok (.aload_n 0, 1) := by decide +kernel
theorem dX10_settles_74 : decode cX10_settles 74 = .ok (.invokevirtual 116, 3) := by decide +kernel
theorem dX10_settles_77 : decode cX10_settles 77 = .ok (.iconst 0, 1) := by decide +kernel
theorem dX10_settles_78 : decode cX10_settles 78 = .ok (.invokevirtual 119, 3) := by decide +kernel
theorem dX10_settles_81 : decode cX10_settles 81 = .ok (.aload_n 0, 1) := by decide +kernel
theorem dX10_settles_82 : decode cX10_settles 82 = .ok (.aload_n 0, 1) := by decide +kernel
theorem dX10_settles_83 : decode cX10_settles 83 = .ok (.getfield 106, 3) := by decide +kernel
theorem dX10_settles_86 : decode cX10_settles 86 = .ok (.iconst 1, 1) := by decide +kernel
theorem dX10_settles_87 : decode cX10_settles 87 = .ok (.isub, 1) := by decide +kernel
theorem dX10_settles_88 : decode cX10_settles 88 = .ok (.putfield 106, 3) := by decide +kernel
theorem dX10_settles_91 : decode cX10_settles 91 = .ok (.return_, 1) := by decide +kernel
theorem dX10_readsPart_0 : decode cX10_readsPart 0 = .ok (.aload_n 0, 1) := by decide +kernel
theorem dX10_readsPart_1 : decode cX10_readsPart 1 = .ok (.invokevirtual 88, 3) := by decide +kernel
theorem dX10_readsPart_4 : decode cX10_readsPart 4 = .ok (.invokestatic 122, 3) := by decide +kernel
theorem dX10_readsPart_7 : decode cX10_readsPart 7 = .ok (.iconst (-1), 1) := by decide +kernel
theorem dX10_readsPart_8 : decode cX10_readsPart 8 = .ok (.if_icmp .eq 19, 3) := by decide +kernel
theorem dX10_readsPart_11 : decode cX10_readsPart 11 = .ok (.aload_n 0, 1) := by decide +kernel
theorem dX10_readsPart_12 : decode cX10_readsPart 12 = .ok (.aload_n 0, 1) := by decide +kernel
theorem dX10_readsPart_13 : decode cX10_readsPart 13 = .ok (.invokevirtual 88, 3) := by decide +kernel
theorem dX10_readsPart_16 : decode cX10_readsPart 16 = .ok (.invokestatic 122, 3) := by decide +kernel
theorem dX10_readsPart_19 : decode cX10_readsPart 19 = .ok (.invokevirtual 126, 3) := by decide +kernel
theorem dX10_readsPart_22 : decode cX10_readsPart 22 = .ok (.ifCond .ne (-22), 3) := by decide +kernel
theorem dX10_readsPart_25 : decode cX10_readsPart 25 = .ok (.iconst 0, 1) := by decide +kernel
theorem dX10_readsPart_26 : decode cX10_readsPart 26 = .ok (.ireturn, 1) := by decide +kernel
theorem dX10_readsPart_27 : decode cX10_readsPart 27 = .ok (.aload_n 0, 1) := by decide +kernel
theorem dX10_readsPart_28 : decode cX10_readsPart 28 = .ok (.invokevirtual 88, 3) := by decide +kernel
theorem dX10_readsPart_31 : decode cX10_readsPart 31 = .ok (.bipush 107, 2) := by decide +kernel
theorem dX10_readsPart_33 : decode cX10_readsPart 33 = .ok (.if_icmp .ne 22, 3) := by decide +kernel
theorem dX10_readsPart_36 : decode cX10_readsPart 36 = .ok (.aload_n 0, 1) := by decide +kernel
theorem dX10_readsPart_37 : decode cX10_readsPart 37 = .ok (.iconst 1, 1) := by decide +kernel
theorem dX10_readsPart_38 : decode cX10_readsPart 38 = .ok (.iconst 0, 1) := by decide +kernel
theorem dX10_readsPart_39 : decode cX10_readsPart 39 = .ok (.invokevirtual 119, 3) := by decide +kernel
theorem dX10_readsPart_42 : decode cX10_readsPart 42 = .ok (.aload_n 0, 1) := by decide +kernel
theorem dX10_readsPart_43 : decode cX10_readsPart 43 = .ok (.aload_n 0, 1) := by decide +kernel
theorem dX10_readsPart_44 : decode cX10_readsPart 44 = .ok (.getfield 79, 3) := by decide +kernel
theorem dX10_readsPart_47 : decode cX10_readsPart 47 = .ok (.iconst 1, 1) := by decide +kernel
theorem dX10_readsPart_48 : decode cX10_readsPart 48 = .ok (.iadd, 1) := by decide +kernel
theorem dX10_readsPart_49 : decode cX10_readsPart 49 = .ok (.putfield 79, 3) := by decide +kernel
theorem dX10_readsPart_52 : decode cX10_readsPart 52 = .ok (.goto 24, 3) := by decide +kernel
theorem dX10_readsPart_55 : decode cX10_readsPart 55 = .ok (.aload_n 0, 1) := by decide +kernel
theorem dX10_readsPart_56 : decode cX10_readsPart 56 = .ok (.iconst 0, 1) := by decide +kernel
theorem dX10_readsPart_57 : decode cX10_readsPart 57 = .ok (.ldc 129, 2) := by decide +kernel
theorem dX10_readsPart_59 : decode cX10_readsPart 59 = .ok (.invokevirtual 130, 3) := by decide +kernel
theorem dX10_readsPart_62 : decode cX10_readsPart 62 = .ok (.ifCond .ne 5, 3) := by decide +kernel
theorem dX10_readsPart_65 : decode cX10_readsPart 65 = .ok (.iconst 0, 1) := by decide +kernel
theorem dX10_readsPart_66 : decode cX10_readsPart 66 = .ok (.ireturn, 1) := by decide +kernel
theorem dX10_readsPart_67 : decode cX10_readsPart 67 = .ok (.aload_n 0, 1) := by decide +kernel
theorem dX10_readsPart_68 : decode cX10_readsPart 68 = .ok (.iconst 0, 1) := by decide +kernel
theorem dX10_readsPart_69 : decode cX10_readsPart 69 = .ok (.aload_n 0, 1) := by decide +kernel
theorem dX10_readsPart_70 : decode cX10_readsPart 70 = .ok (.getfield 100, 3) := by decide +kernel
theorem dX10_readsPart_73 : decode cX10_readsPart 73 = .ok (.invokevirtual 119, 3) := by decide +kernel
theorem dX10_readsPart_76 : decode cX10_readsPart 76 = .ok (.aload_n 0, 1) := by decide +kernel
theorem dX10_readsPart_77 : decode cX10_readsPart 77 = .ok (.invokevirtual 133, 3) := by decide +kernel
theorem dX10_readsPart_80 : decode cX10_readsPart 80 = .ok (.iconst 1, 1) := by decide +kernel
theorem dX10_readsPart_81 : decode cX10_readsPart 81 = .ok (.ireturn, 1) := by decide +kernel
theorem dX10_signOf_0 : decode cX10_signOf 0 = .ok (.iload_n 0, 1) := by decide +kernel
theorem dX10_signOf_1 : decode cX10_signOf 1 = .ok (.lookupswitch 95 #[(37, 83), (38, 89), (42, 79), (43, 75), (45, 77), (47, 81), (94, 86), (124, 92)], 75) := by decide +kernel
theorem dX10_signOf_76 : decode cX10_signOf 76 = .ok (.iconst 2, 1) := by decide +kernel
theorem dX10_signOf_77 : decode cX10_signOf 77 = .ok (.ireturn, 1) := by decide +kernel
theorem dX10_signOf_78 : decode cX10_signOf 78 = .ok (.iconst 3, 1) := by decide +kernel
theorem dX10_signOf_79 : decode cX10_signOf 79 = .ok (.ireturn, 1) := by decide +kernel
theorem dX10_signOf_80 : decode cX10_signOf 80 = .ok (.iconst 4, 1) := by decide +kernel
theorem dX10_signOf_81 : decode cX10_signOf 81 = .ok (.ireturn, 1) := by decide +kernel
theorem dX10_signOf_82 : decode cX10_signOf 82 = .ok (.iconst 5, 1) := by decide +kernel
theorem dX10_signOf_83 : decode cX10_signOf 83 = .ok (.ireturn, 1) := by decide +kernel
theorem dX10_signOf_84 : decode cX10_signOf 84 = .ok (.bipush 6, 2) := by decide +kernel
theorem dX10_signOf_86 : decode cX10_signOf 86 = .ok (.ireturn, 1) := by decide +kernel
theorem dX10_signOf_87 : decode cX10_signOf 87 = .ok (.bipush 7, 2) := by decide +kernel
theorem dX10_signOf_89 : decode cX10_signOf 89 = .ok (.ireturn, 1) := by decide +kernel
theorem dX10_signOf_90 : decode cX10_signOf 90 = .ok (.bipush 8, 2) := by decide +kernel
theorem dX10_signOf_92 : decode cX10_signOf 92 = .ok (.ireturn, 1) := by decide +kernel
theorem dX10_signOf_93 : decode cX10_signOf 93 = .ok (.bipush 9, 2) := by decide +kernel
theorem dX10_signOf_95 : decode cX10_signOf 95 = .ok (.ireturn, 1) := by decide +kernel
theorem dX10_signOf_96 : decode cX10_signOf 96 = .ok (.iconst (-1), 1) := by decide +kernel
theorem dX10_signOf_97 : decode cX10_signOf 97 = .ok (.ireturn, 1) := by decide +kernel
theorem dX10_closes_0 : decode cX10_closes 0 = .ok (.aload_n 0, 1) := by decide +kernel
theorem dX10_closes_1 : decode cX10_closes 1 = .ok (.invokevirtual 116, 3) := by decide +kernel
theorem dX10_closes_4 : decode cX10_closes 4 = .ok (.bipush 13, 2) := by decide +kernel
theorem dX10_closes_6 : decode cX10_closes 6 = .ok (.if_icmp .eq 13, 3) := by decide +kernel
theorem dX10_closes_9 : decode cX10_closes 9 = .ok (.aload_n 0, 1) := by decide +kernel
theorem dX10_closes_10 : decode cX10_closes 10 = .ok (.iconst 1, 1) := by decide +kernel
theorem dX10_closes_11 : decode cX10_closes 11 = .ok (.aload_n 0, 1) := by decide +kernel
theorem dX10_closes_12 : decode cX10_closes 12 = .ok (.getfield 79, 3) := by decide +kernel
theorem dX10_closes_15 : decode cX10_closes 15 = .ok (.invokevirtual 96, 3) := by decide +kernel
theorem dX10_closes_18 : decode cX10_closes 18 = .ok (.ireturn, 1) := by decide +kernel
theorem dX10_closes_19 : decode cX10_closes 19 = .ok (.aload_n 0, 1) := by decide +kernel
theorem dX10_closes_20 : decode cX10_closes 20 = .ok (.aload_n 0, 1) := by decide +kernel
theorem dX10_closes_21 : decode cX10_closes 21 = .ok (.getfield 106, 3) := by decide +kernel
theorem dX10_closes_24 : decode cX10_closes 24 = .ok (.iconst 1, 1) := by decide +kernel
theorem dX10_closes_25 : decode cX10_closes 25 = .ok (.isub, 1) := by decide +kernel
theorem dX10_closes_26 : decode cX10_closes 26 = .ok (.putfield 106, 3) := by decide +kernel
theorem dX10_closes_29 : decode cX10_closes 29 = .ok (.aload_n 0, 1) := by decide +kernel
theorem dX10_closes_30 : decode cX10_closes 30 = .ok (.aload_n 0, 1) := by decide +kernel
theorem dX10_closes_31 : decode cX10_closes 31 = .ok (.getfield 109, 3) := by decide +kernel
theorem dX10_closes_34 : decode cX10_closes 34 = .ok (.iconst 1, 1) := by decide +kernel
theorem dX10_closes_35 : decode cX10_closes 35 = .ok (.isub, 1) := by decide +kernel
theorem dX10_closes_36 : decode cX10_closes 36 = .ok (.putfield 109, 3) := by decide +kernel
theorem dX10_closes_39 : decode cX10_closes 39 = .ok (.aload_n 0, 1) := by decide +kernel
theorem dX10_closes_40 : decode cX10_closes 40 = .ok (.aload_n 0, 1) := by decide +kernel
theorem dX10_closes_41 : decode cX10_closes 41 = .ok (.getfield 79, 3) := by decide +kernel
theorem dX10_closes_44 : decode cX10_closes 44 = .ok (.iconst 1, 1) := by decide +kernel
theorem dX10_closes_45 : decode cX10_closes 45 = .ok (.iadd, 1) := by decide +kernel
theorem dX10_closes_46 : decode cX10_closes 46 = .ok (.putfield 79, 3) := by decide +kernel
theorem dX10_closes_49 : decode cX10_closes 49 = .ok (.aload_n 0, 1) := by decide +kernel
theorem dX10_closes_50 : decode cX10_closes 50 = .ok (.invokevirtual 133, 3) := by decide +kernel
theorem dX10_closes_53 : decode cX10_closes 53 = .ok (.iconst 1, 1) := by decide +kernel
theorem dX10_closes_54 : decode cX10_closes 54 = .ok (.ireturn, 1) := by decide +kernel
theorem dX10_readsLaw_0 : decode cX10_readsLaw 0 = .ok (.aload_n 0, 1) := by decide +kernel
theorem dX10_readsLaw_1 : decode cX10_readsLaw 1 = .ok (.iconst 0, 1) := by decide +kernel
theorem dX10_readsLaw_2 : decode cX10_readsLaw 2 = .ok (.putfield 103, 3) := by decide +kernel
theorem dX10_readsLaw_5 : decode cX10_readsLaw 5 = .ok (.aload_n 0, 1) := by decide +kernel
theorem dX10_readsLaw_6 : decode cX10_readsLaw 6 = .ok (.iconst 0, 1) := by decide +kernel
theorem dX10_readsLaw_7 : decode cX10_readsLaw 7 = .ok (.putfield 106, 3) := by decide +kernel
theorem dX10_readsLaw_10 : decode cX10_readsLaw 10 = .ok (.aload_n 0, 1) := by decide +kernel
theorem dX10_readsLaw_11 : decode cX10_readsLaw 11 = .ok (.iconst 0, 1) := by decide +kernel
theorem dX10_readsLaw_12 : decode cX10_readsLaw 12 = .ok (.putfield 109, 3) := by decide +kernel
theorem dX10_readsLaw_15 : decode cX10_readsLaw 15 = .ok (.aload_n 0, 1) := by decide +kernel
theorem dX10_readsLaw_16 : decode cX10_readsLaw 16 = .ok (.invokevirtual 136, 3) := by decide +kernel
theorem dX10_readsLaw_19 : decode cX10_readsLaw 19 = .ok (.ifCond .ne 5, 3) := by decide +kernel
theorem dX10_readsLaw_22 : decode cX10_readsLaw 22 = .ok (.iconst 0, 1) := by decide +kernel
theorem dX10_readsLaw_23 : decode cX10_readsLaw 23 = .ok (.ireturn, 1) := by decide +kernel
theorem dX10_readsLaw_24 : decode cX10_readsLaw 24 = .ok (.aload_n 0, 1) := by decide +kernel
theorem dX10_readsLaw_25 : decode cX10_readsLaw 25 = .ok (.invokevirtual 88, 3) := by decide +kernel
theorem dX10_readsLaw_28 : decode cX10_readsLaw 28 = .ok (.iconst (-1), 1) := by decide +kernel
theorem dX10_readsLaw_29 : decode cX10_readsLaw 29 = .ok (.if_icmp .eq 72, 3) := by decide +kernel
theorem dX10_readsLaw_32 : decode cX10_readsLaw 32 = .ok (.aload_n 0, 1) := by decide +kernel
theorem dX10_readsLaw_33 : decode cX10_readsLaw 33 = .ok (.invokevirtual 88, 3) := by decide +kernel
theorem dX10_readsLaw_36 : decode cX10_readsLaw 36 = .ok (.invokestatic 140, 3) := by decide +kernel
theorem dX10_readsLaw_39 : decode cX10_readsLaw 39 = .ok (.istore_n 1, 1) := by decide +kernel
theorem dX10_readsLaw_40 : decode cX10_readsLaw 40 = .ok (.aload_n 0, 1) := by decide +kernel
theorem dX10_readsLaw_41 : decode cX10_readsLaw 41 = .ok (.invokevirtual 88, 3) := by decide +kernel
theorem dX10_readsLaw_44 : decode cX10_readsLaw 44 = .ok (.bipush 41, 2) := by decide +kernel
theorem dX10_readsLaw_46 : decode cX10_readsLaw 46 = .ok (.if_icmp .ne 12, 3) := by decide +kernel
theorem dX10_readsLaw_49 : decode cX10_readsLaw 49 = .ok (.aload_n 0, 1) := by decide +kernel
theorem dX10_readsLaw_50 : decode cX10_readsLaw 50 = .ok (.invokevirtual 143, 3) := by decide +kernel
theorem dX10_readsLaw_53 : decode cX10_readsLaw 53 = .ok (.ifCond .ne (-29), 3) := by decide +kernel
theorem dX10_readsLaw_56 : decode cX10_readsLaw 56 = .ok (.iconst 0, 1) := by decide +kernel
theorem dX10_readsLaw_57 : decode cX10_readsLaw 57 = .ok (.ireturn, 1) := by decide +kernel
theorem dX10_readsLaw_58 : decode cX10_readsLaw 58 = .ok (.iload_n 1, 1) := by decide +kernel
theorem dX10_readsLaw_59 : decode cX10_readsLaw 59 = .ok (.iconst (-1), 1) := by decide +kernel
theorem dX10_readsLaw_60 : decode cX10_readsLaw 60 = .ok (.if_icmp .ne 13, 3) := by decide +kernel
theorem dX10_readsLaw_63 : decode cX10_readsLaw 63 = .ok (.aload_n 0, 1) := by decide +kernel
theorem dX10_readsLaw_64 : decode cX10_readsLaw 64 = .ok (.iconst 1, 1) := by decide +kernel
theorem dX10_readsLaw_65 : decode cX10_readsLaw 65 = .ok (.aload_n 0, 1) := by decide +kernel
theorem dX10_readsLaw_66 : decode cX10_readsLaw 66 = .ok (.getfield 79, 3) := by decide +kernel
theorem dX10_readsLaw_69 : decode cX10_readsLaw 69 = .ok (.invokevirtual 96, 3) := by decide +kernel
theorem dX10_readsLaw_72 : decode cX10_readsLaw 72 = .ok (.ireturn, 1) := by decide +kernel
theorem dX10_readsLaw_73 : decode cX10_readsLaw 73 = .ok (.aload_n 0, 1) := by decide +kernel
theorem dX10_readsLaw_74 : decode cX10_readsLaw 74 = .ok (.iload_n 1, 1) := by decide +kernel
theorem dX10_readsLaw_75 : decode cX10_readsLaw 75 = .ok (.iconst 0, 1) := by decide +kernel
theorem dX10_readsLaw_76 : decode cX10_readsLaw 76 = .ok (.invokevirtual 112, 3) := by decide +kernel
theorem dX10_readsLaw_79 : decode cX10_readsLaw 79 = .ok (.aload_n 0, 1) := by decide +kernel
theorem dX10_readsLaw_80 : decode cX10_readsLaw 80 = .ok (.aload_n 0, 1) := by decide +kernel
theorem dX10_readsLaw_81 : decode cX10_readsLaw 81 = .ok (.getfield 79, 3) := by decide +kernel
theorem dX10_readsLaw_84 : decode cX10_readsLaw 84 = .ok (.iconst 1, 1) := by decide +kernel
theorem dX10_readsLaw_85 : decode cX10_readsLaw 85 = .ok (.iadd, 1) := by decide +kernel
theorem dX10_readsLaw_86 : decode cX10_readsLaw 86 = .ok (.putfield 79, 3) := by decide +kernel
theorem dX10_readsLaw_89 : decode cX10_readsLaw 89 = .ok (.aload_n 0, 1) := by decide +kernel
theorem dX10_readsLaw_90 : decode cX10_readsLaw 90 = .ok (.invokevirtual 136, 3) := by decide +kernel
theorem dX10_readsLaw_93 : decode cX10_readsLaw 93 = .ok (.ifCond .ne 5, 3) := by decide +kernel
theorem dX10_readsLaw_96 : decode cX10_readsLaw 96 = .ok (.iconst 0, 1) := by decide +kernel
theorem dX10_readsLaw_97 : decode cX10_readsLaw 97 = .ok (.ireturn, 1) := by decide +kernel
theorem dX10_readsLaw_98 : decode cX10_readsLaw 98 = .ok (.goto (-74), 3) := by decide +kernel
theorem dX10_readsLaw_101 : decode cX10_readsLaw 101 = .ok (.aload_n 0, 1) := by decide +kernel
theorem dX10_readsLaw_102 : decode cX10_readsLaw 102 = .ok (.getfield 109, 3) := by decide +kernel
theorem dX10_readsLaw_105 : decode cX10_readsLaw 105 = .ok (.ifCond .eq 15, 3) := by decide +kernel
theorem dX10_readsLaw_108 : decode cX10_readsLaw 108 = .ok (.aload_n 0, 1) := by decide +kernel
theorem dX10_readsLaw_109 : decode cX10_readsLaw 109 = .ok (.iconst 1, 1) := by decide +kernel
theorem dX10_readsLaw_110 : decode cX10_readsLaw 110 = .ok (.aload_n 0, 1) := by decide +kernel
theorem dX10_readsLaw_111 : decode cX10_readsLaw 111 = .ok (.getfield 79, 3) := by decide +kernel
theorem dX10_readsLaw_114 : decode cX10_readsLaw 114 = .ok (.invokevirtual 96, 3) := by decide +kernel
theorem dX10_readsLaw_117 : decode cX10_readsLaw 117 = .ok (.ifCond .eq 7, 3) := by decide +kernel
theorem dX10_readsLaw_120 : decode cX10_readsLaw 120 = .ok (.iconst 1, 1) := by decide +kernel
theorem dX10_readsLaw_121 : decode cX10_readsLaw 121 = .ok (.goto 4, 3) := by decide +kernel
theorem dX10_readsLaw_124 : decode cX10_readsLaw 124 = .ok (.iconst 0, 1) := by decide +kernel
theorem dX10_readsLaw_125 : decode cX10_readsLaw 125 = .ok (.ireturn, 1) := by decide +kernel
theorem dX10_law_0 : decode cX10_law 0 = .ok (.iload_n 1, 1) := by decide +kernel
theorem dX10_law_1 : decode cX10_law 1 = .ok (.iconst 1, 1) := by decide +kernel
theorem dX10_law_2 : decode cX10_law 2 = .ok (.bipush 60, 2) := by decide +kernel
theorem dX10_law_4 : decode cX10_law 4 = .ok (.invokestatic 67, 3) := by decide +kernel
theorem dX10_law_7 : decode cX10_law 7 = .ok (.ifCond .eq 11, 3) := by decide +kernel
theorem dX10_law_10 : decode cX10_law 10 = .ok (.iload_n 1, 1) := by decide +kernel
theorem dX10_law_11 : decode cX10_law 11 = .ok (.aload_n 0, 1) := by decide +kernel
theorem dX10_law_12 : decode cX10_law 12 = .ok (.getfield 71, 3) := by decide +kernel
theorem dX10_law_15 : decode cX10_law 15 = .ok (.if_icmp .le 5, 3) := by decide +kernel
theorem dX10_law_18 : decode cX10_law 18 = .ok (.iconst (-1), 1) := by decide +kernel
theorem dX10_law_19 : decode cX10_law 19 = .ok (.ireturn, 1) := by decide +kernel
theorem dX10_law_20 : decode cX10_law 20 = .ok (.aload_n 0, 1) := by decide +kernel
theorem dX10_law_21 : decode cX10_law 21 = .ok (.getfield 7, 3) := by decide +kernel
theorem dX10_law_24 : decode cX10_law 24 = .ok (.bipush 7, 2) := by decide +kernel
theorem dX10_law_26 : decode cX10_law 26 = .ok (.iaload, 1) := by decide +kernel
theorem dX10_law_27 : decode cX10_law 27 = .ok (.ifCond .le 11, 3) := by decide +kernel
theorem dX10_law_30 : decode cX10_law 30 = .ok (.aload_n 0, 1) := by decide +kernel
theorem dX10_law_31 : decode cX10_law 31 = .ok (.iconst 0, 1) := by decide +kernel
theorem dX10_law_32 : decode cX10_law 32 = .ok (.putfield 71, 3) := by decide +kernel
theorem dX10_law_35 : decode cX10_law 35 = .ok (.bipush (-3), 2) := by decide +kernel
theorem dX10_law_37 : decode cX10_law 37 = .ok (.ireturn, 1) := by decide +kernel
theorem dX10_law_38 : decode cX10_law 38 = .ok (.aload_n 0, 1) := by decide +kernel
theorem dX10_law_39 : decode cX10_law 39 = .ok (.iconst 0, 1) := by decide +kernel
theorem dX10_law_40 : decode cX10_law 40 = .ok (.putfield 79, 3) := by decide +kernel
theorem dX10_law_43 : decode cX10_law 43 = .ok (.aload_n 0, 1) := by decide +kernel
theorem dX10_law_44 : decode cX10_law 44 = .ok (.iload_n 1, 1) := by decide +kernel
theorem dX10_law_45 : decode cX10_law 45 = .ok (.putfield 82, 3) := by decide +kernel
theorem dX10_law_48 : decode cX10_law 48 = .ok (.aload_n 0, 1) := by decide +kernel
theorem dX10_law_49 : decode cX10_law 49 = .ok (.invokevirtual 146, 3) := by decide +kernel
theorem dX10_law_52 : decode cX10_law 52 = .ok (.istore_n 2, 1) := by decide +kernel
theorem dX10_law_53 : decode cX10_law 53 = .ok (.aload_n 0, 1) := by decide +kernel
theorem dX10_law_54 : decode cX10_law 54 = .ok (.iconst 0, 1) := by decide +kernel
theorem dX10_law_55 : decode cX10_law 55 = .ok (.putfield 71, 3) := by decide +kernel
theorem dX10_law_58 : decode cX10_law 58 = .ok (.iload_n 2, 1) := by decide +kernel
theorem dX10_law_59 : decode cX10_law 59 = .ok (.ifCond .ne 8, 3) := by decide +kernel
theorem dX10_law_62 : decode cX10_law 62 = .ok (.aload_n 0, 1) := by decide +kernel
theorem dX10_law_63 : decode cX10_law 63 = .ok (.getfield 85, 3) := by decide +kernel
theorem dX10_law_66 : decode cX10_law 66 = .ok (.ireturn, 1) := by decide +kernel
theorem dX10_law_67 : decode cX10_law 67 = .ok (.aload_n 0, 1) := by decide +kernel
theorem dX10_law_68 : decode cX10_law 68 = .ok (.getfield 7, 3) := by decide +kernel
theorem dX10_law_71 : decode cX10_law 71 = .ok (.bipush 23, 2) := by decide +kernel
theorem dX10_law_73 : decode cX10_law 73 = .ok (.aload_n 0, 1) := by decide +kernel
theorem dX10_law_74 : decode cX10_law 74 = .ok (.getfield 103, 3) := by decide +kernel
theorem dX10_law_77 : decode cX10_law 77 = .ok (.iastore, 1) := by decide +kernel
theorem dX10_law_78 : decode cX10_law 78 = .ok (.iconst 0, 1) := by decide +kernel
theorem dX10_law_79 : decode cX10_law 79 = .ok (.istore_n 3, 1) := by decide +kernel
theorem dX10_law_80 : decode cX10_law 80 = .ok (.iload_n 3, 1) := by decide +kernel
theorem dX10_law_81 : decode cX10_law 81 = .ok (.aload_n 0, 1) := by decide +kernel
theorem dX10_law_82 : decode cX10_law 82 = .ok (.getfield 103, 3) := by decide +kernel
theorem dX10_law_85 : decode cX10_law 85 = .ok (.if_icmp .ge 25, 3) := by decide +kernel
theorem dX10_law_88 : decode cX10_law 88 = .ok (.aload_n 0, 1) := by decide +kernel
theorem dX10_law_89 : decode cX10_law 89 = .ok (.getfield 7, 3) := by decide +kernel
theorem dX10_law_92 : decode cX10_law 92 = .ok (.sipush 1752, 3) := by decide +kernel
theorem dX10_law_95 : decode cX10_law 95 = .ok (.iload_n 3, 1) := by decide +kernel
theorem dX10_law_96 : decode cX10_law 96 = .ok (.iadd, 1) := by decide +kernel
theorem dX10_law_97 : decode cX10_law 97 = .ok (.aload_n 0, 1) := by decide +kernel
theorem dX10_law_98 : decode cX10_law 98 = .ok (.getfield 17, 3) := by decide +kernel
theorem dX10_law_101 : decode cX10_law 101 = .ok (.iload_n 3, 1) := by decide +kernel
theorem dX10_law_102 : decode cX10_law 102 = .ok (.iaload, 1) := by decide +kernel
theorem dX10_law_103 : decode cX10_law 103 = .ok (.iastore, 1) := by decide +kernel
theorem dX10_law_104 : decode cX10_law 104 = .ok (.iinc 3 1, 3) := by decide +kernel
theorem dX10_law_107 : decode cX10_law 107 = .ok (.goto (-27), 3) := by decide +kernel
theorem dX10_law_110 : decode cX10_law 110 = .ok (.aload_n 0, 1) := by decide +kernel
theorem dX10_law_111 : decode cX10_law 111 = .ok (.getfield 7, 3) := by decide +kernel
theorem dX10_law_114 : decode cX10_law 114 = .ok (.bipush 7, 2) := by decide +kernel
theorem dX10_law_116 : decode cX10_law 116 = .ok (.iaload, 1) := by decide +kernel
theorem dX10_law_117 : decode cX10_law 117 = .ok (.ireturn, 1) := by decide +kernel
theorem dX10_reversed_0 : decode cX10_reversed 0 = .ok (.iconst 0, 1) := by decide +kernel
theorem dX10_reversed_1 : decode cX10_reversed 1 = .ok (.istore_n 1, 1) := by decide +kernel
theorem dX10_reversed_2 : decode cX10_reversed 2 = .ok (.iconst 0, 1) := by decide +kernel
theorem dX10_reversed_3 : decode cX10_reversed 3 = .ok (.istore_n 2, 1) := by decide +kernel
theorem dX10_reversed_4 : decode cX10_reversed 4 = .ok (.iload_n 2, 1) := by decide +kernel
theorem dX10_reversed_5 : decode cX10_reversed 5 = .ok (.bipush 16, 2) := by decide +kernel
theorem dX10_reversed_7 : decode cX10_reversed 7 = .ok (.if_icmp .ge 19, 3) := by decide +kernel
theorem dX10_reversed_10 : decode cX10_reversed 10 = .ok (.iconst 2, 1) := by decide +kernel
theorem dX10_reversed_11 : decode cX10_reversed 11 = .ok (.iload_n 1, 1) := by decide +kernel
theorem dX10_reversed_12 : decode cX10_reversed 12 = .ok (.imul, 1) := by decide +kernel
theorem dX10_reversed_13 : decode cX10_reversed 13 = .ok (.iload_n 0, 1) := by decide +kernel
theorem dX10_reversed_14 : decode cX10_reversed 14 = .ok (.iload_n 2, 1) := by decide +kernel
theorem dX10_reversed_15 : decode cX10_reversed 15 = .ok (.ishr, 1) := by decide +kernel
theorem dX10_reversed_16 : decode cX10_reversed 16 = .ok (.iconst 1, 1) := by decide +kernel
theorem dX10_reversed_17 : decode cX10_reversed 17 = .ok (.iand, 1) := by decide +kernel
theorem dX10_reversed_18 : decode cX10_reversed 18 = .ok (.iadd, 1) := by decide +kernel
theorem dX10_reversed_19 : decode cX10_reversed 19 = .ok (.istore_n 1, 1) := by decide +kernel
theorem dX10_reversed_20 : decode cX10_reversed 20 = .ok (.iinc 2 1, 3) := by decide +kernel
theorem dX10_reversed_23 : decode cX10_reversed 23 = .ok (.goto (-19), 3) := by decide +kernel
theorem dX10_reversed_26 : decode cX10_reversed 26 = .ok (.iload_n 1, 1) := by decide +kernel
theorem dX10_reversed_27 : decode cX10_reversed 27 = .ok (.ireturn, 1) := by decide +kernel
theorem dX10_joined_0 : decode cX10_joined 0 = .ok (.iload_n 0, 1) := by decide +kernel
theorem dX10_joined_1 : decode cX10_joined 1 = .ok (.tableswitch 87 2 8 #[43, 47, 51, 55, 67, 79, 83], 43) := by decide +kernel
theorem dX10_joined_44 : decode cX10_joined 44 = .ok (.iload_n 1, 1) := by decide +kernel
theorem dX10_joined_45 : decode cX10_joined 45 = .ok (.iload_n 2, 1) := by decide +kernel
theorem dX10_joined_46 : decode cX10_joined 46 = .ok (.iadd, 1) := by decide +kernel
theorem dX10_joined_47 : decode cX10_joined 47 = .ok (.ireturn, 1) := by decide +kernel
theorem dX10_joined_48 : decode cX10_joined 48 = .ok (.iload_n 1, 1) := by decide +kernel
theorem dX10_joined_49 : decode cX10_joined 49 = .ok (.iload_n 2, 1) := by decide +kernel
theorem dX10_joined_50 : decode cX10_joined 50 = .ok (.isub, 1) := by decide +kernel
theorem dX10_joined_51 : decode cX10_joined 51 = .ok (.ireturn, 1) := by decide +kernel
theorem dX10_joined_52 : decode cX10_joined 52 = .ok (.iload_n 1, 1) := by decide +kernel
theorem dX10_joined_53 : decode cX10_joined 53 = .ok (.iload_n 2, 1) := by decide +kernel
theorem dX10_joined_54 : decode cX10_joined 54 = .ok (.imul, 1) := by decide +kernel
theorem dX10_joined_55 : decode cX10_joined 55 = .ok (.ireturn, 1) := by decide +kernel
theorem dX10_joined_56 : decode cX10_joined 56 = .ok (.iload_n 2, 1) := by decide +kernel
theorem dX10_joined_57 : decode cX10_joined 57 = .ok (.ifCond .ne 7, 3) := by decide +kernel
theorem dX10_joined_60 : decode cX10_joined 60 = .ok (.iconst 0, 1) := by decide +kernel
theorem dX10_joined_61 : decode cX10_joined 61 = .ok (.goto 6, 3) := by decide +kernel
theorem dX10_joined_64 : decode cX10_joined 64 = .ok (.iload_n 1, 1) := by decide +kernel
theorem dX10_joined_65 : decode cX10_joined 65 = .ok (.iload_n 2, 1) := by decide +kernel
theorem dX10_joined_66 : decode cX10_joined 66 = .ok (.idiv, 1) := by decide +kernel
theorem dX10_joined_67 : decode cX10_joined 67 = .ok (.ireturn, 1) := by decide +kernel
theorem dX10_joined_68 : decode cX10_joined 68 = .ok (.iload_n 2, 1) := by decide +kernel
theorem dX10_joined_69 : decode cX10_joined 69 = .ok (.ifCond .ne 7, 3) := by decide +kernel
theorem dX10_joined_72 : decode cX10_joined 72 = .ok (.iconst 0, 1) := by decide +kernel
theorem dX10_joined_73 : decode cX10_joined 73 = .ok (.goto 6, 3) := by decide +kernel
theorem dX10_joined_76 : decode cX10_joined 76 = .ok (.iload_n 1, 1) := by decide +kernel
theorem dX10_joined_77 : decode cX10_joined 77 = .ok (.iload_n 2, 1) := by decide +kernel
theorem dX10_joined_78 : decode cX10_joined 78 = .ok (.irem, 1) := by decide +kernel
theorem dX10_joined_79 : decode cX10_joined 79 = .ok (.ireturn, 1) := by decide +kernel
theorem dX10_joined_80 : decode cX10_joined 80 = .ok (.iload_n 1, 1) := by decide +kernel
theorem dX10_joined_81 : decode cX10_joined 81 = .ok (.iload_n 2, 1) := by decide +kernel
theorem dX10_joined_82 : decode cX10_joined 82 = .ok (.ixor, 1) := by decide +kernel
theorem dX10_joined_83 : decode cX10_joined 83 = .ok (.ireturn, 1) := by decide +kernel
theorem dX10_joined_84 : decode cX10_joined 84 = .ok (.iload_n 1, 1) := by decide +kernel
theorem dX10_joined_85 : decode cX10_joined 85 = .ok (.iload_n 2, 1) := by decide +kernel
theorem dX10_joined_86 : decode cX10_joined 86 = .ok (.iand, 1) := by decide +kernel
theorem dX10_joined_87 : decode cX10_joined 87 = .ok (.ireturn, 1) := by decide +kernel
theorem dX10_joined_88 : decode cX10_joined 88 = .ok (.iload_n 1, 1) := by decide +kernel
theorem dX10_joined_89 : decode cX10_joined 89 = .ok (.iload_n 2, 1) := by decide +kernel
theorem dX10_joined_90 : decode cX10_joined 90 = .ok (.ior, 1) := by decide +kernel
theorem dX10_joined_91 : decode cX10_joined 91 = .ok (.ireturn, 1) := by decide +kernel
theorem dX10_turnedBy_0 : decode cX10_turnedBy 0 = .ok (.iload_n 0, 1) := by decide +kernel
theorem dX10_turnedBy_1 : decode cX10_turnedBy 1 = .ok (.bipush 10, 2) := by decide +kernel
theorem dX10_turnedBy_3 : decode cX10_turnedBy 3 = .ok (.if_icmp .ne 10, 3) := by decide +kernel
theorem dX10_turnedBy_6 : decode cX10_turnedBy 6 = .ok (.ldc 129, 2) := by decide +kernel
theorem dX10_turnedBy_8 : decode cX10_turnedBy 8 = .ok (.iload_n 1, 1) := by decide +kernel
theorem dX10_turnedBy_9 : decode cX10_turnedBy 9 = .ok (.isub, 1) := by decide +kernel
theorem dX10_turnedBy_10 : decode cX10_turnedBy 10 = .ok (.goto 26, 3) := by decide +kernel
theorem dX10_turnedBy_13 : decode cX10_turnedBy 13 = .ok (.iload_n 0, 1) := by decide +kernel
theorem dX10_turnedBy_14 : decode cX10_turnedBy 14 = .ok (.bipush 12, 2) := by decide +kernel
theorem dX10_turnedBy_16 : decode cX10_turnedBy 16 = .ok (.if_icmp .ne 10, 3) := by decide +kernel
theorem dX10_turnedBy_19 : decode cX10_turnedBy 19 = .ok (.iload_n 1, 1) := by decide +kernel
theorem dX10_turnedBy_20 : decode cX10_turnedBy 20 = .ok (.invokestatic 149, 3) := by decide +kernel
theorem dX10_turnedBy_23 : decode cX10_turnedBy 23 = .ok (.goto 13, 3) := by decide +kernel
theorem dX10_turnedBy_26 : decode cX10_turnedBy 26 = .ok (.iload_n 1, 1) := by decide +kernel
theorem dX10_turnedBy_27 : decode cX10_turnedBy 27 = .ok (.iload_n 2, 1) := by decide +kernel
theorem dX10_turnedBy_28 : decode cX10_turnedBy 28 = .ok (.ishl, 1) := by decide +kernel
theorem dX10_turnedBy_29 : decode cX10_turnedBy 29 = .ok (.iload_n 1, 1) := by decide +kernel
theorem dX10_turnedBy_30 : decode cX10_turnedBy 30 = .ok (.bipush 16, 2) := by decide +kernel
theorem dX10_turnedBy_32 : decode cX10_turnedBy 32 = .ok (.iload_n 2, 1) := by decide +kernel
theorem dX10_turnedBy_33 : decode cX10_turnedBy 33 = .ok (.isub, 1) := by decide +kernel
theorem dX10_turnedBy_34 : decode cX10_turnedBy 34 = .ok (.ishr, 1) := by decide +kernel
theorem dX10_turnedBy_35 : decode cX10_turnedBy 35 = .ok (.ior, 1) := by decide +kernel
theorem dX10_turnedBy_36 : decode cX10_turnedBy 36 = .ok (.ireturn, 1) := by decide +kernel
theorem dX10_hashIn_0 : decode cX10_hashIn 0 = .ok (.sipush 1892, 3) := by decide +kernel
theorem dX10_hashIn_3 : decode cX10_hashIn 3 = .ok (.iload_n 1, 1) := by decide +kernel
theorem dX10_hashIn_4 : decode cX10_hashIn 4 = .ok (.imul, 1) := by decide +kernel
theorem dX10_hashIn_5 : decode cX10_hashIn 5 = .ok (.istore_n 3, 1) := by decide +kernel
theorem dX10_hashIn_6 : decode cX10_hashIn 6 = .ok (.iconst 0, 1) := by decide +kernel
theorem dX10_hashIn_7 : decode cX10_hashIn 7 = .ok (.istore 4, 2) := by decide +kernel
theorem dX10_hashIn_9 : decode cX10_hashIn 9 = .ok (.iconst 0, 1) := by decide +kernel
theorem dX10_hashIn_10 : decode cX10_hashIn 10 = .ok (.istore 5, 2) := by decide +kernel
theorem dX10_hashIn_12 : decode cX10_hashIn 12 = .ok (.iload 5, 2) := by decide +kernel
theorem dX10_hashIn_14 : decode cX10_hashIn 14 = .ok (.aload_n 0, 1) := by decide +kernel
theorem dX10_hashIn_15 : decode cX10_hashIn 15 = .ok (.getfield 7, 3) := by decide +kernel
theorem dX10_hashIn_18 : decode cX10_hashIn 18 = .ok (.iload_n 3, 1) := by decide +kernel
theorem dX10_hashIn_19 : decode cX10_hashIn 19 = .ok (.bipush 23, 2) := by decide +kernel
theorem dX10_hashIn_21 : decode cX10_hashIn 21 = .ok (.iadd, 1) := by decide +kernel
theorem dX10_hashIn_22 : decode cX10_hashIn 22 = .ok (.iaload, 1) := by decide +kernel
theorem dX10_hashIn_23 : decode cX10_hashIn 23 = .ok (.if_icmp .ge 155, 3) := by decide +kernel
theorem dX10_hashIn_26 : decode cX10_hashIn 26 = .ok (.aload_n 0, 1) := by decide +kernel
theorem dX10_hashIn_27 : decode cX10_hashIn 27 = .ok (.getfield 7, 3) := by decide +kernel
theorem dX10_hashIn_30 : decode cX10_hashIn 30 = .ok (.iload_n 3, 1) := by decide +kernel
theorem dX10_hashIn_31 : decode cX10_hashIn 31 = .ok (.sipush 1752, 3) := by decide +kernel
theorem dX10_hashIn_34 : decode cX10_hashIn 34 = .ok (.iadd, 1) := by decide +kernel
theorem dX10_hashIn_35 : decode cX10_hashIn 35 = .ok (.iload 5, 2) := by decide +kernel
theorem dX10_hashIn_37 : decode cX10_hashIn 37 = .ok (.iadd, 1) := by decide +kernel
theorem dX10_hashIn_38 : decode cX10_hashIn 38 = .ok (.iaload, 1) := by decide +kernel
theorem dX10_hashIn_39 : decode cX10_hashIn 39 = .ok (.ldc 62, 2) := by decide +kernel
theorem dX10_hashIn_41 : decode cX10_hashIn 41 = .ok (.idiv, 1) := by decide +kernel
theorem dX10_hashIn_42 : decode cX10_hashIn 42 = .ok (.istore 6, 2) := by decide +kernel
theorem dX10_hashIn_44 : decode cX10_hashIn 44 = .ok (.aload_n 0, 1) := by decide +kernel
theorem dX10_hashIn_45 : decode cX10_hashIn 45 = .ok (.getfield 7, 3) := by decide +kernel
theorem dX10_hashIn_48 : decode cX10_hashIn 48 = .ok (.iload_n 3, 1) := by decide +kernel
theorem dX10_hashIn_49 : decode cX10_hashIn 49 = .ok (.sipush 1752, 3) := by decide +kernel
theorem dX10_hashIn_52 : decode cX10_hashIn 52 = .ok (.iadd, 1) := by decide +kernel
theorem dX10_hashIn_53 : decode cX10_hashIn 53 = .ok (.iload 5, 2) := by decide +kernel
theorem dX10_hashIn_55 : decode cX10_hashIn 55 = .ok (.iadd, 1) := by decide +kernel
theorem dX10_hashIn_56 : decode cX10_hashIn 56 = .ok (.iaload, 1) := by decide +kernel
theorem dX10_hashIn_57 : decode cX10_hashIn 57 = .ok (.ldc 62, 2) := by decide +kernel
theorem dX10_hashIn_59 : decode cX10_hashIn 59 = .ok (.irem, 1) := by decide +kernel
theorem dX10_hashIn_60 : decode cX10_hashIn 60 = .ok (.istore 7, 2) := by decide +kernel
theorem dX10_hashIn_62 : decode cX10_hashIn 62 = .ok (.iload 6, 2) := by decide +kernel
theorem dX10_hashIn_64 : decode cX10_hashIn 64 = .ok (.iconst 1, 1) := by decide +kernel
theorem dX10_hashIn_65 : decode cX10_hashIn 65 = .ok (.if_icmp .gt 30, 3) := by decide +kernel
theorem dX10_hashIn_68 : decode cX10_hashIn 68 = .ok (.aload_n 0, 1) := by decide +kernel
theorem dX10_hashIn_69 : decode cX10_hashIn 69 = .ok (.getfield 23, 3) := by decide +kernel
theorem dX10_hashIn_72 : decode cX10_hashIn 72 = .ok (.iload 4, 2) := by decide +kernel
theorem dX10_hashIn_74 : decode cX10_hashIn 74 = .ok (.iload 6, 2) := by decide +kernel
theorem dX10_hashIn_76 : decode cX10_hashIn 76 = .ok (.ifCond .ne 8, 3) := by decide +kernel
theorem dX10_hashIn_79 : decode cX10_hashIn 79 = .ok (.iload 7, 2) := by decide +kernel
theorem dX10_hashIn_81 : decode cX10_hashIn 81 = .ok (.goto 4, 3) := by decide +kernel
theorem dX10_hashIn_84 : decode cX10_hashIn 84 = .ok (.iload_n 2, 1) := by decide +kernel
theorem dX10_hashIn_85 : decode cX10_hashIn 85 = .ok (.iastore, 1) := by decide +kernel
theorem dX10_hashIn_86 : decode cX10_hashIn 86 = .ok (.iload 4, 2) := by decide +kernel
theorem dX10_hashIn_88 : decode cX10_hashIn 88 = .ok (.iconst 1, 1) := by decide +kernel
theorem dX10_hashIn_89 : decode cX10_hashIn 89 = .ok (.iadd, 1) := by decide +kernel
theorem dX10_hashIn_90 : decode cX10_hashIn 90 = .ok (.istore 4, 2) := by decide +kernel
theorem dX10_hashIn_92 : decode cX10_hashIn 92 = .ok (.goto 80, 3) := by decide +kernel
theorem dX10_hashIn_95 : decode cX10_hashIn 95 = .ok (.iload 6, 2) := by decide +kernel
theorem dX10_hashIn_97 : decode cX10_hashIn 97 = .ok (.bipush 10, 2) := by decide +kernel
theorem dX10_hashIn_99 : decode cX10_hashIn 99 = .ok (.if_icmp .lt 34, 3) := by decide +kernel
theorem dX10_hashIn_102 : decode cX10_hashIn 102 = .ok (.aload_n 0, 1) := by decide +kernel
theorem dX10_hashIn_103 : decode cX10_hashIn 103 = .ok (.getfield 23, 3) := by decide +kernel
theorem dX10_hashIn_106 : decode cX10_hashIn 106 = .ok (.iload 4, 2) := by decide +kernel
theorem dX10_hashIn_108 : decode cX10_hashIn 108 = .ok (.iconst 1, 1) := by decide +kernel
theorem dX10_hashIn_109 : decode cX10_hashIn 109 = .ok (.isub, 1) := by decide +kernel
theorem dX10_hashIn_110 : decode cX10_hashIn 110 = .ok (.iload 6, 2) := by decide +kernel
theorem dX10_hashIn_112 : decode cX10_hashIn 112 = .ok (.aload_n 0, 1) := by decide +kernel
theorem dX10_hashIn_113 : decode cX10_hashIn 113 = .ok (.getfield 23, 3) := by decide +kernel
theorem dX10_hashIn_116 : decode cX10_hashIn 116 = .ok (.iload 4, 2) := by decide +kernel
theorem dX10_hashIn_118 : decode cX10_hashIn 118 = .ok (.iconst 1, 1) := by decide +kernel
theorem dX10_hashIn_119 : decode cX10_hashIn 119 = .ok (.isub, 1) := by decide +kernel
theorem dX10_hashIn_120 : decode cX10_hashIn 120 = .ok (.iaload, 1) := by decide +kernel
theorem dX10_hashIn_121 : decode cX10_hashIn 121 = .ok (.iload 7, 2) := by decide +kernel
theorem dX10_hashIn_123 : decode cX10_hashIn 123 = .ok (.invokestatic 152, 3) := by decide +kernel
theorem dX10_hashIn_126 : decode cX10_hashIn 126 = .ok (.ldc 129, 2) := by decide +kernel
theorem dX10_hashIn_128 : decode cX10_hashIn 128 = .ok (.iand, 1) := by decide +kernel
theorem dX10_hashIn_129 : decode cX10_hashIn 129 = .ok (.iastore, 1) := by decide +kernel
theorem dX10_hashIn_130 : decode cX10_hashIn 130 = .ok (.goto 42, 3) := by decide +kernel
theorem dX10_hashIn_133 : decode cX10_hashIn 133 = .ok (.iload 4, 2) := by decide +kernel
theorem dX10_hashIn_135 : decode cX10_hashIn 135 = .ok (.iconst 1, 1) := by decide +kernel
theorem dX10_hashIn_136 : decode cX10_hashIn 136 = .ok (.isub, 1) := by decide +kernel
theorem dX10_hashIn_137 : decode cX10_hashIn 137 = .ok (.istore 4, 2) := by decide +kernel
theorem dX10_hashIn_139 : decode cX10_hashIn 139 = .ok (.aload_n 0, 1) := by decide +kernel
theorem dX10_hashIn_140 : decode cX10_hashIn 140 = .ok (.getfield 23, 3) := by decide +kernel
theorem dX10_hashIn_143 : decode cX10_hashIn 143 = .ok (.iload 4, 2) := by decide +kernel
theorem dX10_hashIn_145 : decode cX10_hashIn 145 = .ok (.iconst 1, 1) := by decide +kernel
theorem dX10_hashIn_146 : decode cX10_hashIn 146 = .ok (.isub, 1) := by decide +kernel
theorem dX10_hashIn_147 : decode cX10_hashIn 147 = .ok (.iload 6, 2) := by decide +kernel
theorem dX10_hashIn_149 : decode cX10_hashIn 149 = .ok (.aload_n 0, 1) := by decide +kernel
theorem dX10_hashIn_150 : decode cX10_hashIn 150 = .ok (.getfield 23, 3) := by decide +kernel
theorem dX10_hashIn_153 : decode cX10_hashIn 153 = .ok (.iload 4, 2) := by decide +kernel
theorem dX10_hashIn_155 : decode cX10_hashIn 155 = .ok (.iconst 1, 1) := by decide +kernel
theorem dX10_hashIn_156 : decode cX10_hashIn 156 = .ok (.isub, 1) := by decide +kernel
theorem dX10_hashIn_157 : decode cX10_hashIn 157 = .ok (.iaload, 1) := by decide +kernel
theorem dX10_hashIn_158 : decode cX10_hashIn 158 = .ok (.aload_n 0, 1) := by decide +kernel
theorem dX10_hashIn_159 : decode cX10_hashIn 159 = .ok (.getfield 23, 3) := by decide +kernel
theorem dX10_hashIn_162 : decode cX10_hashIn 162 = .ok (.iload 4, 2) := by decide +kernel
theorem dX10_hashIn_164 : decode cX10_hashIn 164 = .ok (.iaload, 1) := by decide +kernel
theorem dX10_hashIn_165 : decode cX10_hashIn 165 = .ok (.invokestatic 156, 3) := by decide +kernel
theorem dX10_hashIn_168 : decode cX10_hashIn 168 = .ok (.ldc 129, 2) := by decide +kernel
theorem dX10_hashIn_170 : decode cX10_hashIn 170 = .ok (.iand, 1) := by decide +kernel
theorem dX10_hashIn_171 : decode cX10_hashIn 171 = .ok (.iastore, 1) := by decide +kernel
theorem dX10_hashIn_172 : decode cX10_hashIn 172 = .ok (.iinc 5 1, 3) := by decide +kernel
theorem dX10_hashIn_175 : decode cX10_hashIn 175 = .ok (.goto (-163), 3) := by decide +kernel
theorem dX10_hashIn_178 : decode cX10_hashIn 178 = .ok (.aload_n 0, 1) := by decide +kernel
theorem dX10_hashIn_179 : decode cX10_hashIn 179 = .ok (.getfield 23, 3) := by decide +kernel
theorem dX10_hashIn_182 : decode cX10_hashIn 182 = .ok (.iconst 0, 1) := by decide +kernel
theorem dX10_hashIn_183 : decode cX10_hashIn 183 = .ok (.iaload, 1) := by decide +kernel
theorem dX10_hashIn_184 : decode cX10_hashIn 184 = .ok (.ireturn, 1) := by decide +kernel
theorem dX10_hashOf_0 : decode cX10_hashOf 0 = .ok (.aload_n 0, 1) := by decide +kernel
theorem dX10_hashOf_1 : decode cX10_hashOf 1 = .ok (.iconst 0, 1) := by decide +kernel
theorem dX10_hashOf_2 : decode cX10_hashOf 2 = .ok (.iload_n 1, 1) := by decide +kernel
theorem dX10_hashOf_3 : decode cX10_hashOf 3 = .ok (.invokevirtual 159, 3) := by decide +kernel
theorem dX10_hashOf_6 : decode cX10_hashOf 6 = .ok (.ireturn, 1) := by decide +kernel
theorem dX10_first_0 : decode cX10_first 0 = .ok (.aload_n 0, 1) := by decide +kernel
theorem dX10_first_1 : decode cX10_first 1 = .ok (.getfield 7, 3) := by decide +kernel
theorem dX10_first_4 : decode cX10_first 4 = .ok (.sipush 1892, 3) := by decide +kernel
theorem dX10_first_7 : decode cX10_first 7 = .ok (.iload_n 1, 1) := by decide +kernel
theorem dX10_first_8 : decode cX10_first 8 = .ok (.imul, 1) := by decide +kernel
theorem dX10_first_9 : decode cX10_first 9 = .ok (.iconst 0, 1) := by decide +kernel
theorem dX10_first_10 : decode cX10_first 10 = .ok (.iadd, 1) := by decide +kernel
theorem dX10_first_11 : decode cX10_first 11 = .ok (.iaload, 1) := by decide +kernel
theorem dX10_first_12 : decode cX10_first 12 = .ok (.aload_n 0, 1) := by decide +kernel
theorem dX10_first_13 : decode cX10_first 13 = .ok (.getfield 7, 3) := by decide +kernel
theorem dX10_first_16 : decode cX10_first 16 = .ok (.sipush 1892, 3) := by decide +kernel
theorem dX10_first_19 : decode cX10_first 19 = .ok (.iload_n 1, 1) := by decide +kernel
theorem dX10_first_20 : decode cX10_first 20 = .ok (.imul, 1) := by decide +kernel
theorem dX10_first_21 : decode cX10_first 21 = .ok (.iconst 5, 1) := by decide +kernel
theorem dX10_first_22 : decode cX10_first 22 = .ok (.iadd, 1) := by decide +kernel
theorem dX10_first_23 : decode cX10_first 23 = .ok (.iaload, 1) := by decide +kernel
theorem dX10_first_24 : decode cX10_first 24 = .ok (.ishl, 1) := by decide +kernel
theorem dX10_first_25 : decode cX10_first 25 = .ok (.ireturn, 1) := by decide +kernel
theorem dX10_buckets_0 : decode cX10_buckets 0 = .ok (.aload_n 0, 1) := by decide +kernel
theorem dX10_buckets_1 : decode cX10_buckets 1 = .ok (.iconst 0, 1) := by decide +kernel
theorem dX10_buckets_2 : decode cX10_buckets 2 = .ok (.invokevirtual 163, 3) := by decide +kernel
theorem dX10_buckets_5 : decode cX10_buckets 5 = .ok (.aload_n 0, 1) := by decide +kernel
theorem dX10_buckets_6 : decode cX10_buckets 6 = .ok (.getfield 7, 3) := by decide +kernel
theorem dX10_buckets_9 : decode cX10_buckets 9 = .ok (.bipush 6, 2) := by decide +kernel
theorem dX10_buckets_11 : decode cX10_buckets 11 = .ok (.iaload, 1) := by decide +kernel
theorem dX10_buckets_12 : decode cX10_buckets 12 = .ok (.iadd, 1) := by decide +kernel
theorem dX10_buckets_13 : decode cX10_buckets 13 = .ok (.ireturn, 1) := by decide +kernel
theorem dX10_addressIn_0 : decode cX10_addressIn 0 = .ok (.aload_n 0, 1) := by decide +kernel
theorem dX10_addressIn_1 : decode cX10_addressIn 1 = .ok (.iload_n 1, 1) := by decide +kernel
theorem dX10_addressIn_2 : decode cX10_addressIn 2 = .ok (.iload_n 2, 1) := by decide +kernel
theorem dX10_addressIn_3 : decode cX10_addressIn 3 = .ok (.invokevirtual 159, 3) := by decide +kernel
theorem dX10_addressIn_6 : decode cX10_addressIn 6 = .ok (.istore_n 3, 1) := by decide +kernel
theorem dX10_addressIn_7 : decode cX10_addressIn 7 = .ok (.aload_n 0, 1) := by decide +kernel
theorem dX10_addressIn_8 : decode cX10_addressIn 8 = .ok (.iload_n 1, 1) := by decide +kernel
theorem dX10_addressIn_9 : decode cX10_addressIn 9 = .ok (.invokevirtual 163, 3) := by decide +kernel
theorem dX10_addressIn_12 : decode cX10_addressIn 12 = .ok (.istore 4, 2) := by decide +kernel
theorem dX10_addressIn_14 : decode cX10_addressIn 14 = .ok (.iload_n 3, 1) := by decide +kernel
theorem dX10_addressIn_15 : decode cX10_addressIn 15 = .ok (.iload 4, 2) := by decide +kernel
theorem dX10_addressIn_17 : decode cX10_addressIn 17 = .ok (.irem, 1) := by decide +kernel
theorem dX10_addressIn_18 : decode cX10_addressIn 18 = .ok (.aload_n 0, 1) := by decide +kernel
theorem dX10_addressIn_19 : decode cX10_addressIn 19 = .ok (.getfield 7, 3) := by decide +kernel
theorem dX10_addressIn_22 : decode cX10_addressIn 22 = .ok (.sipush 1892, 3) := by decide +kernel
theorem dX10_addressIn_25 : decode cX10_addressIn 25 = .ok (.iload_n 1, 1) := by decide +kernel
theorem dX10_addressIn_26 : decode cX10_addressIn 26 = .ok (.imul, 1) := by decide +kernel
theorem dX10_addressIn_27 : decode cX10_addressIn 27 = .ok (.bipush 6, 2) := by decide +kernel
theorem dX10_addressIn_29 : decode cX10_addressIn 29 = .ok (.iadd, 1) := by decide +kernel
theorem dX10_addressIn_30 : decode cX10_addressIn 30 = .ok (.iaload, 1) := by decide +kernel
theorem dX10_addressIn_31 : decode cX10_addressIn 31 = .ok (.if_icmp .ge 12, 3) := by decide +kernel
theorem dX10_addressIn_34 : decode cX10_addressIn 34 = .ok (.iload_n 3, 1) := by decide +kernel
theorem dX10_addressIn_35 : decode cX10_addressIn 35 = .ok (.iconst 2, 1) := by decide +kernel
theorem dX10_addressIn_36 : decode cX10_addressIn 36 = .ok (.iload 4, 2) := by decide +kernel
theorem dX10_addressIn_38 : decode cX10_addressIn 38 = .ok (.imul, 1) := by decide +kernel
theorem dX10_addressIn_39 : decode cX10_addressIn 39 = .ok (.irem, 1) := by decide +kernel
theorem dX10_addressIn_40 : decode cX10_addressIn 40 = .ok (.goto 7, 3) := by decide +kernel
theorem dX10_addressIn_43 : decode cX10_addressIn 43 = .ok (.iload_n 3, 1) := by decide +kernel
theorem dX10_addressIn_44 : decode cX10_addressIn 44 = .ok (.iload 4, 2) := by decide +kernel
theorem dX10_addressIn_46 : decode cX10_addressIn 46 = .ok (.irem, 1) := by decide +kernel
theorem dX10_addressIn_47 : decode cX10_addressIn 47 = .ok (.ireturn, 1) := by decide +kernel
theorem dX10_addressOf_0 : decode cX10_addressOf 0 = .ok (.aload_n 0, 1) := by decide +kernel
theorem dX10_addressOf_1 : decode cX10_addressOf 1 = .ok (.iconst 0, 1) := by decide +kernel
theorem dX10_addressOf_2 : decode cX10_addressOf 2 = .ok (.iload_n 1, 1) := by decide +kernel
theorem dX10_addressOf_3 : decode cX10_addressOf 3 = .ok (.invokevirtual 166, 3) := by decide +kernel
theorem dX10_addressOf_6 : decode cX10_addressOf 6 = .ok (.ireturn, 1) := by decide +kernel
theorem dX10_entryOf_0 : decode cX10_entryOf 0 = .ok (.iconst 0, 1) := by decide +kernel
theorem dX10_entryOf_1 : decode cX10_entryOf 1 = .ok (.istore_n 3, 1) := by decide +kernel
theorem dX10_entryOf_2 : decode cX10_entryOf 2 = .ok (.iload_n 3, 1) := by decide +kernel
theorem dX10_entryOf_3 : decode cX10_entryOf 3 = .ok (.aload_n 0, 1) := by decide +kernel
theorem dX10_entryOf_4 : decode cX10_entryOf 4 = .ok (.getfield 7, 3) := by decide +kernel
theorem dX10_entryOf_7 : decode cX10_entryOf 7 = .ok (.sipush 1892, 3) := by decide +kernel
theorem dX10_entryOf_10 : decode cX10_entryOf 10 = .ok (.iload_n 1, 1) := by decide +kernel
theorem dX10_entryOf_11 : decode cX10_entryOf 11 = .ok (.imul, 1) := by decide +kernel
theorem dX10_entryOf_12 : decode cX10_entryOf 12 = .ok (.bipush 7, 2) := by decide +kernel
theorem dX10_entryOf_14 : decode cX10_entryOf 14 = .ok (.iadd, 1) := by decide +kernel
theorem dX10_entryOf_15 : decode cX10_entryOf 15 = .ok (.iaload, 1) := by decide +kernel
theorem dX10_entryOf_16 : decode cX10_entryOf 16 = .ok (.if_icmp .ge 30, 3) := by decide +kernel
theorem dX10_entryOf_19 : decode cX10_entryOf 19 = .ok (.aload_n 0, 1) := by decide +kernel
theorem dX10_entryOf_20 : decode cX10_entryOf 20 = .ok (.getfield 7, 3) := by decide +kernel
theorem dX10_entryOf_23 : decode cX10_entryOf 23 = .ok (.sipush 1892, 3) := by decide +kernel
theorem dX10_entryOf_26 : decode cX10_entryOf 26 = .ok (.iload_n 1, 1) := by decide +kernel
theorem dX10_entryOf_27 : decode cX10_entryOf 27 = .ok (.imul, 1) := by decide +kernel
theorem dX10_entryOf_28 : decode cX10_entryOf 28 = .ok (.bipush 40, 2) := by decide +kernel
theorem dX10_entryOf_30 : decode cX10_entryOf 30 = .ok (.iadd, 1) := by decide +kernel
theorem dX10_entryOf_31 : decode cX10_entryOf 31 = .ok (.iload_n 3, 1) := by decide +kernel
theorem dX10_entryOf_32 : decode cX10_entryOf 32 = .ok (.iadd, 1) := by decide +kernel
theorem dX10_entryOf_33 : decode cX10_entryOf 33 = .ok (.iaload, 1) := by decide +kernel
theorem dX10_entryOf_34 : decode cX10_entryOf 34 = .ok (.iload_n 2, 1) := by decide +kernel
theorem dX10_entryOf_35 : decode cX10_entryOf 35 = .ok (.if_icmp .ne 5, 3) := by decide +kernel
theorem dX10_entryOf_38 : decode cX10_entryOf 38 = .ok (.iload_n 3, 1) := by decide +kernel
theorem dX10_entryOf_39 : decode cX10_entryOf 39 = .ok (.ireturn, 1) := by decide +kernel
theorem dX10_entryOf_40 : decode cX10_entryOf 40 = .ok (.iinc 3 1, 3) := by decide +kernel
theorem dX10_entryOf_43 : decode cX10_entryOf 43 = .ok (.goto (-41), 3) := by decide +kernel
theorem dX10_entryOf_46 : decode cX10_entryOf 46 = .ok (.iconst (-1), 1) := by decide +kernel
theorem dX10_entryOf_47 : decode cX10_entryOf 47 = .ok (.ireturn, 1) := by decide +kernel
theorem dX10_keysIn_0 : decode cX10_keysIn 0 = .ok (.iconst 0, 1) := by decide +kernel
theorem dX10_keysIn_1 : decode cX10_keysIn 1 = .ok (.istore_n 2, 1) := by decide +kernel
theorem dX10_keysIn_2 : decode cX10_keysIn 2 = .ok (.iconst 0, 1) := by decide +kernel
theorem dX10_keysIn_3 : decode cX10_keysIn 3 = .ok (.istore_n 3, 1) := by decide +kernel
theorem dX10_keysIn_4 : decode cX10_keysIn 4 = .ok (.iload_n 3, 1) := by decide +kernel
theorem dX10_keysIn_5 : decode cX10_keysIn 5 = .ok (.aload_n 0, 1) := by decide +kernel
theorem dX10_keysIn_6 : decode cX10_keysIn 6 = .ok (.getfield 7, 3) := by decide +kernel
theorem dX10_keysIn_9 : decode cX10_keysIn 9 = .ok (.bipush 7, 2) := by decide +kernel
theorem dX10_keysIn_11 : decode cX10_keysIn 11 = .ok (.iaload, 1) := by decide +kernel
theorem dX10_keysIn_12 : decode cX10_keysIn 12 = .ok (.if_icmp .ge 27, 3) := by decide +kernel
theorem dX10_keysIn_15 : decode cX10_keysIn 15 = .ok (.aload_n 0, 1) := by decide +kernel
theorem dX10_keysIn_16 : decode cX10_keysIn 16 = .ok (.getfield 7, 3) := by decide +kernel
theorem dX10_keysIn_19 : decode cX10_keysIn 19 = .ok (.sipush 640, 3) := by decide +kernel
theorem dX10_keysIn_22 : decode cX10_keysIn 22 = .ok (.iload_n 3, 1) := by decide +kernel
theorem dX10_keysIn_23 : decode cX10_keysIn 23 = .ok (.iadd, 1) := by decide +kernel
theorem dX10_keysIn_24 : decode cX10_keysIn 24 = .ok (.iaload, 1) := by decide +kernel
theorem dX10_keysIn_25 : decode cX10_keysIn 25 = .ok (.iload_n 1, 1) := by decide +kernel
theorem dX10_keysIn_26 : decode cX10_keysIn 26 = .ok (.if_icmp .ne 7, 3) := by decide +kernel
theorem dX10_keysIn_29 : decode cX10_keysIn 29 = .ok (.iload_n 2, 1) := by decide +kernel
theorem dX10_keysIn_30 : decode cX10_keysIn 30 = .ok (.iconst 1, 1) := by decide +kernel
theorem dX10_keysIn_31 : decode cX10_keysIn 31 = .ok (.iadd, 1) := by decide +kernel
theorem dX10_keysIn_32 : decode cX10_keysIn 32 = .ok (.istore_n 2, 1) := by decide +kernel
theorem dX10_keysIn_33 : decode cX10_keysIn 33 = .ok (.iinc 3 1, 3) := by decide +kernel
theorem dX10_keysIn_36 : decode cX10_keysIn 36 = .ok (.goto (-32), 3) := by decide +kernel
theorem dX10_keysIn_39 : decode cX10_keysIn 39 = .ok (.iload_n 2, 1) := by decide +kernel
theorem dX10_keysIn_40 : decode cX10_keysIn 40 = .ok (.ireturn, 1) := by decide +kernel
theorem dX10_chainOf_0 : decode cX10_chainOf 0 = .ok (.iconst 0, 1) := by decide +kernel
theorem dX10_chainOf_1 : decode cX10_chainOf 1 = .ok (.istore_n 2, 1) := by decide +kernel
theorem dX10_chainOf_2 : decode cX10_chainOf 2 = .ok (.iconst 0, 1) := by decide +kernel
theorem dX10_chainOf_3 : decode cX10_chainOf 3 = .ok (.istore_n 3, 1) := by decide +kernel
theorem dX10_chainOf_4 : decode cX10_chainOf 4 = .ok (.iload_n 3, 1) := by decide +kernel
theorem dX10_chainOf_5 : decode cX10_chainOf 5 = .ok (.sipush 256, 3) := by decide +kernel
theorem dX10_chainOf_8 : decode cX10_chainOf 8 = .ok (.if_icmp .ge 27, 3) := by decide +kernel
theorem dX10_chainOf_11 : decode cX10_chainOf 11 = .ok (.aload_n 0, 1) := by decide +kernel
theorem dX10_chainOf_12 : decode cX10_chainOf 12 = .ok (.getfield 7, 3) := by decide +kernel
theorem dX10_chainOf_15 : decode cX10_chainOf 15 = .ok (.sipush 1240, 3) := by decide +kernel
theorem dX10_chainOf_18 : decode cX10_chainOf 18 = .ok (.iload_n 3, 1) := by decide +kernel
theorem dX10_chainOf_19 : decode cX10_chainOf 19 = .ok (.iadd, 1) := by decide +kernel
theorem dX10_chainOf_20 : decode cX10_chainOf 20 = .ok (.iaload, 1) := by decide +kernel
theorem dX10_chainOf_21 : decode cX10_chainOf 21 = .ok (.iload_n 1, 1) := by decide +kernel
theorem dX10_chainOf_22 : decode cX10_chainOf 22 = .ok (.if_icmp .ne 7, 3) := by decide +kernel
theorem dX10_chainOf_25 : decode cX10_chainOf 25 = .ok (.iload_n 2, 1) := by decide +kernel
theorem dX10_chainOf_26 : decode cX10_chainOf 26 = .ok (.iconst 1, 1) := by decide +kernel
theorem dX10_chainOf_27 : decode cX10_chainOf 27 = .ok (.iadd, 1) := by decide +kernel
theorem dX10_chainOf_28 : decode cX10_chainOf 28 = .ok (.istore_n 2, 1) := by decide +kernel
theorem dX10_chainOf_29 : decode cX10_chainOf 29 = .ok (.iinc 3 1, 3) := by decide +kernel
theorem dX10_chainOf_32 : decode cX10_chainOf 32 = .ok (.goto (-28), 3) := by decide +kernel
theorem dX10_chainOf_35 : decode cX10_chainOf 35 = .ok (.iload_n 2, 1) := by decide +kernel
theorem dX10_chainOf_36 : decode cX10_chainOf 36 = .ok (.ireturn, 1) := by decide +kernel
theorem dX10_pageAt_0 : decode cX10_pageAt 0 = .ok (.iconst 0, 1) := by decide +kernel
theorem dX10_pageAt_1 : decode cX10_pageAt 1 = .ok (.istore_n 3, 1) := by decide +kernel
theorem dX10_pageAt_2 : decode cX10_pageAt 2 = .ok (.iload_n 3, 1) := by decide +kernel
theorem dX10_pageAt_3 : decode cX10_pageAt 3 = .ok (.sipush 256, 3) := by decide +kernel
theorem dX10_pageAt_6 : decode cX10_pageAt 6 = .ok (.if_icmp .ge 39, 3) := by decide +kernel
theorem dX10_pageAt_9 : decode cX10_pageAt 9 = .ok (.aload_n 0, 1) := by decide +kernel
theorem dX10_pageAt_10 : decode cX10_pageAt 10 = .ok (.getfield 7, 3) := by decide +kernel
theorem dX10_pageAt_13 : decode cX10_pageAt 13 = .ok (.sipush 1240, 3) := by decide +kernel
theorem dX10_pageAt_16 : decode cX10_pageAt 16 = .ok (.iload_n 3, 1) := by decide +kernel
theorem dX10_pageAt_17 : decode cX10_pageAt 17 = .ok (.iadd, 1) := by decide +kernel
theorem dX10_pageAt_18 : decode cX10_pageAt 18 = .ok (.iaload, 1) := by decide +kernel
theorem dX10_pageAt_19 : decode cX10_pageAt 19 = .ok (.iload_n 1, 1) := by decide +kernel
theorem dX10_pageAt_20 : decode cX10_pageAt 20 = .ok (.if_icmp .ne 19, 3) := by decide +kernel
theorem dX10_pageAt_23 : decode cX10_pageAt 23 = .ok (.aload_n 0, 1) := by decide +kernel
theorem dX10_pageAt_24 : decode cX10_pageAt 24 = .ok (.getfield 7, 3) := by decide +kernel
theorem dX10_pageAt_27 : decode cX10_pageAt 27 = .ok (.sipush 1496, 3) := by decide +kernel
theorem dX10_pageAt_30 : decode cX10_pageAt 30 = .ok (.iload_n 3, 1) := by decide +kernel
theorem dX10_pageAt_31 : decode cX10_pageAt 31 = .ok (.iadd, 1) := by decide +kernel
theorem dX10_pageAt_32 : decode cX10_pageAt 32 = .ok (.iaload, 1) := by decide +kernel
theorem dX10_pageAt_33 : decode cX10_pageAt 33 = .ok (.iload_n 2, 1) := by decide +kernel
theorem dX10_pageAt_34 : decode cX10_pageAt 34 = .ok (.if_icmp .ne 5, 3) := by decide +kernel
theorem dX10_pageAt_37 : decode cX10_pageAt 37 = .ok (.iload_n 3, 1) := by decide +kernel
theorem dX10_pageAt_38 : decode cX10_pageAt 38 = .ok (.ireturn, 1) := by decide +kernel
theorem dX10_pageAt_39 : decode cX10_pageAt 39 = .ok (.iinc 3 1, 3) := by decide +kernel
theorem dX10_pageAt_42 : decode cX10_pageAt 42 = .ok (.goto (-40), 3) := by decide +kernel
theorem dX10_pageAt_45 : decode cX10_pageAt 45 = .ok (.iconst (-1), 1) := by decide +kernel
theorem dX10_pageAt_46 : decode cX10_pageAt 46 = .ok (.ireturn, 1) := by decide +kernel
theorem dX10_placeOf_0 : decode cX10_placeOf 0 = .ok (.iconst 0, 1) := by decide +kernel
theorem dX10_placeOf_1 : decode cX10_placeOf 1 = .ok (.istore_n 2, 1) := by decide +kernel
theorem dX10_placeOf_2 : decode cX10_placeOf 2 = .ok (.iconst 0, 1) := by decide +kernel
theorem dX10_placeOf_3 : decode cX10_placeOf 3 = .ok (.istore_n 3, 1) := by decide +kernel
theorem dX10_placeOf_4 : decode cX10_placeOf 4 = .ok (.iload_n 3, 1) := by decide +kernel
theorem dX10_placeOf_5 : decode cX10_placeOf 5 = .ok (.aload_n 0, 1) := by decide +kernel
theorem dX10_placeOf_6 : decode cX10_placeOf 6 = .ok (.getfield 7, 3) := by decide +kernel
theorem dX10_placeOf_9 : decode cX10_placeOf 9 = .ok (.bipush 7, 2) := by decide +kernel
theorem dX10_placeOf_11 : decode cX10_placeOf 11 = .ok (.iaload, 1) := by decide +kernel
theorem dX10_placeOf_12 : decode cX10_placeOf 12 = .ok (.if_icmp .ge 59, 3) := by decide +kernel
theorem dX10_placeOf_15 : decode cX10_placeOf 15 = .ok (.aload_n 0, 1) := by decide +kernel
theorem dX10_placeOf_16 : decode cX10_placeOf 16 = .ok (.getfield 7, 3) := by decide +kernel
theorem dX10_placeOf_19 : decode cX10_placeOf 19 = .ok (.sipush 640, 3) := by decide +kernel
theorem dX10_placeOf_22 : decode cX10_placeOf 22 = .ok (.iload_n 3, 1) := by decide +kernel
theorem dX10_placeOf_23 : decode cX10_placeOf 23 = .ok (.iadd, 1) := by decide +kernel
theorem dX10_placeOf_24 : decode cX10_placeOf 24 = .ok (.iaload, 1) := by decide +kernel
theorem dX10_placeOf_25 : decode cX10_placeOf 25 = .ok (.aload_n 0, 1) := by decide +kernel
theorem dX10_placeOf_26 : decode cX10_placeOf 26 = .ok (.getfield 7, 3) := by decide +kernel
theorem dX10_placeOf_29 : decode cX10_placeOf 29 = .ok (.sipush 640, 3) := by decide +kernel
theorem dX10_placeOf_32 : decode cX10_placeOf 32 = .ok (.iload_n 1, 1) := by decide +kernel
theorem dX10_placeOf_33 : decode cX10_placeOf 33 = .ok (.iadd, 1) := by decide +kernel
theorem dX10_placeOf_34 : decode cX10_placeOf 34 = .ok (.iaload, 1) := by decide +kernel
theorem dX10_placeOf_35 : decode cX10_placeOf 35 = .ok (.if_icmp .ne 30, 3) := by decide +kernel
theorem dX10_placeOf_38 : decode cX10_placeOf 38 = .ok (.aload_n 0, 1) := by decide +kernel
theorem dX10_placeOf_39 : decode cX10_placeOf 39 = .ok (.getfield 7, 3) := by decide +kernel
theorem dX10_placeOf_42 : decode cX10_placeOf 42 = .ok (.sipush 940, 3) := by decide +kernel
theorem dX10_placeOf_45 : decode cX10_placeOf 45 = .ok (.iload_n 3, 1) := by decide +kernel
theorem dX10_placeOf_46 : decode cX10_placeOf 46 = .ok (.iadd, 1) := by decide +kernel
theorem dX10_placeOf_47 : decode cX10_placeOf 47 = .ok (.iaload, 1) := by decide +kernel
theorem dX10_placeOf_48 : decode cX10_placeOf 48 = .ok (.aload_n 0, 1) := by decide +kernel
theorem dX10_placeOf_49 : decode cX10_placeOf 49 = .ok (.getfield 7, 3) := by decide +kernel
theorem dX10_placeOf_52 : decode cX10_placeOf 52 = .ok (.sipush 940, 3) := by decide +kernel
theorem dX10_placeOf_55 : decode cX10_placeOf 55 = .ok (.iload_n 1, 1) := by decide +kernel
theorem dX10_placeOf_56 : decode cX10_placeOf 56 = .ok (.iadd, 1) := by decide +kernel
theorem dX10_placeOf_57 : decode cX10_placeOf 57 = .ok (.iaload, 1) := by decide +kernel
theorem dX10_placeOf_58 : decode cX10_placeOf 58 = .ok (.if_icmp .ge 7, 3) := by decide +kernel
theorem dX10_placeOf_61 : decode cX10_placeOf 61 = .ok (.iload_n 2, 1) := by decide +kernel
theorem dX10_placeOf_62 : decode cX10_placeOf 62 = .ok (.iconst 1, 1) := by decide +kernel
theorem dX10_placeOf_63 : decode cX10_placeOf 63 = .ok (.iadd, 1) := by decide +kernel
theorem dX10_placeOf_64 : decode cX10_placeOf 64 = .ok (.istore_n 2, 1) := by decide +kernel
theorem dX10_placeOf_65 : decode cX10_placeOf 65 = .ok (.iinc 3 1, 3) := by decide +kernel
theorem dX10_placeOf_68 : decode cX10_placeOf 68 = .ok (.goto (-64), 3) := by decide +kernel
theorem dX10_placeOf_71 : decode cX10_placeOf 71 = .ok (.iload_n 2, 1) := by decide +kernel
theorem dX10_placeOf_72 : decode cX10_placeOf 72 = .ok (.ireturn, 1) := by decide +kernel
theorem dX10_entryAt_0 : decode cX10_entryAt 0 = .ok (.iconst 0, 1) := by decide +kernel
theorem dX10_entryAt_1 : decode cX10_entryAt 1 = .ok (.istore_n 3, 1) := by decide +kernel
theorem dX10_entryAt_2 : decode cX10_entryAt 2 = .ok (.iload_n 3, 1) := by decide +kernel
theorem dX10_entryAt_3 : decode cX10_entryAt 3 = .ok (.aload_n 0, 1) := by decide +kernel
theorem dX10_entryAt_4 : decode cX10_entryAt 4 = .ok (.getfield 7, 3) := by decide +kernel
theorem dX10_entryAt_7 : decode cX10_entryAt 7 = .ok (.bipush 7, 2) := by decide +kernel
theorem dX10_entryAt_9 : decode cX10_entryAt 9 = .ok (.iaload, 1) := by decide +kernel
theorem dX10_entryAt_10 : decode cX10_entryAt 10 = .ok (.if_icmp .ge 34, 3) := by decide +kernel
theorem dX10_entryAt_13 : decode cX10_entryAt 13 = .ok (.aload_n 0, 1) := by decide +kernel
theorem dX10_entryAt_14 : decode cX10_entryAt 14 = .ok (.getfield 7, 3) := by decide +kernel
theorem dX10_entryAt_17 : decode cX10_entryAt 17 = .ok (.sipush 640, 3) := by decide +kernel
theorem dX10_entryAt_20 : decode cX10_entryAt 20 = .ok (.iload_n 3, 1) := by decide +kernel
theorem dX10_entryAt_21 : decode cX10_entryAt 21 = .ok (.iadd, 1) := by decide +kernel
theorem dX10_entryAt_22 : decode cX10_entryAt 22 = .ok (.iaload, 1) := by decide +kernel
theorem dX10_entryAt_23 : decode cX10_entryAt 23 = .ok (.iload_n 1, 1) := by decide +kernel
theorem dX10_entryAt_24 : decode cX10_entryAt 24 = .ok (.if_icmp .ne 14, 3) := by decide +kernel
theorem dX10_entryAt_27 : decode cX10_entryAt 27 = .ok (.aload_n 0, 1) := by decide +kernel
theorem dX10_entryAt_28 : decode cX10_entryAt 28 = .ok (.iload_n 3, 1) := by decide +kernel
theorem dX10_entryAt_29 : decode cX10_entryAt 29 = .ok (.invokevirtual 169, 3) := by decide +kernel
theorem dX10_entryAt_32 : decode cX10_entryAt 32 = .ok (.iload_n 2, 1) := by decide +kernel
theorem dX10_entryAt_33 : decode cX10_entryAt 33 = .ok (.if_icmp .ne 5, 3) := by decide +kernel
theorem dX10_entryAt_36 : decode cX10_entryAt 36 = .ok (.iload_n 3, 1) := by decide +kernel
theorem dX10_entryAt_37 : decode cX10_entryAt 37 = .ok (.ireturn, 1) := by decide +kernel
theorem dX10_entryAt_38 : decode cX10_entryAt 38 = .ok (.iinc 3 1, 3) := by decide +kernel
theorem dX10_entryAt_41 : decode cX10_entryAt 41 = .ok (.goto (-39), 3) := by decide +kernel
theorem dX10_entryAt_44 : decode cX10_entryAt 44 = .ok (.iconst (-1), 1) := by decide +kernel
theorem dX10_entryAt_45 : decode cX10_entryAt 45 = .ok (.ireturn, 1) := by decide +kernel
theorem dX10_takesPage_0 : decode cX10_takesPage 0 = .ok (.iconst 0, 1) := by decide +kernel
theorem dX10_takesPage_1 : decode cX10_takesPage 1 = .ok (.istore_n 3, 1) := by decide +kernel
theorem dX10_takesPage_2 : decode cX10_takesPage 2 = .ok (.aload_n 0, 1) := by decide +kernel
theorem dX10_takesPage_3 : decode cX10_takesPage 3 = .ok (.getfield 7, 3) := by decide +kernel
theorem dX10_takesPage_6 : decode cX10_takesPage 6 = .ok (.sipush 1240, 3) := by decide +kernel
theorem dX10_takesPage_9 : decode cX10_takesPage 9 = .ok (.iload_n 3, 1) := by decide +kernel
theorem dX10_takesPage_10 : decode cX10_takesPage 10 = .ok (.iadd, 1) := by decide +kernel
theorem dX10_takesPage_11 : decode cX10_takesPage 11 = .ok (.iaload, 1) := by decide +kernel
theorem dX10_takesPage_12 : decode cX10_takesPage 12 = .ok (.iconst (-1), 1) := by decide +kernel
theorem dX10_takesPage_13 : decode cX10_takesPage 13 = .ok (.if_icmp .eq 10, 3) := by decide +kernel
theorem dX10_takesPage_16 : decode cX10_takesPage 16 = .ok (.iload_n 3, 1) := by decide +kernel
theorem dX10_takesPage_17 : decode cX10_takesPage 17 = .ok (.iconst 1, 1) := by decide +kernel
theorem dX10_takesPage_18 : decode cX10_takesPage 18 = .ok (.iadd, 1) := by decide +kernel
theorem dX10_takesPage_19 : decode cX10_takesPage 19 = .ok (.istore_n 3, 1) := by decide +kernel
theorem dX10_takesPage_20 : decode cX10_takesPage 20 = .ok (.goto (-18), 3) := by decide +kernel
theorem dX10_takesPage_23 : decode cX10_takesPage 23 = .ok (.aload_n 0, 1) := by decide +kernel
theorem dX10_takesPage_24 : decode cX10_takesPage 24 = .ok (.getfield 7, 3) := by decide +kernel
theorem dX10_takesPage_27 : decode cX10_takesPage 27 = .ok (.sipush 1240, 3) := by decide +kernel
theorem dX10_takesPage_30 : decode cX10_takesPage 30 = .ok (.iload_n 3, 1) := by decide +kernel
theorem dX10_takesPage_31 : decode cX10_takesPage 31 = .ok (.iadd, 1) := by decide +kernel
theorem dX10_takesPage_32 : decode cX10_takesPage 32 = .ok (.iload_n 1, 1) := by decide +kernel
theorem dX10_takesPage_33 : decode cX10_takesPage 33 = .ok (.iastore, 1) := by decide +kernel
theorem dX10_takesPage_34 : decode cX10_takesPage 34 = .ok (.aload_n 0, 1) := by decide +kernel
theorem dX10_takesPage_35 : decode cX10_takesPage 35 = .ok (.getfield 7, 3) := by decide +kernel
theorem dX10_takesPage_38 : decode cX10_takesPage 38 = .ok (.sipush 1496, 3) := by decide +kernel
theorem dX10_takesPage_41 : decode cX10_takesPage 41 = .ok (.iload_n 3, 1) := by decide +kernel
theorem dX10_takesPage_42 : decode cX10_takesPage 42 = .ok (.iadd, 1) := by decide +kernel
theorem dX10_takesPage_43 : decode cX10_takesPage 43 = .ok (.iload_n 2, 1) := by decide +kernel
theorem dX10_takesPage_44 : decode cX10_takesPage 44 = .ok (.iastore, 1) := by decide +kernel
theorem dX10_takesPage_45 : decode cX10_takesPage 45 = .ok (.return_, 1) := by decide +kernel
theorem dX10_freesPages_0 : decode cX10_freesPages 0 = .ok (.iconst 0, 1) := by decide +kernel
theorem dX10_freesPages_1 : decode cX10_freesPages 1 = .ok (.istore_n 3, 1) := by decide +kernel
theorem dX10_freesPages_2 : decode cX10_freesPages 2 = .ok (.iload_n 3, 1) := by decide +kernel
theorem dX10_freesPages_3 : decode cX10_freesPages 3 = .ok (.sipush 256, 3) := by decide +kernel
theorem dX10_freesPages_6 : decode cX10_freesPages 6 = .ok (.if_icmp .ge 48, 3) := by decide +kernel
theorem dX10_freesPages_9 : decode cX10_freesPages 9 = .ok (.aload_n 0, 1) := by decide +kernel
theorem dX10_freesPages_10 : decode cX10_freesPages 10 = .ok (.getfield 7, 3) := by decide +kernel
theorem dX10_freesPages_13 : decode cX10_freesPages 13 = .ok (.sipush 1240, 3) := by decide +kernel
theorem dX10_freesPages_16 : decode cX10_freesPages 16 = .ok (.iload_n 3, 1) := by decide +kernel
theorem dX10_freesPages_17 : decode cX10_freesPages 17 = .ok (.iadd, 1) := by decide +kernel
theorem dX10_freesPages_18 : decode cX10_freesPages 18 = .ok (.iaload, 1) := by decide +kernel
theorem dX10_freesPages_19 : decode cX10_freesPages 19 = .ok (.iload_n 1, 1) := by decide +kernel
theorem dX10_freesPages_20 : decode cX10_freesPages 20 = .ok (.if_icmp .ne 28, 3) := by decide +kernel
theorem dX10_freesPages_23 : decode cX10_freesPages 23 = .ok (.aload_n 0, 1) := by decide +kernel
theorem dX10_freesPages_24 : decode cX10_freesPages 24 = .ok (.getfield 7, 3) := by decide +kernel
theorem dX10_freesPages_27 : decode cX10_freesPages 27 = .ok (.sipush 1496, 3) := by decide +kernel
theorem dX10_freesPages_30 : decode cX10_freesPages 30 = .ok (.iload_n 3, 1) := by decide +kernel
theorem dX10_freesPages_31 : decode cX10_freesPages 31 = .ok (.iadd, 1) := by decide +kernel
theorem dX10_freesPages_32 : decode cX10_freesPages 32 = .ok (.iaload, 1) := by decide +kernel
theorem dX10_freesPages_33 : decode cX10_freesPages 33 = .ok (.iload_n 2, 1) := by decide +kernel
theorem dX10_freesPages_34 : decode cX10_freesPages 34 = .ok (.if_icmp .lt 14, 3) := by decide +kernel
theorem dX10_freesPages_37 : decode cX10_freesPages 37 = .ok (.aload_n 0, 1) := by decide +kernel
theorem dX10_freesPages_38 : decode cX10_freesPages 38 = .ok (.getfield 7, 3) := by decide +kernel
theorem dX10_freesPages_41 : decode cX10_freesPages 41 = .ok (.sipush 1240, 3) := by decide +kernel
theorem dX10_freesPages_44 : decode cX10_freesPages 44 = .ok (.iload_n 3, 1) := by decide +kernel
theorem dX10_freesPages_45 : decode cX10_freesPages 45 = .ok (.iadd, 1) := by decide +kernel
theorem dX10_freesPages_46 : decode cX10_freesPages 46 = .ok (.iconst (-1), 1) := by decide +kernel
theorem dX10_freesPages_47 : decode cX10_freesPages 47 = .ok (.iastore, 1) := by decide +kernel
theorem dX10_freesPages_48 : decode cX10_freesPages 48 = .ok (.iinc 3 1, 3) := by decide +kernel
theorem dX10_freesPages_51 : decode cX10_freesPages 51 = .ok (.goto (-49), 3) := by decide +kernel
theorem dX10_freesPages_54 : decode cX10_freesPages 54 = .ok (.return_, 1) := by decide +kernel
theorem dX10_needsPages_0 : decode cX10_needsPages 0 = .ok (.aload_n 0, 1) := by decide +kernel
theorem dX10_needsPages_1 : decode cX10_needsPages 1 = .ok (.iload_n 1, 1) := by decide +kernel
theorem dX10_needsPages_2 : decode cX10_needsPages 2 = .ok (.invokevirtual 172, 3) := by decide +kernel
theorem dX10_needsPages_5 : decode cX10_needsPages 5 = .ok (.istore_n 3, 1) := by decide +kernel
theorem dX10_needsPages_6 : decode cX10_needsPages 6 = .ok (.iload_n 3, 1) := by decide +kernel
theorem dX10_needsPages_7 : decode cX10_needsPages 7 = .ok (.aload_n 0, 1) := by decide +kernel
theorem dX10_needsPages_8 : decode cX10_needsPages 8 = .ok (.getfield 7, 3) := by decide +kernel
theorem dX10_needsPages_11 : decode cX10_needsPages 11 = .ok (.iconst 1, 1) := by decide +kernel
theorem dX10_needsPages_12 : decode cX10_needsPages 12 = .ok (.iaload, 1) := by decide +kernel
theorem dX10_needsPages_13 : decode cX10_needsPages 13 = .ok (.imul, 1) := by decide +kernel
theorem dX10_needsPages_14 : decode cX10_needsPages 14 = .ok (.iload_n 2, 1) := by decide +kernel
theorem dX10_needsPages_15 : decode cX10_needsPages 15 = .ok (.if_icmp .ge 16, 3) := by decide +kernel
theorem dX10_needsPages_18 : decode cX10_needsPages 18 = .ok (.aload_n 0, 1) := by decide +kernel
theorem dX10_needsPages_19 : decode cX10_needsPages 19 = .ok (.iload_n 1, 1) := by decide +kernel
theorem dX10_needsPages_20 : decode cX10_needsPages 20 = .ok (.iload_n 3, 1) := by decide +kernel
theorem dX10_needsPages_21 : decode cX10_needsPages 21 = .ok (.invokevirtual 175, 3) := by decide +kernel
theorem dX10_needsPages_24 : decode cX10_needsPages 24 = .ok (.iload_n 3, 1) := by decide +kernel
theorem dX10_needsPages_25 : decode cX10_needsPages 25 = .ok (.iconst 1, 1) := by decide +kernel
theorem dX10_needsPages_26 : decode cX10_needsPages 26 = .ok (.iadd, 1) := by decide +kernel
theorem dX10_needsPages_27 : decode cX10_needsPages 27 = .ok (.istore_n 3, 1) := by decide +kernel
theorem dX10_needsPages_28 : decode cX10_needsPages 28 = .ok (.goto (-22), 3) := by decide +kernel
theorem dX10_needsPages_31 : decode cX10_needsPages 31 = .ok (.return_, 1) := by decide +kernel
theorem dX10_comesBehind_0 : decode cX10_comesBehind 0 = .ok (.aload_n 0, 1) := by decide +kernel
theorem dX10_comesBehind_1 : decode cX10_comesBehind 1 = .ok (.getfield 7, 3) := by decide +kernel
theorem dX10_comesBehind_4 : decode cX10_comesBehind 4 = .ok (.sipush 640, 3) := by decide +kernel
theorem dX10_comesBehind_7 : decode cX10_comesBehind 7 = .ok (.iload_n 1, 1) := by decide +kernel
theorem dX10_comesBehind_8 : decode cX10_comesBehind 8 = .ok (.iadd, 1) := by decide +kernel
theorem dX10_comesBehind_9 : decode cX10_comesBehind 9 = .ok (.iload_n 2, 1) := by decide +kernel
theorem dX10_comesBehind_10 : decode cX10_comesBehind 10 = .ok (.iastore, 1) := by decide +kernel
theorem dX10_comesBehind_11 : decode cX10_comesBehind 11 = .ok (.aload_n 0, 1) := by decide +kernel
theorem dX10_comesBehind_12 : decode cX10_comesBehind 12 = .ok (.getfield 7, 3) := by decide +kernel
theorem dX10_comesBehind_15 : decode cX10_comesBehind 15 = .ok (.sipush 940, 3) := by decide +kernel
theorem dX10_comesBehind_18 : decode cX10_comesBehind 18 = .ok (.iload_n 1, 1) := by decide +kernel
theorem dX10_comesBehind_19 : decode cX10_comesBehind 19 = .ok (.iadd, 1) := by decide +kernel
theorem dX10_comesBehind_20 : decode cX10_comesBehind 20 = .ok (.aload_n 0, 1) := by decide +kernel
theorem dX10_comesBehind_21 : decode cX10_comesBehind 21 = .ok (.getfield 7, 3) := by decide +kernel
theorem dX10_comesBehind_24 : decode cX10_comesBehind 24 = .ok (.bipush 13, 2) := by decide +kernel
theorem dX10_comesBehind_26 : decode cX10_comesBehind 26 = .ok (.iaload, 1) := by decide +kernel
theorem dX10_comesBehind_27 : decode cX10_comesBehind 27 = .ok (.iastore, 1) := by decide +kernel
theorem dX10_comesBehind_28 : decode cX10_comesBehind 28 = .ok (.aload_n 0, 1) := by decide +kernel
theorem dX10_comesBehind_29 : decode cX10_comesBehind 29 = .ok (.getfield 7, 3) := by decide +kernel
theorem dX10_comesBehind_32 : decode cX10_comesBehind 32 = .ok (.bipush 13, 2) := by decide +kernel
theorem dX10_comesBehind_34 : decode cX10_comesBehind 34 = .ok (.aload_n 0, 1) := by decide +kernel
theorem dX10_comesBehind_35 : decode cX10_comesBehind 35 = .ok (.getfield 7, 3) := by decide +kernel
theorem dX10_comesBehind_38 : decode cX10_comesBehind 38 = .ok (.bipush 13, 2) := by decide +kernel
theorem dX10_comesBehind_40 : decode cX10_comesBehind 40 = .ok (.iaload, 1) := by decide +kernel
theorem dX10_comesBehind_41 : decode cX10_comesBehind 41 = .ok (.iconst 1, 1) := by decide +kernel
theorem dX10_comesBehind_42 : decode cX10_comesBehind 42 = .ok (.iadd, 1) := by decide +kernel
theorem dX10_comesBehind_43 : decode cX10_comesBehind 43 = .ok (.iastore, 1) := by decide +kernel
theorem dX10_comesBehind_44 : decode cX10_comesBehind 44 = .ok (.return_, 1) := by decide +kernel
theorem dX10_load_0 : decode cX10_load 0 = .ok (.bipush 100, 2) := by decide +kernel
theorem dX10_load_2 : decode cX10_load 2 = .ok (.aload_n 0, 1) := by decide +kernel
theorem dX10_load_3 : decode cX10_load 3 = .ok (.getfield 7, 3) := by decide +kernel
theorem dX10_load_6 : decode cX10_load 6 = .ok (.bipush 7, 2) := by decide +kernel
theorem dX10_load_8 : decode cX10_load 8 = .ok (.iaload, 1) := by decide +kernel
theorem dX10_load_9 : decode cX10_load 9 = .ok (.imul, 1) := by decide +kernel
theorem dX10_load_10 : decode cX10_load 10 = .ok (.aload_n 0, 1) := by decide +kernel
theorem dX10_load_11 : decode cX10_load 11 = .ok (.invokevirtual 178, 3) := by decide +kernel
theorem dX10_load_14 : decode cX10_load 14 = .ok (.aload_n 0, 1) := by decide +kernel
theorem dX10_load_15 : decode cX10_load 15 = .ok (.getfield 7, 3) := by decide +kernel
theorem dX10_load_18 : decode cX10_load 18 = .ok (.iconst 1, 1) := by decide +kernel
theorem dX10_load_19 : decode cX10_load 19 = .ok (.iaload, 1) := by decide +kernel
theorem dX10_load_20 : decode cX10_load 20 = .ok (.imul, 1) := by decide +kernel
theorem dX10_load_21 : decode cX10_load 21 = .ok (.idiv, 1) := by decide +kernel
theorem dX10_load_22 : decode cX10_load 22 = .ok (.ireturn, 1) := by decide +kernel
theorem dX10_lists_0 : decode cX10_lists 0 = .ok (.aload_n 0, 1) := by decide +kernel
theorem dX10_lists_1 : decode cX10_lists 1 = .ok (.iconst 0, 1) := by decide +kernel
theorem dX10_lists_2 : decode cX10_lists 2 = .ok (.putfield 181, 3) := by decide +kernel
theorem dX10_lists_5 : decode cX10_lists 5 = .ok (.iconst 0, 1) := by decide +kernel
theorem dX10_lists_6 : decode cX10_lists 6 = .ok (.istore_n 2, 1) := by decide +kernel
theorem dX10_lists_7 : decode cX10_lists 7 = .ok (.iload_n 2, 1) := by decide +kernel
theorem dX10_lists_8 : decode cX10_lists 8 = .ok (.aload_n 0, 1) := by decide +kernel
theorem dX10_lists_9 : decode cX10_lists 9 = .ok (.getfield 7, 3) := by decide +kernel
theorem dX10_lists_12 : decode cX10_lists 12 = .ok (.bipush 7, 2) := by decide +kernel
theorem dX10_lists_14 : decode cX10_lists 14 = .ok (.iaload, 1) := by decide +kernel
theorem dX10_lists_15 : decode cX10_lists 15 = .ok (.if_icmp .ge 103, 3) := by decide +kernel
theorem dX10_lists_18 : decode cX10_lists 18 = .ok (.aload_n 0, 1) := by decide +kernel
theorem dX10_lists_19 : decode cX10_lists 19 = .ok (.getfield 7, 3) := by decide +kernel
theorem dX10_lists_22 : decode cX10_lists 22 = .ok (.sipush 640, 3) := by decide +kernel
theorem dX10_lists_25 : decode cX10_lists 25 = .ok (.iload_n 2, 1) := by decide +kernel
theorem dX10_lists_26 : decode cX10_lists 26 = .ok (.iadd, 1) := by decide +kernel
theorem dX10_lists_27 : decode cX10_lists 27 = .ok (.iaload, 1) := by decide +kernel
theorem dX10_lists_28 : decode cX10_lists 28 = .ok (.iload_n 1, 1) := by decide +kernel
theorem dX10_lists_29 : decode cX10_lists 29 = .ok (.if_icmp .eq 6, 3) := by decide +kernel
theorem dX10_lists_32 : decode cX10_lists 32 = .ok (.goto 80, 3) := by decide +kernel
theorem dX10_lists_35 : decode cX10_lists 35 = .ok (.aload_n 0, 1) := by decide +kernel
theorem dX10_lists_36 : decode cX10_lists 36 = .ok (.getfield 181, 3) := by decide +kernel
theorem dX10_lists_39 : decode cX10_lists 39 = .ok (.istore_n 3, 1) := by decide +kernel
theorem dX10_lists_40 : decode cX10_lists 40 = .ok (.iload_n 3, 1) := by decide +kernel
theorem dX10_lists_41 : decode cX10_lists 41 = .ok (.ifCond .le 54, 3) := by decide +kernel
theorem dX10_lists_44 : decode cX10_lists 44 = .ok (.aload_n 0, 1) := by decide +kernel
theorem dX10_lists_45 : decode cX10_lists 45 = .ok (.getfield 7, 3) := by decide +kernel
theorem dX10_lists_48 : decode cX10_lists 48 = .ok (.sipush 940, 3) := by decide +kernel
theorem dX10_lists_51 : decode cX10_lists 51 = .ok (.aload_n 0, 1) := by decide +kernel
theorem dX10_lists_52 : decode cX10_lists 52 = .ok (.getfield 26, 3) := by decide +kernel
theorem dX10_lists_55 : decode cX10_lists 55 = .ok (.iload_n 3, 1) := by decide +kernel
theorem dX10_lists_56 : decode cX10_lists 56 = .ok (.iconst 1, 1) := by decide +kernel
theorem dX10_lists_57 : decode cX10_lists 57 = .ok (.isub, 1) := by decide +kernel
theorem dX10_lists_58 : decode cX10_lists 58 = .ok (.iaload, 1) := by decide +kernel
theorem dX10_lists_59 : decode cX10_lists 59 = .ok (.iadd, 1) := by decide +kernel
theorem dX10_lists_60 : decode cX10_lists 60 = .ok (.iaload, 1) := by decide +kernel
theorem dX10_lists_61 : decode cX10_lists 61 = .ok (.aload_n 0, 1) := by decide +kernel
theorem dX10_lists_62 : decode cX10_lists 62 = .ok (.getfield 7, 3) := by decide +kernel
theorem dX10_lists_65 : decode cX10_lists 65 = .ok (.sipush 940, 3) := by decide +kernel
theorem dX10_lists_68 : decode cX10_lists 68 = .ok (.iload_n 2, 1) := by decide +kernel
theorem dX10_lists_69 : decode cX10_lists 69 = .ok (.iadd, 1) := by decide +kernel
theorem dX10_lists_70 : decode cX10_lists 70 = .ok (.iaload, 1) := by decide +kernel
theorem dX10_lists_71 : decode cX10_lists 71 = .ok (.if_icmp .le 24, 3) := by decide +kernel
theorem dX10_lists_74 : decode cX10_lists 74 = .ok (.aload_n 0, 1) := by decide +kernel
theorem dX10_lists_75 : decode cX10_lists 75 = .ok (.getfield 26, 3) := by decide +kernel
theorem dX10_lists_78 : decode cX10_lists 78 = .ok (.iload_n 3, 1) := by decide +kernel
theorem dX10_lists_79 : decode cX10_lists 79 = .ok (.aload_n 0, 1) := by decide +kernel
theorem dX10_lists_80 : decode cX10_lists 80 = .ok (.getfield 26, 3) := by decide +kernel
theorem dX10_lists_83 : decode cX10_lists 83 = .ok (.iload_n 3, 1) := by decide +kernel
theorem dX10_lists_84 : decode cX10_lists 84 = .ok (.iconst 1, 1) := by decide +kernel
theorem dX10_lists_85 : decode cX10_lists 85 = .ok (.isub, 1) := by decide +kernel
theorem dX10_lists_86 : decode cX10_lists 86 = .ok (.iaload, 1) := by decide +kernel
theorem dX10_lists_87 : decode cX10_lists 87 = .ok (.iastore, 1) := by decide +kernel
theorem dX10_lists_88 : decode cX10_lists 88 = .ok (.iload_n 3, 1) := by decide +kernel
theorem dX10_lists_89 : decode cX10_lists 89 = .ok (.iconst 1, 1) := by decide +kernel
theorem dX10_lists_90 : decode cX10_lists 90 = .ok (.isub, 1) := by decide +kernel
theorem dX10_lists_91 : decode cX10_lists 91 = .ok (.istore_n 3, 1) := by decide +kernel
theorem dX10_lists_92 : decode cX10_lists 92 = .ok (.goto (-52), 3) := by decide +kernel
theorem dX10_lists_95 : decode cX10_lists 95 = .ok (.aload_n 0, 1) := by decide +kernel
theorem dX10_lists_96 : decode cX10_lists 96 = .ok (.getfield 26, 3) := by decide +kernel
theorem dX10_lists_99 : decode cX10_lists 99 = .ok (.iload_n 3, 1) := by decide +kernel
theorem dX10_lists_100 : decode cX10_lists 100 = .ok (.iload_n 2, 1) := by decide +kernel
theorem dX10_lists_101 : decode cX10_lists 101 = .ok (.iastore, 1) := by decide +kernel
theorem dX10_lists_102 : decode cX10_lists 102 = .ok (.aload_n 0, 1) := by decide +kernel
theorem dX10_lists_103 : decode cX10_lists 103 = .ok (.aload_n 0, 1) := by decide +kernel
theorem dX10_lists_104 : decode cX10_lists 104 = .ok (.getfield 181, 3) := by decide +kernel
theorem dX10_lists_107 : decode cX10_lists 107 = .ok (.iconst 1, 1) := by decide +kernel
theorem dX10_lists_108 : decode cX10_lists 108 = .ok (.iadd, 1) := by decide +kernel
theorem dX10_lists_109 : decode cX10_lists 109 = .ok (.putfield 181, 3) := by decide +kernel
theorem dX10_lists_112 : decode cX10_lists 112 = .ok (.iinc 2 1, 3) := by decide +kernel
theorem dX10_lists_115 : decode cX10_lists 115 = .ok (.goto (-108), 3) := by decide +kernel
theorem dX10_lists_118 : decode cX10_lists 118 = .ok (.return_, 1) := by decide +kernel
theorem dX10_goesOver_0 : decode cX10_goesOver 0 = .ok (.aload_n 0, 1) := by decide +kernel
theorem dX10_goesOver_1 : decode cX10_goesOver 1 = .ok (.aload_n 0, 1) := by decide +kernel
theorem dX10_goesOver_2 : decode cX10_goesOver 2 = .ok (.getfield 7, 3) := by decide +kernel
theorem dX10_goesOver_5 : decode cX10_goesOver 5 = .ok (.bipush 40, 2) := by decide +kernel
theorem dX10_goesOver_7 : decode cX10_goesOver 7 = .ok (.iload_n 1, 1) := by decide +kernel
theorem dX10_goesOver_8 : decode cX10_goesOver 8 = .ok (.iadd, 1) := by decide +kernel
theorem dX10_goesOver_9 : decode cX10_goesOver 9 = .ok (.iaload, 1) := by decide +kernel
theorem dX10_goesOver_10 : decode cX10_goesOver 10 = .ok (.invokevirtual 184, 3) := by decide +kernel
theorem dX10_goesOver_13 : decode cX10_goesOver 13 = .ok (.iconst 2, 1) := by decide +kernel
theorem dX10_goesOver_14 : decode cX10_goesOver 14 = .ok (.aload_n 0, 1) := by decide +kernel
theorem dX10_goesOver_15 : decode cX10_goesOver 15 = .ok (.iconst 0, 1) := by decide +kernel
theorem dX10_goesOver_16 : decode cX10_goesOver 16 = .ok (.invokevirtual 163, 3) := by decide +kernel
theorem dX10_goesOver_19 : decode cX10_goesOver 19 = .ok (.imul, 1) := by decide +kernel
theorem dX10_goesOver_20 : decode cX10_goesOver 20 = .ok (.irem, 1) := by decide +kernel
theorem dX10_goesOver_21 : decode cX10_goesOver 21 = .ok (.aload_n 0, 1) := by decide +kernel
theorem dX10_goesOver_22 : decode cX10_goesOver 22 = .ok (.getfield 7, 3) := by decide +kernel
theorem dX10_goesOver_25 : decode cX10_goesOver 25 = .ok (.bipush 6, 2) := by decide +kernel
theorem dX10_goesOver_27 : decode cX10_goesOver 27 = .ok (.iaload, 1) := by decide +kernel
theorem dX10_goesOver_28 : decode cX10_goesOver 28 = .ok (.if_icmp .eq 7, 3) := by decide +kernel
theorem dX10_goesOver_31 : decode cX10_goesOver 31 = .ok (.iconst 1, 1) := by decide +kernel
theorem dX10_goesOver_32 : decode cX10_goesOver 32 = .ok (.goto 4, 3) := by decide +kernel
theorem dX10_goesOver_35 : decode cX10_goesOver 35 = .ok (.iconst 0, 1) := by decide +kernel
theorem dX10_goesOver_36 : decode cX10_goesOver 36 = .ok (.ireturn, 1) := by decide +kernel
theorem dX10_splits_0 : decode cX10_splits 0 = .ok (.aload_n 0, 1) := by decide +kernel
theorem dX10_splits_1 : decode cX10_splits 1 = .ok (.getfield 7, 3) := by decide +kernel
theorem dX10_splits_4 : decode cX10_splits 4 = .ok (.bipush 6, 2) := by decide +kernel
theorem dX10_splits_6 : decode cX10_splits 6 = .ok (.iaload, 1) := by decide +kernel
theorem dX10_splits_7 : decode cX10_splits 7 = .ok (.istore_n 1, 1) := by decide +kernel
theorem dX10_splits_8 : decode cX10_splits 8 = .ok (.aload_n 0, 1) := by decide +kernel
theorem dX10_splits_9 : decode cX10_splits 9 = .ok (.invokevirtual 178, 3) := by decide +kernel
theorem dX10_splits_12 : decode cX10_splits 12 = .ok (.istore_n 2, 1) := by decide +kernel
theorem dX10_splits_13 : decode cX10_splits 13 = .ok (.iconst 0, 1) := by decide +kernel
theorem dX10_splits_14 : decode cX10_splits 14 = .ok (.istore_n 3, 1) := by decide +kernel
theorem dX10_splits_15 : decode cX10_splits 15 = .ok (.aload_n 0, 1) := by decide +kernel
theorem dX10_splits_16 : decode cX10_splits 16 = .ok (.getfield 7, 3) := by decide +kernel
theorem dX10_splits_19 : decode cX10_splits 19 = .ok (.bipush 8, 2) := by decide +kernel
theorem dX10_splits_21 : decode cX10_splits 21 = .ok (.aload_n 0, 1) := by decide +kernel
theorem dX10_splits_22 : decode cX10_splits 22 = .ok (.getfield 7, 3) := by decide +kernel
theorem dX10_splits_25 : decode cX10_splits 25 = .ok (.bipush 8, 2) := by decide +kernel
theorem dX10_splits_27 : decode cX10_splits 27 = .ok (.iaload, 1) := by decide +kernel
theorem dX10_splits_28 : decode cX10_splits 28 = .ok (.aload_n 0, 1) := by decide +kernel
theorem dX10_splits_29 : decode cX10_splits 29 = .ok (.iload_n 1, 1) := by decide +kernel
theorem dX10_splits_30 : decode cX10_splits 30 = .ok (.invokevirtual 172, 3) := by decide +kernel
theorem dX10_splits_33 : decode cX10_splits 33 = .ok (.iadd, 1) := by decide +kernel
theorem dX10_splits_34 : decode cX10_splits 34 = .ok (.iastore, 1) := by decide +kernel
theorem dX10_splits_35 : decode cX10_splits 35 = .ok (.aload_n 0, 1) := by decide +kernel
theorem dX10_splits_36 : decode cX10_splits 36 = .ok (.iload_n 1, 1) := by decide +kernel
theorem dX10_splits_37 : decode cX10_splits 37 = .ok (.invokevirtual 187, 3) := by decide +kernel
theorem dX10_splits_40 : decode cX10_splits 40 = .ok (.aload_n 0, 1) := by decide +kernel
theorem dX10_splits_41 : decode cX10_splits 41 = .ok (.iload_n 1, 1) := by decide +kernel
theorem dX10_splits_42 : decode cX10_splits 42 = .ok (.iconst 1, 1) := by decide +kernel
theorem dX10_splits_43 : decode cX10_splits 43 = .ok (.invokevirtual 190, 3) := by decide +kernel
theorem dX10_splits_46 : decode cX10_splits 46 = .ok (.aload_n 0, 1) := by decide +kernel
theorem dX10_splits_47 : decode cX10_splits 47 = .ok (.iload_n 2, 1) := by decide +kernel
theorem dX10_splits_48 : decode cX10_splits 48 = .ok (.iconst 0, 1) := by decide +kernel
theorem dX10_splits_49 : decode cX10_splits 49 = .ok (.invokevirtual 175, 3) := by decide +kernel
theorem dX10_splits_52 : decode cX10_splits 52 = .ok (.iconst 0, 1) := by decide +kernel
theorem dX10_splits_53 : decode cX10_splits 53 = .ok (.istore 4, 2) := by decide +kernel
theorem dX10_splits_55 : decode cX10_splits 55 = .ok (.iload 4, 2) := by decide +kernel
theorem dX10_splits_57 : decode cX10_splits 57 = .ok (.aload_n 0, 1) := by decide +kernel
theorem dX10_splits_58 : decode cX10_splits 58 = .ok (.getfield 181, 3) := by decide +kernel
theorem dX10_splits_61 : decode cX10_splits 61 = .ok (.if_icmp .ge 27, 3) := by decide +kernel
theorem dX10_splits_64 : decode cX10_splits 64 = .ok (.aload_n 0, 1) := by decide +kernel
theorem dX10_splits_65 : decode cX10_splits 65 = .ok (.aload_n 0, 1) := by decide +kernel
theorem dX10_splits_66 : decode cX10_splits 66 = .ok (.getfield 26, 3) := by decide +kernel
theorem dX10_splits_69 : decode cX10_splits 69 = .ok (.iload 4, 2) := by decide +kernel
theorem dX10_splits_71 : decode cX10_splits 71 = .ok (.iaload, 1) := by decide +kernel
theorem dX10_splits_72 : decode cX10_splits 72 = .ok (.invokevirtual 193, 3) := by decide +kernel
theorem dX10_splits_75 : decode cX10_splits 75 = .ok (.ifCond .eq 7, 3) := by decide +kernel
theorem dX10_splits_78 : decode cX10_splits 78 = .ok (.iload_n 3, 1) := by decide +kernel
theorem dX10_splits_79 : decode cX10_splits 79 = .ok (.iconst 1, 1) := by decide +kernel
theorem dX10_splits_80 : decode cX10_splits 80 = .ok (.iadd, 1) := by decide +kernel
theorem dX10_splits_81 : decode cX10_splits 81 = .ok (.istore_n 3, 1) := by decide +kernel
theorem dX10_splits_82 : decode cX10_splits 82 = .ok (.iinc 4 1, 3) := by decide +kernel
theorem dX10_splits_85 : decode cX10_splits 85 = .ok (.goto (-30), 3) := by decide +kernel
theorem dX10_splits_88 : decode cX10_splits 88 = .ok (.aload_n 0, 1) := by decide +kernel
theorem dX10_splits_89 : decode cX10_splits 89 = .ok (.iload_n 1, 1) := by decide +kernel
theorem dX10_splits_90 : decode cX10_splits 90 = .ok (.aload_n 0, 1) := by decide +kernel
theorem dX10_splits_91 : decode cX10_splits 91 = .ok (.getfield 181, 3) := by decide +kernel
theorem dX10_splits_94 : decode cX10_splits 94 = .ok (.iload_n 3, 1) := by decide +kernel
theorem dX10_splits_95 : decode cX10_splits 95 = .ok (.isub, 1) := by decide +kernel
theorem dX10_splits_96 : decode cX10_splits 96 = .ok (.invokevirtual 196, 3) := by decide +kernel
theorem dX10_splits_99 : decode cX10_splits 99 = .ok (.aload_n 0, 1) := by decide +kernel
theorem dX10_splits_100 : decode cX10_splits 100 = .ok (.iload_n 2, 1) := by decide +kernel
theorem dX10_splits_101 : decode cX10_splits 101 = .ok (.iload_n 3, 1) := by decide +kernel
theorem dX10_splits_102 : decode cX10_splits 102 = .ok (.invokevirtual 196, 3) := by decide +kernel
theorem dX10_splits_105 : decode cX10_splits 105 = .ok (.iconst 0, 1) := by decide +kernel
theorem dX10_splits_106 : decode cX10_splits 106 = .ok (.istore 4, 2) := by decide +kernel
theorem dX10_splits_108 : decode cX10_splits 108 = .ok (.iload 4, 2) := by decide +kernel
theorem dX10_splits_110 : decode cX10_splits 110 = .ok (.aload_n 0, 1) := by decide +kernel
theorem dX10_splits_111 : decode cX10_splits 111 = .ok (.getfield 181, 3) := by decide +kernel
theorem dX10_splits_114 : decode cX10_splits 114 = .ok (.if_icmp .ge 39, 3) := by decide +kernel
theorem dX10_splits_117 : decode cX10_splits 117 = .ok (.aload_n 0, 1) := by decide +kernel
theorem dX10_splits_118 : decode cX10_splits 118 = .ok (.aload_n 0, 1) := by decide +kernel
theorem dX10_splits_119 : decode cX10_splits 119 = .ok (.getfield 26, 3) := by decide +kernel
theorem dX10_splits_122 : decode cX10_splits 122 = .ok (.iload 4, 2) := by decide +kernel
theorem dX10_splits_124 : decode cX10_splits 124 = .ok (.iaload, 1) := by decide +kernel
theorem dX10_splits_125 : decode cX10_splits 125 = .ok (.aload_n 0, 1) := by decide +kernel
theorem dX10_splits_126 : decode cX10_splits 126 = .ok (.aload_n 0, 1) := by decide +kernel
theorem dX10_splits_127 : decode cX10_splits 127 = .ok (.getfield 26, 3) := by decide +kernel
theorem dX10_splits_130 : decode cX10_splits 130 = .ok (.iload 4, 2) := by decide +kernel
theorem dX10_splits_132 : decode cX10_splits 132 = .ok (.iaload, 1) := by decide +kernel
theorem dX10_splits_133 : decode cX10_splits 133 = .ok (.invokevirtual 193, 3) := by decide +kernel
theorem dX10_splits_136 : decode cX10_splits 136 = .ok (.ifCond .eq 7, 3) := by decide +kernel
theorem dX10_splits_139 : decode cX10_splits 139 = .ok (.iload_n 2, 1) := by decide +kernel
theorem dX10_splits_140 : decode cX10_splits 140 = .ok (.goto 4, 3) := by decide +kernel
theorem dX10_splits_143 : decode cX10_splits 143 = .ok (.iload_n 1, 1) := by decide +kernel
theorem dX10_splits_144 : decode cX10_splits 144 = .ok (.invokevirtual 199, 3) := by decide +kernel
theorem dX10_splits_147 : decode cX10_splits 147 = .ok (.iinc 4 1, 3) := by decide +kernel
theorem dX10_splits_150 : decode cX10_splits 150 = .ok (.goto (-42), 3) := by decide +kernel
theorem dX10_splits_153 : decode cX10_splits 153 = .ok (.aload_n 0, 1) := by decide +kernel
theorem dX10_splits_154 : decode cX10_splits 154 = .ok (.getfield 7, 3) := by decide +kernel
theorem dX10_splits_157 : decode cX10_splits 157 = .ok (.bipush 9, 2) := by decide +kernel
theorem dX10_splits_159 : decode cX10_splits 159 = .ok (.aload_n 0, 1) := by decide +kernel
theorem dX10_splits_160 : decode cX10_splits 160 = .ok (.getfield 7, 3) := by decide +kernel
theorem dX10_splits_163 : decode cX10_splits 163 = .ok (.bipush 9, 2) := by decide +kernel
theorem dX10_splits_165 : decode cX10_splits 165 = .ok (.iaload, 1) := by decide +kernel
theorem dX10_splits_166 : decode cX10_splits 166 = .ok (.aload_n 0, 1) := by decide +kernel
theorem dX10_splits_167 : decode cX10_splits 167 = .ok (.iload_n 1, 1) := by decide +kernel
theorem dX10_splits_168 : decode cX10_splits 168 = .ok (.invokevirtual 172, 3) := by decide +kernel
theorem dX10_splits_171 : decode cX10_splits 171 = .ok (.iadd, 1) := by decide +kernel
theorem dX10_splits_172 : decode cX10_splits 172 = .ok (.aload_n 0, 1) := by decide +kernel
theorem dX10_splits_173 : decode cX10_splits 173 = .ok (.iload_n 2, 1) := by decide +kernel
theorem dX10_splits_174 : decode cX10_splits 174 = .ok (.invokevirtual 172, 3) := by decide +kernel
theorem dX10_splits_177 : decode cX10_splits 177 = .ok (.iadd, 1) := by decide +kernel
theorem dX10_splits_178 : decode cX10_splits 178 = .ok (.iastore, 1) := by decide +kernel
theorem dX10_splits_179 : decode cX10_splits 179 = .ok (.aload_n 0, 1) := by decide +kernel
theorem dX10_splits_180 : decode cX10_splits 180 = .ok (.getfield 7, 3) := by decide +kernel
theorem dX10_splits_183 : decode cX10_splits 183 = .ok (.bipush 6, 2) := by decide +kernel
theorem dX10_splits_185 : decode cX10_splits 185 = .ok (.iload_n 1, 1) := by decide +kernel
theorem dX10_splits_186 : decode cX10_splits 186 = .ok (.iconst 1, 1) := by decide +kernel
theorem dX10_splits_187 : decode cX10_splits 187 = .ok (.iadd, 1) := by decide +kernel
theorem dX10_splits_188 : decode cX10_splits 188 = .ok (.iastore, 1) := by decide +kernel
theorem dX10_splits_189 : decode cX10_splits 189 = .ok (.aload_n 0, 1) := by decide +kernel
theorem dX10_splits_190 : decode cX10_splits 190 = .ok (.getfield 7, 3) := by decide +kernel
theorem dX10_splits_193 : decode cX10_splits 193 = .ok (.bipush 6, 2) := by decide +kernel
theorem dX10_splits_195 : decode cX10_splits 195 = .ok (.iaload, 1) := by decide +kernel
theorem dX10_splits_196 : decode cX10_splits 196 = .ok (.aload_n 0, 1) := by decide +kernel
theorem dX10_splits_197 : decode cX10_splits 197 = .ok (.iconst 0, 1) := by decide +kernel
theorem dX10_splits_198 : decode cX10_splits 198 = .ok (.invokevirtual 163, 3) := by decide +kernel
theorem dX10_splits_201 : decode cX10_splits 201 = .ok (.if_icmp .ne 25, 3) := by decide +kernel
theorem dX10_splits_204 : decode cX10_splits 204 = .ok (.aload_n 0, 1) := by decide +kernel
theorem dX10_splits_205 : decode cX10_splits 205 = .ok (.getfield 7, 3) := by decide +kernel
theorem dX10_splits_208 : decode cX10_splits 208 = .ok (.iconst 5, 1) := by decide +kernel
theorem dX10_splits_209 : decode cX10_splits 209 = .ok (.aload_n 0, 1) := by decide +kernel
theorem dX10_splits_210 : decode cX10_splits 210 = .ok (.getfield 7, 3) := by decide +kernel
theorem dX10_splits_213 : decode cX10_splits 213 = .ok (.iconst 5, 1) := by decide +kernel
theorem dX10_splits_214 : decode cX10_splits 214 = .ok (.iaload, 1) := by decide +kernel
theorem dX10_splits_215 : decode cX10_splits 215 = .ok (.iconst 1, 1) := by decide +kernel
theorem dX10_splits_216 : decode cX10_splits 216 = .ok (.iadd, 1) := by decide +kernel
theorem dX10_splits_217 : decode cX10_splits 217 = .ok (.iastore, 1) := by decide +kernel
theorem dX10_splits_218 : decode cX10_splits 218 = .ok (.aload_n 0, 1) := by decide +kernel
theorem dX10_splits_219 : decode cX10_splits 219 = .ok (.getfield 7, 3) := by decide +kernel
theorem dX10_splits_222 : decode cX10_splits 222 = .ok (.bipush 6, 2) := by decide +kernel
theorem dX10_splits_224 : decode cX10_splits 224 = .ok (.iconst 0, 1) := by decide +kernel
theorem dX10_splits_225 : decode cX10_splits 225 = .ok (.iastore, 1) := by decide +kernel
theorem dX10_splits_226 : decode cX10_splits 226 = .ok (.aload_n 0, 1) := by decide +kernel
theorem dX10_splits_227 : decode cX10_splits 227 = .ok (.getfield 7, 3) := by decide +kernel
theorem dX10_splits_230 : decode cX10_splits 230 = .ok (.bipush 10, 2) := by decide +kernel
theorem dX10_splits_232 : decode cX10_splits 232 = .ok (.aload_n 0, 1) := by decide +kernel
theorem dX10_splits_233 : decode cX10_splits 233 = .ok (.getfield 7, 3) := by decide +kernel
theorem dX10_splits_236 : decode cX10_splits 236 = .ok (.bipush 10, 2) := by decide +kernel
theorem dX10_splits_238 : decode cX10_splits 238 = .ok (.iaload, 1) := by decide +kernel
theorem dX10_splits_239 : decode cX10_splits 239 = .ok (.iconst 1, 1) := by decide +kernel
theorem dX10_splits_240 : decode cX10_splits 240 = .ok (.iadd, 1) := by decide +kernel
theorem dX10_splits_241 : decode cX10_splits 241 = .ok (.iastore, 1) := by decide +kernel
theorem dX10_splits_242 : decode cX10_splits 242 = .ok (.iload_n 3, 1) := by decide +kernel
theorem dX10_splits_243 : decode cX10_splits 243 = .ok (.ireturn, 1) := by decide +kernel
theorem dX10_comesTogether_0 : decode cX10_comesTogether 0 = .ok (.aload_n 0, 1) := by decide +kernel
theorem dX10_comesTogether_1 : decode cX10_comesTogether 1 = .ok (.invokevirtual 178, 3) := by decide +kernel
theorem dX10_comesTogether_4 : decode cX10_comesTogether 4 = .ok (.iconst 1, 1) := by decide +kernel
theorem dX10_comesTogether_5 : decode cX10_comesTogether 5 = .ok (.isub, 1) := by decide +kernel
theorem dX10_comesTogether_6 : decode cX10_comesTogether 6 = .ok (.istore_n 1, 1) := by decide +kernel
theorem dX10_comesTogether_7 : decode cX10_comesTogether 7 = .ok (.aload_n 0, 1) := by decide +kernel
theorem dX10_comesTogether_8 : decode cX10_comesTogether 8 = .ok (.getfield 7, 3) := by decide +kernel
theorem dX10_comesTogether_11 : decode cX10_comesTogether 11 = .ok (.bipush 6, 2) := by decide +kernel
theorem dX10_comesTogether_13 : decode cX10_comesTogether 13 = .ok (.iaload, 1) := by decide +kernel
theorem dX10_comesTogether_14 : decode cX10_comesTogether 14 = .ok (.ifCond .ne 29, 3) := by decide +kernel
theorem dX10_comesTogether_17 : decode cX10_comesTogether 17 = .ok (.aload_n 0, 1) := by decide +kernel
theorem dX10_comesTogether_18 : decode cX10_comesTogether 18 = .ok (.getfield 7, 3) := by decide +kernel
theorem dX10_comesTogether_21 : decode cX10_comesTogether 21 = .ok (.iconst 5, 1) := by decide +kernel
theorem dX10_comesTogether_22 : decode cX10_comesTogether 22 = .ok (.aload_n 0, 1) := by decide +kernel
theorem dX10_comesTogether_23 : decode cX10_comesTogether 23 = .ok (.getfield 7, 3) := by decide +kernel
theorem dX10_comesTogether_26 : decode cX10_comesTogether 26 = .ok (.iconst 5, 1) := by decide +kernel
theorem dX10_comesTogether_27 : decode cX10_comesTogether 27 = .ok (.iaload, 1) := by decide +kernel
theorem dX10_comesTogether_28 : decode cX10_comesTogether 28 = .ok (.iconst 1, 1) := by decide +kernel
theorem dX10_comesTogether_29 : decode cX10_comesTogether 29 = .ok (.isub, 1) := by decide +kernel
theorem dX10_comesTogether_30 : decode cX10_comesTogether 30 = .ok (.iastore, 1) := by decide +kernel
theorem dX10_comesTogether_31 : decode cX10_comesTogether 31 = .ok (.aload_n 0, 1) := by decide +kernel
theorem dX10_comesTogether_32 : decode cX10_comesTogether 32 = .ok (.getfield 7, 3) := by decide +kernel
theorem dX10_comesTogether_35 : decode cX10_comesTogether 35 = .ok (.bipush 6, 2) := by decide +kernel
theorem dX10_comesTogether_37 : decode cX10_comesTogether 37 = .ok (.aload_n 0, 1) := by decide +kernel
theorem dX10_comesTogether_38 : decode cX10_comesTogether 38 = .ok (.iconst 0, 1) := by decide +kernel
theorem dX10_comesTogether_39 : decode cX10_comesTogether 39 = .ok (.invokevirtual 163, 3) := by decide +kernel
theorem dX10_comesTogether_42 : decode cX10_comesTogether 42 = .ok (.iastore, 1) := by decide +kernel
theorem dX10_comesTogether_43 : decode cX10_comesTogether 43 = .ok (.aload_n 0, 1) := by decide +kernel
theorem dX10_comesTogether_44 : decode cX10_comesTogether 44 = .ok (.getfield 7, 3) := by decide +kernel
theorem dX10_comesTogether_47 : decode cX10_comesTogether 47 = .ok (.bipush 6, 2) := by decide +kernel
theorem dX10_comesTogether_49 : decode cX10_comesTogether 49 = .ok (.aload_n 0, 1) := by decide +kernel
theorem dX10_comesTogether_50 : decode cX10_comesTogether 50 = .ok (.getfield 7, 3) := by decide +kernel
theorem dX10_comesTogether_53 : decode cX10_comesTogether 53 = .ok (.bipush 6, 2) := by decide +kernel
theorem dX10_comesTogether_55 : decode cX10_comesTogether 55 = .ok (.iaload, 1) := by decide +kernel
theorem dX10_comesTogether_56 : decode cX10_comesTogether 56 = .ok (.iconst 1, 1) := by decide +kernel
theorem dX10_comesTogether_57 : decode cX10_comesTogether 57 = .ok (.isub, 1) := by decide +kernel
theorem dX10_comesTogether_58 : decode cX10_comesTogether 58 = .ok (.iastore, 1) := by decide +kernel
theorem dX10_comesTogether_59 : decode cX10_comesTogether 59 = .ok (.aload_n 0, 1) := by decide +kernel
theorem dX10_comesTogether_60 : decode cX10_comesTogether 60 = .ok (.getfield 7, 3) := by decide +kernel
theorem dX10_comesTogether_63 : decode cX10_comesTogether 63 = .ok (.bipush 6, 2) := by decide +kernel
theorem dX10_comesTogether_65 : decode cX10_comesTogether 65 = .ok (.iaload, 1) := by decide +kernel
theorem dX10_comesTogether_66 : decode cX10_comesTogether 66 = .ok (.istore_n 2, 1) := by decide +kernel
theorem dX10_comesTogether_67 : decode cX10_comesTogether 67 = .ok (.aload_n 0, 1) := by decide +kernel
theorem dX10_comesTogether_68 : decode cX10_comesTogether 68 = .ok (.getfield 7, 3) := by decide +kernel
theorem dX10_comesTogether_71 : decode cX10_comesTogether 71 = .ok (.bipush 8, 2) := by decide +kernel
theorem dX10_comesTogether_73 : decode cX10_comesTogether 73 = .ok (.aload_n 0, 1) := by decide +kernel
theorem dX10_comesTogether_74 : decode cX10_comesTogether 74 = .ok (.getfield 7, 3) := by decide +kernel
theorem dX10_comesTogether_77 : decode cX10_comesTogether 77 = .ok (.bipush 8, 2) := by decide +kernel
theorem dX10_comesTogether_79 : decode cX10_comesTogether 79 = .ok (.iaload, 1) := by decide +kernel
theorem dX10_comesTogether_80 : decode cX10_comesTogether 80 = .ok (.aload_n 0, 1) := by decide +kernel
theorem dX10_comesTogether_81 : decode cX10_comesTogether 81 = .ok (.iload_n 2, 1) := by decide +kernel
theorem dX10_comesTogether_82 : decode cX10_comesTogether 82 = .ok (.invokevirtual 172, 3) := by decide +kernel
theorem dX10_comesTogether_85 : decode cX10_comesTogether 85 = .ok (.iadd, 1) := by decide +kernel
theorem dX10_comesTogether_86 : decode cX10_comesTogether 86 = .ok (.aload_n 0, 1) := by decide +kernel
theorem dX10_comesTogether_87 : decode cX10_comesTogether 87 = .ok (.iload_n 1, 1) := by decide +kernel
theorem dX10_comesTogether_88 : decode cX10_comesTogether 88 = .ok (.invokevirtual 172, 3) := by decide +kernel
theorem dX10_comesTogether_91 : decode cX10_comesTogether 91 = .ok (.iadd, 1) := by decide +kernel
theorem dX10_comesTogether_92 : decode cX10_comesTogether 92 = .ok (.iastore, 1) := by decide +kernel
theorem dX10_comesTogether_93 : decode cX10_comesTogether 93 = .ok (.aload_n 0, 1) := by decide +kernel
theorem dX10_comesTogether_94 : decode cX10_comesTogether 94 = .ok (.iload_n 1, 1) := by decide +kernel
theorem dX10_comesTogether_95 : decode cX10_comesTogether 95 = .ok (.invokevirtual 187, 3) := by decide +kernel
theorem dX10_comesTogether_98 : decode cX10_comesTogether 98 = .ok (.aload_n 0, 1) := by decide +kernel
theorem dX10_comesTogether_99 : decode cX10_comesTogether 99 = .ok (.iload_n 1, 1) := by decide +kernel
theorem dX10_comesTogether_100 : decode cX10_comesTogether 100 = .ok (.iconst 0, 1) := by decide +kernel
theorem dX10_comesTogether_101 : decode cX10_comesTogether 101 = .ok (.invokevirtual 190, 3) := by decide +kernel
theorem dX10_comesTogether_104 : decode cX10_comesTogether 104 = .ok (.aload_n 0, 1) := by decide +kernel
theorem dX10_comesTogether_105 : decode cX10_comesTogether 105 = .ok (.iload_n 2, 1) := by decide +kernel
theorem dX10_comesTogether_106 : decode cX10_comesTogether 106 = .ok (.aload_n 0, 1) := by decide +kernel
theorem dX10_comesTogether_107 : decode cX10_comesTogether 107 = .ok (.iload_n 2, 1) := by decide +kernel
theorem dX10_comesTogether_108 : decode cX10_comesTogether 108 = .ok (.invokevirtual 202, 3) := by decide +kernel
theorem dX10_comesTogether_111 : decode cX10_comesTogether 111 = .ok (.aload_n 0, 1) := by decide +kernel
theorem dX10_comesTogether_112 : decode cX10_comesTogether 112 = .ok (.getfield 181, 3) := by decide +kernel
theorem dX10_comesTogether_115 : decode cX10_comesTogether 115 = .ok (.iadd, 1) := by decide +kernel
theorem dX10_comesTogether_116 : decode cX10_comesTogether 116 = .ok (.invokevirtual 196, 3) := by decide +kernel
theorem dX10_comesTogether_119 : decode cX10_comesTogether 119 = .ok (.iconst 0, 1) := by decide +kernel
theorem dX10_comesTogether_120 : decode cX10_comesTogether 120 = .ok (.istore_n 3, 1) := by decide +kernel
theorem dX10_comesTogether_121 : decode cX10_comesTogether 121 = .ok (.iload_n 3, 1) := by decide +kernel
theorem dX10_comesTogether_122 : decode cX10_comesTogether 122 = .ok (.aload_n 0, 1) := by decide +kernel
theorem dX10_comesTogether_123 : decode cX10_comesTogether 123 = .ok (.getfield 181, 3) := by decide +kernel
theorem dX10_comesTogether_126 : decode cX10_comesTogether 126 = .ok (.if_icmp .ge 20, 3) := by decide +kernel
theorem dX10_comesTogether_129 : decode cX10_comesTogether 129 = .ok (.aload_n 0, 1) := by decide +kernel
theorem dX10_comesTogether_130 : decode cX10_comesTogether 130 = .ok (.aload_n 0, 1) := by decide +kernel
theorem dX10_comesTogether_131 : decode cX10_comesTogether 131 = .ok (.getfield 26, 3) := by decide +kernel
theorem dX10_comesTogether_134 : decode cX10_comesTogether 134 = .ok (.iload_n 3, 1) := by decide +kernel
theorem dX10_comesTogether_135 : decode cX10_comesTogether 135 = .ok (.iaload, 1) := by decide +kernel
theorem dX10_comesTogether_136 : decode cX10_comesTogether 136 = .ok (.iload_n 2, 1) := by decide +kernel
theorem dX10_comesTogether_137 : decode cX10_comesTogether 137 = .ok (.invokevirtual 199, 3) := by decide +kernel
theorem dX10_comesTogether_140 : decode cX10_comesTogether 140 = .ok (.iinc 3 1, 3) := by decide +kernel
theorem dX10_comesTogether_143 : decode cX10_comesTogether 143 = .ok (.goto (-22), 3) := by decide +kernel
theorem dX10_comesTogether_146 : decode cX10_comesTogether 146 = .ok (.aload_n 0, 1) := by decide +kernel
theorem dX10_comesTogether_147 : decode cX10_comesTogether 147 = .ok (.getfield 7, 3) := by decide +kernel
theorem dX10_comesTogether_150 : decode cX10_comesTogether 150 = .ok (.bipush 9, 2) := by decide +kernel
theorem dX10_comesTogether_152 : decode cX10_comesTogether 152 = .ok (.aload_n 0, 1) := by decide +kernel
theorem dX10_comesTogether_153 : decode cX10_comesTogether 153 = .ok (.getfield 7, 3) := by decide +kernel
theorem dX10_comesTogether_156 : decode cX10_comesTogether 156 = .ok (.bipush 9, 2) := by decide +kernel
theorem dX10_comesTogether_158 : decode cX10_comesTogether 158 = .ok (.iaload, 1) := by decide +kernel
theorem dX10_comesTogether_159 : decode cX10_comesTogether 159 = .ok (.aload_n 0, 1) := by decide +kernel
theorem dX10_comesTogether_160 : decode cX10_comesTogether 160 = .ok (.iload_n 2, 1) := by decide +kernel
theorem dX10_comesTogether_161 : decode cX10_comesTogether 161 = .ok (.invokevirtual 172, 3) := by decide +kernel
theorem dX10_comesTogether_164 : decode cX10_comesTogether 164 = .ok (.iadd, 1) := by decide +kernel
theorem dX10_comesTogether_165 : decode cX10_comesTogether 165 = .ok (.iastore, 1) := by decide +kernel
theorem dX10_comesTogether_166 : decode cX10_comesTogether 166 = .ok (.aload_n 0, 1) := by decide +kernel
theorem dX10_comesTogether_167 : decode cX10_comesTogether 167 = .ok (.getfield 7, 3) := by decide +kernel
theorem dX10_comesTogether_170 : decode cX10_comesTogether 170 = .ok (.bipush 11, 2) := by decide +kernel
theorem dX10_comesTogether_172 : decode cX10_comesTogether 172 = .ok (.aload_n 0, 1) := by decide +kernel
theorem dX10_comesTogether_173 : decode cX10_comesTogether 173 = .ok (.getfield 7, 3) := by decide +kernel
theorem dX10_comesTogether_176 : decode cX10_comesTogether 176 = .ok (.bipush 11, 2) := by decide +kernel
theorem dX10_comesTogether_178 : decode cX10_comesTogether 178 = .ok (.iaload, 1) := by decide +kernel
theorem dX10_comesTogether_179 : decode cX10_comesTogether 179 = .ok (.iconst 1, 1) := by decide +kernel
theorem dX10_comesTogether_180 : decode cX10_comesTogether 180 = .ok (.iadd, 1) := by decide +kernel
theorem dX10_comesTogether_181 : decode cX10_comesTogether 181 = .ok (.iastore, 1) := by decide +kernel
theorem dX10_comesTogether_182 : decode cX10_comesTogether 182 = .ok (.aload_n 0, 1) := by decide +kernel
theorem dX10_comesTogether_183 : decode cX10_comesTogether 183 = .ok (.getfield 181, 3) := by decide +kernel
theorem dX10_comesTogether_186 : decode cX10_comesTogether 186 = .ok (.ireturn, 1) := by decide +kernel
theorem dX10_split_0 : decode cX10_split 0 = .ok (.aload_n 0, 1) := by decide +kernel
theorem dX10_split_1 : decode cX10_split 1 = .ok (.invokevirtual 178, 3) := by decide +kernel
theorem dX10_split_4 : decode cX10_split 4 = .ok (.bipush 64, 2) := by decide +kernel
theorem dX10_split_6 : decode cX10_split 6 = .ok (.if_icmp .ne 8, 3) := by decide +kernel
theorem dX10_split_9 : decode cX10_split 9 = .ok (.bipush (-3), 2) := by decide +kernel
theorem dX10_split_11 : decode cX10_split 11 = .ok (.goto 7, 3) := by decide +kernel
theorem dX10_split_14 : decode cX10_split 14 = .ok (.aload_n 0, 1) := by decide +kernel
theorem dX10_split_15 : decode cX10_split 15 = .ok (.invokevirtual 205, 3) := by decide +kernel
theorem dX10_split_18 : decode cX10_split 18 = .ok (.ireturn, 1) := by decide +kernel
theorem dX10_join_0 : decode cX10_join 0 = .ok (.aload_n 0, 1) := by decide +kernel
theorem dX10_join_1 : decode cX10_join 1 = .ok (.invokevirtual 178, 3) := by decide +kernel
theorem dX10_join_4 : decode cX10_join 4 = .ok (.aload_n 0, 1) := by decide +kernel
theorem dX10_join_5 : decode cX10_join 5 = .ok (.getfield 7, 3) := by decide +kernel
theorem dX10_join_8 : decode cX10_join 8 = .ok (.iconst 0, 1) := by decide +kernel
theorem dX10_join_9 : decode cX10_join 9 = .ok (.iaload, 1) := by decide +kernel
theorem dX10_join_10 : decode cX10_join 10 = .ok (.if_icmp .ne 8, 3) := by decide +kernel
theorem dX10_join_13 : decode cX10_join 13 = .ok (.bipush (-3), 2) := by decide +kernel
theorem dX10_join_15 : decode cX10_join 15 = .ok (.goto 7, 3) := by decide +kernel
theorem dX10_join_18 : decode cX10_join 18 = .ok (.aload_n 0, 1) := by decide +kernel
theorem dX10_join_19 : decode cX10_join 19 = .ok (.invokevirtual 208, 3) := by decide +kernel
theorem dX10_join_22 : decode cX10_join 22 = .ok (.ireturn, 1) := by decide +kernel
theorem dX10_isKey_0 : decode cX10_isKey 0 = .ok (.iload_n 0, 1) := by decide +kernel
theorem dX10_isKey_1 : decode cX10_isKey 1 = .ok (.iconst 0, 1) := by decide +kernel
theorem dX10_isKey_2 : decode cX10_isKey 2 = .ok (.ldc 129, 2) := by decide +kernel
theorem dX10_isKey_4 : decode cX10_isKey 4 = .ok (.invokestatic 67, 3) := by decide +kernel
theorem dX10_isKey_7 : decode cX10_isKey 7 = .ok (.ireturn, 1) := by decide +kernel
theorem dX10_readsOf_0 : decode cX10_readsOf 0 = .ok (.aload_n 0, 1) := by decide +kernel
theorem dX10_readsOf_1 : decode cX10_readsOf 1 = .ok (.iload_n 1, 1) := by decide +kernel
theorem dX10_readsOf_2 : decode cX10_readsOf 2 = .ok (.invokevirtual 169, 3) := by decide +kernel
theorem dX10_readsOf_5 : decode cX10_readsOf 5 = .ok (.aload_n 0, 1) := by decide +kernel
theorem dX10_readsOf_6 : decode cX10_readsOf 6 = .ok (.getfield 7, 3) := by decide +kernel
theorem dX10_readsOf_9 : decode cX10_readsOf 9 = .ok (.iconst 1, 1) := by decide +kernel
theorem dX10_readsOf_10 : decode cX10_readsOf 10 = .ok (.iaload, 1) := by decide +kernel
theorem dX10_readsOf_11 : decode cX10_readsOf 11 = .ok (.idiv, 1) := by decide +kernel
theorem dX10_readsOf_12 : decode cX10_readsOf 12 = .ok (.iconst 1, 1) := by decide +kernel
theorem dX10_readsOf_13 : decode cX10_readsOf 13 = .ok (.iadd, 1) := by decide +kernel
theorem dX10_readsOf_14 : decode cX10_readsOf 14 = .ok (.ireturn, 1) := by decide +kernel
theorem dX10_findReads_0 : decode cX10_findReads 0 = .ok (.aload_n 0, 1) := by decide +kernel
theorem dX10_findReads_1 : decode cX10_findReads 1 = .ok (.iconst 0, 1) := by decide +kernel
theorem dX10_findReads_2 : decode cX10_findReads 2 = .ok (.iload_n 1, 1) := by decide +kernel
theorem dX10_findReads_3 : decode cX10_findReads 3 = .ok (.invokevirtual 211, 3) := by decide +kernel
theorem dX10_findReads_6 : decode cX10_findReads 6 = .ok (.istore_n 2, 1) := by decide +kernel
theorem dX10_findReads_7 : decode cX10_findReads 7 = .ok (.iload_n 2, 1) := by decide +kernel
theorem dX10_findReads_8 : decode cX10_findReads 8 = .ok (.iconst (-1), 1) := by decide +kernel
theorem dX10_findReads_9 : decode cX10_findReads 9 = .ok (.if_icmp .ne 15, 3) := by decide +kernel
theorem dX10_findReads_12 : decode cX10_findReads 12 = .ok (.aload_n 0, 1) := by decide +kernel
theorem dX10_findReads_13 : decode cX10_findReads 13 = .ok (.aload_n 0, 1) := by decide +kernel
theorem dX10_findReads_14 : decode cX10_findReads 14 = .ok (.iload_n 1, 1) := by decide +kernel
theorem dX10_findReads_15 : decode cX10_findReads 15 = .ok (.invokevirtual 214, 3) := by decide +kernel
theorem dX10_findReads_18 : decode cX10_findReads 18 = .ok (.invokevirtual 172, 3) := by decide +kernel
theorem dX10_findReads_21 : decode cX10_findReads 21 = .ok (.goto 8, 3) := by decide +kernel
theorem dX10_findReads_24 : decode cX10_findReads 24 = .ok (.aload_n 0, 1) := by decide +kernel
theorem dX10_findReads_25 : decode cX10_findReads 25 = .ok (.iload_n 2, 1) := by decide +kernel
theorem dX10_findReads_26 : decode cX10_findReads 26 = .ok (.invokevirtual 217, 3) := by decide +kernel
theorem dX10_findReads_29 : decode cX10_findReads 29 = .ok (.ireturn, 1) := by decide +kernel
theorem dX10_puts_0 : decode cX10_puts 0 = .ok (.aload_n 0, 1) := by decide +kernel
theorem dX10_puts_1 : decode cX10_puts 1 = .ok (.iconst 0, 1) := by decide +kernel
theorem dX10_puts_2 : decode cX10_puts 2 = .ok (.iload_n 1, 1) := by decide +kernel
theorem dX10_puts_3 : decode cX10_puts 3 = .ok (.invokevirtual 211, 3) := by decide +kernel
theorem dX10_puts_6 : decode cX10_puts 6 = .ok (.istore_n 3, 1) := by decide +kernel
theorem dX10_puts_7 : decode cX10_puts 7 = .ok (.iload_n 3, 1) := by decide +kernel
theorem dX10_puts_8 : decode cX10_puts 8 = .ok (.iconst (-1), 1) := by decide +kernel
theorem dX10_puts_9 : decode cX10_puts 9 = .ok (.if_icmp .ne 19, 3) := by decide +kernel
theorem dX10_puts_12 : decode cX10_puts 12 = .ok (.aload_n 0, 1) := by decide +kernel
theorem dX10_puts_13 : decode cX10_puts 13 = .ok (.getfield 7, 3) := by decide +kernel
theorem dX10_puts_16 : decode cX10_puts 16 = .ok (.bipush 7, 2) := by decide +kernel
theorem dX10_puts_18 : decode cX10_puts 18 = .ok (.iaload, 1) := by decide +kernel
theorem dX10_puts_19 : decode cX10_puts 19 = .ok (.sipush 300, 3) := by decide +kernel
theorem dX10_puts_22 : decode cX10_puts 22 = .ok (.if_icmp .ne 6, 3) := by decide +kernel
theorem dX10_puts_25 : decode cX10_puts 25 = .ok (.bipush (-3), 2) := by decide +kernel
theorem dX10_puts_27 : decode cX10_puts 27 = .ok (.ireturn, 1) := by decide +kernel
theorem dX10_puts_28 : decode cX10_puts 28 = .ok (.aload_n 0, 1) := by decide +kernel
theorem dX10_puts_29 : decode cX10_puts 29 = .ok (.getfield 7, 3) := by decide +kernel
theorem dX10_puts_32 : decode cX10_puts 32 = .ok (.bipush 8, 2) := by decide +kernel
theorem dX10_puts_34 : decode cX10_puts 34 = .ok (.aload_n 0, 1) := by decide +kernel
theorem dX10_puts_35 : decode cX10_puts 35 = .ok (.getfield 7, 3) := by decide +kernel
theorem dX10_puts_38 : decode cX10_puts 38 = .ok (.bipush 8, 2) := by decide +kernel
theorem dX10_puts_40 : decode cX10_puts 40 = .ok (.iaload, 1) := by decide +kernel
theorem dX10_puts_41 : decode cX10_puts 41 = .ok (.aload_n 0, 1) := by decide +kernel
theorem dX10_puts_42 : decode cX10_puts 42 = .ok (.iload_n 1, 1) := by decide +kernel
theorem dX10_puts_43 : decode cX10_puts 43 = .ok (.invokevirtual 220, 3) := by decide +kernel
theorem dX10_puts_46 : decode cX10_puts 46 = .ok (.iadd, 1) := by decide +kernel
theorem dX10_puts_47 : decode cX10_puts 47 = .ok (.iastore, 1) := by decide +kernel
theorem dX10_puts_48 : decode cX10_puts 48 = .ok (.iload_n 3, 1) := by decide +kernel
theorem dX10_puts_49 : decode cX10_puts 49 = .ok (.iconst (-1), 1) := by decide +kernel
theorem dX10_puts_50 : decode cX10_puts 50 = .ok (.if_icmp .eq 32, 3) := by decide +kernel
theorem dX10_puts_53 : decode cX10_puts 53 = .ok (.aload_n 0, 1) := by decide +kernel
theorem dX10_puts_54 : decode cX10_puts 54 = .ok (.getfield 7, 3) := by decide +kernel
theorem dX10_puts_57 : decode cX10_puts 57 = .ok (.sipush 340, 3) := by decide +kernel
theorem dX10_puts_60 : decode cX10_puts 60 = .ok (.iload_n 3, 1) := by decide +kernel
theorem dX10_puts_61 : decode cX10_puts 61 = .ok (.iadd, 1) := by decide +kernel
theorem dX10_puts_62 : decode cX10_puts 62 = .ok (.iload_n 2, 1) := by decide +kernel
theorem dX10_puts_63 : decode cX10_puts 63 = .ok (.iastore, 1) := by decide +kernel
theorem dX10_puts_64 : decode cX10_puts 64 = .ok (.aload_n 0, 1) := by decide +kernel
theorem dX10_puts_65 : decode cX10_puts 65 = .ok (.getfield 7, 3) := by decide +kernel
theorem dX10_puts_68 : decode cX10_puts 68 = .ok (.bipush 9, 2) := by decide +kernel
theorem dX10_puts_70 : decode cX10_puts 70 = .ok (.aload_n 0, 1) := by decide +kernel
theorem dX10_puts_71 : decode cX10_puts 71 = .ok (.getfield 7, 3) := by decide +kernel
theorem dX10_puts_74 : decode cX10_puts 74 = .ok (.bipush 9, 2) := by decide +kernel
theorem dX10_puts_76 : decode cX10_puts 76 = .ok (.iaload, 1) := by decide +kernel
theorem dX10_puts_77 : decode cX10_puts 77 = .ok (.iconst 1, 1) := by decide +kernel
theorem dX10_puts_78 : decode cX10_puts 78 = .ok (.iadd, 1) := by decide +kernel
theorem dX10_puts_79 : decode cX10_puts 79 = .ok (.iastore, 1) := by decide +kernel
theorem dX10_puts_80 : decode cX10_puts 80 = .ok (.iconst 1, 1) := by decide +kernel
theorem dX10_puts_81 : decode cX10_puts 81 = .ok (.ireturn, 1) := by decide +kernel
theorem dX10_puts_82 : decode cX10_puts 82 = .ok (.aload_n 0, 1) := by decide +kernel
theorem dX10_puts_83 : decode cX10_puts 83 = .ok (.iload_n 1, 1) := by decide +kernel
theorem dX10_puts_84 : decode cX10_puts 84 = .ok (.invokevirtual 214, 3) := by decide +kernel
theorem dX10_puts_87 : decode cX10_puts 87 = .ok (.istore 4, 2) := by decide +kernel
theorem dX10_puts_89 : decode cX10_puts 89 = .ok (.aload_n 0, 1) := by decide +kernel
theorem dX10_puts_90 : decode cX10_puts 90 = .ok (.iload 4, 2) := by decide +kernel
theorem dX10_puts_92 : decode cX10_puts 92 = .ok (.invokevirtual 202, 3) := by decide +kernel
theorem dX10_puts_95 : decode cX10_puts 95 = .ok (.aload_n 0, 1) := by decide +kernel
theorem dX10_puts_96 : decode cX10_puts 96 = .ok (.iload 4, 2) := by decide +kernel
theorem dX10_puts_98 : decode cX10_puts 98 = .ok (.invokevirtual 172, 3) := by decide +kernel
theorem dX10_puts_101 : decode cX10_puts 101 = .ok (.aload_n 0, 1) := by decide +kernel
theorem dX10_puts_102 : decode cX10_puts 102 = .ok (.getfield 7, 3) := by decide +kernel
theorem dX10_puts_105 : decode cX10_puts 105 = .ok (.iconst 1, 1) := by decide +kernel
theorem dX10_puts_106 : decode cX10_puts 106 = .ok (.iaload, 1) := by decide +kernel
theorem dX10_puts_107 : decode cX10_puts 107 = .ok (.imul, 1) := by decide +kernel
theorem dX10_puts_108 : decode cX10_puts 108 = .ok (.if_icmp .ne 7, 3) := by decide +kernel
theorem dX10_puts_111 : decode cX10_puts 111 = .ok (.iconst 1, 1) := by decide +kernel
theorem dX10_puts_112 : decode cX10_puts 112 = .ok (.goto 4, 3) := by decide +kernel
theorem dX10_puts_115 : decode cX10_puts 115 = .ok (.iconst 0, 1) := by decide +kernel
theorem dX10_puts_116 : decode cX10_puts 116 = .ok (.istore 5, 2) := by decide +kernel
