theorem dX10_whereIn_14 : decode cX10_whereIn 14 = .ok (.iconst 2, 1) := by decide +kernel
theorem dX10_whereIn_15 : decode cX10_whereIn 15 = .ok (.iload_n 3, 1) := by decide +kernel
theorem dX10_whereIn_16 : decode cX10_whereIn 16 = .ok (.imul, 1) := by decide +kernel
theorem dX10_whereIn_17 : decode cX10_whereIn 17 = .ok (.istore_n 3, 1) := by decide +kernel
theorem dX10_whereIn_18 : decode cX10_whereIn 18 = .ok (.goto (-11), 3) := by decide +kernel
theorem dX10_whereIn_21 : decode cX10_whereIn 21 = .ok (.aload_n 0, 1) := by decide +kernel
theorem dX10_whereIn_22 : decode cX10_whereIn 22 = .ok (.iload_n 1, 1) := by decide +kernel
theorem dX10_whereIn_23 : decode cX10_whereIn 23 = .ok (.invokevirtual 184, 3) := by decide +kernel
theorem dX10_whereIn_26 : decode cX10_whereIn 26 = .ok (.istore 4, 2) := by decide +kernel
theorem dX10_whereIn_28 : decode cX10_whereIn 28 = .ok (.iload 4, 2) := by decide +kernel
theorem dX10_whereIn_30 : decode cX10_whereIn 30 = .ok (.iload_n 3, 1) := by decide +kernel
theorem dX10_whereIn_31 : decode cX10_whereIn 31 = .ok (.irem, 1) := by decide +kernel
theorem dX10_whereIn_32 : decode cX10_whereIn 32 = .ok (.iload_n 2, 1) := by decide +kernel
theorem dX10_whereIn_33 : decode cX10_whereIn 33 = .ok (.iload_n 3, 1) := by decide +kernel
theorem dX10_whereIn_34 : decode cX10_whereIn 34 = .ok (.isub, 1) := by decide +kernel
theorem dX10_whereIn_35 : decode cX10_whereIn 35 = .ok (.if_icmp .ge 12, 3) := by decide +kernel
theorem dX10_whereIn_38 : decode cX10_whereIn 38 = .ok (.iload 4, 2) := by decide +kernel
theorem dX10_whereIn_40 : decode cX10_whereIn 40 = .ok (.iconst 2, 1) := by decide +kernel
theorem dX10_whereIn_41 : decode cX10_whereIn 41 = .ok (.iload_n 3, 1) := by decide +kernel
theorem dX10_whereIn_42 : decode cX10_whereIn 42 = .ok (.imul, 1) := by decide +kernel
theorem dX10_whereIn_43 : decode cX10_whereIn 43 = .ok (.irem, 1) := by decide +kernel
theorem dX10_whereIn_44 : decode cX10_whereIn 44 = .ok (.goto 7, 3) := by decide +kernel
theorem dX10_whereIn_47 : decode cX10_whereIn 47 = .ok (.iload 4, 2) := by decide +kernel
theorem dX10_whereIn_49 : decode cX10_whereIn 49 = .ok (.iload_n 3, 1) := by decide +kernel
theorem dX10_whereIn_50 : decode cX10_whereIn 50 = .ok (.irem, 1) := by decide +kernel
theorem dX10_whereIn_51 : decode cX10_whereIn 51 = .ok (.ireturn, 1) := by decide +kernel
theorem dX10_moves_0 : decode cX10_moves 0 = .ok (.iconst 0, 1) := by decide +kernel
theorem dX10_moves_1 : decode cX10_moves 1 = .ok (.istore_n 2, 1) := by decide +kernel
theorem dX10_moves_2 : decode cX10_moves 2 = .ok (.aload_n 0, 1) := by decide +kernel
theorem dX10_moves_3 : decode cX10_moves 3 = .ok (.getfield 7, 3) := by decide +kernel
theorem dX10_moves_6 : decode cX10_moves 6 = .ok (.iconst 0, 1) := by decide +kernel
theorem dX10_moves_7 : decode cX10_moves 7 = .ok (.iaload, 1) := by decide +kernel
theorem dX10_moves_8 : decode cX10_moves 8 = .ok (.iconst 1, 1) := by decide +kernel
theorem dX10_moves_9 : decode cX10_moves 9 = .ok (.iadd, 1) := by decide +kernel
theorem dX10_moves_10 : decode cX10_moves 10 = .ok (.istore_n 3, 1) := by decide +kernel
theorem dX10_moves_11 : decode cX10_moves 11 = .ok (.iload_n 3, 1) := by decide +kernel
theorem dX10_moves_12 : decode cX10_moves 12 = .ok (.bipush 64, 2) := by decide +kernel
theorem dX10_moves_14 : decode cX10_moves 14 = .ok (.if_icmp .gt 30, 3) := by decide +kernel
theorem dX10_moves_17 : decode cX10_moves 17 = .ok (.aload_n 0, 1) := by decide +kernel
theorem dX10_moves_18 : decode cX10_moves 18 = .ok (.iload_n 1, 1) := by decide +kernel
theorem dX10_moves_19 : decode cX10_moves 19 = .ok (.iload_n 3, 1) := by decide +kernel
theorem dX10_moves_20 : decode cX10_moves 20 = .ok (.invokevirtual 305, 3) := by decide +kernel
theorem dX10_moves_23 : decode cX10_moves 23 = .ok (.aload_n 0, 1) := by decide +kernel
theorem dX10_moves_24 : decode cX10_moves 24 = .ok (.iload_n 1, 1) := by decide +kernel
theorem dX10_moves_25 : decode cX10_moves 25 = .ok (.iload_n 3, 1) := by decide +kernel
theorem dX10_moves_26 : decode cX10_moves 26 = .ok (.iconst 1, 1) := by decide +kernel
theorem dX10_moves_27 : decode cX10_moves 27 = .ok (.isub, 1) := by decide +kernel
theorem dX10_moves_28 : decode cX10_moves 28 = .ok (.invokevirtual 305, 3) := by decide +kernel
theorem dX10_moves_31 : decode cX10_moves 31 = .ok (.if_icmp .eq 7, 3) := by decide +kernel
theorem dX10_moves_34 : decode cX10_moves 34 = .ok (.iload_n 2, 1) := by decide +kernel
theorem dX10_moves_35 : decode cX10_moves 35 = .ok (.iconst 1, 1) := by decide +kernel
theorem dX10_moves_36 : decode cX10_moves 36 = .ok (.iadd, 1) := by decide +kernel
theorem dX10_moves_37 : decode cX10_moves 37 = .ok (.istore_n 2, 1) := by decide +kernel
theorem dX10_moves_38 : decode cX10_moves 38 = .ok (.iinc 3 1, 3) := by decide +kernel
theorem dX10_moves_41 : decode cX10_moves 41 = .ok (.goto (-30), 3) := by decide +kernel
theorem dX10_moves_44 : decode cX10_moves 44 = .ok (.iload_n 2, 1) := by decide +kernel
theorem dX10_moves_45 : decode cX10_moves 45 = .ok (.ireturn, 1) := by decide +kernel
theorem dX10_keyIs_0 : decode cX10_keyIs 0 = .ok (.iload_n 1, 1) := by decide +kernel
theorem dX10_keyIs_1 : decode cX10_keyIs 1 = .ok (.invokestatic 226, 3) := by decide +kernel
theorem dX10_keyIs_4 : decode cX10_keyIs 4 = .ok (.ifCond .eq 12, 3) := by decide +kernel
theorem dX10_keyIs_7 : decode cX10_keyIs 7 = .ok (.iload_n 2, 1) := by decide +kernel
theorem dX10_keyIs_8 : decode cX10_keyIs 8 = .ok (.iconst 0, 1) := by decide +kernel
theorem dX10_keyIs_9 : decode cX10_keyIs 9 = .ok (.iconst 4, 1) := by decide +kernel
theorem dX10_keyIs_10 : decode cX10_keyIs 10 = .ok (.invokestatic 67, 3) := by decide +kernel
theorem dX10_keyIs_13 : decode cX10_keyIs 13 = .ok (.ifCond .ne 5, 3) := by decide +kernel
theorem dX10_keyIs_16 : decode cX10_keyIs 16 = .ok (.iconst (-1), 1) := by decide +kernel
theorem dX10_keyIs_17 : decode cX10_keyIs 17 = .ok (.ireturn, 1) := by decide +kernel
theorem dX10_keyIs_18 : decode cX10_keyIs 18 = .ok (.iload_n 2, 1) := by decide +kernel
theorem dX10_keyIs_19 : decode cX10_keyIs 19 = .ok (.tableswitch 53 0 3 #[29, 35, 41, 47], 29) := by decide +kernel
theorem dX10_keyIs_48 : decode cX10_keyIs 48 = .ok (.aload_n 0, 1) := by decide +kernel
theorem dX10_keyIs_49 : decode cX10_keyIs 49 = .ok (.iload_n 1, 1) := by decide +kernel
theorem dX10_keyIs_50 : decode cX10_keyIs 50 = .ok (.invokevirtual 184, 3) := by decide +kernel
theorem dX10_keyIs_53 : decode cX10_keyIs 53 = .ok (.ireturn, 1) := by decide +kernel
theorem dX10_keyIs_54 : decode cX10_keyIs 54 = .ok (.aload_n 0, 1) := by decide +kernel
theorem dX10_keyIs_55 : decode cX10_keyIs 55 = .ok (.iload_n 1, 1) := by decide +kernel
theorem dX10_keyIs_56 : decode cX10_keyIs 56 = .ok (.invokevirtual 214, 3) := by decide +kernel
theorem dX10_keyIs_59 : decode cX10_keyIs 59 = .ok (.ireturn, 1) := by decide +kernel
theorem dX10_keyIs_60 : decode cX10_keyIs 60 = .ok (.aload_n 0, 1) := by decide +kernel
theorem dX10_keyIs_61 : decode cX10_keyIs 61 = .ok (.iload_n 1, 1) := by decide +kernel
theorem dX10_keyIs_62 : decode cX10_keyIs 62 = .ok (.invokevirtual 308, 3) := by decide +kernel
theorem dX10_keyIs_65 : decode cX10_keyIs 65 = .ok (.ireturn, 1) := by decide +kernel
theorem dX10_keyIs_66 : decode cX10_keyIs 66 = .ok (.aload_n 0, 1) := by decide +kernel
theorem dX10_keyIs_67 : decode cX10_keyIs 67 = .ok (.iload_n 1, 1) := by decide +kernel
theorem dX10_keyIs_68 : decode cX10_keyIs 68 = .ok (.invokevirtual 220, 3) := by decide +kernel
theorem dX10_keyIs_71 : decode cX10_keyIs 71 = .ok (.ireturn, 1) := by decide +kernel
theorem dX10_keyIs_72 : decode cX10_keyIs 72 = .ok (.aload_n 0, 1) := by decide +kernel
theorem dX10_keyIs_73 : decode cX10_keyIs 73 = .ok (.invokevirtual 178, 3) := by decide +kernel
theorem dX10_keyIs_76 : decode cX10_keyIs 76 = .ok (.bipush 64, 2) := by decide +kernel
theorem dX10_keyIs_78 : decode cX10_keyIs 78 = .ok (.if_icmp .ne 8, 3) := by decide +kernel
theorem dX10_keyIs_81 : decode cX10_keyIs 81 = .ok (.bipush (-3), 2) := by decide +kernel
theorem dX10_keyIs_83 : decode cX10_keyIs 83 = .ok (.goto 14, 3) := by decide +kernel
theorem dX10_keyIs_86 : decode cX10_keyIs 86 = .ok (.aload_n 0, 1) := by decide +kernel
theorem dX10_keyIs_87 : decode cX10_keyIs 87 = .ok (.iload_n 1, 1) := by decide +kernel
theorem dX10_keyIs_88 : decode cX10_keyIs 88 = .ok (.aload_n 0, 1) := by decide +kernel
theorem dX10_keyIs_89 : decode cX10_keyIs 89 = .ok (.invokevirtual 178, 3) := by decide +kernel
theorem dX10_keyIs_92 : decode cX10_keyIs 92 = .ok (.iconst 1, 1) := by decide +kernel
theorem dX10_keyIs_93 : decode cX10_keyIs 93 = .ok (.iadd, 1) := by decide +kernel
theorem dX10_keyIs_94 : decode cX10_keyIs 94 = .ok (.invokevirtual 305, 3) := by decide +kernel
theorem dX10_keyIs_97 : decode cX10_keyIs 97 = .ok (.ireturn, 1) := by decide +kernel
theorem dX10_isMany_0 : decode cX10_isMany 0 = .ok (.iload_n 1, 1) := by decide +kernel
theorem dX10_isMany_1 : decode cX10_isMany 1 = .ok (.aload_n 0, 1) := by decide +kernel
theorem dX10_isMany_2 : decode cX10_isMany 2 = .ok (.getfield 7, 3) := by decide +kernel
theorem dX10_isMany_5 : decode cX10_isMany 5 = .ok (.iconst 0, 1) := by decide +kernel
theorem dX10_isMany_6 : decode cX10_isMany 6 = .ok (.iaload, 1) := by decide +kernel
theorem dX10_isMany_7 : decode cX10_isMany 7 = .ok (.bipush 64, 2) := by decide +kernel
theorem dX10_isMany_9 : decode cX10_isMany 9 = .ok (.invokestatic 67, 3) := by decide +kernel
theorem dX10_isMany_12 : decode cX10_isMany 12 = .ok (.ireturn, 1) := by decide +kernel
theorem dX10_where_0 : decode cX10_where 0 = .ok (.iload_n 1, 1) := by decide +kernel
theorem dX10_where_1 : decode cX10_where 1 = .ok (.invokestatic 226, 3) := by decide +kernel
theorem dX10_where_4 : decode cX10_where 4 = .ok (.ifCond .eq 20, 3) := by decide +kernel
theorem dX10_where_7 : decode cX10_where 7 = .ok (.aload_n 0, 1) := by decide +kernel
theorem dX10_where_8 : decode cX10_where 8 = .ok (.iload_n 2, 1) := by decide +kernel
theorem dX10_where_9 : decode cX10_where 9 = .ok (.invokevirtual 311, 3) := by decide +kernel
theorem dX10_where_12 : decode cX10_where 12 = .ok (.ifCond .eq 12, 3) := by decide +kernel
theorem dX10_where_15 : decode cX10_where 15 = .ok (.aload_n 0, 1) := by decide +kernel
theorem dX10_where_16 : decode cX10_where 16 = .ok (.iload_n 1, 1) := by decide +kernel
theorem dX10_where_17 : decode cX10_where 17 = .ok (.iload_n 2, 1) := by decide +kernel
theorem dX10_where_18 : decode cX10_where 18 = .ok (.invokevirtual 305, 3) := by decide +kernel
theorem dX10_where_21 : decode cX10_where 21 = .ok (.goto 4, 3) := by decide +kernel
theorem dX10_where_24 : decode cX10_where 24 = .ok (.iconst (-1), 1) := by decide +kernel
theorem dX10_where_25 : decode cX10_where 25 = .ok (.ireturn, 1) := by decide +kernel
theorem dX10_bucket_0 : decode cX10_bucket 0 = .ok (.iload_n 1, 1) := by decide +kernel
theorem dX10_bucket_1 : decode cX10_bucket 1 = .ok (.iconst 0, 1) := by decide +kernel
theorem dX10_bucket_2 : decode cX10_bucket 2 = .ok (.aload_n 0, 1) := by decide +kernel
theorem dX10_bucket_3 : decode cX10_bucket 3 = .ok (.invokevirtual 178, 3) := by decide +kernel
theorem dX10_bucket_6 : decode cX10_bucket 6 = .ok (.iconst 1, 1) := by decide +kernel
theorem dX10_bucket_7 : decode cX10_bucket 7 = .ok (.isub, 1) := by decide +kernel
theorem dX10_bucket_8 : decode cX10_bucket 8 = .ok (.invokestatic 67, 3) := by decide +kernel
theorem dX10_bucket_11 : decode cX10_bucket 11 = .ok (.ifCond .eq 17, 3) := by decide +kernel
theorem dX10_bucket_14 : decode cX10_bucket 14 = .ok (.iload_n 2, 1) := by decide +kernel
theorem dX10_bucket_15 : decode cX10_bucket 15 = .ok (.ifCond .lt 13, 3) := by decide +kernel
theorem dX10_bucket_18 : decode cX10_bucket 18 = .ok (.iload_n 2, 1) := by decide +kernel
theorem dX10_bucket_19 : decode cX10_bucket 19 = .ok (.iconst 2, 1) := by decide +kernel
theorem dX10_bucket_20 : decode cX10_bucket 20 = .ok (.bipush 99, 2) := by decide +kernel
theorem dX10_bucket_22 : decode cX10_bucket 22 = .ok (.invokestatic 67, 3) := by decide +kernel
theorem dX10_bucket_25 : decode cX10_bucket 25 = .ok (.ifCond .eq 5, 3) := by decide +kernel
theorem dX10_bucket_28 : decode cX10_bucket 28 = .ok (.iconst (-1), 1) := by decide +kernel
theorem dX10_bucket_29 : decode cX10_bucket 29 = .ok (.ireturn, 1) := by decide +kernel
theorem dX10_bucket_30 : decode cX10_bucket 30 = .ok (.iload_n 2, 1) := by decide +kernel
theorem dX10_bucket_31 : decode cX10_bucket 31 = .ok (.iconst 2, 1) := by decide +kernel
theorem dX10_bucket_32 : decode cX10_bucket 32 = .ok (.if_icmp .ge 21, 3) := by decide +kernel
theorem dX10_bucket_35 : decode cX10_bucket 35 = .ok (.iload_n 2, 1) := by decide +kernel
theorem dX10_bucket_36 : decode cX10_bucket 36 = .ok (.ifCond .ne 11, 3) := by decide +kernel
theorem dX10_bucket_39 : decode cX10_bucket 39 = .ok (.aload_n 0, 1) := by decide +kernel
theorem dX10_bucket_40 : decode cX10_bucket 40 = .ok (.iload_n 1, 1) := by decide +kernel
theorem dX10_bucket_41 : decode cX10_bucket 41 = .ok (.invokevirtual 202, 3) := by decide +kernel
theorem dX10_bucket_44 : decode cX10_bucket 44 = .ok (.goto 8, 3) := by decide +kernel
theorem dX10_bucket_47 : decode cX10_bucket 47 = .ok (.aload_n 0, 1) := by decide +kernel
theorem dX10_bucket_48 : decode cX10_bucket 48 = .ok (.iload_n 1, 1) := by decide +kernel
theorem dX10_bucket_49 : decode cX10_bucket 49 = .ok (.invokevirtual 172, 3) := by decide +kernel
theorem dX10_bucket_52 : decode cX10_bucket 52 = .ok (.ireturn, 1) := by decide +kernel
theorem dX10_bucket_53 : decode cX10_bucket 53 = .ok (.iload_n 2, 1) := by decide +kernel
theorem dX10_bucket_54 : decode cX10_bucket 54 = .ok (.sipush 1000, 3) := by decide +kernel
theorem dX10_bucket_57 : decode cX10_bucket 57 = .ok (.if_icmp .ge 30, 3) := by decide +kernel
theorem dX10_bucket_60 : decode cX10_bucket 60 = .ok (.iload_n 2, 1) := by decide +kernel
theorem dX10_bucket_61 : decode cX10_bucket 61 = .ok (.bipush 100, 2) := by decide +kernel
theorem dX10_bucket_63 : decode cX10_bucket 63 = .ok (.isub, 1) := by decide +kernel
theorem dX10_bucket_64 : decode cX10_bucket 64 = .ok (.aload_n 0, 1) := by decide +kernel
theorem dX10_bucket_65 : decode cX10_bucket 65 = .ok (.iload_n 1, 1) := by decide +kernel
theorem dX10_bucket_66 : decode cX10_bucket 66 = .ok (.invokevirtual 172, 3) := by decide +kernel
theorem dX10_bucket_69 : decode cX10_bucket 69 = .ok (.if_icmp .ge 15, 3) := by decide +kernel
theorem dX10_bucket_72 : decode cX10_bucket 72 = .ok (.aload_n 0, 1) := by decide +kernel
theorem dX10_bucket_73 : decode cX10_bucket 73 = .ok (.iload_n 1, 1) := by decide +kernel
theorem dX10_bucket_74 : decode cX10_bucket 74 = .ok (.iload_n 2, 1) := by decide +kernel
theorem dX10_bucket_75 : decode cX10_bucket 75 = .ok (.bipush 100, 2) := by decide +kernel
theorem dX10_bucket_77 : decode cX10_bucket 77 = .ok (.isub, 1) := by decide +kernel
theorem dX10_bucket_78 : decode cX10_bucket 78 = .ok (.invokevirtual 314, 3) := by decide +kernel
theorem dX10_bucket_81 : decode cX10_bucket 81 = .ok (.goto 5, 3) := by decide +kernel
theorem dX10_bucket_84 : decode cX10_bucket 84 = .ok (.bipush (-4), 2) := by decide +kernel
theorem dX10_bucket_86 : decode cX10_bucket 86 = .ok (.ireturn, 1) := by decide +kernel
theorem dX10_bucket_87 : decode cX10_bucket 87 = .ok (.iload_n 2, 1) := by decide +kernel
theorem dX10_bucket_88 : decode cX10_bucket 88 = .ok (.sipush 1000, 3) := by decide +kernel
theorem dX10_bucket_91 : decode cX10_bucket 91 = .ok (.isub, 1) := by decide +kernel
theorem dX10_bucket_92 : decode cX10_bucket 92 = .ok (.aload_n 0, 1) := by decide +kernel
theorem dX10_bucket_93 : decode cX10_bucket 93 = .ok (.iload_n 1, 1) := by decide +kernel
theorem dX10_bucket_94 : decode cX10_bucket 94 = .ok (.invokevirtual 202, 3) := by decide +kernel
theorem dX10_bucket_97 : decode cX10_bucket 97 = .ok (.if_icmp .ge 24, 3) := by decide +kernel
theorem dX10_bucket_100 : decode cX10_bucket 100 = .ok (.aload_n 0, 1) := by decide +kernel
theorem dX10_bucket_101 : decode cX10_bucket 101 = .ok (.getfield 7, 3) := by decide +kernel
theorem dX10_bucket_104 : decode cX10_bucket 104 = .ok (.bipush 40, 2) := by decide +kernel
theorem dX10_bucket_106 : decode cX10_bucket 106 = .ok (.aload_n 0, 1) := by decide +kernel
theorem dX10_bucket_107 : decode cX10_bucket 107 = .ok (.iload_n 1, 1) := by decide +kernel
theorem dX10_bucket_108 : decode cX10_bucket 108 = .ok (.iload_n 2, 1) := by decide +kernel
theorem dX10_bucket_109 : decode cX10_bucket 109 = .ok (.sipush 1000, 3) := by decide +kernel
theorem dX10_bucket_112 : decode cX10_bucket 112 = .ok (.isub, 1) := by decide +kernel
theorem dX10_bucket_113 : decode cX10_bucket 113 = .ok (.invokevirtual 235, 3) := by decide +kernel
theorem dX10_bucket_116 : decode cX10_bucket 116 = .ok (.iadd, 1) := by decide +kernel
theorem dX10_bucket_117 : decode cX10_bucket 117 = .ok (.iaload, 1) := by decide +kernel
theorem dX10_bucket_118 : decode cX10_bucket 118 = .ok (.goto 5, 3) := by decide +kernel
theorem dX10_bucket_121 : decode cX10_bucket 121 = .ok (.bipush (-4), 2) := by decide +kernel
theorem dX10_bucket_123 : decode cX10_bucket 123 = .ok (.ireturn, 1) := by decide +kernel
theorem dX10_keysOnPage_0 : decode cX10_keysOnPage 0 = .ok (.iconst 0, 1) := by decide +kernel
theorem dX10_keysOnPage_1 : decode cX10_keysOnPage 1 = .ok (.aload_n 0, 1) := by decide +kernel
theorem dX10_keysOnPage_2 : decode cX10_keysOnPage 2 = .ok (.getfield 7, 3) := by decide +kernel
theorem dX10_keysOnPage_5 : decode cX10_keysOnPage 5 = .ok (.iconst 1, 1) := by decide +kernel
theorem dX10_keysOnPage_6 : decode cX10_keysOnPage 6 = .ok (.iaload, 1) := by decide +kernel
theorem dX10_keysOnPage_7 : decode cX10_keysOnPage 7 = .ok (.aload_n 0, 1) := by decide +kernel
theorem dX10_keysOnPage_8 : decode cX10_keysOnPage 8 = .ok (.aload_n 0, 1) := by decide +kernel
theorem dX10_keysOnPage_9 : decode cX10_keysOnPage 9 = .ok (.getfield 7, 3) := by decide +kernel
theorem dX10_keysOnPage_12 : decode cX10_keysOnPage 12 = .ok (.sipush 1240, 3) := by decide +kernel
theorem dX10_keysOnPage_15 : decode cX10_keysOnPage 15 = .ok (.iload_n 1, 1) := by decide +kernel
theorem dX10_keysOnPage_16 : decode cX10_keysOnPage 16 = .ok (.iadd, 1) := by decide +kernel
theorem dX10_keysOnPage_17 : decode cX10_keysOnPage 17 = .ok (.iaload, 1) := by decide +kernel
theorem dX10_keysOnPage_18 : decode cX10_keysOnPage 18 = .ok (.invokevirtual 202, 3) := by decide +kernel
theorem dX10_keysOnPage_21 : decode cX10_keysOnPage 21 = .ok (.aload_n 0, 1) := by decide +kernel
theorem dX10_keysOnPage_22 : decode cX10_keysOnPage 22 = .ok (.getfield 7, 3) := by decide +kernel
theorem dX10_keysOnPage_25 : decode cX10_keysOnPage 25 = .ok (.iconst 1, 1) := by decide +kernel
theorem dX10_keysOnPage_26 : decode cX10_keysOnPage 26 = .ok (.iaload, 1) := by decide +kernel
theorem dX10_keysOnPage_27 : decode cX10_keysOnPage 27 = .ok (.aload_n 0, 1) := by decide +kernel
theorem dX10_keysOnPage_28 : decode cX10_keysOnPage 28 = .ok (.getfield 7, 3) := by decide +kernel
theorem dX10_keysOnPage_31 : decode cX10_keysOnPage 31 = .ok (.sipush 1496, 3) := by decide +kernel
theorem dX10_keysOnPage_34 : decode cX10_keysOnPage 34 = .ok (.iload_n 1, 1) := by decide +kernel
theorem dX10_keysOnPage_35 : decode cX10_keysOnPage 35 = .ok (.iadd, 1) := by decide +kernel
theorem dX10_keysOnPage_36 : decode cX10_keysOnPage 36 = .ok (.iaload, 1) := by decide +kernel
theorem dX10_keysOnPage_37 : decode cX10_keysOnPage 37 = .ok (.imul, 1) := by decide +kernel
theorem dX10_keysOnPage_38 : decode cX10_keysOnPage 38 = .ok (.isub, 1) := by decide +kernel
theorem dX10_keysOnPage_39 : decode cX10_keysOnPage 39 = .ok (.invokestatic 317, 3) := by decide +kernel
theorem dX10_keysOnPage_42 : decode cX10_keysOnPage 42 = .ok (.invokestatic 293, 3) := by decide +kernel
theorem dX10_keysOnPage_45 : decode cX10_keysOnPage 45 = .ok (.ireturn, 1) := by decide +kernel
theorem dX10_page_0 : decode cX10_page 0 = .ok (.iload_n 1, 1) := by decide +kernel
theorem dX10_page_1 : decode cX10_page 1 = .ok (.iconst 0, 1) := by decide +kernel
theorem dX10_page_2 : decode cX10_page 2 = .ok (.sipush 255, 3) := by decide +kernel
theorem dX10_page_5 : decode cX10_page 5 = .ok (.invokestatic 67, 3) := by decide +kernel
theorem dX10_page_8 : decode cX10_page 8 = .ok (.ifCond .eq 23, 3) := by decide +kernel
theorem dX10_page_11 : decode cX10_page 11 = .ok (.iload_n 2, 1) := by decide +kernel
theorem dX10_page_12 : decode cX10_page 12 = .ok (.iconst 0, 1) := by decide +kernel
theorem dX10_page_13 : decode cX10_page 13 = .ok (.iconst 2, 1) := by decide +kernel
theorem dX10_page_14 : decode cX10_page 14 = .ok (.invokestatic 67, 3) := by decide +kernel
theorem dX10_page_17 : decode cX10_page 17 = .ok (.ifCond .ne 16, 3) := by decide +kernel
theorem dX10_page_20 : decode cX10_page 20 = .ok (.iload_n 2, 1) := by decide +kernel
theorem dX10_page_21 : decode cX10_page 21 = .ok (.bipush 10, 2) := by decide +kernel
theorem dX10_page_23 : decode cX10_page 23 = .ok (.bipush 15, 2) := by decide +kernel
theorem dX10_page_25 : decode cX10_page 25 = .ok (.invokestatic 67, 3) := by decide +kernel
theorem dX10_page_28 : decode cX10_page 28 = .ok (.ifCond .ne 5, 3) := by decide +kernel
theorem dX10_page_31 : decode cX10_page 31 = .ok (.iconst (-1), 1) := by decide +kernel
theorem dX10_page_32 : decode cX10_page 32 = .ok (.ireturn, 1) := by decide +kernel
theorem dX10_page_33 : decode cX10_page 33 = .ok (.aload_n 0, 1) := by decide +kernel
theorem dX10_page_34 : decode cX10_page 34 = .ok (.getfield 7, 3) := by decide +kernel
theorem dX10_page_37 : decode cX10_page 37 = .ok (.sipush 1240, 3) := by decide +kernel
theorem dX10_page_40 : decode cX10_page 40 = .ok (.iload_n 1, 1) := by decide +kernel
theorem dX10_page_41 : decode cX10_page 41 = .ok (.iadd, 1) := by decide +kernel
theorem dX10_page_42 : decode cX10_page 42 = .ok (.iaload, 1) := by decide +kernel
theorem dX10_page_43 : decode cX10_page 43 = .ok (.istore_n 3, 1) := by decide +kernel
theorem dX10_page_44 : decode cX10_page 44 = .ok (.iload_n 3, 1) := by decide +kernel
theorem dX10_page_45 : decode cX10_page 45 = .ok (.iconst (-1), 1) := by decide +kernel
theorem dX10_page_46 : decode cX10_page 46 = .ok (.if_icmp .ne 6, 3) := by decide +kernel
theorem dX10_page_49 : decode cX10_page 49 = .ok (.bipush (-2), 2) := by decide +kernel
theorem dX10_page_51 : decode cX10_page 51 = .ok (.ireturn, 1) := by decide +kernel
theorem dX10_page_52 : decode cX10_page 52 = .ok (.iload_n 2, 1) := by decide +kernel
theorem dX10_page_53 : decode cX10_page 53 = .ok (.iconst 3, 1) := by decide +kernel
theorem dX10_page_54 : decode cX10_page 54 = .ok (.if_icmp .ge 35, 3) := by decide +kernel
theorem dX10_page_57 : decode cX10_page 57 = .ok (.iload_n 2, 1) := by decide +kernel
theorem dX10_page_58 : decode cX10_page 58 = .ok (.ifCond .ne 7, 3) := by decide +kernel
theorem dX10_page_61 : decode cX10_page 61 = .ok (.iload_n 3, 1) := by decide +kernel
theorem dX10_page_62 : decode cX10_page 62 = .ok (.goto 26, 3) := by decide +kernel
theorem dX10_page_65 : decode cX10_page 65 = .ok (.iload_n 2, 1) := by decide +kernel
theorem dX10_page_66 : decode cX10_page 66 = .ok (.iconst 1, 1) := by decide +kernel
theorem dX10_page_67 : decode cX10_page 67 = .ok (.if_icmp .ne 16, 3) := by decide +kernel
theorem dX10_page_70 : decode cX10_page 70 = .ok (.aload_n 0, 1) := by decide +kernel
theorem dX10_page_71 : decode cX10_page 71 = .ok (.getfield 7, 3) := by decide +kernel
theorem dX10_page_74 : decode cX10_page 74 = .ok (.sipush 1496, 3) := by decide +kernel
theorem dX10_page_77 : decode cX10_page 77 = .ok (.iload_n 1, 1) := by decide +kernel
theorem dX10_page_78 : decode cX10_page 78 = .ok (.iadd, 1) := by decide +kernel
theorem dX10_page_79 : decode cX10_page 79 = .ok (.iaload, 1) := by decide +kernel
theorem dX10_page_80 : decode cX10_page 80 = .ok (.goto 8, 3) := by decide +kernel
theorem dX10_page_83 : decode cX10_page 83 = .ok (.aload_n 0, 1) := by decide +kernel
theorem dX10_page_84 : decode cX10_page 84 = .ok (.iload_n 1, 1) := by decide +kernel
theorem dX10_page_85 : decode cX10_page 85 = .ok (.invokevirtual 320, 3) := by decide +kernel
theorem dX10_page_88 : decode cX10_page 88 = .ok (.ireturn, 1) := by decide +kernel
theorem dX10_page_89 : decode cX10_page 89 = .ok (.iload_n 2, 1) := by decide +kernel
theorem dX10_page_90 : decode cX10_page 90 = .ok (.bipush 10, 2) := by decide +kernel
theorem dX10_page_92 : decode cX10_page 92 = .ok (.isub, 1) := by decide +kernel
theorem dX10_page_93 : decode cX10_page 93 = .ok (.aload_n 0, 1) := by decide +kernel
theorem dX10_page_94 : decode cX10_page 94 = .ok (.iload_n 1, 1) := by decide +kernel
theorem dX10_page_95 : decode cX10_page 95 = .ok (.invokevirtual 320, 3) := by decide +kernel
theorem dX10_page_98 : decode cX10_page 98 = .ok (.if_icmp .ge 41, 3) := by decide +kernel
theorem dX10_page_101 : decode cX10_page 101 = .ok (.aload_n 0, 1) := by decide +kernel
theorem dX10_page_102 : decode cX10_page 102 = .ok (.getfield 7, 3) := by decide +kernel
theorem dX10_page_105 : decode cX10_page 105 = .ok (.bipush 40, 2) := by decide +kernel
theorem dX10_page_107 : decode cX10_page 107 = .ok (.aload_n 0, 1) := by decide +kernel
theorem dX10_page_108 : decode cX10_page 108 = .ok (.iload_n 3, 1) := by decide +kernel
theorem dX10_page_109 : decode cX10_page 109 = .ok (.aload_n 0, 1) := by decide +kernel
theorem dX10_page_110 : decode cX10_page 110 = .ok (.getfield 7, 3) := by decide +kernel
theorem dX10_page_113 : decode cX10_page 113 = .ok (.iconst 1, 1) := by decide +kernel
theorem dX10_page_114 : decode cX10_page 114 = .ok (.iaload, 1) := by decide +kernel
theorem dX10_page_115 : decode cX10_page 115 = .ok (.aload_n 0, 1) := by decide +kernel
theorem dX10_page_116 : decode cX10_page 116 = .ok (.getfield 7, 3) := by decide +kernel
theorem dX10_page_119 : decode cX10_page 119 = .ok (.sipush 1496, 3) := by decide +kernel
theorem dX10_page_122 : decode cX10_page 122 = .ok (.iload_n 1, 1) := by decide +kernel
theorem dX10_page_123 : decode cX10_page 123 = .ok (.iadd, 1) := by decide +kernel
theorem dX10_page_124 : decode cX10_page 124 = .ok (.iaload, 1) := by decide +kernel
theorem dX10_page_125 : decode cX10_page 125 = .ok (.imul, 1) := by decide +kernel
theorem dX10_page_126 : decode cX10_page 126 = .ok (.iload_n 2, 1) := by decide +kernel
theorem dX10_page_127 : decode cX10_page 127 = .ok (.iadd, 1) := by decide +kernel
theorem dX10_page_128 : decode cX10_page 128 = .ok (.bipush 10, 2) := by decide +kernel
theorem dX10_page_130 : decode cX10_page 130 = .ok (.isub, 1) := by decide +kernel
theorem dX10_page_131 : decode cX10_page 131 = .ok (.invokevirtual 235, 3) := by decide +kernel
theorem dX10_page_134 : decode cX10_page 134 = .ok (.iadd, 1) := by decide +kernel
theorem dX10_page_135 : decode cX10_page 135 = .ok (.iaload, 1) := by decide +kernel
theorem dX10_page_136 : decode cX10_page 136 = .ok (.goto 5, 3) := by decide +kernel
theorem dX10_page_139 : decode cX10_page 139 = .ok (.bipush (-4), 2) := by decide +kernel
theorem dX10_page_141 : decode cX10_page 141 = .ok (.ireturn, 1) := by decide +kernel
theorem dX10_chains_0 : decode cX10_chains 0 = .ok (.iload_n 1, 1) := by decide +kernel
theorem dX10_chains_1 : decode cX10_chains 1 = .ok (.iconst 1, 1) := by decide +kernel
theorem dX10_chains_2 : decode cX10_chains 2 = .ok (.sipush 150, 3) := by decide +kernel
theorem dX10_chains_5 : decode cX10_chains 5 = .ok (.invokestatic 67, 3) := by decide +kernel
theorem dX10_chains_8 : decode cX10_chains 8 = .ok (.ifCond .ne 5, 3) := by decide +kernel
theorem dX10_chains_11 : decode cX10_chains 11 = .ok (.iconst (-1), 1) := by decide +kernel
theorem dX10_chains_12 : decode cX10_chains 12 = .ok (.ireturn, 1) := by decide +kernel
theorem dX10_chains_13 : decode cX10_chains 13 = .ok (.iconst 0, 1) := by decide +kernel
theorem dX10_chains_14 : decode cX10_chains 14 = .ok (.istore_n 2, 1) := by decide +kernel
theorem dX10_chains_15 : decode cX10_chains 15 = .ok (.iconst 0, 1) := by decide +kernel
theorem dX10_chains_16 : decode cX10_chains 16 = .ok (.istore_n 3, 1) := by decide +kernel
theorem dX10_chains_17 : decode cX10_chains 17 = .ok (.iload_n 3, 1) := by decide +kernel
theorem dX10_chains_18 : decode cX10_chains 18 = .ok (.aload_n 0, 1) := by decide +kernel
theorem dX10_chains_19 : decode cX10_chains 19 = .ok (.invokevirtual 178, 3) := by decide +kernel
theorem dX10_chains_22 : decode cX10_chains 22 = .ok (.if_icmp .ge 22, 3) := by decide +kernel
theorem dX10_chains_25 : decode cX10_chains 25 = .ok (.aload_n 0, 1) := by decide +kernel
theorem dX10_chains_26 : decode cX10_chains 26 = .ok (.iload_n 3, 1) := by decide +kernel
theorem dX10_chains_27 : decode cX10_chains 27 = .ok (.invokevirtual 172, 3) := by decide +kernel
theorem dX10_chains_30 : decode cX10_chains 30 = .ok (.iload_n 1, 1) := by decide +kernel
theorem dX10_chains_31 : decode cX10_chains 31 = .ok (.if_icmp .ne 7, 3) := by decide +kernel
theorem dX10_chains_34 : decode cX10_chains 34 = .ok (.iload_n 2, 1) := by decide +kernel
theorem dX10_chains_35 : decode cX10_chains 35 = .ok (.iconst 1, 1) := by decide +kernel
theorem dX10_chains_36 : decode cX10_chains 36 = .ok (.iadd, 1) := by decide +kernel
theorem dX10_chains_37 : decode cX10_chains 37 = .ok (.istore_n 2, 1) := by decide +kernel
theorem dX10_chains_38 : decode cX10_chains 38 = .ok (.iinc 3 1, 3) := by decide +kernel
theorem dX10_chains_41 : decode cX10_chains 41 = .ok (.goto (-24), 3) := by decide +kernel
theorem dX10_chains_44 : decode cX10_chains 44 = .ok (.iload_n 2, 1) := by decide +kernel
theorem dX10_chains_45 : decode cX10_chains 45 = .ok (.ireturn, 1) := by decide +kernel
theorem dX10_allReads_0 : decode cX10_allReads 0 = .ok (.iconst 0, 1) := by decide +kernel
theorem dX10_allReads_1 : decode cX10_allReads 1 = .ok (.istore_n 1, 1) := by decide +kernel
theorem dX10_allReads_2 : decode cX10_allReads 2 = .ok (.iconst 0, 1) := by decide +kernel
theorem dX10_allReads_3 : decode cX10_allReads 3 = .ok (.istore_n 2, 1) := by decide +kernel
theorem dX10_allReads_4 : decode cX10_allReads 4 = .ok (.iload_n 2, 1) := by decide +kernel
theorem dX10_allReads_5 : decode cX10_allReads 5 = .ok (.aload_n 0, 1) := by decide +kernel
theorem dX10_allReads_6 : decode cX10_allReads 6 = .ok (.getfield 7, 3) := by decide +kernel
theorem dX10_allReads_9 : decode cX10_allReads 9 = .ok (.bipush 7, 2) := by decide +kernel
theorem dX10_allReads_11 : decode cX10_allReads 11 = .ok (.iaload, 1) := by decide +kernel
theorem dX10_allReads_12 : decode cX10_allReads 12 = .ok (.if_icmp .ge 17, 3) := by decide +kernel
theorem dX10_allReads_15 : decode cX10_allReads 15 = .ok (.iload_n 1, 1) := by decide +kernel
theorem dX10_allReads_16 : decode cX10_allReads 16 = .ok (.aload_n 0, 1) := by decide +kernel
theorem dX10_allReads_17 : decode cX10_allReads 17 = .ok (.iload_n 2, 1) := by decide +kernel
theorem dX10_allReads_18 : decode cX10_allReads 18 = .ok (.invokevirtual 217, 3) := by decide +kernel
theorem dX10_allReads_21 : decode cX10_allReads 21 = .ok (.iadd, 1) := by decide +kernel
theorem dX10_allReads_22 : decode cX10_allReads 22 = .ok (.istore_n 1, 1) := by decide +kernel
theorem dX10_allReads_23 : decode cX10_allReads 23 = .ok (.iinc 2 1, 3) := by decide +kernel
theorem dX10_allReads_26 : decode cX10_allReads 26 = .ok (.goto (-22), 3) := by decide +kernel
theorem dX10_allReads_29 : decode cX10_allReads 29 = .ok (.iload_n 1, 1) := by decide +kernel
theorem dX10_allReads_30 : decode cX10_allReads 30 = .ok (.ireturn, 1) := by decide +kernel
theorem dX10_finds_0 : decode cX10_finds 0 = .ok (.iload_n 1, 1) := by decide +kernel
theorem dX10_finds_1 : decode cX10_finds 1 = .ok (.iconst 0, 1) := by decide +kernel
theorem dX10_finds_2 : decode cX10_finds 2 = .ok (.iconst 2, 1) := by decide +kernel
theorem dX10_finds_3 : decode cX10_finds 3 = .ok (.invokestatic 67, 3) := by decide +kernel
theorem dX10_finds_6 : decode cX10_finds 6 = .ok (.ifCond .ne 5, 3) := by decide +kernel
theorem dX10_finds_9 : decode cX10_finds 9 = .ok (.iconst (-1), 1) := by decide +kernel
theorem dX10_finds_10 : decode cX10_finds 10 = .ok (.ireturn, 1) := by decide +kernel
theorem dX10_finds_11 : decode cX10_finds 11 = .ok (.iload_n 1, 1) := by decide +kernel
theorem dX10_finds_12 : decode cX10_finds 12 = .ok (.iconst 1, 1) := by decide +kernel
theorem dX10_finds_13 : decode cX10_finds 13 = .ok (.if_icmp .eq 19, 3) := by decide +kernel
theorem dX10_finds_16 : decode cX10_finds 16 = .ok (.iload_n 1, 1) := by decide +kernel
theorem dX10_finds_17 : decode cX10_finds 17 = .ok (.ifCond .ne 10, 3) := by decide +kernel
theorem dX10_finds_20 : decode cX10_finds 20 = .ok (.aload_n 0, 1) := by decide +kernel
theorem dX10_finds_21 : decode cX10_finds 21 = .ok (.invokevirtual 323, 3) := by decide +kernel
theorem dX10_finds_24 : decode cX10_finds 24 = .ok (.goto 7, 3) := by decide +kernel
theorem dX10_finds_27 : decode cX10_finds 27 = .ok (.aload_n 0, 1) := by decide +kernel
theorem dX10_finds_28 : decode cX10_finds 28 = .ok (.invokevirtual 296, 3) := by decide +kernel
theorem dX10_finds_31 : decode cX10_finds 31 = .ok (.ireturn, 1) := by decide +kernel
theorem dX10_finds_32 : decode cX10_finds 32 = .ok (.iconst 0, 1) := by decide +kernel
theorem dX10_finds_33 : decode cX10_finds 33 = .ok (.istore_n 2, 1) := by decide +kernel
theorem dX10_finds_34 : decode cX10_finds 34 = .ok (.iconst 0, 1) := by decide +kernel
theorem dX10_finds_35 : decode cX10_finds 35 = .ok (.istore_n 3, 1) := by decide +kernel
theorem dX10_finds_36 : decode cX10_finds 36 = .ok (.iload_n 3, 1) := by decide +kernel
theorem dX10_finds_37 : decode cX10_finds 37 = .ok (.aload_n 0, 1) := by decide +kernel
theorem dX10_finds_38 : decode cX10_finds 38 = .ok (.getfield 7, 3) := by decide +kernel
theorem dX10_finds_41 : decode cX10_finds 41 = .ok (.bipush 7, 2) := by decide +kernel
theorem dX10_finds_43 : decode cX10_finds 43 = .ok (.iaload, 1) := by decide +kernel
theorem dX10_finds_44 : decode cX10_finds 44 = .ok (.if_icmp .ge 19, 3) := by decide +kernel
theorem dX10_finds_47 : decode cX10_finds 47 = .ok (.iload_n 2, 1) := by decide +kernel
theorem dX10_finds_48 : decode cX10_finds 48 = .ok (.aload_n 0, 1) := by decide +kernel
theorem dX10_finds_49 : decode cX10_finds 49 = .ok (.iload_n 3, 1) := by decide +kernel
theorem dX10_finds_50 : decode cX10_finds 50 = .ok (.invokevirtual 217, 3) := by decide +kernel
theorem dX10_finds_53 : decode cX10_finds 53 = .ok (.invokestatic 293, 3) := by decide +kernel
theorem dX10_finds_56 : decode cX10_finds 56 = .ok (.istore_n 2, 1) := by decide +kernel
theorem dX10_finds_57 : decode cX10_finds 57 = .ok (.iinc 3 1, 3) := by decide +kernel
theorem dX10_finds_60 : decode cX10_finds 60 = .ok (.goto (-24), 3) := by decide +kernel
theorem dX10_finds_63 : decode cX10_finds 63 = .ok (.iload_n 2, 1) := by decide +kernel
theorem dX10_finds_64 : decode cX10_finds 64 = .ok (.ireturn, 1) := by decide +kernel
theorem dX10_costing_0 : decode cX10_costing 0 = .ok (.iload_n 1, 1) := by decide +kernel
theorem dX10_costing_1 : decode cX10_costing 1 = .ok (.iconst 1, 1) := by decide +kernel
theorem dX10_costing_2 : decode cX10_costing 2 = .ok (.sipush 150, 3) := by decide +kernel
theorem dX10_costing_5 : decode cX10_costing 5 = .ok (.invokestatic 67, 3) := by decide +kernel
theorem dX10_costing_8 : decode cX10_costing 8 = .ok (.ifCond .ne 5, 3) := by decide +kernel
theorem dX10_costing_11 : decode cX10_costing 11 = .ok (.iconst (-1), 1) := by decide +kernel
theorem dX10_costing_12 : decode cX10_costing 12 = .ok (.ireturn, 1) := by decide +kernel
theorem dX10_costing_13 : decode cX10_costing 13 = .ok (.iconst 0, 1) := by decide +kernel
theorem dX10_costing_14 : decode cX10_costing 14 = .ok (.istore_n 2, 1) := by decide +kernel
theorem dX10_costing_15 : decode cX10_costing 15 = .ok (.iconst 0, 1) := by decide +kernel
theorem dX10_costing_16 : decode cX10_costing 16 = .ok (.istore_n 3, 1) := by decide +kernel
theorem dX10_costing_17 : decode cX10_costing 17 = .ok (.iload_n 3, 1) := by decide +kernel
theorem dX10_costing_18 : decode cX10_costing 18 = .ok (.aload_n 0, 1) := by decide +kernel
theorem dX10_costing_19 : decode cX10_costing 19 = .ok (.getfield 7, 3) := by decide +kernel
theorem dX10_costing_22 : decode cX10_costing 22 = .ok (.bipush 7, 2) := by decide +kernel
theorem dX10_costing_24 : decode cX10_costing 24 = .ok (.iaload, 1) := by decide +kernel
theorem dX10_costing_25 : decode cX10_costing 25 = .ok (.if_icmp .ge 22, 3) := by decide +kernel
theorem dX10_costing_28 : decode cX10_costing 28 = .ok (.aload_n 0, 1) := by decide +kernel
theorem dX10_costing_29 : decode cX10_costing 29 = .ok (.iload_n 3, 1) := by decide +kernel
theorem dX10_costing_30 : decode cX10_costing 30 = .ok (.invokevirtual 217, 3) := by decide +kernel
theorem dX10_costing_33 : decode cX10_costing 33 = .ok (.iload_n 1, 1) := by decide +kernel
theorem dX10_costing_34 : decode cX10_costing 34 = .ok (.if_icmp .ne 7, 3) := by decide +kernel
theorem dX10_costing_37 : decode cX10_costing 37 = .ok (.iload_n 2, 1) := by decide +kernel
theorem dX10_costing_38 : decode cX10_costing 38 = .ok (.iconst 1, 1) := by decide +kernel
theorem dX10_costing_39 : decode cX10_costing 39 = .ok (.iadd, 1) := by decide +kernel
theorem dX10_costing_40 : decode cX10_costing 40 = .ok (.istore_n 2, 1) := by decide +kernel
theorem dX10_costing_41 : decode cX10_costing 41 = .ok (.iinc 3 1, 3) := by decide +kernel
theorem dX10_costing_44 : decode cX10_costing 44 = .ok (.goto (-27), 3) := by decide +kernel
theorem dX10_costing_47 : decode cX10_costing 47 = .ok (.iload_n 2, 1) := by decide +kernel
theorem dX10_costing_48 : decode cX10_costing 48 = .ok (.ireturn, 1) := by decide +kernel
theorem dX10_next_0 : decode cX10_next 0 = .ok (.iload_n 1, 1) := by decide +kernel
theorem dX10_next_1 : decode cX10_next 1 = .ok (.iconst (-1), 1) := by decide +kernel
theorem dX10_next_2 : decode cX10_next 2 = .ok (.if_icmp .ge 6, 3) := by decide +kernel
theorem dX10_next_5 : decode cX10_next 5 = .ok (.bipush (-9), 2) := by decide +kernel
theorem dX10_next_7 : decode cX10_next 7 = .ok (.ireturn, 1) := by decide +kernel
theorem dX10_next_8 : decode cX10_next 8 = .ok (.aload_n 0, 1) := by decide +kernel
theorem dX10_next_9 : decode cX10_next 9 = .ok (.invokevirtual 178, 3) := by decide +kernel
theorem dX10_next_12 : decode cX10_next 12 = .ok (.bipush 64, 2) := by decide +kernel
theorem dX10_next_14 : decode cX10_next 14 = .ok (.if_icmp .ne 6, 3) := by decide +kernel
theorem dX10_next_17 : decode cX10_next 17 = .ok (.bipush (-3), 2) := by decide +kernel
theorem dX10_next_19 : decode cX10_next 19 = .ok (.ireturn, 1) := by decide +kernel
theorem dX10_next_20 : decode cX10_next 20 = .ok (.aload_n 0, 1) := by decide +kernel
theorem dX10_next_21 : decode cX10_next 21 = .ok (.aload_n 0, 1) := by decide +kernel
theorem dX10_next_22 : decode cX10_next 22 = .ok (.getfield 7, 3) := by decide +kernel
theorem dX10_next_25 : decode cX10_next 25 = .ok (.bipush 6, 2) := by decide +kernel
theorem dX10_next_27 : decode cX10_next 27 = .ok (.iaload, 1) := by decide +kernel
theorem dX10_next_28 : decode cX10_next 28 = .ok (.invokevirtual 187, 3) := by decide +kernel
theorem dX10_next_31 : decode cX10_next 31 = .ok (.iconst 0, 1) := by decide +kernel
theorem dX10_next_32 : decode cX10_next 32 = .ok (.istore_n 2, 1) := by decide +kernel
theorem dX10_next_33 : decode cX10_next 33 = .ok (.iconst 0, 1) := by decide +kernel
theorem dX10_next_34 : decode cX10_next 34 = .ok (.istore_n 3, 1) := by decide +kernel
theorem dX10_next_35 : decode cX10_next 35 = .ok (.iload_n 3, 1) := by decide +kernel
theorem dX10_next_36 : decode cX10_next 36 = .ok (.aload_n 0, 1) := by decide +kernel
theorem dX10_next_37 : decode cX10_next 37 = .ok (.getfield 181, 3) := by decide +kernel
theorem dX10_next_40 : decode cX10_next 40 = .ok (.if_icmp .ge 49, 3) := by decide +kernel
theorem dX10_next_43 : decode cX10_next 43 = .ok (.aload_n 0, 1) := by decide +kernel
theorem dX10_next_44 : decode cX10_next 44 = .ok (.aload_n 0, 1) := by decide +kernel
theorem dX10_next_45 : decode cX10_next 45 = .ok (.getfield 26, 3) := by decide +kernel
theorem dX10_next_48 : decode cX10_next 48 = .ok (.iload_n 3, 1) := by decide +kernel
theorem dX10_next_49 : decode cX10_next 49 = .ok (.iaload, 1) := by decide +kernel
theorem dX10_next_50 : decode cX10_next 50 = .ok (.invokevirtual 193, 3) := by decide +kernel
theorem dX10_next_53 : decode cX10_next 53 = .ok (.ifCond .ne 6, 3) := by decide +kernel
theorem dX10_next_56 : decode cX10_next 56 = .ok (.goto 27, 3) := by decide +kernel
theorem dX10_next_59 : decode cX10_next 59 = .ok (.iload_n 2, 1) := by decide +kernel
theorem dX10_next_60 : decode cX10_next 60 = .ok (.iload_n 1, 1) := by decide +kernel
theorem dX10_next_61 : decode cX10_next 61 = .ok (.if_icmp .ne 18, 3) := by decide +kernel
theorem dX10_next_64 : decode cX10_next 64 = .ok (.aload_n 0, 1) := by decide +kernel
theorem dX10_next_65 : decode cX10_next 65 = .ok (.getfield 7, 3) := by decide +kernel
theorem dX10_next_68 : decode cX10_next 68 = .ok (.bipush 40, 2) := by decide +kernel
theorem dX10_next_70 : decode cX10_next 70 = .ok (.aload_n 0, 1) := by decide +kernel
theorem dX10_next_71 : decode cX10_next 71 = .ok (.getfield 26, 3) := by decide +kernel
theorem dX10_next_74 : decode cX10_next 74 = .ok (.iload_n 3, 1) := by decide +kernel
theorem dX10_next_75 : decode cX10_next 75 = .ok (.iaload, 1) := by decide +kernel
theorem dX10_next_76 : decode cX10_next 76 = .ok (.iadd, 1) := by decide +kernel
theorem dX10_next_77 : decode cX10_next 77 = .ok (.iaload, 1) := by decide +kernel
theorem dX10_next_78 : decode cX10_next 78 = .ok (.ireturn, 1) := by decide +kernel
theorem dX10_next_79 : decode cX10_next 79 = .ok (.iload_n 2, 1) := by decide +kernel
theorem dX10_next_80 : decode cX10_next 80 = .ok (.iconst 1, 1) := by decide +kernel
theorem dX10_next_81 : decode cX10_next 81 = .ok (.iadd, 1) := by decide +kernel
theorem dX10_next_82 : decode cX10_next 82 = .ok (.istore_n 2, 1) := by decide +kernel
theorem dX10_next_83 : decode cX10_next 83 = .ok (.iinc 3 1, 3) := by decide +kernel
theorem dX10_next_86 : decode cX10_next 86 = .ok (.goto (-51), 3) := by decide +kernel
theorem dX10_next_89 : decode cX10_next 89 = .ok (.iload_n 1, 1) := by decide +kernel
theorem dX10_next_90 : decode cX10_next 90 = .ok (.iconst (-1), 1) := by decide +kernel
theorem dX10_next_91 : decode cX10_next 91 = .ok (.if_icmp .ne 7, 3) := by decide +kernel
theorem dX10_next_94 : decode cX10_next 94 = .ok (.iload_n 2, 1) := by decide +kernel
theorem dX10_next_95 : decode cX10_next 95 = .ok (.goto 5, 3) := by decide +kernel
theorem dX10_next_98 : decode cX10_next 98 = .ok (.bipush (-4), 2) := by decide +kernel
theorem dX10_next_100 : decode cX10_next 100 = .ok (.ireturn, 1) := by decide +kernel
theorem dX10_parted_0 : decode cX10_parted 0 = .ok (.iload_n 1, 1) := by decide +kernel
theorem dX10_parted_1 : decode cX10_parted 1 = .ok (.invokestatic 226, 3) := by decide +kernel
theorem dX10_parted_4 : decode cX10_parted 4 = .ok (.ifCond .eq 15, 3) := by decide +kernel
theorem dX10_parted_7 : decode cX10_parted 7 = .ok (.iload_n 2, 1) := by decide +kernel
theorem dX10_parted_8 : decode cX10_parted 8 = .ok (.invokestatic 226, 3) := by decide +kernel
theorem dX10_parted_11 : decode cX10_parted 11 = .ok (.ifCond .eq 8, 3) := by decide +kernel
theorem dX10_parted_14 : decode cX10_parted 14 = .ok (.iload_n 1, 1) := by decide +kernel
theorem dX10_parted_15 : decode cX10_parted 15 = .ok (.iload_n 2, 1) := by decide +kernel
theorem dX10_parted_16 : decode cX10_parted 16 = .ok (.if_icmp .ne 5, 3) := by decide +kernel
theorem dX10_parted_19 : decode cX10_parted 19 = .ok (.iconst (-1), 1) := by decide +kernel
theorem dX10_parted_20 : decode cX10_parted 20 = .ok (.ireturn, 1) := by decide +kernel
theorem dX10_parted_21 : decode cX10_parted 21 = .ok (.aload_n 0, 1) := by decide +kernel
theorem dX10_parted_22 : decode cX10_parted 22 = .ok (.getfield 7, 3) := by decide +kernel
theorem dX10_parted_25 : decode cX10_parted 25 = .ok (.iconst 0, 1) := by decide +kernel
theorem dX10_parted_26 : decode cX10_parted 26 = .ok (.iaload, 1) := by decide +kernel
theorem dX10_parted_27 : decode cX10_parted 27 = .ok (.istore_n 3, 1) := by decide +kernel
theorem dX10_parted_28 : decode cX10_parted 28 = .ok (.iload_n 3, 1) := by decide +kernel
theorem dX10_parted_29 : decode cX10_parted 29 = .ok (.bipush 64, 2) := by decide +kernel
theorem dX10_parted_31 : decode cX10_parted 31 = .ok (.if_icmp .gt 26, 3) := by decide +kernel
theorem dX10_parted_34 : decode cX10_parted 34 = .ok (.aload_n 0, 1) := by decide +kernel
theorem dX10_parted_35 : decode cX10_parted 35 = .ok (.iload_n 1, 1) := by decide +kernel
theorem dX10_parted_36 : decode cX10_parted 36 = .ok (.iload_n 3, 1) := by decide +kernel
theorem dX10_parted_37 : decode cX10_parted 37 = .ok (.invokevirtual 305, 3) := by decide +kernel
theorem dX10_parted_40 : decode cX10_parted 40 = .ok (.aload_n 0, 1) := by decide +kernel
theorem dX10_parted_41 : decode cX10_parted 41 = .ok (.iload_n 2, 1) := by decide +kernel
theorem dX10_parted_42 : decode cX10_parted 42 = .ok (.iload_n 3, 1) := by decide +kernel
theorem dX10_parted_43 : decode cX10_parted 43 = .ok (.invokevirtual 305, 3) := by decide +kernel
theorem dX10_parted_46 : decode cX10_parted 46 = .ok (.if_icmp .eq 5, 3) := by decide +kernel
theorem dX10_parted_49 : decode cX10_parted 49 = .ok (.iload_n 3, 1) := by decide +kernel
theorem dX10_parted_50 : decode cX10_parted 50 = .ok (.ireturn, 1) := by decide +kernel
theorem dX10_parted_51 : decode cX10_parted 51 = .ok (.iinc 3 1, 3) := by decide +kernel
theorem dX10_parted_54 : decode cX10_parted 54 = .ok (.goto (-26), 3) := by decide +kernel
theorem dX10_parted_57 : decode cX10_parted 57 = .ok (.bipush (-2), 2) := by decide +kernel
theorem dX10_parted_59 : decode cX10_parted 59 = .ok (.ireturn, 1) := by decide +kernel
theorem dX10_countsIn_0 : decode cX10_countsIn 0 = .ok (.iconst 0, 1) := by decide +kernel
theorem dX10_countsIn_1 : decode cX10_countsIn 1 = .ok (.istore_n 2, 1) := by decide +kernel
theorem dX10_countsIn_2 : decode cX10_countsIn 2 = .ok (.iload_n 2, 1) := by decide +kernel
theorem dX10_countsIn_3 : decode cX10_countsIn 3 = .ok (.bipush 64, 2) := by decide +kernel
theorem dX10_countsIn_5 : decode cX10_countsIn 5 = .ok (.if_icmp .ge 16, 3) := by decide +kernel
theorem dX10_countsIn_8 : decode cX10_countsIn 8 = .ok (.aload_n 0, 1) := by decide +kernel
theorem dX10_countsIn_9 : decode cX10_countsIn 9 = .ok (.getfield 47, 3) := by decide +kernel
theorem dX10_countsIn_12 : decode cX10_countsIn 12 = .ok (.iload_n 2, 1) := by decide +kernel
theorem dX10_countsIn_13 : decode cX10_countsIn 13 = .ok (.iconst 0, 1) := by decide +kernel
theorem dX10_countsIn_14 : decode cX10_countsIn 14 = .ok (.iastore, 1) := by decide +kernel
theorem dX10_countsIn_15 : decode cX10_countsIn 15 = .ok (.iinc 2 1, 3) := by decide +kernel
theorem dX10_countsIn_18 : decode cX10_countsIn 18 = .ok (.goto (-16), 3) := by decide +kernel
theorem dX10_countsIn_21 : decode cX10_countsIn 21 = .ok (.iconst 0, 1) := by decide +kernel
theorem dX10_countsIn_22 : decode cX10_countsIn 22 = .ok (.istore_n 2, 1) := by decide +kernel
theorem dX10_countsIn_23 : decode cX10_countsIn 23 = .ok (.iload_n 2, 1) := by decide +kernel
theorem dX10_countsIn_24 : decode cX10_countsIn 24 = .ok (.aload_n 0, 1) := by decide +kernel
theorem dX10_countsIn_25 : decode cX10_countsIn 25 = .ok (.getfield 7, 3) := by decide +kernel
theorem dX10_countsIn_28 : decode cX10_countsIn 28 = .ok (.bipush 7, 2) := by decide +kernel
theorem dX10_countsIn_30 : decode cX10_countsIn 30 = .ok (.iaload, 1) := by decide +kernel
theorem dX10_countsIn_31 : decode cX10_countsIn 31 = .ok (.if_icmp .ge 38, 3) := by decide +kernel
theorem dX10_countsIn_34 : decode cX10_countsIn 34 = .ok (.aload_n 0, 1) := by decide +kernel
theorem dX10_countsIn_35 : decode cX10_countsIn 35 = .ok (.aload_n 0, 1) := by decide +kernel
theorem dX10_countsIn_36 : decode cX10_countsIn 36 = .ok (.getfield 7, 3) := by decide +kernel
theorem dX10_countsIn_39 : decode cX10_countsIn 39 = .ok (.bipush 40, 2) := by decide +kernel
theorem dX10_countsIn_41 : decode cX10_countsIn 41 = .ok (.iload_n 2, 1) := by decide +kernel
theorem dX10_countsIn_42 : decode cX10_countsIn 42 = .ok (.iadd, 1) := by decide +kernel
theorem dX10_countsIn_43 : decode cX10_countsIn 43 = .ok (.iaload, 1) := by decide +kernel
theorem dX10_countsIn_44 : decode cX10_countsIn 44 = .ok (.iload_n 1, 1) := by decide +kernel
theorem dX10_countsIn_45 : decode cX10_countsIn 45 = .ok (.invokevirtual 305, 3) := by decide +kernel
theorem dX10_countsIn_48 : decode cX10_countsIn 48 = .ok (.istore_n 3, 1) := by decide +kernel
theorem dX10_countsIn_49 : decode cX10_countsIn 49 = .ok (.aload_n 0, 1) := by decide +kernel
theorem dX10_countsIn_50 : decode cX10_countsIn 50 = .ok (.getfield 47, 3) := by decide +kernel
theorem dX10_countsIn_53 : decode cX10_countsIn 53 = .ok (.iload_n 3, 1) := by decide +kernel
theorem dX10_countsIn_54 : decode cX10_countsIn 54 = .ok (.aload_n 0, 1) := by decide +kernel
theorem dX10_countsIn_55 : decode cX10_countsIn 55 = .ok (.getfield 47, 3) := by decide +kernel
theorem dX10_countsIn_58 : decode cX10_countsIn 58 = .ok (.iload_n 3, 1) := by decide +kernel
theorem dX10_countsIn_59 : decode cX10_countsIn 59 = .ok (.iaload, 1) := by decide +kernel
theorem dX10_countsIn_60 : decode cX10_countsIn 60 = .ok (.iconst 1, 1) := by decide +kernel
theorem dX10_countsIn_61 : decode cX10_countsIn 61 = .ok (.iadd, 1) := by decide +kernel
theorem dX10_countsIn_62 : decode cX10_countsIn 62 = .ok (.iastore, 1) := by decide +kernel
theorem dX10_countsIn_63 : decode cX10_countsIn 63 = .ok (.iinc 2 1, 3) := by decide +kernel
theorem dX10_countsIn_66 : decode cX10_countsIn 66 = .ok (.goto (-43), 3) := by decide +kernel
theorem dX10_countsIn_69 : decode cX10_countsIn 69 = .ok (.return_, 1) := by decide +kernel
theorem dX10_enough_0 : decode cX10_enough 0 = .ok (.iload_n 1, 1) := by decide +kernel
theorem dX10_enough_1 : decode cX10_enough 1 = .ok (.iconst 1, 1) := by decide +kernel
theorem dX10_enough_2 : decode cX10_enough 2 = .ok (.sipush 300, 3) := by decide +kernel
theorem dX10_enough_5 : decode cX10_enough 5 = .ok (.invokestatic 67, 3) := by decide +kernel
theorem dX10_enough_8 : decode cX10_enough 8 = .ok (.ifCond .ne 5, 3) := by decide +kernel
theorem dX10_enough_11 : decode cX10_enough 11 = .ok (.iconst (-1), 1) := by decide +kernel
theorem dX10_enough_12 : decode cX10_enough 12 = .ok (.ireturn, 1) := by decide +kernel
theorem dX10_enough_13 : decode cX10_enough 13 = .ok (.aload_n 0, 1) := by decide +kernel
theorem dX10_enough_14 : decode cX10_enough 14 = .ok (.getfield 7, 3) := by decide +kernel
theorem dX10_enough_17 : decode cX10_enough 17 = .ok (.iconst 0, 1) := by decide +kernel
theorem dX10_enough_18 : decode cX10_enough 18 = .ok (.iaload, 1) := by decide +kernel
theorem dX10_enough_19 : decode cX10_enough 19 = .ok (.istore_n 2, 1) := by decide +kernel
theorem dX10_enough_20 : decode cX10_enough 20 = .ok (.iload_n 2, 1) := by decide +kernel
theorem dX10_enough_21 : decode cX10_enough 21 = .ok (.bipush 64, 2) := by decide +kernel
theorem dX10_enough_23 : decode cX10_enough 23 = .ok (.if_icmp .gt 50, 3) := by decide +kernel
theorem dX10_enough_26 : decode cX10_enough 26 = .ok (.aload_n 0, 1) := by decide +kernel
theorem dX10_enough_27 : decode cX10_enough 27 = .ok (.iload_n 2, 1) := by decide +kernel
theorem dX10_enough_28 : decode cX10_enough 28 = .ok (.invokevirtual 326, 3) := by decide +kernel
theorem dX10_enough_31 : decode cX10_enough 31 = .ok (.iconst 0, 1) := by decide +kernel
theorem dX10_enough_32 : decode cX10_enough 32 = .ok (.istore_n 3, 1) := by decide +kernel
theorem dX10_enough_33 : decode cX10_enough 33 = .ok (.iconst 0, 1) := by decide +kernel
theorem dX10_enough_34 : decode cX10_enough 34 = .ok (.istore 4, 2) := by decide +kernel
theorem dX10_enough_36 : decode cX10_enough 36 = .ok (.iload 4, 2) := by decide +kernel
theorem dX10_enough_38 : decode cX10_enough 38 = .ok (.iload_n 2, 1) := by decide +kernel
theorem dX10_enough_39 : decode cX10_enough 39 = .ok (.if_icmp .ge 21, 3) := by decide +kernel
theorem dX10_enough_42 : decode cX10_enough 42 = .ok (.iload_n 3, 1) := by decide +kernel
theorem dX10_enough_43 : decode cX10_enough 43 = .ok (.aload_n 0, 1) := by decide +kernel
theorem dX10_enough_44 : decode cX10_enough 44 = .ok (.getfield 47, 3) := by decide +kernel
theorem dX10_enough_47 : decode cX10_enough 47 = .ok (.iload 4, 2) := by decide +kernel
theorem dX10_enough_49 : decode cX10_enough 49 = .ok (.iaload, 1) := by decide +kernel
theorem dX10_enough_50 : decode cX10_enough 50 = .ok (.invokestatic 293, 3) := by decide +kernel
theorem dX10_enough_53 : decode cX10_enough 53 = .ok (.istore_n 3, 1) := by decide +kernel
theorem dX10_enough_54 : decode cX10_enough 54 = .ok (.iinc 4 1, 3) := by decide +kernel
theorem dX10_enough_57 : decode cX10_enough 57 = .ok (.goto (-21), 3) := by decide +kernel
theorem dX10_enough_60 : decode cX10_enough 60 = .ok (.iload_n 3, 1) := by decide +kernel
theorem dX10_enough_61 : decode cX10_enough 61 = .ok (.iload_n 1, 1) := by decide +kernel
theorem dX10_enough_62 : decode cX10_enough 62 = .ok (.if_icmp .gt 5, 3) := by decide +kernel
theorem dX10_enough_65 : decode cX10_enough 65 = .ok (.iload_n 2, 1) := by decide +kernel
theorem dX10_enough_66 : decode cX10_enough 66 = .ok (.ireturn, 1) := by decide +kernel
theorem dX10_enough_67 : decode cX10_enough 67 = .ok (.iinc 2 1, 3) := by decide +kernel
theorem dX10_enough_70 : decode cX10_enough 70 = .ok (.goto (-50), 3) := by decide +kernel
theorem dX10_enough_73 : decode cX10_enough 73 = .ok (.bipush (-2), 2) := by decide +kernel
theorem dX10_enough_75 : decode cX10_enough 75 = .ok (.ireturn, 1) := by decide +kernel
theorem dX10_anew_0 : decode cX10_anew 0 = .ok (.aload_n 0, 1) := by decide +kernel
theorem dX10_anew_1 : decode cX10_anew 1 = .ok (.iload_n 1, 1) := by decide +kernel
theorem dX10_anew_2 : decode cX10_anew 2 = .ok (.invokevirtual 311, 3) := by decide +kernel
theorem dX10_anew_5 : decode cX10_anew 5 = .ok (.ifCond .eq 12, 3) := by decide +kernel
theorem dX10_anew_8 : decode cX10_anew 8 = .ok (.iload_n 2, 1) := by decide +kernel
theorem dX10_anew_9 : decode cX10_anew 9 = .ok (.iconst 0, 1) := by decide +kernel
theorem dX10_anew_10 : decode cX10_anew 10 = .ok (.iconst 3, 1) := by decide +kernel
theorem dX10_anew_11 : decode cX10_anew 11 = .ok (.invokestatic 67, 3) := by decide +kernel
theorem dX10_anew_14 : decode cX10_anew 14 = .ok (.ifCond .ne 5, 3) := by decide +kernel
theorem dX10_anew_17 : decode cX10_anew 17 = .ok (.iconst (-1), 1) := by decide +kernel
theorem dX10_anew_18 : decode cX10_anew 18 = .ok (.ireturn, 1) := by decide +kernel
theorem dX10_anew_19 : decode cX10_anew 19 = .ok (.aload_n 0, 1) := by decide +kernel
theorem dX10_anew_20 : decode cX10_anew 20 = .ok (.iload_n 1, 1) := by decide +kernel
theorem dX10_anew_21 : decode cX10_anew 21 = .ok (.invokevirtual 326, 3) := by decide +kernel
theorem dX10_anew_24 : decode cX10_anew 24 = .ok (.iconst 0, 1) := by decide +kernel
theorem dX10_anew_25 : decode cX10_anew 25 = .ok (.istore_n 3, 1) := by decide +kernel
theorem dX10_anew_26 : decode cX10_anew 26 = .ok (.iconst 0, 1) := by decide +kernel
theorem dX10_anew_27 : decode cX10_anew 27 = .ok (.istore 4, 2) := by decide +kernel
theorem dX10_anew_29 : decode cX10_anew 29 = .ok (.iconst 0, 1) := by decide +kernel
theorem dX10_anew_30 : decode cX10_anew 30 = .ok (.istore 5, 2) := by decide +kernel
theorem dX10_anew_32 : decode cX10_anew 32 = .ok (.iconst 0, 1) := by decide +kernel
theorem dX10_anew_33 : decode cX10_anew 33 = .ok (.istore 6, 2) := by decide +kernel
theorem dX10_anew_35 : decode cX10_anew 35 = .ok (.iconst 0, 1) := by decide +kernel
theorem dX10_anew_36 : decode cX10_anew 36 = .ok (.istore 7, 2) := by decide +kernel
theorem dX10_anew_38 : decode cX10_anew 38 = .ok (.iload 7, 2) := by decide +kernel
theorem dX10_anew_40 : decode cX10_anew 40 = .ok (.iload_n 1, 1) := by decide +kernel
theorem dX10_anew_41 : decode cX10_anew 41 = .ok (.if_icmp .ge 105, 3) := by decide +kernel
theorem dX10_anew_44 : decode cX10_anew 44 = .ok (.iconst 1, 1) := by decide +kernel
theorem dX10_anew_45 : decode cX10_anew 45 = .ok (.aload_n 0, 1) := by decide +kernel
theorem dX10_anew_46 : decode cX10_anew 46 = .ok (.getfield 47, 3) := by decide +kernel
theorem dX10_anew_49 : decode cX10_anew 49 = .ok (.iload 7, 2) := by decide +kernel
theorem dX10_anew_51 : decode cX10_anew 51 = .ok (.iaload, 1) := by decide +kernel
theorem dX10_anew_52 : decode cX10_anew 52 = .ok (.aload_n 0, 1) := by decide +kernel
theorem dX10_anew_53 : decode cX10_anew 53 = .ok (.getfield 7, 3) := by decide +kernel
theorem dX10_anew_56 : decode cX10_anew 56 = .ok (.iconst 1, 1) := by decide +kernel
theorem dX10_anew_57 : decode cX10_anew 57 = .ok (.iaload, 1) := by decide +kernel
theorem dX10_anew_58 : decode cX10_anew 58 = .ok (.iadd, 1) := by decide +kernel
theorem dX10_anew_59 : decode cX10_anew 59 = .ok (.iconst 1, 1) := by decide +kernel
theorem dX10_anew_60 : decode cX10_anew 60 = .ok (.isub, 1) := by decide +kernel
theorem dX10_anew_61 : decode cX10_anew 61 = .ok (.aload_n 0, 1) := by decide +kernel
theorem dX10_anew_62 : decode cX10_anew 62 = .ok (.getfield 7, 3) := by decide +kernel
theorem dX10_anew_65 : decode cX10_anew 65 = .ok (.iconst 1, 1) := by decide +kernel
theorem dX10_anew_66 : decode cX10_anew 66 = .ok (.iaload, 1) := by decide +kernel
theorem dX10_anew_67 : decode cX10_anew 67 = .ok (.idiv, 1) := by decide +kernel
theorem dX10_anew_68 : decode cX10_anew 68 = .ok (.invokestatic 293, 3) := by decide +kernel
theorem dX10_anew_71 : decode cX10_anew 71 = .ok (.istore 8, 2) := by decide +kernel
theorem dX10_anew_73 : decode cX10_anew 73 = .ok (.iload_n 3, 1) := by decide +kernel
theorem dX10_anew_74 : decode cX10_anew 74 = .ok (.iload 8, 2) := by decide +kernel
theorem dX10_anew_76 : decode cX10_anew 76 = .ok (.iadd, 1) := by decide +kernel
theorem dX10_anew_77 : decode cX10_anew 77 = .ok (.istore_n 3, 1) := by decide +kernel
theorem dX10_anew_78 : decode cX10_anew 78 = .ok (.iload 4, 2) := by decide +kernel
theorem dX10_anew_80 : decode cX10_anew 80 = .ok (.iload 8, 2) := by decide +kernel
theorem dX10_anew_82 : decode cX10_anew 82 = .ok (.invokestatic 293, 3) := by decide +kernel
theorem dX10_anew_85 : decode cX10_anew 85 = .ok (.istore 4, 2) := by decide +kernel
theorem dX10_anew_87 : decode cX10_anew 87 = .ok (.aload_n 0, 1) := by decide +kernel
theorem dX10_anew_88 : decode cX10_anew 88 = .ok (.getfield 47, 3) := by decide +kernel
theorem dX10_anew_91 : decode cX10_anew 91 = .ok (.iload 7, 2) := by decide +kernel
theorem dX10_anew_93 : decode cX10_anew 93 = .ok (.iaload, 1) := by decide +kernel
theorem dX10_anew_94 : decode cX10_anew 94 = .ok (.ifCond .ne 9, 3) := by decide +kernel
theorem dX10_anew_97 : decode cX10_anew 97 = .ok (.iload 5, 2) := by decide +kernel
theorem dX10_anew_99 : decode cX10_anew 99 = .ok (.iconst 1, 1) := by decide +kernel
theorem dX10_anew_100 : decode cX10_anew 100 = .ok (.iadd, 1) := by decide +kernel
theorem dX10_anew_101 : decode cX10_anew 101 = .ok (.istore 5, 2) := by decide +kernel
theorem dX10_anew_103 : decode cX10_anew 103 = .ok (.iconst 0, 1) := by decide +kernel
theorem dX10_anew_104 : decode cX10_anew 104 = .ok (.istore 9, 2) := by decide +kernel
theorem dX10_anew_106 : decode cX10_anew 106 = .ok (.iload 9, 2) := by decide +kernel
theorem dX10_anew_108 : decode cX10_anew 108 = .ok (.aload_n 0, 1) := by decide +kernel
theorem dX10_anew_109 : decode cX10_anew 109 = .ok (.getfield 47, 3) := by decide +kernel
theorem dX10_anew_112 : decode cX10_anew 112 = .ok (.iload 7, 2) := by decide +kernel
theorem dX10_anew_114 : decode cX10_anew 114 = .ok (.iaload, 1) := by decide +kernel
theorem dX10_anew_115 : decode cX10_anew 115 = .ok (.if_icmp .ge 25, 3) := by decide +kernel
theorem dX10_anew_118 : decode cX10_anew 118 = .ok (.iload 6, 2) := by decide +kernel
theorem dX10_anew_120 : decode cX10_anew 120 = .ok (.iload 9, 2) := by decide +kernel
theorem dX10_anew_122 : decode cX10_anew 122 = .ok (.aload_n 0, 1) := by decide +kernel
theorem dX10_anew_123 : decode cX10_anew 123 = .ok (.getfield 7, 3) := by decide +kernel
theorem dX10_anew_126 : decode cX10_anew 126 = .ok (.iconst 1, 1) := by decide +kernel
theorem dX10_anew_127 : decode cX10_anew 127 = .ok (.iaload, 1) := by decide +kernel
theorem dX10_anew_128 : decode cX10_anew 128 = .ok (.idiv, 1) := by decide +kernel
theorem dX10_anew_129 : decode cX10_anew 129 = .ok (.iadd, 1) := by decide +kernel
theorem dX10_anew_130 : decode cX10_anew 130 = .ok (.iconst 1, 1) := by decide +kernel
theorem dX10_anew_131 : decode cX10_anew 131 = .ok (.iadd, 1) := by decide +kernel
theorem dX10_anew_132 : decode cX10_anew 132 = .ok (.istore 6, 2) := by decide +kernel
theorem dX10_anew_134 : decode cX10_anew 134 = .ok (.iinc 9 1, 3) := by decide +kernel
theorem dX10_anew_137 : decode cX10_anew 137 = .ok (.goto (-31), 3) := by decide +kernel
theorem dX10_anew_140 : decode cX10_anew 140 = .ok (.iinc 7 1, 3) := by decide +kernel
theorem dX10_anew_143 : decode cX10_anew 143 = .ok (.goto (-105), 3) := by decide +kernel
theorem dX10_anew_146 : decode cX10_anew 146 = .ok (.iload_n 2, 1) := by decide +kernel
theorem dX10_anew_147 : decode cX10_anew 147 = .ok (.ifCond .ne 7, 3) := by decide +kernel
theorem dX10_anew_150 : decode cX10_anew 150 = .ok (.iload_n 3, 1) := by decide +kernel
theorem dX10_anew_151 : decode cX10_anew 151 = .ok (.goto 25, 3) := by decide +kernel
theorem dX10_anew_154 : decode cX10_anew 154 = .ok (.iload_n 2, 1) := by decide +kernel
theorem dX10_anew_155 : decode cX10_anew 155 = .ok (.iconst 1, 1) := by decide +kernel
theorem dX10_anew_156 : decode cX10_anew 156 = .ok (.if_icmp .ne 8, 3) := by decide +kernel
theorem dX10_anew_159 : decode cX10_anew 159 = .ok (.iload 4, 2) := by decide +kernel
theorem dX10_anew_161 : decode cX10_anew 161 = .ok (.goto 15, 3) := by decide +kernel
theorem dX10_anew_164 : decode cX10_anew 164 = .ok (.iload_n 2, 1) := by decide +kernel
theorem dX10_anew_165 : decode cX10_anew 165 = .ok (.iconst 2, 1) := by decide +kernel
theorem dX10_anew_166 : decode cX10_anew 166 = .ok (.if_icmp .ne 8, 3) := by decide +kernel
theorem dX10_anew_169 : decode cX10_anew 169 = .ok (.iload 5, 2) := by decide +kernel
theorem dX10_anew_171 : decode cX10_anew 171 = .ok (.goto 5, 3) := by decide +kernel
theorem dX10_anew_174 : decode cX10_anew 174 = .ok (.iload 6, 2) := by decide +kernel
theorem dX10_anew_176 : decode cX10_anew 176 = .ok (.ireturn, 1) := by decide +kernel
theorem dX10_notesPages_0 : decode cX10_notesPages 0 = .ok (.aload_n 0, 1) := by decide +kernel
theorem dX10_notesPages_1 : decode cX10_notesPages 1 = .ok (.iload_n 1, 1) := by decide +kernel
theorem dX10_notesPages_2 : decode cX10_notesPages 2 = .ok (.invokevirtual 172, 3) := by decide +kernel
theorem dX10_notesPages_5 : decode cX10_notesPages 5 = .ok (.istore_n 2, 1) := by decide +kernel
theorem dX10_notesPages_6 : decode cX10_notesPages 6 = .ok (.iconst 0, 1) := by decide +kernel
theorem dX10_notesPages_7 : decode cX10_notesPages 7 = .ok (.istore_n 3, 1) := by decide +kernel
theorem dX10_notesPages_8 : decode cX10_notesPages 8 = .ok (.iload_n 3, 1) := by decide +kernel
theorem dX10_notesPages_9 : decode cX10_notesPages 9 = .ok (.iload_n 2, 1) := by decide +kernel
theorem dX10_notesPages_10 : decode cX10_notesPages 10 = .ok (.if_icmp .ge 34, 3) := by decide +kernel
theorem dX10_notesPages_13 : decode cX10_notesPages 13 = .ok (.aload_n 0, 1) := by decide +kernel
theorem dX10_notesPages_14 : decode cX10_notesPages 14 = .ok (.getfield 56, 3) := by decide +kernel
theorem dX10_notesPages_17 : decode cX10_notesPages 17 = .ok (.aload_n 0, 1) := by decide +kernel
theorem dX10_notesPages_18 : decode cX10_notesPages 18 = .ok (.getfield 329, 3) := by decide +kernel
theorem dX10_notesPages_21 : decode cX10_notesPages 21 = .ok (.aload_n 0, 1) := by decide +kernel
theorem dX10_notesPages_22 : decode cX10_notesPages 22 = .ok (.iload_n 1, 1) := by decide +kernel
theorem dX10_notesPages_23 : decode cX10_notesPages 23 = .ok (.iload_n 3, 1) := by decide +kernel
theorem dX10_notesPages_24 : decode cX10_notesPages 24 = .ok (.invokevirtual 314, 3) := by decide +kernel
theorem dX10_notesPages_27 : decode cX10_notesPages 27 = .ok (.iastore, 1) := by decide +kernel
theorem dX10_notesPages_28 : decode cX10_notesPages 28 = .ok (.aload_n 0, 1) := by decide +kernel
theorem dX10_notesPages_29 : decode cX10_notesPages 29 = .ok (.aload_n 0, 1) := by decide +kernel
theorem dX10_notesPages_30 : decode cX10_notesPages 30 = .ok (.getfield 329, 3) := by decide +kernel
theorem dX10_notesPages_33 : decode cX10_notesPages 33 = .ok (.iconst 1, 1) := by decide +kernel
theorem dX10_notesPages_34 : decode cX10_notesPages 34 = .ok (.iadd, 1) := by decide +kernel
theorem dX10_notesPages_35 : decode cX10_notesPages 35 = .ok (.putfield 329, 3) := by decide +kernel
theorem dX10_notesPages_38 : decode cX10_notesPages 38 = .ok (.iinc 3 1, 3) := by decide +kernel
theorem dX10_notesPages_41 : decode cX10_notesPages 41 = .ok (.goto (-33), 3) := by decide +kernel
theorem dX10_notesPages_44 : decode cX10_notesPages 44 = .ok (.return_, 1) := by decide +kernel
theorem dX10_isWritten_0 : decode cX10_isWritten 0 = .ok (.iconst 0, 1) := by decide +kernel
theorem dX10_isWritten_1 : decode cX10_isWritten 1 = .ok (.istore_n 3, 1) := by decide +kernel
theorem dX10_isWritten_2 : decode cX10_isWritten 2 = .ok (.iload_n 3, 1) := by decide +kernel
theorem dX10_isWritten_3 : decode cX10_isWritten 3 = .ok (.iload_n 2, 1) := by decide +kernel
theorem dX10_isWritten_4 : decode cX10_isWritten 4 = .ok (.if_icmp .ge 21, 3) := by decide +kernel
theorem dX10_isWritten_7 : decode cX10_isWritten 7 = .ok (.aload_n 0, 1) := by decide +kernel
theorem dX10_isWritten_8 : decode cX10_isWritten 8 = .ok (.getfield 56, 3) := by decide +kernel
theorem dX10_isWritten_11 : decode cX10_isWritten 11 = .ok (.iload_n 3, 1) := by decide +kernel
theorem dX10_isWritten_12 : decode cX10_isWritten 12 = .ok (.iaload, 1) := by decide +kernel
theorem dX10_isWritten_13 : decode cX10_isWritten 13 = .ok (.iload_n 1, 1) := by decide +kernel
theorem dX10_isWritten_14 : decode cX10_isWritten 14 = .ok (.if_icmp .ne 5, 3) := by decide +kernel
theorem dX10_isWritten_17 : decode cX10_isWritten 17 = .ok (.iconst 1, 1) := by decide +kernel
theorem dX10_isWritten_18 : decode cX10_isWritten 18 = .ok (.ireturn, 1) := by decide +kernel
theorem dX10_isWritten_19 : decode cX10_isWritten 19 = .ok (.iinc 3 1, 3) := by decide +kernel
theorem dX10_isWritten_22 : decode cX10_isWritten 22 = .ok (.goto (-20), 3) := by decide +kernel
theorem dX10_isWritten_25 : decode cX10_isWritten 25 = .ok (.iconst 0, 1) := by decide +kernel
theorem dX10_isWritten_26 : decode cX10_isWritten 26 = .ok (.ireturn, 1) := by decide +kernel
theorem dX10_pageOf_0 : decode cX10_pageOf 0 = .ok (.aload_n 0, 1) := by decide +kernel
theorem dX10_pageOf_1 : decode cX10_pageOf 1 = .ok (.aload_n 0, 1) := by decide +kernel
theorem dX10_pageOf_2 : decode cX10_pageOf 2 = .ok (.getfield 7, 3) := by decide +kernel
theorem dX10_pageOf_5 : decode cX10_pageOf 5 = .ok (.sipush 640, 3) := by decide +kernel
theorem dX10_pageOf_8 : decode cX10_pageOf 8 = .ok (.iload_n 1, 1) := by decide +kernel
theorem dX10_pageOf_9 : decode cX10_pageOf 9 = .ok (.iadd, 1) := by decide +kernel
theorem dX10_pageOf_10 : decode cX10_pageOf 10 = .ok (.iaload, 1) := by decide +kernel
theorem dX10_pageOf_11 : decode cX10_pageOf 11 = .ok (.aload_n 0, 1) := by decide +kernel
theorem dX10_pageOf_12 : decode cX10_pageOf 12 = .ok (.iload_n 1, 1) := by decide +kernel
theorem dX10_pageOf_13 : decode cX10_pageOf 13 = .ok (.invokevirtual 169, 3) := by decide +kernel
theorem dX10_pageOf_16 : decode cX10_pageOf 16 = .ok (.aload_n 0, 1) := by decide +kernel
theorem dX10_pageOf_17 : decode cX10_pageOf 17 = .ok (.getfield 7, 3) := by decide +kernel
theorem dX10_pageOf_20 : decode cX10_pageOf 20 = .ok (.iconst 1, 1) := by decide +kernel
theorem dX10_pageOf_21 : decode cX10_pageOf 21 = .ok (.iaload, 1) := by decide +kernel
theorem dX10_pageOf_22 : decode cX10_pageOf 22 = .ok (.idiv, 1) := by decide +kernel
theorem dX10_pageOf_23 : decode cX10_pageOf 23 = .ok (.invokevirtual 314, 3) := by decide +kernel
theorem dX10_pageOf_26 : decode cX10_pageOf 26 = .ok (.ireturn, 1) := by decide +kernel
theorem dX10_torn_0 : decode cX10_torn 0 = .ok (.iload_n 1, 1) := by decide +kernel
theorem dX10_torn_1 : decode cX10_torn 1 = .ok (.iconst 0, 1) := by decide +kernel
theorem dX10_torn_2 : decode cX10_torn 2 = .ok (.iconst 1, 1) := by decide +kernel
theorem dX10_torn_3 : decode cX10_torn 3 = .ok (.invokestatic 67, 3) := by decide +kernel
theorem dX10_torn_6 : decode cX10_torn 6 = .ok (.ifCond .eq 16, 3) := by decide +kernel
theorem dX10_torn_9 : decode cX10_torn 9 = .ok (.iload_n 2, 1) := by decide +kernel
theorem dX10_torn_10 : decode cX10_torn 10 = .ok (.ifCond .lt 12, 3) := by decide +kernel
theorem dX10_torn_13 : decode cX10_torn 13 = .ok (.iload_n 3, 1) := by decide +kernel
theorem dX10_torn_14 : decode cX10_torn 14 = .ok (.iconst 0, 1) := by decide +kernel
theorem dX10_torn_15 : decode cX10_torn 15 = .ok (.iconst 1, 1) := by decide +kernel
theorem dX10_torn_16 : decode cX10_torn 16 = .ok (.invokestatic 67, 3) := by decide +kernel
theorem dX10_torn_19 : decode cX10_torn 19 = .ok (.ifCond .ne 5, 3) := by decide +kernel
theorem dX10_torn_22 : decode cX10_torn 22 = .ok (.iconst (-1), 1) := by decide +kernel
theorem dX10_torn_23 : decode cX10_torn 23 = .ok (.ireturn, 1) := by decide +kernel
theorem dX10_torn_24 : decode cX10_torn 24 = .ok (.aload_n 0, 1) := by decide +kernel
theorem dX10_torn_25 : decode cX10_torn 25 = .ok (.invokevirtual 178, 3) := by decide +kernel
theorem dX10_torn_28 : decode cX10_torn 28 = .ok (.bipush 64, 2) := by decide +kernel
theorem dX10_torn_30 : decode cX10_torn 30 = .ok (.if_icmp .ne 6, 3) := by decide +kernel
theorem dX10_torn_33 : decode cX10_torn 33 = .ok (.bipush (-3), 2) := by decide +kernel
theorem dX10_torn_35 : decode cX10_torn 35 = .ok (.ireturn, 1) := by decide +kernel
theorem dX10_torn_36 : decode cX10_torn 36 = .ok (.aload_n 0, 1) := by decide +kernel
theorem dX10_torn_37 : decode cX10_torn 37 = .ok (.iconst 0, 1) := by decide +kernel
theorem dX10_torn_38 : decode cX10_torn 38 = .ok (.iconst 2, 1) := by decide +kernel
theorem dX10_torn_39 : decode cX10_torn 39 = .ok (.invokevirtual 332, 3) := by decide +kernel
theorem dX10_torn_42 : decode cX10_torn 42 = .ok (.aload_n 0, 1) := by decide +kernel
theorem dX10_torn_43 : decode cX10_torn 43 = .ok (.getfield 7, 3) := by decide +kernel
theorem dX10_torn_46 : decode cX10_torn 46 = .ok (.bipush 6, 2) := by decide +kernel
theorem dX10_torn_48 : decode cX10_torn 48 = .ok (.iaload, 1) := by decide +kernel
theorem dX10_torn_49 : decode cX10_torn 49 = .ok (.istore 4, 2) := by decide +kernel
theorem dX10_torn_51 : decode cX10_torn 51 = .ok (.aload_n 0, 1) := by decide +kernel
theorem dX10_torn_52 : decode cX10_torn 52 = .ok (.invokevirtual 178, 3) := by decide +kernel
theorem dX10_torn_55 : decode cX10_torn 55 = .ok (.istore 5, 2) := by decide +kernel
theorem dX10_torn_57 : decode cX10_torn 57 = .ok (.aload_n 0, 1) := by decide +kernel
theorem dX10_torn_58 : decode cX10_torn 58 = .ok (.iload 4, 2) := by decide +kernel
theorem dX10_torn_60 : decode cX10_torn 60 = .ok (.invokevirtual 187, 3) := by decide +kernel
theorem dX10_torn_63 : decode cX10_torn 63 = .ok (.aload_n 0, 1) := by decide +kernel
theorem dX10_torn_64 : decode cX10_torn 64 = .ok (.aload_n 0, 1) := by decide +kernel
theorem dX10_torn_65 : decode cX10_torn 65 = .ok (.getfield 181, 3) := by decide +kernel
theorem dX10_torn_68 : decode cX10_torn 68 = .ok (.putfield 335, 3) := by decide +kernel
theorem dX10_torn_71 : decode cX10_torn 71 = .ok (.iconst 0, 1) := by decide +kernel
theorem dX10_torn_72 : decode cX10_torn 72 = .ok (.istore 6, 2) := by decide +kernel
theorem dX10_torn_74 : decode cX10_torn 74 = .ok (.iload 6, 2) := by decide +kernel
theorem dX10_torn_76 : decode cX10_torn 76 = .ok (.aload_n 0, 1) := by decide +kernel
theorem dX10_torn_77 : decode cX10_torn 77 = .ok (.getfield 335, 3) := by decide +kernel
theorem dX10_torn_80 : decode cX10_torn 80 = .ok (.if_icmp .ge 49, 3) := by decide +kernel
theorem dX10_torn_83 : decode cX10_torn 83 = .ok (.aload_n 0, 1) := by decide +kernel
theorem dX10_torn_84 : decode cX10_torn 84 = .ok (.getfield 53, 3) := by decide +kernel
theorem dX10_torn_87 : decode cX10_torn 87 = .ok (.iload 6, 2) := by decide +kernel
theorem dX10_torn_89 : decode cX10_torn 89 = .ok (.aload_n 0, 1) := by decide +kernel
theorem dX10_torn_90 : decode cX10_torn 90 = .ok (.getfield 7, 3) := by decide +kernel
theorem dX10_torn_93 : decode cX10_torn 93 = .ok (.bipush 40, 2) := by decide +kernel
theorem dX10_torn_95 : decode cX10_torn 95 = .ok (.aload_n 0, 1) := by decide +kernel
theorem dX10_torn_96 : decode cX10_torn 96 = .ok (.getfield 26, 3) := by decide +kernel
theorem dX10_torn_99 : decode cX10_torn 99 = .ok (.iload 6, 2) := by decide +kernel
theorem dX10_torn_101 : decode cX10_torn 101 = .ok (.iaload, 1) := by decide +kernel
theorem dX10_torn_102 : decode cX10_torn 102 = .ok (.iadd, 1) := by decide +kernel
theorem dX10_torn_103 : decode cX10_torn 103 = .ok (.iaload, 1) := by decide +kernel
theorem dX10_torn_104 : decode cX10_torn 104 = .ok (.iastore, 1) := by decide +kernel
theorem dX10_torn_105 : decode cX10_torn 105 = .ok (.aload_n 0, 1) := by decide +kernel
theorem dX10_torn_106 : decode cX10_torn 106 = .ok (.getfield 50, 3) := by decide +kernel
theorem dX10_torn_109 : decode cX10_torn 109 = .ok (.iload 6, 2) := by decide +kernel
theorem dX10_torn_111 : decode cX10_torn 111 = .ok (.aload_n 0, 1) := by decide +kernel
theorem dX10_torn_112 : decode cX10_torn 112 = .ok (.aload_n 0, 1) := by decide +kernel
theorem dX10_torn_113 : decode cX10_torn 113 = .ok (.getfield 26, 3) := by decide +kernel
theorem dX10_torn_116 : decode cX10_torn 116 = .ok (.iload 6, 2) := by decide +kernel
theorem dX10_torn_118 : decode cX10_torn 118 = .ok (.iaload, 1) := by decide +kernel
theorem dX10_torn_119 : decode cX10_torn 119 = .ok (.invokevirtual 338, 3) := by decide +kernel
theorem dX10_torn_122 : decode cX10_torn 122 = .ok (.iastore, 1) := by decide +kernel
theorem dX10_torn_123 : decode cX10_torn 123 = .ok (.iinc 6 1, 3) := by decide +kernel
theorem dX10_torn_126 : decode cX10_torn 126 = .ok (.goto (-52), 3) := by decide +kernel
theorem dX10_torn_129 : decode cX10_torn 129 = .ok (.aload_n 0, 1) := by decide +kernel
theorem dX10_torn_130 : decode cX10_torn 130 = .ok (.invokevirtual 205, 3) := by decide +kernel
theorem dX10_torn_133 : decode cX10_torn 133 = .ok (.pop, 1) := by decide +kernel
theorem dX10_torn_134 : decode cX10_torn 134 = .ok (.aload_n 0, 1) := by decide +kernel
theorem dX10_torn_135 : decode cX10_torn 135 = .ok (.iconst 0, 1) := by decide +kernel
theorem dX10_torn_136 : decode cX10_torn 136 = .ok (.putfield 329, 3) := by decide +kernel
theorem dX10_torn_139 : decode cX10_torn 139 = .ok (.aload_n 0, 1) := by decide +kernel
theorem dX10_torn_140 : decode cX10_torn 140 = .ok (.iload_n 1, 1) := by decide +kernel
theorem dX10_torn_141 : decode cX10_torn 141 = .ok (.ifCond .ne 8, 3) := by decide +kernel
theorem dX10_torn_144 : decode cX10_torn 144 = .ok (.iload 4, 2) := by decide +kernel
theorem dX10_torn_146 : decode cX10_torn 146 = .ok (.goto 5, 3) := by decide +kernel
theorem dX10_torn_149 : decode cX10_torn 149 = .ok (.iload 5, 2) := by decide +kernel
theorem dX10_torn_151 : decode cX10_torn 151 = .ok (.invokevirtual 341, 3) := by decide +kernel
theorem dX10_torn_154 : decode cX10_torn 154 = .ok (.aload_n 0, 1) := by decide +kernel
theorem dX10_torn_155 : decode cX10_torn 155 = .ok (.iload_n 1, 1) := by decide +kernel
theorem dX10_torn_156 : decode cX10_torn 156 = .ok (.ifCond .ne 8, 3) := by decide +kernel
theorem dX10_torn_159 : decode cX10_torn 159 = .ok (.iload 5, 2) := by decide +kernel
theorem dX10_torn_161 : decode cX10_torn 161 = .ok (.goto 5, 3) := by decide +kernel
theorem dX10_torn_164 : decode cX10_torn 164 = .ok (.iload 4, 2) := by decide +kernel
theorem dX10_torn_166 : decode cX10_torn 166 = .ok (.invokevirtual 341, 3) := by decide +kernel
theorem dX10_torn_169 : decode cX10_torn 169 = .ok (.iconst 0, 1) := by decide +kernel
theorem dX10_torn_170 : decode cX10_torn 170 = .ok (.istore 6, 2) := by decide +kernel
theorem dX10_torn_172 : decode cX10_torn 172 = .ok (.iconst 0, 1) := by decide +kernel
theorem dX10_torn_173 : decode cX10_torn 173 = .ok (.istore 7, 2) := by decide +kernel
theorem dX10_torn_175 : decode cX10_torn 175 = .ok (.iload 7, 2) := by decide +kernel
theorem dX10_torn_177 : decode cX10_torn 177 = .ok (.aload_n 0, 1) := by decide +kernel
theorem dX10_torn_178 : decode cX10_torn 178 = .ok (.getfield 335, 3) := by decide +kernel
theorem dX10_torn_181 : decode cX10_torn 181 = .ok (.if_icmp .ge 89, 3) := by decide +kernel
theorem dX10_torn_184 : decode cX10_torn 184 = .ok (.iload_n 2, 1) := by decide +kernel
theorem dX10_torn_185 : decode cX10_torn 185 = .ok (.aload_n 0, 1) := by decide +kernel
theorem dX10_torn_186 : decode cX10_torn 186 = .ok (.getfield 329, 3) := by decide +kernel
theorem dX10_torn_189 : decode cX10_torn 189 = .ok (.if_icmp .gt 81, 3) := by decide +kernel
theorem dX10_torn_192 : decode cX10_torn 192 = .ok (.aload_n 0, 1) := by decide +kernel
theorem dX10_torn_193 : decode cX10_torn 193 = .ok (.aload_n 0, 1) := by decide +kernel
theorem dX10_torn_194 : decode cX10_torn 194 = .ok (.getfield 50, 3) := by decide +kernel
theorem dX10_torn_197 : decode cX10_torn 197 = .ok (.iload 7, 2) := by decide +kernel
theorem dX10_torn_199 : decode cX10_torn 199 = .ok (.iaload, 1) := by decide +kernel
theorem dX10_torn_200 : decode cX10_torn 200 = .ok (.iload_n 2, 1) := by decide +kernel
theorem dX10_torn_201 : decode cX10_torn 201 = .ok (.invokevirtual 344, 3) := by decide +kernel
theorem dX10_torn_204 : decode cX10_torn 204 = .ok (.ifCond .eq 7, 3) := by decide +kernel
theorem dX10_torn_207 : decode cX10_torn 207 = .ok (.iconst 0, 1) := by decide +kernel
theorem dX10_torn_208 : decode cX10_torn 208 = .ok (.goto 4, 3) := by decide +kernel
theorem dX10_torn_211 : decode cX10_torn 211 = .ok (.iconst 1, 1) := by decide +kernel
theorem dX10_torn_212 : decode cX10_torn 212 = .ok (.istore 8, 2) := by decide +kernel
theorem dX10_torn_214 : decode cX10_torn 214 = .ok (.aload_n 0, 1) := by decide +kernel
theorem dX10_torn_215 : decode cX10_torn 215 = .ok (.aload_n 0, 1) := by decide +kernel
theorem dX10_torn_216 : decode cX10_torn 216 = .ok (.aload_n 0, 1) := by decide +kernel
theorem dX10_torn_217 : decode cX10_torn 217 = .ok (.iconst 0, 1) := by decide +kernel
theorem dX10_torn_218 : decode cX10_torn 218 = .ok (.aload_n 0, 1) := by decide +kernel
theorem dX10_torn_219 : decode cX10_torn 219 = .ok (.getfield 53, 3) := by decide +kernel
theorem dX10_torn_222 : decode cX10_torn 222 = .ok (.iload 7, 2) := by decide +kernel
theorem dX10_torn_224 : decode cX10_torn 224 = .ok (.iaload, 1) := by decide +kernel
theorem dX10_torn_225 : decode cX10_torn 225 = .ok (.invokevirtual 211, 3) := by decide +kernel
theorem dX10_torn_228 : decode cX10_torn 228 = .ok (.invokevirtual 338, 3) := by decide +kernel
theorem dX10_torn_231 : decode cX10_torn 231 = .ok (.iload_n 2, 1) := by decide +kernel
theorem dX10_torn_232 : decode cX10_torn 232 = .ok (.invokevirtual 344, 3) := by decide +kernel
theorem dX10_torn_235 : decode cX10_torn 235 = .ok (.ifCond .eq 9, 3) := by decide +kernel
theorem dX10_torn_238 : decode cX10_torn 238 = .ok (.iload 8, 2) := by decide +kernel
theorem dX10_torn_240 : decode cX10_torn 240 = .ok (.iconst 1, 1) := by decide +kernel
theorem dX10_torn_241 : decode cX10_torn 241 = .ok (.iadd, 1) := by decide +kernel
theorem dX10_torn_242 : decode cX10_torn 242 = .ok (.istore 8, 2) := by decide +kernel
theorem dX10_torn_244 : decode cX10_torn 244 = .ok (.iload 8, 2) := by decide +kernel
theorem dX10_torn_246 : decode cX10_torn 246 = .ok (.iload_n 3, 1) := by decide +kernel
theorem dX10_torn_247 : decode cX10_torn 247 = .ok (.ifCond .ne 7, 3) := by decide +kernel
theorem dX10_torn_250 : decode cX10_torn 250 = .ok (.iconst 0, 1) := by decide +kernel
theorem dX10_torn_251 : decode cX10_torn 251 = .ok (.goto 4, 3) := by decide +kernel
theorem dX10_torn_254 : decode cX10_torn 254 = .ok (.iconst 2, 1) := by decide +kernel
theorem dX10_torn_255 : decode cX10_torn 255 = .ok (.if_icmp .ne 9, 3) := by decide +kernel
theorem dX10_torn_258 : decode cX10_torn 258 = .ok (.iload 6, 2) := by decide +kernel
theorem dX10_torn_260 : decode cX10_torn 260 = .ok (.iconst 1, 1) := by decide +kernel
theorem dX10_torn_261 : decode cX10_torn 261 = .ok (.iadd, 1) := by decide +kernel
theorem dX10_torn_262 : decode cX10_torn 262 = .ok (.istore 6, 2) := by decide +kernel
theorem dX10_torn_264 : decode cX10_torn 264 = .ok (.iinc 7 1, 3) := by decide +kernel
theorem dX10_torn_267 : decode cX10_torn 267 = .ok (.goto (-92), 3) := by decide +kernel
theorem dX10_torn_270 : decode cX10_torn 270 = .ok (.iload_n 2, 1) := by decide +kernel
theorem dX10_torn_271 : decode cX10_torn 271 = .ok (.aload_n 0, 1) := by decide +kernel
theorem dX10_torn_272 : decode cX10_torn 272 = .ok (.getfield 329, 3) := by decide +kernel
theorem dX10_torn_275 : decode cX10_torn 275 = .ok (.if_icmp .le 7, 3) := by decide +kernel
theorem dX10_torn_278 : decode cX10_torn 278 = .ok (.iconst 1, 1) := by decide +kernel
theorem dX10_torn_279 : decode cX10_torn 279 = .ok (.goto 4, 3) := by decide +kernel
theorem dX10_torn_282 : decode cX10_torn 282 = .ok (.iconst 0, 1) := by decide +kernel
theorem dX10_torn_283 : decode cX10_torn 283 = .ok (.istore 7, 2) := by decide +kernel
theorem dX10_torn_285 : decode cX10_torn 285 = .ok (.aload_n 0, 1) := by decide +kernel
theorem dX10_torn_286 : decode cX10_torn 286 = .ok (.iconst 2, 1) := by decide +kernel
theorem dX10_torn_287 : decode cX10_torn 287 = .ok (.iconst 0, 1) := by decide +kernel
theorem dX10_torn_288 : decode cX10_torn 288 = .ok (.invokevirtual 332, 3) := by decide +kernel
theorem dX10_torn_291 : decode cX10_torn 291 = .ok (.iload 7, 2) := by decide +kernel
theorem dX10_torn_293 : decode cX10_torn 293 = .ok (.ifCond .eq 8, 3) := by decide +kernel
theorem dX10_torn_296 : decode cX10_torn 296 = .ok (.bipush (-4), 2) := by decide +kernel
theorem dX10_torn_298 : decode cX10_torn 298 = .ok (.goto 5, 3) := by decide +kernel
theorem dX10_torn_301 : decode cX10_torn 301 = .ok (.iload 6, 2) := by decide +kernel
theorem dX10_torn_303 : decode cX10_torn 303 = .ok (.ireturn, 1) := by decide +kernel
theorem dX10_grown_0 : decode cX10_grown 0 = .ok (.iload_n 1, 1) := by decide +kernel
theorem dX10_grown_1 : decode cX10_grown 1 = .ok (.iconst 1, 1) := by decide +kernel
theorem dX10_grown_2 : decode cX10_grown 2 = .ok (.bipush 99, 2) := by decide +kernel
theorem dX10_grown_4 : decode cX10_grown 4 = .ok (.invokestatic 67, 3) := by decide +kernel
theorem dX10_grown_7 : decode cX10_grown 7 = .ok (.ifCond .eq 12, 3) := by decide +kernel
theorem dX10_grown_10 : decode cX10_grown 10 = .ok (.iload_n 2, 1) := by decide +kernel
theorem dX10_grown_11 : decode cX10_grown 11 = .ok (.iconst 0, 1) := by decide +kernel
theorem dX10_grown_12 : decode cX10_grown 12 = .ok (.iconst 5, 1) := by decide +kernel
theorem dX10_grown_13 : decode cX10_grown 13 = .ok (.invokestatic 67, 3) := by decide +kernel
theorem dX10_grown_16 : decode cX10_grown 16 = .ok (.ifCond .ne 5, 3) := by decide +kernel
theorem dX10_grown_19 : decode cX10_grown 19 = .ok (.iconst (-1), 1) := by decide +kernel
theorem dX10_grown_20 : decode cX10_grown 20 = .ok (.ireturn, 1) := by decide +kernel
theorem dX10_grown_21 : decode cX10_grown 21 = .ok (.aload_n 0, 1) := by decide +kernel
theorem dX10_grown_22 : decode cX10_grown 22 = .ok (.iconst 0, 1) := by decide +kernel
theorem dX10_grown_23 : decode cX10_grown 23 = .ok (.iconst 2, 1) := by decide +kernel
theorem dX10_grown_24 : decode cX10_grown 24 = .ok (.invokevirtual 332, 3) := by decide +kernel
theorem dX10_grown_27 : decode cX10_grown 27 = .ok (.aload_n 0, 1) := by decide +kernel
theorem dX10_grown_28 : decode cX10_grown 28 = .ok (.getfield 7, 3) := by decide +kernel
theorem dX10_grown_31 : decode cX10_grown 31 = .ok (.bipush 8, 2) := by decide +kernel
theorem dX10_grown_33 : decode cX10_grown 33 = .ok (.iconst 0, 1) := by decide +kernel
theorem dX10_grown_34 : decode cX10_grown 34 = .ok (.iastore, 1) := by decide +kernel
theorem dX10_grown_35 : decode cX10_grown 35 = .ok (.aload_n 0, 1) := by decide +kernel
theorem dX10_grown_36 : decode cX10_grown 36 = .ok (.getfield 7, 3) := by decide +kernel
theorem dX10_grown_39 : decode cX10_grown 39 = .ok (.bipush 9, 2) := by decide +kernel
theorem dX10_grown_41 : decode cX10_grown 41 = .ok (.iconst 0, 1) := by decide +kernel
theorem dX10_grown_42 : decode cX10_grown 42 = .ok (.iastore, 1) := by decide +kernel
theorem dX10_grown_43 : decode cX10_grown 43 = .ok (.aload_n 0, 1) := by decide +kernel
theorem dX10_grown_44 : decode cX10_grown 44 = .ok (.iload_n 1, 1) := by decide +kernel
theorem dX10_grown_45 : decode cX10_grown 45 = .ok (.invokevirtual 265, 3) := by decide +kernel
theorem dX10_grown_48 : decode cX10_grown 48 = .ok (.iload_n 2, 1) := by decide +kernel
theorem dX10_grown_49 : decode cX10_grown 49 = .ok (.ifCond .ne 10, 3) := by decide +kernel
theorem dX10_grown_52 : decode cX10_grown 52 = .ok (.aload_n 0, 1) := by decide +kernel
theorem dX10_grown_53 : decode cX10_grown 53 = .ok (.invokevirtual 178, 3) := by decide +kernel
theorem dX10_grown_56 : decode cX10_grown 56 = .ok (.goto 64, 3) := by decide +kernel
theorem dX10_grown_59 : decode cX10_grown 59 = .ok (.iload_n 2, 1) := by decide +kernel
theorem dX10_grown_60 : decode cX10_grown 60 = .ok (.iconst 1, 1) := by decide +kernel
theorem dX10_grown_61 : decode cX10_grown 61 = .ok (.if_icmp .ne 10, 3) := by decide +kernel
theorem dX10_grown_64 : decode cX10_grown 64 = .ok (.aload_n 0, 1) := by decide +kernel
theorem dX10_grown_65 : decode cX10_grown 65 = .ok (.invokevirtual 223, 3) := by decide +kernel
theorem dX10_grown_68 : decode cX10_grown 68 = .ok (.goto 52, 3) := by decide +kernel
theorem dX10_grown_71 : decode cX10_grown 71 = .ok (.iload_n 2, 1) := by decide +kernel
theorem dX10_grown_72 : decode cX10_grown 72 = .ok (.iconst 2, 1) := by decide +kernel
theorem dX10_grown_73 : decode cX10_grown 73 = .ok (.if_icmp .ne 10, 3) := by decide +kernel
theorem dX10_grown_76 : decode cX10_grown 76 = .ok (.aload_n 0, 1) := by decide +kernel
theorem dX10_grown_77 : decode cX10_grown 77 = .ok (.invokevirtual 296, 3) := by decide +kernel
theorem dX10_grown_80 : decode cX10_grown 80 = .ok (.goto 40, 3) := by decide +kernel
theorem dX10_grown_83 : decode cX10_grown 83 = .ok (.iload_n 2, 1) := by decide +kernel
theorem dX10_grown_84 : decode cX10_grown 84 = .ok (.iconst 3, 1) := by decide +kernel
theorem dX10_grown_85 : decode cX10_grown 85 = .ok (.if_icmp .ne 13, 3) := by decide +kernel
theorem dX10_grown_88 : decode cX10_grown 88 = .ok (.aload_n 0, 1) := by decide +kernel
theorem dX10_grown_89 : decode cX10_grown 89 = .ok (.getfield 7, 3) := by decide +kernel
theorem dX10_grown_92 : decode cX10_grown 92 = .ok (.bipush 7, 2) := by decide +kernel
theorem dX10_grown_94 : decode cX10_grown 94 = .ok (.iaload, 1) := by decide +kernel
theorem dX10_grown_95 : decode cX10_grown 95 = .ok (.goto 25, 3) := by decide +kernel
theorem dX10_grown_98 : decode cX10_grown 98 = .ok (.iload_n 2, 1) := by decide +kernel
theorem dX10_grown_99 : decode cX10_grown 99 = .ok (.iconst 4, 1) := by decide +kernel
theorem dX10_grown_100 : decode cX10_grown 100 = .ok (.if_icmp .ne 13, 3) := by decide +kernel
theorem dX10_grown_103 : decode cX10_grown 103 = .ok (.aload_n 0, 1) := by decide +kernel
theorem dX10_grown_104 : decode cX10_grown 104 = .ok (.getfield 7, 3) := by decide +kernel
theorem dX10_grown_107 : decode cX10_grown 107 = .ok (.bipush 8, 2) := by decide +kernel
theorem dX10_grown_109 : decode cX10_grown 109 = .ok (.iaload, 1) := by decide +kernel
theorem dX10_grown_110 : decode cX10_grown 110 = .ok (.goto 10, 3) := by decide +kernel
theorem dX10_grown_113 : decode cX10_grown 113 = .ok (.aload_n 0, 1) := by decide +kernel
theorem dX10_grown_114 : decode cX10_grown 114 = .ok (.getfield 7, 3) := by decide +kernel
theorem dX10_grown_117 : decode cX10_grown 117 = .ok (.bipush 9, 2) := by decide +kernel
theorem dX10_grown_119 : decode cX10_grown 119 = .ok (.iaload, 1) := by decide +kernel
theorem dX10_grown_120 : decode cX10_grown 120 = .ok (.istore_n 3, 1) := by decide +kernel
theorem dX10_grown_121 : decode cX10_grown 121 = .ok (.aload_n 0, 1) := by decide +kernel
theorem dX10_grown_122 : decode cX10_grown 122 = .ok (.iconst 2, 1) := by decide +kernel
theorem dX10_grown_123 : decode cX10_grown 123 = .ok (.iconst 0, 1) := by decide +kernel
theorem dX10_grown_124 : decode cX10_grown 124 = .ok (.invokevirtual 332, 3) := by decide +kernel
theorem dX10_grown_127 : decode cX10_grown 127 = .ok (.iload_n 3, 1) := by decide +kernel
theorem dX10_grown_128 : decode cX10_grown 128 = .ok (.ireturn, 1) := by decide +kernel
theorem dX10_tuned_0 : decode cX10_tuned 0 = .ok (.iload_n 1, 1) := by decide +kernel
theorem dX10_tuned_1 : decode cX10_tuned 1 = .ok (.iconst 0, 1) := by decide +kernel
theorem dX10_tuned_2 : decode cX10_tuned 2 = .ok (.iconst 1, 1) := by decide +kernel
theorem dX10_tuned_3 : decode cX10_tuned 3 = .ok (.invokestatic 67, 3) := by decide +kernel
theorem dX10_tuned_6 : decode cX10_tuned 6 = .ok (.ifCond .ne 5, 3) := by decide +kernel
theorem dX10_tuned_9 : decode cX10_tuned 9 = .ok (.iconst (-1), 1) := by decide +kernel
theorem dX10_tuned_10 : decode cX10_tuned 10 = .ok (.ireturn, 1) := by decide +kernel
theorem dX10_tuned_11 : decode cX10_tuned 11 = .ok (.aload_n 0, 1) := by decide +kernel
theorem dX10_tuned_12 : decode cX10_tuned 12 = .ok (.iconst 0, 1) := by decide +kernel
theorem dX10_tuned_13 : decode cX10_tuned 13 = .ok (.iconst 2, 1) := by decide +kernel
theorem dX10_tuned_14 : decode cX10_tuned 14 = .ok (.invokevirtual 332, 3) := by decide +kernel
theorem dX10_tuned_17 : decode cX10_tuned 17 = .ok (.aload_n 0, 1) := by decide +kernel
theorem dX10_tuned_18 : decode cX10_tuned 18 = .ok (.invokevirtual 256, 3) := by decide +kernel
theorem dX10_tuned_21 : decode cX10_tuned 21 = .ok (.aload_n 0, 1) := by decide +kernel
theorem dX10_tuned_22 : decode cX10_tuned 22 = .ok (.getfield 7, 3) := by decide +kernel
theorem dX10_tuned_25 : decode cX10_tuned 25 = .ok (.bipush 7, 2) := by decide +kernel
theorem dX10_tuned_27 : decode cX10_tuned 27 = .ok (.iaload, 1) := by decide +kernel
theorem dX10_tuned_28 : decode cX10_tuned 28 = .ok (.istore_n 2, 1) := by decide +kernel
theorem dX10_tuned_29 : decode cX10_tuned 29 = .ok (.iconst 0, 1) := by decide +kernel
theorem dX10_tuned_30 : decode cX10_tuned 30 = .ok (.istore_n 3, 1) := by decide +kernel
theorem dX10_tuned_31 : decode cX10_tuned 31 = .ok (.iload_n 3, 1) := by decide +kernel
theorem dX10_tuned_32 : decode cX10_tuned 32 = .ok (.iload_n 2, 1) := by decide +kernel
theorem dX10_tuned_33 : decode cX10_tuned 33 = .ok (.if_icmp .ge 29, 3) := by decide +kernel
theorem dX10_tuned_36 : decode cX10_tuned 36 = .ok (.aload_n 0, 1) := by decide +kernel
theorem dX10_tuned_37 : decode cX10_tuned 37 = .ok (.getfield 59, 3) := by decide +kernel
theorem dX10_tuned_40 : decode cX10_tuned 40 = .ok (.iload_n 3, 1) := by decide +kernel
theorem dX10_tuned_41 : decode cX10_tuned 41 = .ok (.aload_n 0, 1) := by decide +kernel
theorem dX10_tuned_42 : decode cX10_tuned 42 = .ok (.getfield 7, 3) := by decide +kernel
theorem dX10_tuned_45 : decode cX10_tuned 45 = .ok (.bipush 40, 2) := by decide +kernel
theorem dX10_tuned_47 : decode cX10_tuned 47 = .ok (.aload_n 0, 1) := by decide +kernel
theorem dX10_tuned_48 : decode cX10_tuned 48 = .ok (.getfield 41, 3) := by decide +kernel
theorem dX10_tuned_51 : decode cX10_tuned 51 = .ok (.iload_n 3, 1) := by decide +kernel
theorem dX10_tuned_52 : decode cX10_tuned 52 = .ok (.iaload, 1) := by decide +kernel
theorem dX10_tuned_53 : decode cX10_tuned 53 = .ok (.iadd, 1) := by decide +kernel
theorem dX10_tuned_54 : decode cX10_tuned 54 = .ok (.iaload, 1) := by decide +kernel
theorem dX10_tuned_55 : decode cX10_tuned 55 = .ok (.iastore, 1) := by decide +kernel
theorem dX10_tuned_56 : decode cX10_tuned 56 = .ok (.iinc 3 1, 3) := by decide +kernel
theorem dX10_tuned_59 : decode cX10_tuned 59 = .ok (.goto (-28), 3) := by decide +kernel
theorem dX10_tuned_62 : decode cX10_tuned 62 = .ok (.iconst (-1), 1) := by decide +kernel
theorem dX10_tuned_63 : decode cX10_tuned 63 = .ok (.istore_n 3, 1) := by decide +kernel
theorem dX10_tuned_64 : decode cX10_tuned 64 = .ok (.iconst 0, 1) := by decide +kernel
theorem dX10_tuned_65 : decode cX10_tuned 65 = .ok (.istore 4, 2) := by decide +kernel
theorem dX10_tuned_67 : decode cX10_tuned 67 = .ok (.iconst 2, 1) := by decide +kernel
theorem dX10_tuned_68 : decode cX10_tuned 68 = .ok (.istore 5, 2) := by decide +kernel
theorem dX10_tuned_70 : decode cX10_tuned 70 = .ok (.iload 5, 2) := by decide +kernel
theorem dX10_tuned_72 : decode cX10_tuned 72 = .ok (.bipush 7, 2) := by decide +kernel
theorem dX10_tuned_74 : decode cX10_tuned 74 = .ok (.if_icmp .ge 106, 3) := by decide +kernel
theorem dX10_tuned_77 : decode cX10_tuned 77 = .ok (.aload_n 0, 1) := by decide +kernel
theorem dX10_tuned_78 : decode cX10_tuned 78 = .ok (.aload_n 0, 1) := by decide +kernel
theorem dX10_tuned_79 : decode cX10_tuned 79 = .ok (.getfield 7, 3) := by decide +kernel
theorem dX10_tuned_82 : decode cX10_tuned 82 = .ok (.iconst 0, 1) := by decide +kernel
theorem dX10_tuned_83 : decode cX10_tuned 83 = .ok (.iaload, 1) := by decide +kernel
theorem dX10_tuned_84 : decode cX10_tuned 84 = .ok (.iload 5, 2) := by decide +kernel
theorem dX10_tuned_86 : decode cX10_tuned 86 = .ok (.aload_n 0, 1) := by decide +kernel
theorem dX10_tuned_87 : decode cX10_tuned 87 = .ok (.getfield 7, 3) := by decide +kernel
theorem dX10_tuned_90 : decode cX10_tuned 90 = .ok (.iconst 2, 1) := by decide +kernel
theorem dX10_tuned_91 : decode cX10_tuned 91 = .ok (.iaload, 1) := by decide +kernel
theorem dX10_tuned_92 : decode cX10_tuned 92 = .ok (.aload_n 0, 1) := by decide +kernel
theorem dX10_tuned_93 : decode cX10_tuned 93 = .ok (.getfield 7, 3) := by decide +kernel
theorem dX10_tuned_96 : decode cX10_tuned 96 = .ok (.iconst 3, 1) := by decide +kernel
theorem dX10_tuned_97 : decode cX10_tuned 97 = .ok (.iaload, 1) := by decide +kernel
theorem dX10_tuned_98 : decode cX10_tuned 98 = .ok (.aload_n 0, 1) := by decide +kernel
theorem dX10_tuned_99 : decode cX10_tuned 99 = .ok (.getfield 7, 3) := by decide +kernel
theorem dX10_tuned_102 : decode cX10_tuned 102 = .ok (.iconst 4, 1) := by decide +kernel
theorem dX10_tuned_103 : decode cX10_tuned 103 = .ok (.iaload, 1) := by decide +kernel
theorem dX10_tuned_104 : decode cX10_tuned 104 = .ok (.invokevirtual 63, 3) := by decide +kernel
theorem dX10_tuned_107 : decode cX10_tuned 107 = .ok (.iconst 0, 1) := by decide +kernel
theorem dX10_tuned_108 : decode cX10_tuned 108 = .ok (.istore 6, 2) := by decide +kernel
theorem dX10_tuned_110 : decode cX10_tuned 110 = .ok (.iload 6, 2) := by decide +kernel
theorem dX10_tuned_112 : decode cX10_tuned 112 = .ok (.iload_n 2, 1) := by decide +kernel
theorem dX10_tuned_113 : decode cX10_tuned 113 = .ok (.if_icmp .ge 22, 3) := by decide +kernel
theorem dX10_tuned_116 : decode cX10_tuned 116 = .ok (.aload_n 0, 1) := by decide +kernel
theorem dX10_tuned_117 : decode cX10_tuned 117 = .ok (.aload_n 0, 1) := by decide +kernel
theorem dX10_tuned_118 : decode cX10_tuned 118 = .ok (.getfield 59, 3) := by decide +kernel
theorem dX10_tuned_121 : decode cX10_tuned 121 = .ok (.iload 6, 2) := by decide +kernel
theorem dX10_tuned_123 : decode cX10_tuned 123 = .ok (.iaload, 1) := by decide +kernel
theorem dX10_tuned_124 : decode cX10_tuned 124 = .ok (.iconst 0, 1) := by decide +kernel
theorem dX10_tuned_125 : decode cX10_tuned 125 = .ok (.invokevirtual 229, 3) := by decide +kernel
theorem dX10_tuned_128 : decode cX10_tuned 128 = .ok (.pop, 1) := by decide +kernel
theorem dX10_tuned_129 : decode cX10_tuned 129 = .ok (.iinc 6 1, 3) := by decide +kernel
theorem dX10_tuned_132 : decode cX10_tuned 132 = .ok (.goto (-22), 3) := by decide +kernel
theorem dX10_tuned_135 : decode cX10_tuned 135 = .ok (.iload_n 1, 1) := by decide +kernel
theorem dX10_tuned_136 : decode cX10_tuned 136 = .ok (.ifCond .ne 10, 3) := by decide +kernel
theorem dX10_tuned_139 : decode cX10_tuned 139 = .ok (.aload_n 0, 1) := by decide +kernel
theorem dX10_tuned_140 : decode cX10_tuned 140 = .ok (.invokevirtual 323, 3) := by decide +kernel
theorem dX10_tuned_143 : decode cX10_tuned 143 = .ok (.goto 10, 3) := by decide +kernel
theorem dX10_tuned_146 : decode cX10_tuned 146 = .ok (.aload_n 0, 1) := by decide +kernel
theorem dX10_tuned_147 : decode cX10_tuned 147 = .ok (.invokevirtual 296, 3) := by decide +kernel
theorem dX10_tuned_150 : decode cX10_tuned 150 = .ok (.iload 5, 2) := by decide +kernel
theorem dX10_tuned_152 : decode cX10_tuned 152 = .ok (.imul, 1) := by decide +kernel
theorem dX10_tuned_153 : decode cX10_tuned 153 = .ok (.istore 6, 2) := by decide +kernel
theorem dX10_tuned_155 : decode cX10_tuned 155 = .ok (.iload_n 3, 1) := by decide +kernel
theorem dX10_tuned_156 : decode cX10_tuned 156 = .ok (.iconst (-1), 1) := by decide +kernel
theorem dX10_tuned_157 : decode cX10_tuned 157 = .ok (.if_icmp .eq 10, 3) := by decide +kernel
theorem dX10_tuned_160 : decode cX10_tuned 160 = .ok (.iload 6, 2) := by decide +kernel
theorem dX10_tuned_162 : decode cX10_tuned 162 = .ok (.iload 4, 2) := by decide +kernel
theorem dX10_tuned_164 : decode cX10_tuned 164 = .ok (.if_icmp .ge 10, 3) := by decide +kernel
theorem dX10_tuned_167 : decode cX10_tuned 167 = .ok (.iload 6, 2) := by decide +kernel
theorem dX10_tuned_169 : decode cX10_tuned 169 = .ok (.istore 4, 2) := by decide +kernel
theorem dX10_tuned_171 : decode cX10_tuned 171 = .ok (.iload 5, 2) := by decide +kernel
theorem dX10_tuned_173 : decode cX10_tuned 173 = .ok (.istore_n 3, 1) := by decide +kernel
theorem dX10_tuned_174 : decode cX10_tuned 174 = .ok (.iinc 5 1, 3) := by decide +kernel
theorem dX10_tuned_177 : decode cX10_tuned 177 = .ok (.goto (-107), 3) := by decide +kernel
theorem dX10_tuned_180 : decode cX10_tuned 180 = .ok (.aload_n 0, 1) := by decide +kernel
theorem dX10_tuned_181 : decode cX10_tuned 181 = .ok (.iconst 2, 1) := by decide +kernel
theorem dX10_tuned_182 : decode cX10_tuned 182 = .ok (.iconst 0, 1) := by decide +kernel
theorem dX10_tuned_183 : decode cX10_tuned 183 = .ok (.invokevirtual 332, 3) := by decide +kernel
theorem dX10_tuned_186 : decode cX10_tuned 186 = .ok (.iload_n 3, 1) := by decide +kernel
theorem dX10_tuned_187 : decode cX10_tuned 187 = .ok (.ireturn, 1) := by decide +kernel
theorem dX10_signOfHash_0 : decode cX10_signOfHash 0 = .ok (.iconst 1, 1) := by decide +kernel
theorem dX10_signOfHash_1 : decode cX10_signOfHash 1 = .ok (.iload_n 0, 1) := by decide +kernel
theorem dX10_signOfHash_2 : decode cX10_signOfHash 2 = .ok (.sipush 4096, 3) := by decide +kernel
theorem dX10_signOfHash_5 : decode cX10_signOfHash 5 = .ok (.idiv, 1) := by decide +kernel
theorem dX10_signOfHash_6 : decode cX10_signOfHash 6 = .ok (.ishl, 1) := by decide +kernel
theorem dX10_signOfHash_7 : decode cX10_signOfHash 7 = .ok (.iconst 1, 1) := by decide +kernel
theorem dX10_signOfHash_8 : decode cX10_signOfHash 8 = .ok (.iload_n 0, 1) := by decide +kernel
theorem dX10_signOfHash_9 : decode cX10_signOfHash 9 = .ok (.bipush 16, 2) := by decide +kernel
theorem dX10_signOfHash_11 : decode cX10_signOfHash 11 = .ok (.irem, 1) := by decide +kernel
theorem dX10_signOfHash_12 : decode cX10_signOfHash 12 = .ok (.ishl, 1) := by decide +kernel
theorem dX10_signOfHash_13 : decode cX10_signOfHash 13 = .ok (.ior, 1) := by decide +kernel
theorem dX10_signOfHash_14 : decode cX10_signOfHash 14 = .ok (.ireturn, 1) := by decide +kernel
theorem dX10_signsOf_0 : decode cX10_signsOf 0 = .ok (.iconst 0, 1) := by decide +kernel
theorem dX10_signsOf_1 : decode cX10_signsOf 1 = .ok (.istore_n 2, 1) := by decide +kernel
theorem dX10_signsOf_2 : decode cX10_signsOf 2 = .ok (.iconst 0, 1) := by decide +kernel
theorem dX10_signsOf_3 : decode cX10_signsOf 3 = .ok (.istore_n 3, 1) := by decide +kernel
theorem dX10_signsOf_4 : decode cX10_signsOf 4 = .ok (.iload_n 3, 1) := by decide +kernel
theorem dX10_signsOf_5 : decode cX10_signsOf 5 = .ok (.aload_n 0, 1) := by decide +kernel
theorem dX10_signsOf_6 : decode cX10_signsOf 6 = .ok (.getfield 7, 3) := by decide +kernel
theorem dX10_signsOf_9 : decode cX10_signsOf 9 = .ok (.bipush 7, 2) := by decide +kernel
theorem dX10_signsOf_11 : decode cX10_signsOf 11 = .ok (.iaload, 1) := by decide +kernel
theorem dX10_signsOf_12 : decode cX10_signsOf 12 = .ok (.if_icmp .ge 42, 3) := by decide +kernel
theorem dX10_signsOf_15 : decode cX10_signsOf 15 = .ok (.aload_n 0, 1) := by decide +kernel
theorem dX10_signsOf_16 : decode cX10_signsOf 16 = .ok (.getfield 7, 3) := by decide +kernel
theorem dX10_signsOf_19 : decode cX10_signsOf 19 = .ok (.sipush 640, 3) := by decide +kernel
theorem dX10_signsOf_22 : decode cX10_signsOf 22 = .ok (.iload_n 3, 1) := by decide +kernel
theorem dX10_signsOf_23 : decode cX10_signsOf 23 = .ok (.iadd, 1) := by decide +kernel
theorem dX10_signsOf_24 : decode cX10_signsOf 24 = .ok (.iaload, 1) := by decide +kernel
theorem dX10_signsOf_25 : decode cX10_signsOf 25 = .ok (.iload_n 1, 1) := by decide +kernel
theorem dX10_signsOf_26 : decode cX10_signsOf 26 = .ok (.if_icmp .ne 22, 3) := by decide +kernel
theorem dX10_signsOf_29 : decode cX10_signsOf 29 = .ok (.iload_n 2, 1) := by decide +kernel
theorem dX10_signsOf_30 : decode cX10_signsOf 30 = .ok (.aload_n 0, 1) := by decide +kernel
theorem dX10_signsOf_31 : decode cX10_signsOf 31 = .ok (.aload_n 0, 1) := by decide +kernel
theorem dX10_signsOf_32 : decode cX10_signsOf 32 = .ok (.getfield 7, 3) := by decide +kernel
theorem dX10_signsOf_35 : decode cX10_signsOf 35 = .ok (.bipush 40, 2) := by decide +kernel
theorem dX10_signsOf_37 : decode cX10_signsOf 37 = .ok (.iload_n 3, 1) := by decide +kernel
theorem dX10_signsOf_38 : decode cX10_signsOf 38 = .ok (.iadd, 1) := by decide +kernel
theorem dX10_signsOf_39 : decode cX10_signsOf 39 = .ok (.iaload, 1) := by decide +kernel
theorem dX10_signsOf_40 : decode cX10_signsOf 40 = .ok (.invokevirtual 184, 3) := by decide +kernel
theorem dX10_signsOf_43 : decode cX10_signsOf 43 = .ok (.invokestatic 347, 3) := by decide +kernel
theorem dX10_signsOf_46 : decode cX10_signsOf 46 = .ok (.ior, 1) := by decide +kernel
theorem dX10_signsOf_47 : decode cX10_signsOf 47 = .ok (.istore_n 2, 1) := by decide +kernel
theorem dX10_signsOf_48 : decode cX10_signsOf 48 = .ok (.iinc 3 1, 3) := by decide +kernel
theorem dX10_signsOf_51 : decode cX10_signsOf 51 = .ok (.goto (-47), 3) := by decide +kernel
theorem dX10_signsOf_54 : decode cX10_signsOf 54 = .ok (.iload_n 2, 1) := by decide +kernel
theorem dX10_signsOf_55 : decode cX10_signsOf 55 = .ok (.ireturn, 1) := by decide +kernel
theorem dX10_signs_0 : decode cX10_signs 0 = .ok (.iload_n 1, 1) := by decide +kernel
theorem dX10_signs_1 : decode cX10_signs 1 = .ok (.iconst 0, 1) := by decide +kernel
theorem dX10_signs_2 : decode cX10_signs 2 = .ok (.aload_n 0, 1) := by decide +kernel
theorem dX10_signs_3 : decode cX10_signs 3 = .ok (.invokevirtual 178, 3) := by decide +kernel
theorem dX10_signs_6 : decode cX10_signs 6 = .ok (.iconst 1, 1) := by decide +kernel
theorem dX10_signs_7 : decode cX10_signs 7 = .ok (.isub, 1) := by decide +kernel
theorem dX10_signs_8 : decode cX10_signs 8 = .ok (.invokestatic 67, 3) := by decide +kernel
theorem dX10_signs_11 : decode cX10_signs 11 = .ok (.ifCond .eq 11, 3) := by decide +kernel
theorem dX10_signs_14 : decode cX10_signs 14 = .ok (.aload_n 0, 1) := by decide +kernel
theorem dX10_signs_15 : decode cX10_signs 15 = .ok (.iload_n 1, 1) := by decide +kernel
theorem dX10_signs_16 : decode cX10_signs 16 = .ok (.invokevirtual 350, 3) := by decide +kernel
theorem dX10_signs_19 : decode cX10_signs 19 = .ok (.goto 4, 3) := by decide +kernel
theorem dX10_signs_22 : decode cX10_signs 22 = .ok (.iconst (-1), 1) := by decide +kernel
theorem dX10_signs_23 : decode cX10_signs 23 = .ok (.ireturn, 1) := by decide +kernel
theorem dX10_passed_0 : decode cX10_passed 0 = .ok (.iload_n 1, 1) := by decide +kernel
theorem dX10_passed_1 : decode cX10_passed 1 = .ok (.invokestatic 226, 3) := by decide +kernel
theorem dX10_passed_4 : decode cX10_passed 4 = .ok (.ifCond .ne 5, 3) := by decide +kernel
theorem dX10_passed_7 : decode cX10_passed 7 = .ok (.iconst (-1), 1) := by decide +kernel
theorem dX10_passed_8 : decode cX10_passed 8 = .ok (.ireturn, 1) := by decide +kernel
theorem dX10_passed_9 : decode cX10_passed 9 = .ok (.iconst 0, 1) := by decide +kernel
theorem dX10_passed_10 : decode cX10_passed 10 = .ok (.istore_n 2, 1) := by decide +kernel
theorem dX10_passed_11 : decode cX10_passed 11 = .ok (.iconst 0, 1) := by decide +kernel
theorem dX10_passed_12 : decode cX10_passed 12 = .ok (.istore_n 3, 1) := by decide +kernel
theorem dX10_passed_13 : decode cX10_passed 13 = .ok (.iload_n 3, 1) := by decide +kernel
theorem dX10_passed_14 : decode cX10_passed 14 = .ok (.sipush 256, 3) := by decide +kernel
theorem dX10_passed_17 : decode cX10_passed 17 = .ok (.if_icmp .ge 61, 3) := by decide +kernel
theorem dX10_passed_20 : decode cX10_passed 20 = .ok (.iload_n 1, 1) := by decide +kernel
theorem dX10_passed_21 : decode cX10_passed 21 = .ok (.iload_n 3, 1) := by decide +kernel
theorem dX10_passed_22 : decode cX10_passed 22 = .ok (.iadd, 1) := by decide +kernel
theorem dX10_passed_23 : decode cX10_passed 23 = .ok (.ldc 62, 2) := by decide +kernel
theorem dX10_passed_25 : decode cX10_passed 25 = .ok (.irem, 1) := by decide +kernel
theorem dX10_passed_26 : decode cX10_passed 26 = .ok (.istore 4, 2) := by decide +kernel
theorem dX10_passed_28 : decode cX10_passed 28 = .ok (.aload_n 0, 1) := by decide +kernel
theorem dX10_passed_29 : decode cX10_passed 29 = .ok (.iload 4, 2) := by decide +kernel
theorem dX10_passed_31 : decode cX10_passed 31 = .ok (.invokevirtual 184, 3) := by decide +kernel
theorem dX10_passed_34 : decode cX10_passed 34 = .ok (.invokestatic 347, 3) := by decide +kernel
theorem dX10_passed_37 : decode cX10_passed 37 = .ok (.istore 5, 2) := by decide +kernel
theorem dX10_passed_39 : decode cX10_passed 39 = .ok (.aload_n 0, 1) := by decide +kernel
theorem dX10_passed_40 : decode cX10_passed 40 = .ok (.iconst 0, 1) := by decide +kernel
theorem dX10_passed_41 : decode cX10_passed 41 = .ok (.iload 4, 2) := by decide +kernel
theorem dX10_passed_43 : decode cX10_passed 43 = .ok (.invokevirtual 211, 3) := by decide +kernel
theorem dX10_passed_46 : decode cX10_passed 46 = .ok (.iconst (-1), 1) := by decide +kernel
theorem dX10_passed_47 : decode cX10_passed 47 = .ok (.if_icmp .ne 25, 3) := by decide +kernel
theorem dX10_passed_50 : decode cX10_passed 50 = .ok (.aload_n 0, 1) := by decide +kernel
theorem dX10_passed_51 : decode cX10_passed 51 = .ok (.aload_n 0, 1) := by decide +kernel
theorem dX10_passed_52 : decode cX10_passed 52 = .ok (.iload 4, 2) := by decide +kernel
theorem dX10_passed_54 : decode cX10_passed 54 = .ok (.invokevirtual 214, 3) := by decide +kernel
theorem dX10_passed_57 : decode cX10_passed 57 = .ok (.invokevirtual 350, 3) := by decide +kernel
theorem dX10_passed_60 : decode cX10_passed 60 = .ok (.iload 5, 2) := by decide +kernel
theorem dX10_passed_62 : decode cX10_passed 62 = .ok (.iand, 1) := by decide +kernel
theorem dX10_passed_63 : decode cX10_passed 63 = .ok (.iload 5, 2) := by decide +kernel
theorem dX10_passed_65 : decode cX10_passed 65 = .ok (.if_icmp .ne 7, 3) := by decide +kernel
theorem dX10_passed_68 : decode cX10_passed 68 = .ok (.iload_n 2, 1) := by decide +kernel
theorem dX10_passed_69 : decode cX10_passed 69 = .ok (.iconst 1, 1) := by decide +kernel
theorem dX10_passed_70 : decode cX10_passed 70 = .ok (.iadd, 1) := by decide +kernel
theorem dX10_passed_71 : decode cX10_passed 71 = .ok (.istore_n 2, 1) := by decide +kernel
theorem dX10_passed_72 : decode cX10_passed 72 = .ok (.iinc 3 1, 3) := by decide +kernel
theorem dX10_passed_75 : decode cX10_passed 75 = .ok (.goto (-62), 3) := by decide +kernel
theorem dX10_passed_78 : decode cX10_passed 78 = .ok (.iload_n 2, 1) := by decide +kernel
theorem dX10_passed_79 : decode cX10_passed 79 = .ok (.ireturn, 1) := by decide +kernel
theorem dX10_valueKept_0 : decode cX10_valueKept 0 = .ok (.aload_n 0, 1) := by decide +kernel
theorem dX10_valueKept_1 : decode cX10_valueKept 1 = .ok (.iconst 1, 1) := by decide +kernel
theorem dX10_valueKept_2 : decode cX10_valueKept 2 = .ok (.iload_n 1, 1) := by decide +kernel
theorem dX10_valueKept_3 : decode cX10_valueKept 3 = .ok (.invokevirtual 211, 3) := by decide +kernel
theorem dX10_valueKept_6 : decode cX10_valueKept 6 = .ok (.istore_n 2, 1) := by decide +kernel
theorem dX10_valueKept_7 : decode cX10_valueKept 7 = .ok (.iload_n 2, 1) := by decide +kernel
theorem dX10_valueKept_8 : decode cX10_valueKept 8 = .ok (.iconst (-1), 1) := by decide +kernel
theorem dX10_valueKept_9 : decode cX10_valueKept 9 = .ok (.if_icmp .ne 7, 3) := by decide +kernel
theorem dX10_valueKept_12 : decode cX10_valueKept 12 = .ok (.iconst (-1), 1) := by decide +kernel
theorem dX10_valueKept_13 : decode cX10_valueKept 13 = .ok (.goto 13, 3) := by decide +kernel
theorem dX10_valueKept_16 : decode cX10_valueKept 16 = .ok (.aload_n 0, 1) := by decide +kernel
theorem dX10_valueKept_17 : decode cX10_valueKept 17 = .ok (.getfield 7, 3) := by decide +kernel
theorem dX10_valueKept_20 : decode cX10_valueKept 20 = .ok (.sipush 2232, 3) := by decide +kernel
theorem dX10_valueKept_23 : decode cX10_valueKept 23 = .ok (.iload_n 2, 1) := by decide +kernel
theorem dX10_valueKept_24 : decode cX10_valueKept 24 = .ok (.iadd, 1) := by decide +kernel
theorem dX10_valueKept_25 : decode cX10_valueKept 25 = .ok (.iaload, 1) := by decide +kernel
theorem dX10_valueKept_26 : decode cX10_valueKept 26 = .ok (.ireturn, 1) := by decide +kernel
theorem dX10_since_0 : decode cX10_since 0 = .ok (.iload_n 1, 1) := by decide +kernel
theorem dX10_since_1 : decode cX10_since 1 = .ok (.iconst 0, 1) := by decide +kernel
theorem dX10_since_2 : decode cX10_since 2 = .ok (.iconst 3, 1) := by decide +kernel
theorem dX10_since_3 : decode cX10_since 3 = .ok (.invokestatic 67, 3) := by decide +kernel
theorem dX10_since_6 : decode cX10_since 6 = .ok (.ifCond .ne 5, 3) := by decide +kernel
theorem dX10_since_9 : decode cX10_since 9 = .ok (.iconst (-1), 1) := by decide +kernel
theorem dX10_since_10 : decode cX10_since 10 = .ok (.ireturn, 1) := by decide +kernel
theorem dX10_since_11 : decode cX10_since 11 = .ok (.aload_n 0, 1) := by decide +kernel
theorem dX10_since_12 : decode cX10_since 12 = .ok (.getfield 353, 3) := by decide +kernel
theorem dX10_since_15 : decode cX10_since 15 = .ok (.ifCond .ne 6, 3) := by decide +kernel
theorem dX10_since_18 : decode cX10_since 18 = .ok (.bipush (-3), 2) := by decide +kernel
theorem dX10_since_20 : decode cX10_since 20 = .ok (.ireturn, 1) := by decide +kernel
theorem dX10_since_21 : decode cX10_since 21 = .ok (.iconst 0, 1) := by decide +kernel
theorem dX10_since_22 : decode cX10_since 22 = .ok (.istore_n 2, 1) := by decide +kernel
theorem dX10_since_23 : decode cX10_since 23 = .ok (.iconst 0, 1) := by decide +kernel
theorem dX10_since_24 : decode cX10_since 24 = .ok (.istore_n 3, 1) := by decide +kernel
theorem dX10_since_25 : decode cX10_since 25 = .ok (.iload_n 3, 1) := by decide +kernel
theorem dX10_since_26 : decode cX10_since 26 = .ok (.aload_n 0, 1) := by decide +kernel
theorem dX10_since_27 : decode cX10_since 27 = .ok (.getfield 7, 3) := by decide +kernel
theorem dX10_since_30 : decode cX10_since 30 = .ok (.bipush 7, 2) := by decide +kernel
theorem dX10_since_32 : decode cX10_since 32 = .ok (.iaload, 1) := by decide +kernel
theorem dX10_since_33 : decode cX10_since 33 = .ok (.if_icmp .ge 123, 3) := by decide +kernel
theorem dX10_since_36 : decode cX10_since 36 = .ok (.aload_n 0, 1) := by decide +kernel
theorem dX10_since_37 : decode cX10_since 37 = .ok (.aload_n 0, 1) := by decide +kernel
theorem dX10_since_38 : decode cX10_since 38 = .ok (.getfield 7, 3) := by decide +kernel
theorem dX10_since_41 : decode cX10_since 41 = .ok (.bipush 40, 2) := by decide +kernel
theorem dX10_since_43 : decode cX10_since 43 = .ok (.iload_n 3, 1) := by decide +kernel
theorem dX10_since_44 : decode cX10_since 44 = .ok (.iadd, 1) := by decide +kernel
theorem dX10_since_45 : decode cX10_since 45 = .ok (.iaload, 1) := by decide +kernel
theorem dX10_since_46 : decode cX10_since 46 = .ok (.invokevirtual 357, 3) := by decide +kernel
theorem dX10_since_49 : decode cX10_since 49 = .ok (.istore 4, 2) := by decide +kernel
theorem dX10_since_51 : decode cX10_since 51 = .ok (.iload 4, 2) := by decide +kernel
theorem dX10_since_53 : decode cX10_since 53 = .ok (.iconst (-1), 1) := by decide +kernel
theorem dX10_since_54 : decode cX10_since 54 = .ok (.if_icmp .eq 7, 3) := by decide +kernel
theorem dX10_since_57 : decode cX10_since 57 = .ok (.iconst 1, 1) := by decide +kernel
theorem dX10_since_58 : decode cX10_since 58 = .ok (.goto 4, 3) := by decide +kernel
theorem dX10_since_61 : decode cX10_since 61 = .ok (.iconst 0, 1) := by decide +kernel
theorem dX10_since_62 : decode cX10_since 62 = .ok (.istore 5, 2) := by decide +kernel
theorem dX10_since_64 : decode cX10_since 64 = .ok (.iload_n 1, 1) := by decide +kernel
theorem dX10_since_65 : decode cX10_since 65 = .ok (.ifCond .ne 12, 3) := by decide +kernel
theorem dX10_since_68 : decode cX10_since 68 = .ok (.iload 5, 2) := by decide +kernel
theorem dX10_since_70 : decode cX10_since 70 = .ok (.ifCond .ne 7, 3) := by decide +kernel
theorem dX10_since_73 : decode cX10_since 73 = .ok (.iload_n 2, 1) := by decide +kernel
theorem dX10_since_74 : decode cX10_since 74 = .ok (.iconst 1, 1) := by decide +kernel
theorem dX10_since_75 : decode cX10_since 75 = .ok (.iadd, 1) := by decide +kernel
theorem dX10_since_76 : decode cX10_since 76 = .ok (.istore_n 2, 1) := by decide +kernel
theorem dX10_since_77 : decode cX10_since 77 = .ok (.iload_n 1, 1) := by decide +kernel
theorem dX10_since_78 : decode cX10_since 78 = .ok (.iconst 2, 1) := by decide +kernel
theorem dX10_since_79 : decode cX10_since 79 = .ok (.if_icmp .ne 27, 3) := by decide +kernel
theorem dX10_since_82 : decode cX10_since 82 = .ok (.iload 5, 2) := by decide +kernel
theorem dX10_since_84 : decode cX10_since 84 = .ok (.ifCond .eq 22, 3) := by decide +kernel
theorem dX10_since_87 : decode cX10_since 87 = .ok (.iload 4, 2) := by decide +kernel
theorem dX10_since_89 : decode cX10_since 89 = .ok (.aload_n 0, 1) := by decide +kernel
theorem dX10_since_90 : decode cX10_since 90 = .ok (.getfield 7, 3) := by decide +kernel
theorem dX10_since_93 : decode cX10_since 93 = .ok (.sipush 340, 3) := by decide +kernel
theorem dX10_since_96 : decode cX10_since 96 = .ok (.iload_n 3, 1) := by decide +kernel
theorem dX10_since_97 : decode cX10_since 97 = .ok (.iadd, 1) := by decide +kernel
theorem dX10_since_98 : decode cX10_since 98 = .ok (.iaload, 1) := by decide +kernel
theorem dX10_since_99 : decode cX10_since 99 = .ok (.if_icmp .eq 7, 3) := by decide +kernel
theorem dX10_since_102 : decode cX10_since 102 = .ok (.iload_n 2, 1) := by decide +kernel
theorem dX10_since_103 : decode cX10_since 103 = .ok (.iconst 1, 1) := by decide +kernel
theorem dX10_since_104 : decode cX10_since 104 = .ok (.iadd, 1) := by decide +kernel
theorem dX10_since_105 : decode cX10_since 105 = .ok (.istore_n 2, 1) := by decide +kernel
theorem dX10_since_106 : decode cX10_since 106 = .ok (.iload_n 1, 1) := by decide +kernel
theorem dX10_since_107 : decode cX10_since 107 = .ok (.iconst 3, 1) := by decide +kernel
theorem dX10_since_108 : decode cX10_since 108 = .ok (.if_icmp .ne 42, 3) := by decide +kernel
theorem dX10_since_111 : decode cX10_since 111 = .ok (.iload 5, 2) := by decide +kernel
theorem dX10_since_113 : decode cX10_since 113 = .ok (.ifCond .eq 37, 3) := by decide +kernel
theorem dX10_since_116 : decode cX10_since 116 = .ok (.aload_n 0, 1) := by decide +kernel
theorem dX10_since_117 : decode cX10_since 117 = .ok (.iconst 1, 1) := by decide +kernel
theorem dX10_since_118 : decode cX10_since 118 = .ok (.aload_n 0, 1) := by decide +kernel
theorem dX10_since_119 : decode cX10_since 119 = .ok (.getfield 7, 3) := by decide +kernel
theorem dX10_since_122 : decode cX10_since 122 = .ok (.bipush 40, 2) := by decide +kernel
theorem dX10_since_124 : decode cX10_since 124 = .ok (.iload_n 3, 1) := by decide +kernel
theorem dX10_since_125 : decode cX10_since 125 = .ok (.iadd, 1) := by decide +kernel
theorem dX10_since_126 : decode cX10_since 126 = .ok (.iaload, 1) := by decide +kernel
theorem dX10_since_127 : decode cX10_since 127 = .ok (.invokevirtual 166, 3) := by decide +kernel
theorem dX10_since_130 : decode cX10_since 130 = .ok (.aload_n 0, 1) := by decide +kernel
theorem dX10_since_131 : decode cX10_since 131 = .ok (.aload_n 0, 1) := by decide +kernel
theorem dX10_since_132 : decode cX10_since 132 = .ok (.getfield 7, 3) := by decide +kernel
theorem dX10_since_135 : decode cX10_since 135 = .ok (.bipush 40, 2) := by decide +kernel
theorem dX10_since_137 : decode cX10_since 137 = .ok (.iload_n 3, 1) := by decide +kernel
theorem dX10_since_138 : decode cX10_since 138 = .ok (.iadd, 1) := by decide +kernel
theorem dX10_since_139 : decode cX10_since 139 = .ok (.iaload, 1) := by decide +kernel
theorem dX10_since_140 : decode cX10_since 140 = .ok (.invokevirtual 214, 3) := by decide +kernel
theorem dX10_since_143 : decode cX10_since 143 = .ok (.if_icmp .eq 7, 3) := by decide +kernel
theorem dX10_since_146 : decode cX10_since 146 = .ok (.iload_n 2, 1) := by decide +kernel
theorem dX10_since_147 : decode cX10_since 147 = .ok (.iconst 1, 1) := by decide +kernel
theorem dX10_since_148 : decode cX10_since 148 = .ok (.iadd, 1) := by decide +kernel
theorem dX10_since_149 : decode cX10_since 149 = .ok (.istore_n 2, 1) := by decide +kernel
theorem dX10_since_150 : decode cX10_since 150 = .ok (.iinc 3 1, 3) := by decide +kernel
theorem dX10_since_153 : decode cX10_since 153 = .ok (.goto (-128), 3) := by decide +kernel
theorem dX10_since_156 : decode cX10_since 156 = .ok (.iconst 0, 1) := by decide +kernel
theorem dX10_since_157 : decode cX10_since 157 = .ok (.istore_n 3, 1) := by decide +kernel
theorem dX10_since_158 : decode cX10_since 158 = .ok (.iload_n 3, 1) := by decide +kernel
theorem dX10_since_159 : decode cX10_since 159 = .ok (.aload_n 0, 1) := by decide +kernel
theorem dX10_since_160 : decode cX10_since 160 = .ok (.getfield 7, 3) := by decide +kernel
theorem dX10_since_163 : decode cX10_since 163 = .ok (.sipush 1899, 3) := by decide +kernel
theorem dX10_since_166 : decode cX10_since 166 = .ok (.iaload, 1) := by decide +kernel
theorem dX10_since_167 : decode cX10_since 167 = .ok (.if_icmp .ge 37, 3) := by decide +kernel
theorem dX10_since_170 : decode cX10_since 170 = .ok (.iload_n 1, 1) := by decide +kernel
theorem dX10_since_171 : decode cX10_since 171 = .ok (.iconst 1, 1) := by decide +kernel
theorem dX10_since_172 : decode cX10_since 172 = .ok (.if_icmp .ne 32, 3) := by decide +kernel
theorem dX10_since_175 : decode cX10_since 175 = .ok (.aload_n 0, 1) := by decide +kernel
theorem dX10_since_176 : decode cX10_since 176 = .ok (.iconst 0, 1) := by decide +kernel
theorem dX10_since_177 : decode cX10_since 177 = .ok (.aload_n 0, 1) := by decide +kernel
theorem dX10_since_178 : decode cX10_since 178 = .ok (.getfield 7, 3) := by decide +kernel
theorem dX10_since_181 : decode cX10_since 181 = .ok (.sipush 1932, 3) := by decide +kernel
theorem dX10_since_184 : decode cX10_since 184 = .ok (.iload_n 3, 1) := by decide +kernel
theorem dX10_since_185 : decode cX10_since 185 = .ok (.iadd, 1) := by decide +kernel
theorem dX10_since_186 : decode cX10_since 186 = .ok (.iaload, 1) := by decide +kernel
theorem dX10_since_187 : decode cX10_since 187 = .ok (.invokevirtual 211, 3) := by decide +kernel
theorem dX10_since_190 : decode cX10_since 190 = .ok (.iconst (-1), 1) := by decide +kernel
theorem dX10_since_191 : decode cX10_since 191 = .ok (.if_icmp .ne 7, 3) := by decide +kernel
theorem dX10_since_194 : decode cX10_since 194 = .ok (.iload_n 2, 1) := by decide +kernel
theorem dX10_since_195 : decode cX10_since 195 = .ok (.iconst 1, 1) := by decide +kernel
theorem dX10_since_196 : decode cX10_since 196 = .ok (.iadd, 1) := by decide +kernel
theorem dX10_since_197 : decode cX10_since 197 = .ok (.istore_n 2, 1) := by decide +kernel
theorem dX10_since_198 : decode cX10_since 198 = .ok (.iinc 3 1, 3) := by decide +kernel
theorem dX10_since_201 : decode cX10_since 201 = .ok (.goto (-43), 3) := by decide +kernel
theorem dX10_since_204 : decode cX10_since 204 = .ok (.iload_n 2, 1) := by decide +kernel
theorem dX10_since_205 : decode cX10_since 205 = .ok (.ireturn, 1) := by decide +kernel
theorem dX10_sameHash_0 : decode cX10_sameHash 0 = .ok (.iconst 0, 1) := by decide +kernel
theorem dX10_sameHash_1 : decode cX10_sameHash 1 = .ok (.istore_n 2, 1) := by decide +kernel
theorem dX10_sameHash_2 : decode cX10_sameHash 2 = .ok (.iconst 0, 1) := by decide +kernel
theorem dX10_sameHash_3 : decode cX10_sameHash 3 = .ok (.istore_n 3, 1) := by decide +kernel
theorem dX10_sameHash_4 : decode cX10_sameHash 4 = .ok (.iload_n 3, 1) := by decide +kernel
theorem dX10_sameHash_5 : decode cX10_sameHash 5 = .ok (.aload_n 0, 1) := by decide +kernel
theorem dX10_sameHash_6 : decode cX10_sameHash 6 = .ok (.getfield 7, 3) := by decide +kernel
theorem dX10_sameHash_9 : decode cX10_sameHash 9 = .ok (.bipush 7, 2) := by decide +kernel
theorem dX10_sameHash_11 : decode cX10_sameHash 11 = .ok (.iaload, 1) := by decide +kernel
theorem dX10_sameHash_12 : decode cX10_sameHash 12 = .ok (.if_icmp .ge 30, 3) := by decide +kernel
theorem dX10_sameHash_15 : decode cX10_sameHash 15 = .ok (.aload_n 0, 1) := by decide +kernel
theorem dX10_sameHash_16 : decode cX10_sameHash 16 = .ok (.aload_n 0, 1) := by decide +kernel
theorem dX10_sameHash_17 : decode cX10_sameHash 17 = .ok (.getfield 7, 3) := by decide +kernel
theorem dX10_sameHash_20 : decode cX10_sameHash 20 = .ok (.bipush 40, 2) := by decide +kernel
theorem dX10_sameHash_22 : decode cX10_sameHash 22 = .ok (.iload_n 3, 1) := by decide +kernel
theorem dX10_sameHash_23 : decode cX10_sameHash 23 = .ok (.iadd, 1) := by decide +kernel
theorem dX10_sameHash_24 : decode cX10_sameHash 24 = .ok (.iaload, 1) := by decide +kernel
theorem dX10_sameHash_25 : decode cX10_sameHash 25 = .ok (.invokevirtual 184, 3) := by decide +kernel
theorem dX10_sameHash_28 : decode cX10_sameHash 28 = .ok (.iload_n 1, 1) := by decide +kernel
theorem dX10_sameHash_29 : decode cX10_sameHash 29 = .ok (.if_icmp .ne 7, 3) := by decide +kernel
theorem dX10_sameHash_32 : decode cX10_sameHash 32 = .ok (.iload_n 2, 1) := by decide +kernel
theorem dX10_sameHash_33 : decode cX10_sameHash 33 = .ok (.iconst 1, 1) := by decide +kernel
theorem dX10_sameHash_34 : decode cX10_sameHash 34 = .ok (.iadd, 1) := by decide +kernel
theorem dX10_sameHash_35 : decode cX10_sameHash 35 = .ok (.istore_n 2, 1) := by decide +kernel
theorem dX10_sameHash_36 : decode cX10_sameHash 36 = .ok (.iinc 3 1, 3) := by decide +kernel
theorem dX10_sameHash_39 : decode cX10_sameHash 39 = .ok (.goto (-35), 3) := by decide +kernel
theorem dX10_sameHash_42 : decode cX10_sameHash 42 = .ok (.iload_n 2, 1) := by decide +kernel
theorem dX10_sameHash_43 : decode cX10_sameHash 43 = .ok (.ireturn, 1) := by decide +kernel
theorem dX10_alike_0 : decode cX10_alike 0 = .ok (.iload_n 1, 1) := by decide +kernel
theorem dX10_alike_1 : decode cX10_alike 1 = .ok (.iconst 0, 1) := by decide +kernel
theorem dX10_alike_2 : decode cX10_alike 2 = .ok (.iconst 2, 1) := by decide +kernel
theorem dX10_alike_3 : decode cX10_alike 3 = .ok (.invokestatic 67, 3) := by decide +kernel
theorem dX10_alike_6 : decode cX10_alike 6 = .ok (.ifCond .ne 5, 3) := by decide +kernel
theorem dX10_alike_9 : decode cX10_alike 9 = .ok (.iconst (-1), 1) := by decide +kernel
theorem dX10_alike_10 : decode cX10_alike 10 = .ok (.ireturn, 1) := by decide +kernel
theorem dX10_alike_11 : decode cX10_alike 11 = .ok (.iconst 0, 1) := by decide +kernel
theorem dX10_alike_12 : decode cX10_alike 12 = .ok (.istore_n 2, 1) := by decide +kernel
theorem dX10_alike_13 : decode cX10_alike 13 = .ok (.bipush (-2), 2) := by decide +kernel
theorem dX10_alike_15 : decode cX10_alike 15 = .ok (.istore_n 3, 1) := by decide +kernel
theorem dX10_alike_16 : decode cX10_alike 16 = .ok (.iconst 0, 1) := by decide +kernel
theorem dX10_alike_17 : decode cX10_alike 17 = .ok (.istore 4, 2) := by decide +kernel
theorem dX10_alike_19 : decode cX10_alike 19 = .ok (.iconst 0, 1) := by decide +kernel
theorem dX10_alike_20 : decode cX10_alike 20 = .ok (.istore 5, 2) := by decide +kernel
theorem dX10_alike_22 : decode cX10_alike 22 = .ok (.iload 5, 2) := by decide +kernel
theorem dX10_alike_24 : decode cX10_alike 24 = .ok (.aload_n 0, 1) := by decide +kernel
theorem dX10_alike_25 : decode cX10_alike 25 = .ok (.getfield 7, 3) := by decide +kernel
theorem dX10_alike_28 : decode cX10_alike 28 = .ok (.bipush 7, 2) := by decide +kernel
theorem dX10_alike_30 : decode cX10_alike 30 = .ok (.iaload, 1) := by decide +kernel
theorem dX10_alike_31 : decode cX10_alike 31 = .ok (.if_icmp .ge 75, 3) := by decide +kernel
theorem dX10_alike_34 : decode cX10_alike 34 = .ok (.aload_n 0, 1) := by decide +kernel
theorem dX10_alike_35 : decode cX10_alike 35 = .ok (.aload_n 0, 1) := by decide +kernel
