theorem dX8_append_3 : decode cX8_append 3 = .ok (.iload_n 2, 1) := by decide +kernel
theorem dX8_append_4 : decode cX8_append 4 = .ok (.ifCond .lt 45, 3) := by decide +kernel
theorem dX8_append_7 : decode cX8_append 7 = .ok (.aload_n 0, 1) := by decide +kernel
theorem dX8_append_8 : decode cX8_append 8 = .ok (.getfield 13, 3) := by decide +kernel
theorem dX8_append_11 : decode cX8_append 11 = .ok (.sipush 320, 3) := by decide +kernel
theorem dX8_append_14 : decode cX8_append 14 = .ok (.if_icmp .ge 35, 3) := by decide +kernel
theorem dX8_append_17 : decode cX8_append 17 = .ok (.aload_n 0, 1) := by decide +kernel
theorem dX8_append_18 : decode cX8_append 18 = .ok (.getfield 9, 3) := by decide +kernel
theorem dX8_append_21 : decode cX8_append 21 = .ok (.aload_n 0, 1) := by decide +kernel
theorem dX8_append_22 : decode cX8_append 22 = .ok (.getfield 13, 3) := by decide +kernel
theorem dX8_append_25 : decode cX8_append 25 = .ok (.iload_n 1, 1) := by decide +kernel
theorem dX8_append_26 : decode cX8_append 26 = .ok (.iload_n 2, 1) := by decide +kernel
theorem dX8_append_27 : decode cX8_append 27 = .ok (.ishr, 1) := by decide +kernel
theorem dX8_append_28 : decode cX8_append 28 = .ok (.sipush 255, 3) := by decide +kernel
theorem dX8_append_31 : decode cX8_append 31 = .ok (.iand, 1) := by decide +kernel
theorem dX8_append_32 : decode cX8_append 32 = .ok (.iastore, 1) := by decide +kernel
theorem dX8_append_33 : decode cX8_append 33 = .ok (.aload_n 0, 1) := by decide +kernel
theorem dX8_append_34 : decode cX8_append 34 = .ok (.dup, 1) := by decide +kernel
theorem dX8_append_35 : decode cX8_append 35 = .ok (.getfield 13, 3) := by decide +kernel
theorem dX8_append_38 : decode cX8_append 38 = .ok (.iconst 1, 1) := by decide +kernel
theorem dX8_append_39 : decode cX8_append 39 = .ok (.iadd, 1) := by decide +kernel
theorem dX8_append_40 : decode cX8_append 40 = .ok (.putfield 13, 3) := by decide +kernel
theorem dX8_append_43 : decode cX8_append 43 = .ok (.iinc 2 (-8), 3) := by decide +kernel
theorem dX8_append_46 : decode cX8_append 46 = .ok (.goto (-43), 3) := by decide +kernel
theorem dX8_append_49 : decode cX8_append 49 = .ok (.return_, 1) := by decide +kernel
theorem dX8_has_0 : decode cX8_has 0 = .ok (.iload_n 1, 1) := by decide +kernel
theorem dX8_has_1 : decode cX8_has 1 = .ok (.iload_n 2, 1) := by decide +kernel
theorem dX8_has_2 : decode cX8_has 2 = .ok (.iload_n 3, 1) := by decide +kernel
theorem dX8_has_3 : decode cX8_has 3 = .ok (.invokestatic 26, 3) := by decide +kernel
theorem dX8_has_6 : decode cX8_has 6 = .ok (.ifCond .eq 15, 3) := by decide +kernel
theorem dX8_has_9 : decode cX8_has 9 = .ok (.iload_n 1, 1) := by decide +kernel
theorem dX8_has_10 : decode cX8_has 10 = .ok (.aload_n 0, 1) := by decide +kernel
theorem dX8_has_11 : decode cX8_has 11 = .ok (.getfield 13, 3) := by decide +kernel
theorem dX8_has_14 : decode cX8_has 14 = .ok (.if_icmp .gt 7, 3) := by decide +kernel
theorem dX8_has_17 : decode cX8_has 17 = .ok (.iconst 1, 1) := by decide +kernel
theorem dX8_has_18 : decode cX8_has 18 = .ok (.goto 4, 3) := by decide +kernel
theorem dX8_has_21 : decode cX8_has 21 = .ok (.iconst 0, 1) := by decide +kernel
theorem dX8_has_22 : decode cX8_has 22 = .ok (.ireturn, 1) := by decide +kernel
theorem dX8_open_0 : decode cX8_open 0 = .ok (.aload_n 0, 1) := by decide +kernel
theorem dX8_open_1 : decode cX8_open 1 = .ok (.iload_n 1, 1) := by decide +kernel
theorem dX8_open_2 : decode cX8_open 2 = .ok (.putfield 20, 3) := by decide +kernel
theorem dX8_open_5 : decode cX8_open 5 = .ok (.aload_n 0, 1) := by decide +kernel
theorem dX8_open_6 : decode cX8_open 6 = .ok (.iconst 0, 1) := by decide +kernel
theorem dX8_open_7 : decode cX8_open 7 = .ok (.putfield 23, 3) := by decide +kernel
theorem dX8_open_10 : decode cX8_open 10 = .ok (.aload_n 0, 1) := by decide +kernel
theorem dX8_open_11 : decode cX8_open 11 = .ok (.iconst 0, 1) := by decide +kernel
theorem dX8_open_12 : decode cX8_open 12 = .ok (.putfield 17, 3) := by decide +kernel
theorem dX8_open_15 : decode cX8_open 15 = .ok (.aload_n 0, 1) := by decide +kernel
theorem dX8_open_16 : decode cX8_open 16 = .ok (.iconst 0, 1) := by decide +kernel
theorem dX8_open_17 : decode cX8_open 17 = .ok (.putfield 13, 3) := by decide +kernel
theorem dX8_open_20 : decode cX8_open 20 = .ok (.return_, 1) := by decide +kernel
theorem dX8_sign_0 : decode cX8_sign 0 = .ok (.aload_n 0, 1) := by decide +kernel
theorem dX8_sign_1 : decode cX8_sign 1 = .ok (.getfield 23, 3) := by decide +kernel
theorem dX8_sign_4 : decode cX8_sign 4 = .ok (.aload_n 0, 1) := by decide +kernel
theorem dX8_sign_5 : decode cX8_sign 5 = .ok (.getfield 20, 3) := by decide +kernel
theorem dX8_sign_8 : decode cX8_sign 8 = .ok (.if_icmp .ge 25, 3) := by decide +kernel
theorem dX8_sign_11 : decode cX8_sign 11 = .ok (.aload_n 0, 1) := by decide +kernel
theorem dX8_sign_12 : decode cX8_sign 12 = .ok (.getfield 23, 3) := by decide +kernel
theorem dX8_sign_15 : decode cX8_sign 15 = .ok (.sipush 320, 3) := by decide +kernel
theorem dX8_sign_18 : decode cX8_sign 18 = .ok (.if_icmp .ge 15, 3) := by decide +kernel
theorem dX8_sign_21 : decode cX8_sign 21 = .ok (.aload_n 0, 1) := by decide +kernel
theorem dX8_sign_22 : decode cX8_sign 22 = .ok (.getfield 9, 3) := by decide +kernel
theorem dX8_sign_25 : decode cX8_sign 25 = .ok (.aload_n 0, 1) := by decide +kernel
theorem dX8_sign_26 : decode cX8_sign 26 = .ok (.getfield 23, 3) := by decide +kernel
theorem dX8_sign_29 : decode cX8_sign 29 = .ok (.iaload, 1) := by decide +kernel
theorem dX8_sign_30 : decode cX8_sign 30 = .ok (.goto 4, 3) := by decide +kernel
theorem dX8_sign_33 : decode cX8_sign 33 = .ok (.iconst (-1), 1) := by decide +kernel
theorem dX8_sign_34 : decode cX8_sign 34 = .ok (.ireturn, 1) := by decide +kernel
theorem dX8_pass_0 : decode cX8_pass 0 = .ok (.aload_n 0, 1) := by decide +kernel
theorem dX8_pass_1 : decode cX8_pass 1 = .ok (.dup, 1) := by decide +kernel
theorem dX8_pass_2 : decode cX8_pass 2 = .ok (.getfield 23, 3) := by decide +kernel
theorem dX8_pass_5 : decode cX8_pass 5 = .ok (.iconst 1, 1) := by decide +kernel
theorem dX8_pass_6 : decode cX8_pass 6 = .ok (.iadd, 1) := by decide +kernel
theorem dX8_pass_7 : decode cX8_pass 7 = .ok (.putfield 23, 3) := by decide +kernel
theorem dX8_pass_10 : decode cX8_pass 10 = .ok (.return_, 1) := by decide +kernel
theorem dX8_failHere_0 : decode cX8_failHere 0 = .ok (.aload_n 0, 1) := by decide +kernel
theorem dX8_failHere_1 : decode cX8_failHere 1 = .ok (.iload_n 1, 1) := by decide +kernel
theorem dX8_failHere_2 : decode cX8_failHere 2 = .ok (.aload_n 0, 1) := by decide +kernel
theorem dX8_failHere_3 : decode cX8_failHere 3 = .ok (.getfield 23, 3) := by decide +kernel
theorem dX8_failHere_6 : decode cX8_failHere 6 = .ok (.invokevirtual 32, 3) := by decide +kernel
theorem dX8_failHere_9 : decode cX8_failHere 9 = .ok (.return_, 1) := by decide +kernel
theorem dX8_fail_0 : decode cX8_fail 0 = .ok (.aload_n 0, 1) := by decide +kernel
theorem dX8_fail_1 : decode cX8_fail 1 = .ok (.getfield 17, 3) := by decide +kernel
theorem dX8_fail_4 : decode cX8_fail 4 = .ok (.ifCond .ne 14, 3) := by decide +kernel
theorem dX8_fail_7 : decode cX8_fail 7 = .ok (.aload_n 0, 1) := by decide +kernel
theorem dX8_fail_8 : decode cX8_fail 8 = .ok (.sipush (-1000), 3) := by decide +kernel
theorem dX8_fail_11 : decode cX8_fail 11 = .ok (.iload_n 1, 1) := by decide +kernel
theorem dX8_fail_12 : decode cX8_fail 12 = .ok (.imul, 1) := by decide +kernel
theorem dX8_fail_13 : decode cX8_fail 13 = .ok (.iload_n 2, 1) := by decide +kernel
theorem dX8_fail_14 : decode cX8_fail 14 = .ok (.isub, 1) := by decide +kernel
theorem dX8_fail_15 : decode cX8_fail 15 = .ok (.putfield 17, 3) := by decide +kernel
theorem dX8_fail_18 : decode cX8_fail 18 = .ok (.return_, 1) := by decide +kernel
theorem dX8_isAtDigit_0 : decode cX8_isAtDigit 0 = .ok (.aload_n 0, 1) := by decide +kernel
theorem dX8_isAtDigit_1 : decode cX8_isAtDigit 1 = .ok (.invokevirtual 36, 3) := by decide +kernel
theorem dX8_isAtDigit_4 : decode cX8_isAtDigit 4 = .ok (.bipush 48, 2) := by decide +kernel
theorem dX8_isAtDigit_6 : decode cX8_isAtDigit 6 = .ok (.bipush 57, 2) := by decide +kernel
theorem dX8_isAtDigit_8 : decode cX8_isAtDigit 8 = .ok (.invokestatic 26, 3) := by decide +kernel
theorem dX8_isAtDigit_11 : decode cX8_isAtDigit 11 = .ok (.ireturn, 1) := by decide +kernel
theorem dX8_number_0 : decode cX8_number 0 = .ok (.aload_n 0, 1) := by decide +kernel
theorem dX8_number_1 : decode cX8_number 1 = .ok (.getfield 23, 3) := by decide +kernel
theorem dX8_number_4 : decode cX8_number 4 = .ok (.istore_n 3, 1) := by decide +kernel
theorem dX8_number_5 : decode cX8_number 5 = .ok (.iconst 0, 1) := by decide +kernel
theorem dX8_number_6 : decode cX8_number 6 = .ok (.istore 4, 2) := by decide +kernel
theorem dX8_number_8 : decode cX8_number 8 = .ok (.iconst 0, 1) := by decide +kernel
theorem dX8_number_9 : decode cX8_number 9 = .ok (.istore 5, 2) := by decide +kernel
theorem dX8_number_11 : decode cX8_number 11 = .ok (.iload 5, 2) := by decide +kernel
theorem dX8_number_13 : decode cX8_number 13 = .ok (.iconst 5, 1) := by decide +kernel
theorem dX8_number_14 : decode cX8_number 14 = .ok (.if_icmp .gt 48, 3) := by decide +kernel
theorem dX8_number_17 : decode cX8_number 17 = .ok (.aload_n 0, 1) := by decide +kernel
theorem dX8_number_18 : decode cX8_number 18 = .ok (.invokevirtual 40, 3) := by decide +kernel
theorem dX8_number_21 : decode cX8_number 21 = .ok (.ifCond .eq 41, 3) := by decide +kernel
theorem dX8_number_24 : decode cX8_number 24 = .ok (.iload 5, 2) := by decide +kernel
theorem dX8_number_26 : decode cX8_number 26 = .ok (.iconst 5, 1) := by decide +kernel
theorem dX8_number_27 : decode cX8_number 27 = .ok (.if_icmp .ne 10, 3) := by decide +kernel
theorem dX8_number_30 : decode cX8_number 30 = .ok (.aload_n 0, 1) := by decide +kernel
theorem dX8_number_31 : decode cX8_number 31 = .ok (.iconst 2, 1) := by decide +kernel
theorem dX8_number_32 : decode cX8_number 32 = .ok (.invokevirtual 44, 3) := by decide +kernel
theorem dX8_number_35 : decode cX8_number 35 = .ok (.iconst 0, 1) := by decide +kernel
theorem dX8_number_36 : decode cX8_number 36 = .ok (.ireturn, 1) := by decide +kernel
theorem dX8_number_37 : decode cX8_number 37 = .ok (.iload 4, 2) := by decide +kernel
theorem dX8_number_39 : decode cX8_number 39 = .ok (.bipush 10, 2) := by decide +kernel
theorem dX8_number_41 : decode cX8_number 41 = .ok (.imul, 1) := by decide +kernel
theorem dX8_number_42 : decode cX8_number 42 = .ok (.aload_n 0, 1) := by decide +kernel
theorem dX8_number_43 : decode cX8_number 43 = .ok (.invokevirtual 36, 3) := by decide +kernel
theorem dX8_number_46 : decode cX8_number 46 = .ok (.iadd, 1) := by decide +kernel
theorem dX8_number_47 : decode cX8_number 47 = .ok (.bipush 48, 2) := by decide +kernel
theorem dX8_number_49 : decode cX8_number 49 = .ok (.isub, 1) := by decide +kernel
theorem dX8_number_50 : decode cX8_number 50 = .ok (.istore 4, 2) := by decide +kernel
theorem dX8_number_52 : decode cX8_number 52 = .ok (.aload_n 0, 1) := by decide +kernel
theorem dX8_number_53 : decode cX8_number 53 = .ok (.invokevirtual 48, 3) := by decide +kernel
theorem dX8_number_56 : decode cX8_number 56 = .ok (.iinc 5 1, 3) := by decide +kernel
theorem dX8_number_59 : decode cX8_number 59 = .ok (.goto (-48), 3) := by decide +kernel
theorem dX8_number_62 : decode cX8_number 62 = .ok (.aload_n 0, 1) := by decide +kernel
theorem dX8_number_63 : decode cX8_number 63 = .ok (.getfield 23, 3) := by decide +kernel
theorem dX8_number_66 : decode cX8_number 66 = .ok (.iload_n 3, 1) := by decide +kernel
theorem dX8_number_67 : decode cX8_number 67 = .ok (.if_icmp .ne 11, 3) := by decide +kernel
theorem dX8_number_70 : decode cX8_number 70 = .ok (.aload_n 0, 1) := by decide +kernel
theorem dX8_number_71 : decode cX8_number 71 = .ok (.iconst 1, 1) := by decide +kernel
theorem dX8_number_72 : decode cX8_number 72 = .ok (.invokevirtual 44, 3) := by decide +kernel
theorem dX8_number_75 : decode cX8_number 75 = .ok (.goto 19, 3) := by decide +kernel
theorem dX8_number_78 : decode cX8_number 78 = .ok (.iload 4, 2) := by decide +kernel
theorem dX8_number_80 : decode cX8_number 80 = .ok (.iload_n 1, 1) := by decide +kernel
theorem dX8_number_81 : decode cX8_number 81 = .ok (.iload_n 2, 1) := by decide +kernel
theorem dX8_number_82 : decode cX8_number 82 = .ok (.invokestatic 26, 3) := by decide +kernel
theorem dX8_number_85 : decode cX8_number 85 = .ok (.ifCond .ne 9, 3) := by decide +kernel
theorem dX8_number_88 : decode cX8_number 88 = .ok (.aload_n 0, 1) := by decide +kernel
theorem dX8_number_89 : decode cX8_number 89 = .ok (.iconst 3, 1) := by decide +kernel
theorem dX8_number_90 : decode cX8_number 90 = .ok (.iload_n 3, 1) := by decide +kernel
theorem dX8_number_91 : decode cX8_number 91 = .ok (.invokevirtual 32, 3) := by decide +kernel
theorem dX8_number_94 : decode cX8_number 94 = .ok (.iload 4, 2) := by decide +kernel
theorem dX8_number_96 : decode cX8_number 96 = .ok (.ireturn, 1) := by decide +kernel
theorem dX8_expect_0 : decode cX8_expect 0 = .ok (.aload_n 0, 1) := by decide +kernel
theorem dX8_expect_1 : decode cX8_expect 1 = .ok (.invokevirtual 36, 3) := by decide +kernel
theorem dX8_expect_4 : decode cX8_expect 4 = .ok (.iload_n 1, 1) := by decide +kernel
theorem dX8_expect_5 : decode cX8_expect 5 = .ok (.if_icmp .ne 10, 3) := by decide +kernel
theorem dX8_expect_8 : decode cX8_expect 8 = .ok (.aload_n 0, 1) := by decide +kernel
theorem dX8_expect_9 : decode cX8_expect 9 = .ok (.invokevirtual 48, 3) := by decide +kernel
theorem dX8_expect_12 : decode cX8_expect 12 = .ok (.goto 8, 3) := by decide +kernel
theorem dX8_expect_15 : decode cX8_expect 15 = .ok (.aload_n 0, 1) := by decide +kernel
theorem dX8_expect_16 : decode cX8_expect 16 = .ok (.iconst 1, 1) := by decide +kernel
theorem dX8_expect_17 : decode cX8_expect 17 = .ok (.invokevirtual 44, 3) := by decide +kernel
theorem dX8_expect_20 : decode cX8_expect 20 = .ok (.return_, 1) := by decide +kernel
theorem dX9_init_0 : decode cX9_init 0 = .ok (.aload_n 0, 1) := by decide +kernel
theorem dX9_init_1 : decode cX9_init 1 = .ok (.invokespecial 1, 3) := by decide +kernel
theorem dX9_init_4 : decode cX9_init 4 = .ok (.aload_n 0, 1) := by decide +kernel
theorem dX9_init_5 : decode cX9_init 5 = .ok (.new 7, 3) := by decide +kernel
theorem dX9_init_8 : decode cX9_init 8 = .ok (.dup, 1) := by decide +kernel
theorem dX9_init_9 : decode cX9_init 9 = .ok (.invokespecial 9, 3) := by decide +kernel
theorem dX9_init_12 : decode cX9_init 12 = .ok (.putfield 10, 3) := by decide +kernel
theorem dX9_init_15 : decode cX9_init 15 = .ok (.aload_n 0, 1) := by decide +kernel
theorem dX9_init_16 : decode cX9_init 16 = .ok (.new 16, 3) := by decide +kernel
theorem dX9_init_19 : decode cX9_init 19 = .ok (.dup, 1) := by decide +kernel
theorem dX9_init_20 : decode cX9_init 20 = .ok (.invokespecial 18, 3) := by decide +kernel
theorem dX9_init_23 : decode cX9_init 23 = .ok (.putfield 19, 3) := by decide +kernel
theorem dX9_init_26 : decode cX9_init 26 = .ok (.aload_n 0, 1) := by decide +kernel
theorem dX9_init_27 : decode cX9_init 27 = .ok (.new 23, 3) := by decide +kernel
theorem dX9_init_30 : decode cX9_init 30 = .ok (.dup, 1) := by decide +kernel
theorem dX9_init_31 : decode cX9_init 31 = .ok (.invokespecial 25, 3) := by decide +kernel
theorem dX9_init_34 : decode cX9_init 34 = .ok (.putfield 26, 3) := by decide +kernel
theorem dX9_init_37 : decode cX9_init 37 = .ok (.aload_n 0, 1) := by decide +kernel
theorem dX9_init_38 : decode cX9_init 38 = .ok (.new 30, 3) := by decide +kernel
theorem dX9_init_41 : decode cX9_init 41 = .ok (.dup, 1) := by decide +kernel
theorem dX9_init_42 : decode cX9_init 42 = .ok (.invokespecial 32, 3) := by decide +kernel
theorem dX9_init_45 : decode cX9_init 45 = .ok (.putfield 33, 3) := by decide +kernel
theorem dX9_init_48 : decode cX9_init 48 = .ok (.aload_n 0, 1) := by decide +kernel
theorem dX9_init_49 : decode cX9_init 49 = .ok (.new 30, 3) := by decide +kernel
theorem dX9_init_52 : decode cX9_init 52 = .ok (.dup, 1) := by decide +kernel
theorem dX9_init_53 : decode cX9_init 53 = .ok (.invokespecial 32, 3) := by decide +kernel
theorem dX9_init_56 : decode cX9_init 56 = .ok (.putfield 37, 3) := by decide +kernel
theorem dX9_init_59 : decode cX9_init 59 = .ok (.aload_n 0, 1) := by decide +kernel
theorem dX9_init_60 : decode cX9_init 60 = .ok (.new 30, 3) := by decide +kernel
theorem dX9_init_63 : decode cX9_init 63 = .ok (.dup, 1) := by decide +kernel
theorem dX9_init_64 : decode cX9_init 64 = .ok (.invokespecial 32, 3) := by decide +kernel
theorem dX9_init_67 : decode cX9_init 67 = .ok (.putfield 40, 3) := by decide +kernel
theorem dX9_init_70 : decode cX9_init 70 = .ok (.aload_n 0, 1) := by decide +kernel
theorem dX9_init_71 : decode cX9_init 71 = .ok (.bipush 64, 2) := by decide +kernel
theorem dX9_init_73 : decode cX9_init 73 = .ok (.newarray .int, 2) := by decide +kernel
theorem dX9_init_75 : decode cX9_init 75 = .ok (.putfield 43, 3) := by decide +kernel
theorem dX9_init_78 : decode cX9_init 78 = .ok (.aload_n 0, 1) := by decide +kernel
theorem dX9_init_79 : decode cX9_init 79 = .ok (.iconst 0, 1) := by decide +kernel
theorem dX9_init_80 : decode cX9_init 80 = .ok (.putfield 47, 3) := by decide +kernel
theorem dX9_init_83 : decode cX9_init 83 = .ok (.return_, 1) := by decide +kernel
theorem dX9_feed_0 : decode cX9_feed 0 = .ok (.aload_n 0, 1) := by decide +kernel
theorem dX9_feed_1 : decode cX9_feed 1 = .ok (.getfield 10, 3) := by decide +kernel
theorem dX9_feed_4 : decode cX9_feed 4 = .ok (.invokevirtual 51, 3) := by decide +kernel
theorem dX9_feed_7 : decode cX9_feed 7 = .ok (.ifCond .ne 5, 3) := by decide +kernel
theorem dX9_feed_10 : decode cX9_feed 10 = .ok (.iconst (-1), 1) := by decide +kernel
theorem dX9_feed_11 : decode cX9_feed 11 = .ok (.ireturn, 1) := by decide +kernel
theorem dX9_feed_12 : decode cX9_feed 12 = .ok (.aload_n 0, 1) := by decide +kernel
theorem dX9_feed_13 : decode cX9_feed 13 = .ok (.getfield 10, 3) := by decide +kernel
theorem dX9_feed_16 : decode cX9_feed 16 = .ok (.iload_n 1, 1) := by decide +kernel
theorem dX9_feed_17 : decode cX9_feed 17 = .ok (.invokevirtual 55, 3) := by decide +kernel
theorem dX9_feed_20 : decode cX9_feed 20 = .ok (.aload_n 0, 1) := by decide +kernel
theorem dX9_feed_21 : decode cX9_feed 21 = .ok (.getfield 10, 3) := by decide +kernel
theorem dX9_feed_24 : decode cX9_feed 24 = .ok (.iload_n 2, 1) := by decide +kernel
theorem dX9_feed_25 : decode cX9_feed 25 = .ok (.invokevirtual 55, 3) := by decide +kernel
theorem dX9_feed_28 : decode cX9_feed 28 = .ok (.aload_n 0, 1) := by decide +kernel
theorem dX9_feed_29 : decode cX9_feed 29 = .ok (.getfield 10, 3) := by decide +kernel
theorem dX9_feed_32 : decode cX9_feed 32 = .ok (.iload_n 3, 1) := by decide +kernel
theorem dX9_feed_33 : decode cX9_feed 33 = .ok (.invokevirtual 55, 3) := by decide +kernel
theorem dX9_feed_36 : decode cX9_feed 36 = .ok (.aload_n 0, 1) := by decide +kernel
theorem dX9_feed_37 : decode cX9_feed 37 = .ok (.getfield 10, 3) := by decide +kernel
theorem dX9_feed_40 : decode cX9_feed 40 = .ok (.iload 4, 2) := by decide +kernel
theorem dX9_feed_42 : decode cX9_feed 42 = .ok (.invokevirtual 55, 3) := by decide +kernel
theorem dX9_feed_45 : decode cX9_feed 45 = .ok (.aload_n 0, 1) := by decide +kernel
theorem dX9_feed_46 : decode cX9_feed 46 = .ok (.getfield 10, 3) := by decide +kernel
theorem dX9_feed_49 : decode cX9_feed 49 = .ok (.iload 5, 2) := by decide +kernel
theorem dX9_feed_51 : decode cX9_feed 51 = .ok (.invokevirtual 55, 3) := by decide +kernel
theorem dX9_feed_54 : decode cX9_feed 54 = .ok (.aload_n 0, 1) := by decide +kernel
theorem dX9_feed_55 : decode cX9_feed 55 = .ok (.getfield 10, 3) := by decide +kernel
theorem dX9_feed_58 : decode cX9_feed 58 = .ok (.getfield 59, 3) := by decide +kernel
theorem dX9_feed_61 : decode cX9_feed 61 = .ok (.ireturn, 1) := by decide +kernel
theorem dX9_shape_0 : decode cX9_shape 0 = .ok (.iload_n 1, 1) := by decide +kernel
theorem dX9_shape_1 : decode cX9_shape 1 = .ok (.iconst 1, 1) := by decide +kernel
theorem dX9_shape_2 : decode cX9_shape 2 = .ok (.iconst 4, 1) := by decide +kernel
theorem dX9_shape_3 : decode cX9_shape 3 = .ok (.invokestatic 63, 3) := by decide +kernel
theorem dX9_shape_6 : decode cX9_shape 6 = .ok (.ifCond .eq 50, 3) := by decide +kernel
theorem dX9_shape_9 : decode cX9_shape 9 = .ok (.iload_n 2, 1) := by decide +kernel
theorem dX9_shape_10 : decode cX9_shape 10 = .ok (.iconst 2, 1) := by decide +kernel
theorem dX9_shape_11 : decode cX9_shape 11 = .ok (.bipush 6, 2) := by decide +kernel
theorem dX9_shape_13 : decode cX9_shape 13 = .ok (.invokestatic 63, 3) := by decide +kernel
theorem dX9_shape_16 : decode cX9_shape 16 = .ok (.ifCond .eq 40, 3) := by decide +kernel
theorem dX9_shape_19 : decode cX9_shape 19 = .ok (.iload_n 3, 1) := by decide +kernel
theorem dX9_shape_20 : decode cX9_shape 20 = .ok (.bipush 50, 2) := by decide +kernel
theorem dX9_shape_22 : decode cX9_shape 22 = .ok (.sipush 300, 3) := by decide +kernel
theorem dX9_shape_25 : decode cX9_shape 25 = .ok (.invokestatic 63, 3) := by decide +kernel
theorem dX9_shape_28 : decode cX9_shape 28 = .ok (.ifCond .eq 28, 3) := by decide +kernel
theorem dX9_shape_31 : decode cX9_shape 31 = .ok (.iload 4, 2) := by decide +kernel
theorem dX9_shape_33 : decode cX9_shape 33 = .ok (.iconst 0, 1) := by decide +kernel
theorem dX9_shape_34 : decode cX9_shape 34 = .ok (.bipush 49, 2) := by decide +kernel
theorem dX9_shape_36 : decode cX9_shape 36 = .ok (.invokestatic 63, 3) := by decide +kernel
theorem dX9_shape_39 : decode cX9_shape 39 = .ok (.ifCond .eq 17, 3) := by decide +kernel
theorem dX9_shape_42 : decode cX9_shape 42 = .ok (.iload 5, 2) := by decide +kernel
theorem dX9_shape_44 : decode cX9_shape 44 = .ok (.iconst 0, 1) := by decide +kernel
theorem dX9_shape_45 : decode cX9_shape 45 = .ok (.iconst 2, 1) := by decide +kernel
theorem dX9_shape_46 : decode cX9_shape 46 = .ok (.invokestatic 63, 3) := by decide +kernel
theorem dX9_shape_49 : decode cX9_shape 49 = .ok (.ifCond .eq 7, 3) := by decide +kernel
theorem dX9_shape_52 : decode cX9_shape 52 = .ok (.iconst 1, 1) := by decide +kernel
theorem dX9_shape_53 : decode cX9_shape 53 = .ok (.goto 4, 3) := by decide +kernel
theorem dX9_shape_56 : decode cX9_shape 56 = .ok (.iconst 0, 1) := by decide +kernel
theorem dX9_shape_57 : decode cX9_shape 57 = .ok (.istore 6, 2) := by decide +kernel
theorem dX9_shape_59 : decode cX9_shape 59 = .ok (.iload 6, 2) := by decide +kernel
theorem dX9_shape_61 : decode cX9_shape 61 = .ok (.ifCond .eq 17, 3) := by decide +kernel
theorem dX9_shape_64 : decode cX9_shape 64 = .ok (.aload_n 0, 1) := by decide +kernel
theorem dX9_shape_65 : decode cX9_shape 65 = .ok (.getfield 33, 3) := by decide +kernel
theorem dX9_shape_68 : decode cX9_shape 68 = .ok (.iload_n 1, 1) := by decide +kernel
theorem dX9_shape_69 : decode cX9_shape 69 = .ok (.iload_n 2, 1) := by decide +kernel
theorem dX9_shape_70 : decode cX9_shape 70 = .ok (.iload_n 3, 1) := by decide +kernel
theorem dX9_shape_71 : decode cX9_shape 71 = .ok (.iload 4, 2) := by decide +kernel
theorem dX9_shape_73 : decode cX9_shape 73 = .ok (.iload 5, 2) := by decide +kernel
theorem dX9_shape_75 : decode cX9_shape 75 = .ok (.invokevirtual 67, 3) := by decide +kernel
theorem dX9_shape_78 : decode cX9_shape 78 = .ok (.iload 6, 2) := by decide +kernel
theorem dX9_shape_80 : decode cX9_shape 80 = .ok (.ireturn, 1) := by decide +kernel
theorem dX9_law_0 : decode cX9_law 0 = .ok (.aload_n 0, 1) := by decide +kernel
theorem dX9_law_1 : decode cX9_law 1 = .ok (.getfield 10, 3) := by decide +kernel
theorem dX9_law_4 : decode cX9_law 4 = .ok (.iload_n 1, 1) := by decide +kernel
theorem dX9_law_5 : decode cX9_law 5 = .ok (.iconst 1, 1) := by decide +kernel
theorem dX9_law_6 : decode cX9_law 6 = .ok (.bipush 60, 2) := by decide +kernel
theorem dX9_law_8 : decode cX9_law 8 = .ok (.invokevirtual 71, 3) := by decide +kernel
theorem dX9_law_11 : decode cX9_law 11 = .ok (.ifCond .ne 5, 3) := by decide +kernel
theorem dX9_law_14 : decode cX9_law 14 = .ok (.iconst (-1), 1) := by decide +kernel
theorem dX9_law_15 : decode cX9_law 15 = .ok (.ireturn, 1) := by decide +kernel
theorem dX9_law_16 : decode cX9_law 16 = .ok (.aload_n 0, 1) := by decide +kernel
theorem dX9_law_17 : decode cX9_law 17 = .ok (.getfield 10, 3) := by decide +kernel
theorem dX9_law_20 : decode cX9_law 20 = .ok (.iload_n 1, 1) := by decide +kernel
theorem dX9_law_21 : decode cX9_law 21 = .ok (.invokevirtual 74, 3) := by decide +kernel
theorem dX9_law_24 : decode cX9_law 24 = .ok (.aload_n 0, 1) := by decide +kernel
theorem dX9_law_25 : decode cX9_law 25 = .ok (.getfield 33, 3) := by decide +kernel
theorem dX9_law_28 : decode cX9_law 28 = .ok (.getfield 77, 3) := by decide +kernel
theorem dX9_law_31 : decode cX9_law 31 = .ok (.getfield 81, 3) := by decide +kernel
theorem dX9_law_34 : decode cX9_law 34 = .ok (.ifCond .le 6, 3) := by decide +kernel
theorem dX9_law_37 : decode cX9_law 37 = .ok (.bipush (-3), 2) := by decide +kernel
theorem dX9_law_39 : decode cX9_law 39 = .ok (.ireturn, 1) := by decide +kernel
theorem dX9_law_40 : decode cX9_law 40 = .ok (.aload_n 0, 1) := by decide +kernel
theorem dX9_law_41 : decode cX9_law 41 = .ok (.getfield 19, 3) := by decide +kernel
theorem dX9_law_44 : decode cX9_law 44 = .ok (.aload_n 0, 1) := by decide +kernel
theorem dX9_law_45 : decode cX9_law 45 = .ok (.getfield 10, 3) := by decide +kernel
theorem dX9_law_48 : decode cX9_law 48 = .ok (.invokevirtual 84, 3) := by decide +kernel
theorem dX9_law_51 : decode cX9_law 51 = .ok (.istore_n 2, 1) := by decide +kernel
theorem dX9_law_52 : decode cX9_law 52 = .ok (.iload_n 2, 1) := by decide +kernel
theorem dX9_law_53 : decode cX9_law 53 = .ok (.ifCond .eq 5, 3) := by decide +kernel
theorem dX9_law_56 : decode cX9_law 56 = .ok (.iload_n 2, 1) := by decide +kernel
theorem dX9_law_57 : decode cX9_law 57 = .ok (.ireturn, 1) := by decide +kernel
theorem dX9_law_58 : decode cX9_law 58 = .ok (.aload_n 0, 1) := by decide +kernel
theorem dX9_law_59 : decode cX9_law 59 = .ok (.getfield 33, 3) := by decide +kernel
theorem dX9_law_62 : decode cX9_law 62 = .ok (.getfield 88, 3) := by decide +kernel
theorem dX9_law_65 : decode cX9_law 65 = .ok (.aload_n 0, 1) := by decide +kernel
theorem dX9_law_66 : decode cX9_law 66 = .ok (.getfield 19, 3) := by decide +kernel
theorem dX9_law_69 : decode cX9_law 69 = .ok (.getfield 92, 3) := by decide +kernel
theorem dX9_law_72 : decode cX9_law 72 = .ok (.aload_n 0, 1) := by decide +kernel
theorem dX9_law_73 : decode cX9_law 73 = .ok (.getfield 19, 3) := by decide +kernel
theorem dX9_law_76 : decode cX9_law 76 = .ok (.getfield 95, 3) := by decide +kernel
theorem dX9_law_79 : decode cX9_law 79 = .ok (.invokevirtual 96, 3) := by decide +kernel
theorem dX9_law_82 : decode cX9_law 82 = .ok (.aload_n 0, 1) := by decide +kernel
theorem dX9_law_83 : decode cX9_law 83 = .ok (.getfield 33, 3) := by decide +kernel
theorem dX9_law_86 : decode cX9_law 86 = .ok (.getfield 77, 3) := by decide +kernel
theorem dX9_law_89 : decode cX9_law 89 = .ok (.getfield 81, 3) := by decide +kernel
theorem dX9_law_92 : decode cX9_law 92 = .ok (.ireturn, 1) := by decide +kernel
theorem dX9_work_0 : decode cX9_work 0 = .ok (.aload_n 0, 1) := by decide +kernel
theorem dX9_work_1 : decode cX9_work 1 = .ok (.getfield 10, 3) := by decide +kernel
theorem dX9_work_4 : decode cX9_work 4 = .ok (.iload_n 1, 1) := by decide +kernel
theorem dX9_work_5 : decode cX9_work 5 = .ok (.iconst 1, 1) := by decide +kernel
theorem dX9_work_6 : decode cX9_work 6 = .ok (.bipush 120, 2) := by decide +kernel
theorem dX9_work_8 : decode cX9_work 8 = .ok (.invokevirtual 71, 3) := by decide +kernel
theorem dX9_work_11 : decode cX9_work 11 = .ok (.ifCond .ne 5, 3) := by decide +kernel
theorem dX9_work_14 : decode cX9_work 14 = .ok (.iconst (-1), 1) := by decide +kernel
theorem dX9_work_15 : decode cX9_work 15 = .ok (.ireturn, 1) := by decide +kernel
theorem dX9_work_16 : decode cX9_work 16 = .ok (.aload_n 0, 1) := by decide +kernel
theorem dX9_work_17 : decode cX9_work 17 = .ok (.getfield 10, 3) := by decide +kernel
theorem dX9_work_20 : decode cX9_work 20 = .ok (.iload_n 1, 1) := by decide +kernel
theorem dX9_work_21 : decode cX9_work 21 = .ok (.invokevirtual 74, 3) := by decide +kernel
theorem dX9_work_24 : decode cX9_work 24 = .ok (.aload_n 0, 1) := by decide +kernel
theorem dX9_work_25 : decode cX9_work 25 = .ok (.getfield 26, 3) := by decide +kernel
theorem dX9_work_28 : decode cX9_work 28 = .ok (.aload_n 0, 1) := by decide +kernel
theorem dX9_work_29 : decode cX9_work 29 = .ok (.getfield 10, 3) := by decide +kernel
theorem dX9_work_32 : decode cX9_work 32 = .ok (.invokevirtual 102, 3) := by decide +kernel
theorem dX9_work_35 : decode cX9_work 35 = .ok (.istore_n 2, 1) := by decide +kernel
theorem dX9_work_36 : decode cX9_work 36 = .ok (.iload_n 2, 1) := by decide +kernel
theorem dX9_work_37 : decode cX9_work 37 = .ok (.ifCond .eq 5, 3) := by decide +kernel
theorem dX9_work_40 : decode cX9_work 40 = .ok (.iload_n 2, 1) := by decide +kernel
theorem dX9_work_41 : decode cX9_work 41 = .ok (.ireturn, 1) := by decide +kernel
theorem dX9_work_42 : decode cX9_work 42 = .ok (.iconst 0, 1) := by decide +kernel
theorem dX9_work_43 : decode cX9_work 43 = .ok (.istore_n 3, 1) := by decide +kernel
theorem dX9_work_44 : decode cX9_work 44 = .ok (.iload_n 3, 1) := by decide +kernel
theorem dX9_work_45 : decode cX9_work 45 = .ok (.aload_n 0, 1) := by decide +kernel
theorem dX9_work_46 : decode cX9_work 46 = .ok (.getfield 26, 3) := by decide +kernel
theorem dX9_work_49 : decode cX9_work 49 = .ok (.getfield 103, 3) := by decide +kernel
theorem dX9_work_52 : decode cX9_work 52 = .ok (.if_icmp .ge 49, 3) := by decide +kernel
theorem dX9_work_55 : decode cX9_work 55 = .ok (.aload_n 0, 1) := by decide +kernel
theorem dX9_work_56 : decode cX9_work 56 = .ok (.aload_n 0, 1) := by decide +kernel
theorem dX9_work_57 : decode cX9_work 57 = .ok (.getfield 26, 3) := by decide +kernel
theorem dX9_work_60 : decode cX9_work 60 = .ok (.getfield 104, 3) := by decide +kernel
theorem dX9_work_63 : decode cX9_work 63 = .ok (.iload_n 3, 1) := by decide +kernel
theorem dX9_work_64 : decode cX9_work 64 = .ok (.iaload, 1) := by decide +kernel
theorem dX9_work_65 : decode cX9_work 65 = .ok (.aload_n 0, 1) := by decide +kernel
theorem dX9_work_66 : decode cX9_work 66 = .ok (.getfield 26, 3) := by decide +kernel
theorem dX9_work_69 : decode cX9_work 69 = .ok (.getfield 107, 3) := by decide +kernel
theorem dX9_work_72 : decode cX9_work 72 = .ok (.iload_n 3, 1) := by decide +kernel
theorem dX9_work_73 : decode cX9_work 73 = .ok (.iaload, 1) := by decide +kernel
theorem dX9_work_74 : decode cX9_work 74 = .ok (.aload_n 0, 1) := by decide +kernel
theorem dX9_work_75 : decode cX9_work 75 = .ok (.getfield 26, 3) := by decide +kernel
theorem dX9_work_78 : decode cX9_work 78 = .ok (.getfield 110, 3) := by decide +kernel
theorem dX9_work_81 : decode cX9_work 81 = .ok (.iload_n 3, 1) := by decide +kernel
theorem dX9_work_82 : decode cX9_work 82 = .ok (.iaload, 1) := by decide +kernel
theorem dX9_work_83 : decode cX9_work 83 = .ok (.aload_n 0, 1) := by decide +kernel
theorem dX9_work_84 : decode cX9_work 84 = .ok (.getfield 26, 3) := by decide +kernel
theorem dX9_work_87 : decode cX9_work 87 = .ok (.getfield 113, 3) := by decide +kernel
theorem dX9_work_90 : decode cX9_work 90 = .ok (.iload_n 3, 1) := by decide +kernel
theorem dX9_work_91 : decode cX9_work 91 = .ok (.iaload, 1) := by decide +kernel
theorem dX9_work_92 : decode cX9_work 92 = .ok (.invokevirtual 116, 3) := by decide +kernel
theorem dX9_work_95 : decode cX9_work 95 = .ok (.iinc 3 1, 3) := by decide +kernel
theorem dX9_work_98 : decode cX9_work 98 = .ok (.goto (-54), 3) := by decide +kernel
theorem dX9_work_101 : decode cX9_work 101 = .ok (.aload_n 0, 1) := by decide +kernel
theorem dX9_work_102 : decode cX9_work 102 = .ok (.getfield 26, 3) := by decide +kernel
theorem dX9_work_105 : decode cX9_work 105 = .ok (.getfield 103, 3) := by decide +kernel
theorem dX9_work_108 : decode cX9_work 108 = .ok (.ireturn, 1) := by decide +kernel
theorem dX9_doStep_0 : decode cX9_doStep 0 = .ok (.iload_n 1, 1) := by decide +kernel
theorem dX9_doStep_1 : decode cX9_doStep 1 = .ok (.tableswitch 195 100 121 #[116, 195, 195, 128, 195, 195, 151, 195, 195, 195, 162, 195, 103, 195, 195, 140, 195, 195, 195, 195, 173, 184], 103) := by decide +kernel
theorem dX9_doStep_104 : decode cX9_doStep 104 = .ok (.aload_n 0, 1) := by decide +kernel
theorem dX9_doStep_105 : decode cX9_doStep 105 = .ok (.getfield 33, 3) := by decide +kernel
theorem dX9_doStep_108 : decode cX9_doStep 108 = .ok (.iload_n 2, 1) := by decide +kernel
theorem dX9_doStep_109 : decode cX9_doStep 109 = .ok (.iload_n 3, 1) := by decide +kernel
theorem dX9_doStep_110 : decode cX9_doStep 110 = .ok (.invokevirtual 120, 3) := by decide +kernel
theorem dX9_doStep_113 : decode cX9_doStep 113 = .ok (.pop, 1) := by decide +kernel
theorem dX9_doStep_114 : decode cX9_doStep 114 = .ok (.goto 82, 3) := by decide +kernel
theorem dX9_doStep_117 : decode cX9_doStep 117 = .ok (.aload_n 0, 1) := by decide +kernel
theorem dX9_doStep_118 : decode cX9_doStep 118 = .ok (.getfield 33, 3) := by decide +kernel
theorem dX9_doStep_121 : decode cX9_doStep 121 = .ok (.iload_n 2, 1) := by decide +kernel
theorem dX9_doStep_122 : decode cX9_doStep 122 = .ok (.invokevirtual 124, 3) := by decide +kernel
theorem dX9_doStep_125 : decode cX9_doStep 125 = .ok (.pop, 1) := by decide +kernel
theorem dX9_doStep_126 : decode cX9_doStep 126 = .ok (.goto 70, 3) := by decide +kernel
theorem dX9_doStep_129 : decode cX9_doStep 129 = .ok (.aload_n 0, 1) := by decide +kernel
theorem dX9_doStep_130 : decode cX9_doStep 130 = .ok (.getfield 33, 3) := by decide +kernel
theorem dX9_doStep_133 : decode cX9_doStep 133 = .ok (.iload_n 2, 1) := by decide +kernel
theorem dX9_doStep_134 : decode cX9_doStep 134 = .ok (.invokevirtual 128, 3) := by decide +kernel
theorem dX9_doStep_137 : decode cX9_doStep 137 = .ok (.pop, 1) := by decide +kernel
theorem dX9_doStep_138 : decode cX9_doStep 138 = .ok (.goto 58, 3) := by decide +kernel
theorem dX9_doStep_141 : decode cX9_doStep 141 = .ok (.aload_n 0, 1) := by decide +kernel
theorem dX9_doStep_142 : decode cX9_doStep 142 = .ok (.getfield 33, 3) := by decide +kernel
theorem dX9_doStep_145 : decode cX9_doStep 145 = .ok (.invokevirtual 131, 3) := by decide +kernel
theorem dX9_doStep_148 : decode cX9_doStep 148 = .ok (.pop, 1) := by decide +kernel
theorem dX9_doStep_149 : decode cX9_doStep 149 = .ok (.goto 47, 3) := by decide +kernel
theorem dX9_doStep_152 : decode cX9_doStep 152 = .ok (.aload_n 0, 1) := by decide +kernel
theorem dX9_doStep_153 : decode cX9_doStep 153 = .ok (.getfield 33, 3) := by decide +kernel
theorem dX9_doStep_156 : decode cX9_doStep 156 = .ok (.invokevirtual 135, 3) := by decide +kernel
theorem dX9_doStep_159 : decode cX9_doStep 159 = .ok (.pop, 1) := by decide +kernel
theorem dX9_doStep_160 : decode cX9_doStep 160 = .ok (.goto 36, 3) := by decide +kernel
theorem dX9_doStep_163 : decode cX9_doStep 163 = .ok (.aload_n 0, 1) := by decide +kernel
theorem dX9_doStep_164 : decode cX9_doStep 164 = .ok (.iload_n 2, 1) := by decide +kernel
theorem dX9_doStep_165 : decode cX9_doStep 165 = .ok (.iload_n 3, 1) := by decide +kernel
theorem dX9_doStep_166 : decode cX9_doStep 166 = .ok (.iload 4, 2) := by decide +kernel
theorem dX9_doStep_168 : decode cX9_doStep 168 = .ok (.invokevirtual 138, 3) := by decide +kernel
theorem dX9_doStep_171 : decode cX9_doStep 171 = .ok (.goto 25, 3) := by decide +kernel
theorem dX9_doStep_174 : decode cX9_doStep 174 = .ok (.aload_n 0, 1) := by decide +kernel
theorem dX9_doStep_175 : decode cX9_doStep 175 = .ok (.getfield 33, 3) := by decide +kernel
theorem dX9_doStep_178 : decode cX9_doStep 178 = .ok (.iload_n 2, 1) := by decide +kernel
theorem dX9_doStep_179 : decode cX9_doStep 179 = .ok (.invokevirtual 142, 3) := by decide +kernel
theorem dX9_doStep_182 : decode cX9_doStep 182 = .ok (.goto 14, 3) := by decide +kernel
theorem dX9_doStep_185 : decode cX9_doStep 185 = .ok (.aload_n 0, 1) := by decide +kernel
theorem dX9_doStep_186 : decode cX9_doStep 186 = .ok (.getfield 33, 3) := by decide +kernel
theorem dX9_doStep_189 : decode cX9_doStep 189 = .ok (.iload_n 2, 1) := by decide +kernel
theorem dX9_doStep_190 : decode cX9_doStep 190 = .ok (.invokevirtual 145, 3) := by decide +kernel
theorem dX9_doStep_193 : decode cX9_doStep 193 = .ok (.goto 3, 3) := by decide +kernel
theorem dX9_doStep_196 : decode cX9_doStep 196 = .ok (.return_, 1) := by decide +kernel
theorem dX9_storeRow_0 : decode cX9_storeRow 0 = .ok (.iconst 0, 1) := by decide +kernel
theorem dX9_storeRow_1 : decode cX9_storeRow 1 = .ok (.istore 4, 2) := by decide +kernel
theorem dX9_storeRow_3 : decode cX9_storeRow 3 = .ok (.iload 4, 2) := by decide +kernel
theorem dX9_storeRow_5 : decode cX9_storeRow 5 = .ok (.iload_n 2, 1) := by decide +kernel
theorem dX9_storeRow_6 : decode cX9_storeRow 6 = .ok (.if_icmp .ge 36, 3) := by decide +kernel
theorem dX9_storeRow_9 : decode cX9_storeRow 9 = .ok (.iload_n 1, 1) := by decide +kernel
theorem dX9_storeRow_10 : decode cX9_storeRow 10 = .ok (.iload 4, 2) := by decide +kernel
theorem dX9_storeRow_12 : decode cX9_storeRow 12 = .ok (.iload_n 3, 1) := by decide +kernel
theorem dX9_storeRow_13 : decode cX9_storeRow 13 = .ok (.imul, 1) := by decide +kernel
theorem dX9_storeRow_14 : decode cX9_storeRow 14 = .ok (.iadd, 1) := by decide +kernel
theorem dX9_storeRow_15 : decode cX9_storeRow 15 = .ok (.ldc 148, 2) := by decide +kernel
theorem dX9_storeRow_17 : decode cX9_storeRow 17 = .ok (.iand, 1) := by decide +kernel
theorem dX9_storeRow_18 : decode cX9_storeRow 18 = .ok (.istore 5, 2) := by decide +kernel
theorem dX9_storeRow_20 : decode cX9_storeRow 20 = .ok (.aload_n 0, 1) := by decide +kernel
theorem dX9_storeRow_21 : decode cX9_storeRow 21 = .ok (.getfield 33, 3) := by decide +kernel
theorem dX9_storeRow_24 : decode cX9_storeRow 24 = .ok (.iload 5, 2) := by decide +kernel
theorem dX9_storeRow_26 : decode cX9_storeRow 26 = .ok (.iload 5, 2) := by decide +kernel
theorem dX9_storeRow_28 : decode cX9_storeRow 28 = .ok (.sipush 255, 3) := by decide +kernel
theorem dX9_storeRow_31 : decode cX9_storeRow 31 = .ok (.iand, 1) := by decide +kernel
theorem dX9_storeRow_32 : decode cX9_storeRow 32 = .ok (.invokevirtual 120, 3) := by decide +kernel
theorem dX9_storeRow_35 : decode cX9_storeRow 35 = .ok (.pop, 1) := by decide +kernel
theorem dX9_storeRow_36 : decode cX9_storeRow 36 = .ok (.iinc 4 1, 3) := by decide +kernel
theorem dX9_storeRow_39 : decode cX9_storeRow 39 = .ok (.goto (-36), 3) := by decide +kernel
theorem dX9_storeRow_42 : decode cX9_storeRow 42 = .ok (.return_, 1) := by decide +kernel
theorem dX9_put_0 : decode cX9_put 0 = .ok (.iload_n 1, 1) := by decide +kernel
theorem dX9_put_1 : decode cX9_put 1 = .ok (.invokestatic 149, 3) := by decide +kernel
theorem dX9_put_4 : decode cX9_put 4 = .ok (.ifCond .eq 14, 3) := by decide +kernel
theorem dX9_put_7 : decode cX9_put 7 = .ok (.iload_n 2, 1) := by decide +kernel
theorem dX9_put_8 : decode cX9_put 8 = .ok (.iconst 0, 1) := by decide +kernel
theorem dX9_put_9 : decode cX9_put 9 = .ok (.sipush 255, 3) := by decide +kernel
theorem dX9_put_12 : decode cX9_put 12 = .ok (.invokestatic 63, 3) := by decide +kernel
theorem dX9_put_15 : decode cX9_put 15 = .ok (.ifCond .ne 5, 3) := by decide +kernel
theorem dX9_put_18 : decode cX9_put 18 = .ok (.iconst (-1), 1) := by decide +kernel
theorem dX9_put_19 : decode cX9_put 19 = .ok (.ireturn, 1) := by decide +kernel
theorem dX9_put_20 : decode cX9_put 20 = .ok (.aload_n 0, 1) := by decide +kernel
theorem dX9_put_21 : decode cX9_put 21 = .ok (.getfield 33, 3) := by decide +kernel
theorem dX9_put_24 : decode cX9_put 24 = .ok (.iload_n 1, 1) := by decide +kernel
theorem dX9_put_25 : decode cX9_put 25 = .ok (.iload_n 2, 1) := by decide +kernel
theorem dX9_put_26 : decode cX9_put 26 = .ok (.invokevirtual 120, 3) := by decide +kernel
theorem dX9_put_29 : decode cX9_put 29 = .ok (.ireturn, 1) := by decide +kernel
theorem dX9_find_0 : decode cX9_find 0 = .ok (.iload_n 1, 1) := by decide +kernel
theorem dX9_find_1 : decode cX9_find 1 = .ok (.invokestatic 149, 3) := by decide +kernel
theorem dX9_find_4 : decode cX9_find 4 = .ok (.ifCond .eq 14, 3) := by decide +kernel
theorem dX9_find_7 : decode cX9_find 7 = .ok (.aload_n 0, 1) := by decide +kernel
theorem dX9_find_8 : decode cX9_find 8 = .ok (.getfield 33, 3) := by decide +kernel
theorem dX9_find_11 : decode cX9_find 11 = .ok (.iload_n 1, 1) := by decide +kernel
theorem dX9_find_12 : decode cX9_find 12 = .ok (.invokevirtual 128, 3) := by decide +kernel
theorem dX9_find_15 : decode cX9_find 15 = .ok (.goto 4, 3) := by decide +kernel
theorem dX9_find_18 : decode cX9_find 18 = .ok (.iconst (-1), 1) := by decide +kernel
theorem dX9_find_19 : decode cX9_find 19 = .ok (.ireturn, 1) := by decide +kernel
theorem dX9_drop_0 : decode cX9_drop 0 = .ok (.iload_n 1, 1) := by decide +kernel
theorem dX9_drop_1 : decode cX9_drop 1 = .ok (.invokestatic 149, 3) := by decide +kernel
theorem dX9_drop_4 : decode cX9_drop 4 = .ok (.ifCond .eq 14, 3) := by decide +kernel
theorem dX9_drop_7 : decode cX9_drop 7 = .ok (.aload_n 0, 1) := by decide +kernel
theorem dX9_drop_8 : decode cX9_drop 8 = .ok (.getfield 33, 3) := by decide +kernel
theorem dX9_drop_11 : decode cX9_drop 11 = .ok (.iload_n 1, 1) := by decide +kernel
theorem dX9_drop_12 : decode cX9_drop 12 = .ok (.invokevirtual 124, 3) := by decide +kernel
theorem dX9_drop_15 : decode cX9_drop 15 = .ok (.goto 4, 3) := by decide +kernel
theorem dX9_drop_18 : decode cX9_drop 18 = .ok (.iconst (-1), 1) := by decide +kernel
theorem dX9_drop_19 : decode cX9_drop 19 = .ok (.ireturn, 1) := by decide +kernel
theorem dX9_split_0 : decode cX9_split 0 = .ok (.aload_n 0, 1) := by decide +kernel
theorem dX9_split_1 : decode cX9_split 1 = .ok (.getfield 33, 3) := by decide +kernel
theorem dX9_split_4 : decode cX9_split 4 = .ok (.invokevirtual 131, 3) := by decide +kernel
theorem dX9_split_7 : decode cX9_split 7 = .ok (.ireturn, 1) := by decide +kernel
theorem dX9_join_0 : decode cX9_join 0 = .ok (.aload_n 0, 1) := by decide +kernel
theorem dX9_join_1 : decode cX9_join 1 = .ok (.getfield 33, 3) := by decide +kernel
theorem dX9_join_4 : decode cX9_join 4 = .ok (.invokevirtual 135, 3) := by decide +kernel
theorem dX9_join_7 : decode cX9_join 7 = .ok (.ireturn, 1) := by decide +kernel
theorem dX9_fileIs_0 : decode cX9_fileIs 0 = .ok (.iload_n 1, 1) := by decide +kernel
theorem dX9_fileIs_1 : decode cX9_fileIs 1 = .ok (.tableswitch 248 0 16 #[83, 91, 102, 110, 118, 126, 134, 142, 150, 161, 172, 180, 188, 196, 214, 232, 240], 83) := by decide +kernel
theorem dX9_fileIs_84 : decode cX9_fileIs 84 = .ok (.aload_n 0, 1) := by decide +kernel
theorem dX9_fileIs_85 : decode cX9_fileIs 85 = .ok (.getfield 33, 3) := by decide +kernel
theorem dX9_fileIs_88 : decode cX9_fileIs 88 = .ok (.getfield 153, 3) := by decide +kernel
theorem dX9_fileIs_91 : decode cX9_fileIs 91 = .ok (.ireturn, 1) := by decide +kernel
theorem dX9_fileIs_92 : decode cX9_fileIs 92 = .ok (.aload_n 0, 1) := by decide +kernel
theorem dX9_fileIs_93 : decode cX9_fileIs 93 = .ok (.getfield 33, 3) := by decide +kernel
theorem dX9_fileIs_96 : decode cX9_fileIs 96 = .ok (.getfield 156, 3) := by decide +kernel
theorem dX9_fileIs_99 : decode cX9_fileIs 99 = .ok (.getfield 160, 3) := by decide +kernel
theorem dX9_fileIs_102 : decode cX9_fileIs 102 = .ok (.ireturn, 1) := by decide +kernel
theorem dX9_fileIs_103 : decode cX9_fileIs 103 = .ok (.aload_n 0, 1) := by decide +kernel
theorem dX9_fileIs_104 : decode cX9_fileIs 104 = .ok (.getfield 33, 3) := by decide +kernel
theorem dX9_fileIs_107 : decode cX9_fileIs 107 = .ok (.getfield 165, 3) := by decide +kernel
theorem dX9_fileIs_110 : decode cX9_fileIs 110 = .ok (.ireturn, 1) := by decide +kernel
theorem dX9_fileIs_111 : decode cX9_fileIs 111 = .ok (.aload_n 0, 1) := by decide +kernel
theorem dX9_fileIs_112 : decode cX9_fileIs 112 = .ok (.getfield 33, 3) := by decide +kernel
theorem dX9_fileIs_115 : decode cX9_fileIs 115 = .ok (.getfield 168, 3) := by decide +kernel
theorem dX9_fileIs_118 : decode cX9_fileIs 118 = .ok (.ireturn, 1) := by decide +kernel
theorem dX9_fileIs_119 : decode cX9_fileIs 119 = .ok (.aload_n 0, 1) := by decide +kernel
theorem dX9_fileIs_120 : decode cX9_fileIs 120 = .ok (.getfield 33, 3) := by decide +kernel
theorem dX9_fileIs_123 : decode cX9_fileIs 123 = .ok (.getfield 171, 3) := by decide +kernel
theorem dX9_fileIs_126 : decode cX9_fileIs 126 = .ok (.ireturn, 1) := by decide +kernel
theorem dX9_fileIs_127 : decode cX9_fileIs 127 = .ok (.aload_n 0, 1) := by decide +kernel
theorem dX9_fileIs_128 : decode cX9_fileIs 128 = .ok (.getfield 33, 3) := by decide +kernel
theorem dX9_fileIs_131 : decode cX9_fileIs 131 = .ok (.getfield 174, 3) := by decide +kernel
theorem dX9_fileIs_134 : decode cX9_fileIs 134 = .ok (.ireturn, 1) := by decide +kernel
theorem dX9_fileIs_135 : decode cX9_fileIs 135 = .ok (.aload_n 0, 1) := by decide +kernel
theorem dX9_fileIs_136 : decode cX9_fileIs 136 = .ok (.getfield 33, 3) := by decide +kernel
theorem dX9_fileIs_139 : decode cX9_fileIs 139 = .ok (.getfield 177, 3) := by decide +kernel
theorem dX9_fileIs_142 : decode cX9_fileIs 142 = .ok (.ireturn, 1) := by decide +kernel
theorem dX9_fileIs_143 : decode cX9_fileIs 143 = .ok (.aload_n 0, 1) := by decide +kernel
theorem dX9_fileIs_144 : decode cX9_fileIs 144 = .ok (.getfield 33, 3) := by decide +kernel
theorem dX9_fileIs_147 : decode cX9_fileIs 147 = .ok (.invokevirtual 180, 3) := by decide +kernel
theorem dX9_fileIs_150 : decode cX9_fileIs 150 = .ok (.ireturn, 1) := by decide +kernel
theorem dX9_fileIs_151 : decode cX9_fileIs 151 = .ok (.aload_n 0, 1) := by decide +kernel
theorem dX9_fileIs_152 : decode cX9_fileIs 152 = .ok (.getfield 33, 3) := by decide +kernel
theorem dX9_fileIs_155 : decode cX9_fileIs 155 = .ok (.getfield 77, 3) := by decide +kernel
theorem dX9_fileIs_158 : decode cX9_fileIs 158 = .ok (.getfield 81, 3) := by decide +kernel
theorem dX9_fileIs_161 : decode cX9_fileIs 161 = .ok (.ireturn, 1) := by decide +kernel
theorem dX9_fileIs_162 : decode cX9_fileIs 162 = .ok (.aload_n 0, 1) := by decide +kernel
theorem dX9_fileIs_163 : decode cX9_fileIs 163 = .ok (.getfield 33, 3) := by decide +kernel
theorem dX9_fileIs_166 : decode cX9_fileIs 166 = .ok (.getfield 156, 3) := by decide +kernel
theorem dX9_fileIs_169 : decode cX9_fileIs 169 = .ok (.invokevirtual 183, 3) := by decide +kernel
theorem dX9_fileIs_172 : decode cX9_fileIs 172 = .ok (.ireturn, 1) := by decide +kernel
theorem dX9_fileIs_173 : decode cX9_fileIs 173 = .ok (.aload_n 0, 1) := by decide +kernel
theorem dX9_fileIs_174 : decode cX9_fileIs 174 = .ok (.getfield 33, 3) := by decide +kernel
theorem dX9_fileIs_177 : decode cX9_fileIs 177 = .ok (.invokevirtual 186, 3) := by decide +kernel
theorem dX9_fileIs_180 : decode cX9_fileIs 180 = .ok (.ireturn, 1) := by decide +kernel
theorem dX9_fileIs_181 : decode cX9_fileIs 181 = .ok (.aload_n 0, 1) := by decide +kernel
theorem dX9_fileIs_182 : decode cX9_fileIs 182 = .ok (.getfield 33, 3) := by decide +kernel
theorem dX9_fileIs_185 : decode cX9_fileIs 185 = .ok (.getfield 189, 3) := by decide +kernel
theorem dX9_fileIs_188 : decode cX9_fileIs 188 = .ok (.ireturn, 1) := by decide +kernel
theorem dX9_fileIs_189 : decode cX9_fileIs 189 = .ok (.aload_n 0, 1) := by decide +kernel
theorem dX9_fileIs_190 : decode cX9_fileIs 190 = .ok (.getfield 33, 3) := by decide +kernel
theorem dX9_fileIs_193 : decode cX9_fileIs 193 = .ok (.getfield 192, 3) := by decide +kernel
theorem dX9_fileIs_196 : decode cX9_fileIs 196 = .ok (.ireturn, 1) := by decide +kernel
theorem dX9_fileIs_197 : decode cX9_fileIs 197 = .ok (.aload_n 0, 1) := by decide +kernel
theorem dX9_fileIs_198 : decode cX9_fileIs 198 = .ok (.getfield 33, 3) := by decide +kernel
theorem dX9_fileIs_201 : decode cX9_fileIs 201 = .ok (.getfield 156, 3) := by decide +kernel
theorem dX9_fileIs_204 : decode cX9_fileIs 204 = .ok (.aload_n 0, 1) := by decide +kernel
theorem dX9_fileIs_205 : decode cX9_fileIs 205 = .ok (.getfield 33, 3) := by decide +kernel
theorem dX9_fileIs_208 : decode cX9_fileIs 208 = .ok (.invokevirtual 180, 3) := by decide +kernel
theorem dX9_fileIs_211 : decode cX9_fileIs 211 = .ok (.invokevirtual 195, 3) := by decide +kernel
theorem dX9_fileIs_214 : decode cX9_fileIs 214 = .ok (.ireturn, 1) := by decide +kernel
theorem dX9_fileIs_215 : decode cX9_fileIs 215 = .ok (.aload_n 0, 1) := by decide +kernel
theorem dX9_fileIs_216 : decode cX9_fileIs 216 = .ok (.getfield 33, 3) := by decide +kernel
theorem dX9_fileIs_219 : decode cX9_fileIs 219 = .ok (.getfield 156, 3) := by decide +kernel
theorem dX9_fileIs_222 : decode cX9_fileIs 222 = .ok (.aload_n 0, 1) := by decide +kernel
theorem dX9_fileIs_223 : decode cX9_fileIs 223 = .ok (.getfield 33, 3) := by decide +kernel
theorem dX9_fileIs_226 : decode cX9_fileIs 226 = .ok (.invokevirtual 180, 3) := by decide +kernel
theorem dX9_fileIs_229 : decode cX9_fileIs 229 = .ok (.invokevirtual 198, 3) := by decide +kernel
theorem dX9_fileIs_232 : decode cX9_fileIs 232 = .ok (.ireturn, 1) := by decide +kernel
theorem dX9_fileIs_233 : decode cX9_fileIs 233 = .ok (.aload_n 0, 1) := by decide +kernel
theorem dX9_fileIs_234 : decode cX9_fileIs 234 = .ok (.getfield 33, 3) := by decide +kernel
theorem dX9_fileIs_237 : decode cX9_fileIs 237 = .ok (.getfield 201, 3) := by decide +kernel
theorem dX9_fileIs_240 : decode cX9_fileIs 240 = .ok (.ireturn, 1) := by decide +kernel
theorem dX9_fileIs_241 : decode cX9_fileIs 241 = .ok (.aload_n 0, 1) := by decide +kernel
theorem dX9_fileIs_242 : decode cX9_fileIs 242 = .ok (.getfield 33, 3) := by decide +kernel
theorem dX9_fileIs_245 : decode cX9_fileIs 245 = .ok (.getfield 204, 3) := by decide +kernel
theorem dX9_fileIs_248 : decode cX9_fileIs 248 = .ok (.ireturn, 1) := by decide +kernel
theorem dX9_fileIs_249 : decode cX9_fileIs 249 = .ok (.iconst (-1), 1) := by decide +kernel
theorem dX9_fileIs_250 : decode cX9_fileIs 250 = .ok (.ireturn, 1) := by decide +kernel
theorem dX9_keyIs_0 : decode cX9_keyIs 0 = .ok (.iload_n 1, 1) := by decide +kernel
theorem dX9_keyIs_1 : decode cX9_keyIs 1 = .ok (.invokestatic 149, 3) := by decide +kernel
theorem dX9_keyIs_4 : decode cX9_keyIs 4 = .ok (.ifCond .ne 5, 3) := by decide +kernel
theorem dX9_keyIs_7 : decode cX9_keyIs 7 = .ok (.iconst (-1), 1) := by decide +kernel
theorem dX9_keyIs_8 : decode cX9_keyIs 8 = .ok (.ireturn, 1) := by decide +kernel
theorem dX9_keyIs_9 : decode cX9_keyIs 9 = .ok (.aload_n 0, 1) := by decide +kernel
theorem dX9_keyIs_10 : decode cX9_keyIs 10 = .ok (.getfield 33, 3) := by decide +kernel
theorem dX9_keyIs_13 : decode cX9_keyIs 13 = .ok (.getfield 88, 3) := by decide +kernel
theorem dX9_keyIs_16 : decode cX9_keyIs 16 = .ok (.iload_n 1, 1) := by decide +kernel
theorem dX9_keyIs_17 : decode cX9_keyIs 17 = .ok (.invokevirtual 207, 3) := by decide +kernel
theorem dX9_keyIs_20 : decode cX9_keyIs 20 = .ok (.istore_n 3, 1) := by decide +kernel
theorem dX9_keyIs_21 : decode cX9_keyIs 21 = .ok (.iload_n 2, 1) := by decide +kernel
theorem dX9_keyIs_22 : decode cX9_keyIs 22 = .ok (.tableswitch 101 0 4 #[34, 36, 45, 51, 68], 34) := by decide +kernel
theorem dX9_keyIs_56 : decode cX9_keyIs 56 = .ok (.iload_n 3, 1) := by decide +kernel
theorem dX9_keyIs_57 : decode cX9_keyIs 57 = .ok (.ireturn, 1) := by decide +kernel
theorem dX9_keyIs_58 : decode cX9_keyIs 58 = .ok (.aload_n 0, 1) := by decide +kernel
theorem dX9_keyIs_59 : decode cX9_keyIs 59 = .ok (.getfield 33, 3) := by decide +kernel
theorem dX9_keyIs_62 : decode cX9_keyIs 62 = .ok (.iload_n 3, 1) := by decide +kernel
theorem dX9_keyIs_63 : decode cX9_keyIs 63 = .ok (.invokevirtual 210, 3) := by decide +kernel
theorem dX9_keyIs_66 : decode cX9_keyIs 66 = .ok (.ireturn, 1) := by decide +kernel
theorem dX9_keyIs_67 : decode cX9_keyIs 67 = .ok (.aload_n 0, 1) := by decide +kernel
theorem dX9_keyIs_68 : decode cX9_keyIs 68 = .ok (.iload_n 3, 1) := by decide +kernel
theorem dX9_keyIs_69 : decode cX9_keyIs 69 = .ok (.invokevirtual 213, 3) := by decide +kernel
theorem dX9_keyIs_72 : decode cX9_keyIs 72 = .ok (.ireturn, 1) := by decide +kernel
theorem dX9_keyIs_73 : decode cX9_keyIs 73 = .ok (.aload_n 0, 1) := by decide +kernel
theorem dX9_keyIs_74 : decode cX9_keyIs 74 = .ok (.getfield 33, 3) := by decide +kernel
theorem dX9_keyIs_77 : decode cX9_keyIs 77 = .ok (.iload_n 1, 1) := by decide +kernel
theorem dX9_keyIs_78 : decode cX9_keyIs 78 = .ok (.aload_n 0, 1) := by decide +kernel
theorem dX9_keyIs_79 : decode cX9_keyIs 79 = .ok (.getfield 33, 3) := by decide +kernel
theorem dX9_keyIs_82 : decode cX9_keyIs 82 = .ok (.iload_n 3, 1) := by decide +kernel
theorem dX9_keyIs_83 : decode cX9_keyIs 83 = .ok (.invokevirtual 210, 3) := by decide +kernel
theorem dX9_keyIs_86 : decode cX9_keyIs 86 = .ok (.invokevirtual 216, 3) := by decide +kernel
theorem dX9_keyIs_89 : decode cX9_keyIs 89 = .ok (.ireturn, 1) := by decide +kernel
theorem dX9_keyIs_90 : decode cX9_keyIs 90 = .ok (.aload_n 0, 1) := by decide +kernel
theorem dX9_keyIs_91 : decode cX9_keyIs 91 = .ok (.getfield 33, 3) := by decide +kernel
theorem dX9_keyIs_94 : decode cX9_keyIs 94 = .ok (.invokevirtual 219, 3) := by decide +kernel
theorem dX9_keyIs_97 : decode cX9_keyIs 97 = .ok (.ifCond .eq 8, 3) := by decide +kernel
theorem dX9_keyIs_100 : decode cX9_keyIs 100 = .ok (.bipush (-3), 2) := by decide +kernel
theorem dX9_keyIs_102 : decode cX9_keyIs 102 = .ok (.goto 20, 3) := by decide +kernel
theorem dX9_keyIs_105 : decode cX9_keyIs 105 = .ok (.aload_n 0, 1) := by decide +kernel
theorem dX9_keyIs_106 : decode cX9_keyIs 106 = .ok (.getfield 33, 3) := by decide +kernel
theorem dX9_keyIs_109 : decode cX9_keyIs 109 = .ok (.iload_n 3, 1) := by decide +kernel
theorem dX9_keyIs_110 : decode cX9_keyIs 110 = .ok (.aload_n 0, 1) := by decide +kernel
theorem dX9_keyIs_111 : decode cX9_keyIs 111 = .ok (.getfield 33, 3) := by decide +kernel
theorem dX9_keyIs_114 : decode cX9_keyIs 114 = .ok (.invokevirtual 180, 3) := by decide +kernel
theorem dX9_keyIs_117 : decode cX9_keyIs 117 = .ok (.iconst 1, 1) := by decide +kernel
theorem dX9_keyIs_118 : decode cX9_keyIs 118 = .ok (.iadd, 1) := by decide +kernel
theorem dX9_keyIs_119 : decode cX9_keyIs 119 = .ok (.invokevirtual 222, 3) := by decide +kernel
theorem dX9_keyIs_122 : decode cX9_keyIs 122 = .ok (.ireturn, 1) := by decide +kernel
theorem dX9_keyIs_123 : decode cX9_keyIs 123 = .ok (.iconst (-1), 1) := by decide +kernel
theorem dX9_keyIs_124 : decode cX9_keyIs 124 = .ok (.ireturn, 1) := by decide +kernel
theorem dX9_movesOf_0 : decode cX9_movesOf 0 = .ok (.iconst 0, 1) := by decide +kernel
theorem dX9_movesOf_1 : decode cX9_movesOf 1 = .ok (.istore_n 2, 1) := by decide +kernel
theorem dX9_movesOf_2 : decode cX9_movesOf 2 = .ok (.aload_n 0, 1) := by decide +kernel
theorem dX9_movesOf_3 : decode cX9_movesOf 3 = .ok (.getfield 33, 3) := by decide +kernel
theorem dX9_movesOf_6 : decode cX9_movesOf 6 = .ok (.iload_n 1, 1) := by decide +kernel
theorem dX9_movesOf_7 : decode cX9_movesOf 7 = .ok (.aload_n 0, 1) := by decide +kernel
theorem dX9_movesOf_8 : decode cX9_movesOf 8 = .ok (.getfield 33, 3) := by decide +kernel
theorem dX9_movesOf_11 : decode cX9_movesOf 11 = .ok (.getfield 153, 3) := by decide +kernel
theorem dX9_movesOf_14 : decode cX9_movesOf 14 = .ok (.invokevirtual 222, 3) := by decide +kernel
theorem dX9_movesOf_17 : decode cX9_movesOf 17 = .ok (.istore_n 3, 1) := by decide +kernel
theorem dX9_movesOf_18 : decode cX9_movesOf 18 = .ok (.aload_n 0, 1) := by decide +kernel
theorem dX9_movesOf_19 : decode cX9_movesOf 19 = .ok (.getfield 33, 3) := by decide +kernel
theorem dX9_movesOf_22 : decode cX9_movesOf 22 = .ok (.getfield 153, 3) := by decide +kernel
theorem dX9_movesOf_25 : decode cX9_movesOf 25 = .ok (.iconst 1, 1) := by decide +kernel
theorem dX9_movesOf_26 : decode cX9_movesOf 26 = .ok (.iadd, 1) := by decide +kernel
theorem dX9_movesOf_27 : decode cX9_movesOf 27 = .ok (.istore 4, 2) := by decide +kernel
theorem dX9_movesOf_29 : decode cX9_movesOf 29 = .ok (.iload 4, 2) := by decide +kernel
theorem dX9_movesOf_31 : decode cX9_movesOf 31 = .ok (.bipush 64, 2) := by decide +kernel
theorem dX9_movesOf_33 : decode cX9_movesOf 33 = .ok (.if_icmp .gt 33, 3) := by decide +kernel
theorem dX9_movesOf_36 : decode cX9_movesOf 36 = .ok (.aload_n 0, 1) := by decide +kernel
theorem dX9_movesOf_37 : decode cX9_movesOf 37 = .ok (.getfield 33, 3) := by decide +kernel
theorem dX9_movesOf_40 : decode cX9_movesOf 40 = .ok (.iload_n 1, 1) := by decide +kernel
theorem dX9_movesOf_41 : decode cX9_movesOf 41 = .ok (.iload 4, 2) := by decide +kernel
theorem dX9_movesOf_43 : decode cX9_movesOf 43 = .ok (.invokevirtual 222, 3) := by decide +kernel
theorem dX9_movesOf_46 : decode cX9_movesOf 46 = .ok (.istore 5, 2) := by decide +kernel
theorem dX9_movesOf_48 : decode cX9_movesOf 48 = .ok (.iload 5, 2) := by decide +kernel
theorem dX9_movesOf_50 : decode cX9_movesOf 50 = .ok (.iload_n 3, 1) := by decide +kernel
theorem dX9_movesOf_51 : decode cX9_movesOf 51 = .ok (.if_icmp .eq 6, 3) := by decide +kernel
theorem dX9_movesOf_54 : decode cX9_movesOf 54 = .ok (.iinc 2 1, 3) := by decide +kernel
theorem dX9_movesOf_57 : decode cX9_movesOf 57 = .ok (.iload 5, 2) := by decide +kernel
theorem dX9_movesOf_59 : decode cX9_movesOf 59 = .ok (.istore_n 3, 1) := by decide +kernel
theorem dX9_movesOf_60 : decode cX9_movesOf 60 = .ok (.iinc 4 1, 3) := by decide +kernel
theorem dX9_movesOf_63 : decode cX9_movesOf 63 = .ok (.goto (-34), 3) := by decide +kernel
theorem dX9_movesOf_66 : decode cX9_movesOf 66 = .ok (.iload_n 2, 1) := by decide +kernel
theorem dX9_movesOf_67 : decode cX9_movesOf 67 = .ok (.ireturn, 1) := by decide +kernel
theorem dX9_where_0 : decode cX9_where 0 = .ok (.iload_n 1, 1) := by decide +kernel
theorem dX9_where_1 : decode cX9_where 1 = .ok (.invokestatic 149, 3) := by decide +kernel
theorem dX9_where_4 : decode cX9_where 4 = .ok (.ifCond .eq 11, 3) := by decide +kernel
theorem dX9_where_7 : decode cX9_where 7 = .ok (.aload_n 0, 1) := by decide +kernel
theorem dX9_where_8 : decode cX9_where 8 = .ok (.iload_n 2, 1) := by decide +kernel
theorem dX9_where_9 : decode cX9_where 9 = .ok (.invokevirtual 225, 3) := by decide +kernel
theorem dX9_where_12 : decode cX9_where 12 = .ok (.ifCond .ne 5, 3) := by decide +kernel
theorem dX9_where_15 : decode cX9_where 15 = .ok (.iconst (-1), 1) := by decide +kernel
theorem dX9_where_16 : decode cX9_where 16 = .ok (.ireturn, 1) := by decide +kernel
theorem dX9_where_17 : decode cX9_where 17 = .ok (.aload_n 0, 1) := by decide +kernel
theorem dX9_where_18 : decode cX9_where 18 = .ok (.getfield 33, 3) := by decide +kernel
theorem dX9_where_21 : decode cX9_where 21 = .ok (.aload_n 0, 1) := by decide +kernel
theorem dX9_where_22 : decode cX9_where 22 = .ok (.getfield 33, 3) := by decide +kernel
theorem dX9_where_25 : decode cX9_where 25 = .ok (.getfield 88, 3) := by decide +kernel
theorem dX9_where_28 : decode cX9_where 28 = .ok (.iload_n 1, 1) := by decide +kernel
theorem dX9_where_29 : decode cX9_where 29 = .ok (.invokevirtual 207, 3) := by decide +kernel
theorem dX9_where_32 : decode cX9_where 32 = .ok (.iload_n 2, 1) := by decide +kernel
theorem dX9_where_33 : decode cX9_where 33 = .ok (.invokevirtual 222, 3) := by decide +kernel
theorem dX9_where_36 : decode cX9_where 36 = .ok (.ireturn, 1) := by decide +kernel
theorem dX9_bucket_0 : decode cX9_bucket 0 = .ok (.aload_n 0, 1) := by decide +kernel
theorem dX9_bucket_1 : decode cX9_bucket 1 = .ok (.iload_n 1, 1) := by decide +kernel
theorem dX9_bucket_2 : decode cX9_bucket 2 = .ok (.invokevirtual 228, 3) := by decide +kernel
theorem dX9_bucket_5 : decode cX9_bucket 5 = .ok (.ifCond .eq 7, 3) := by decide +kernel
theorem dX9_bucket_8 : decode cX9_bucket 8 = .ok (.iload_n 2, 1) := by decide +kernel
theorem dX9_bucket_9 : decode cX9_bucket 9 = .ok (.ifCond .ge 5, 3) := by decide +kernel
theorem dX9_bucket_12 : decode cX9_bucket 12 = .ok (.iconst (-1), 1) := by decide +kernel
theorem dX9_bucket_13 : decode cX9_bucket 13 = .ok (.ireturn, 1) := by decide +kernel
theorem dX9_bucket_14 : decode cX9_bucket 14 = .ok (.aload_n 0, 1) := by decide +kernel
theorem dX9_bucket_15 : decode cX9_bucket 15 = .ok (.getfield 33, 3) := by decide +kernel
theorem dX9_bucket_18 : decode cX9_bucket 18 = .ok (.getfield 156, 3) := by decide +kernel
theorem dX9_bucket_21 : decode cX9_bucket 21 = .ok (.astore_n 3, 1) := by decide +kernel
theorem dX9_bucket_22 : decode cX9_bucket 22 = .ok (.iload_n 2, 1) := by decide +kernel
theorem dX9_bucket_23 : decode cX9_bucket 23 = .ok (.sipush 1000, 3) := by decide +kernel
theorem dX9_bucket_26 : decode cX9_bucket 26 = .ok (.if_icmp .lt 14, 3) := by decide +kernel
theorem dX9_bucket_29 : decode cX9_bucket 29 = .ok (.aload_n 3, 1) := by decide +kernel
theorem dX9_bucket_30 : decode cX9_bucket 30 = .ok (.iload_n 1, 1) := by decide +kernel
theorem dX9_bucket_31 : decode cX9_bucket 31 = .ok (.iload_n 2, 1) := by decide +kernel
theorem dX9_bucket_32 : decode cX9_bucket 32 = .ok (.sipush 1000, 3) := by decide +kernel
theorem dX9_bucket_35 : decode cX9_bucket 35 = .ok (.isub, 1) := by decide +kernel
theorem dX9_bucket_36 : decode cX9_bucket 36 = .ok (.invokevirtual 231, 3) := by decide +kernel
theorem dX9_bucket_39 : decode cX9_bucket 39 = .ok (.ireturn, 1) := by decide +kernel
theorem dX9_bucket_40 : decode cX9_bucket 40 = .ok (.iload_n 2, 1) := by decide +kernel
theorem dX9_bucket_41 : decode cX9_bucket 41 = .ok (.bipush 100, 2) := by decide +kernel
theorem dX9_bucket_43 : decode cX9_bucket 43 = .ok (.if_icmp .lt 28, 3) := by decide +kernel
theorem dX9_bucket_46 : decode cX9_bucket 46 = .ok (.aload_n 3, 1) := by decide +kernel
theorem dX9_bucket_47 : decode cX9_bucket 47 = .ok (.iload_n 1, 1) := by decide +kernel
theorem dX9_bucket_48 : decode cX9_bucket 48 = .ok (.iload_n 2, 1) := by decide +kernel
theorem dX9_bucket_49 : decode cX9_bucket 49 = .ok (.bipush 100, 2) := by decide +kernel
theorem dX9_bucket_51 : decode cX9_bucket 51 = .ok (.isub, 1) := by decide +kernel
theorem dX9_bucket_52 : decode cX9_bucket 52 = .ok (.invokevirtual 234, 3) := by decide +kernel
theorem dX9_bucket_55 : decode cX9_bucket 55 = .ok (.istore 4, 2) := by decide +kernel
theorem dX9_bucket_57 : decode cX9_bucket 57 = .ok (.iload 4, 2) := by decide +kernel
theorem dX9_bucket_59 : decode cX9_bucket 59 = .ok (.iconst (-1), 1) := by decide +kernel
theorem dX9_bucket_60 : decode cX9_bucket 60 = .ok (.if_icmp .ne 8, 3) := by decide +kernel
theorem dX9_bucket_63 : decode cX9_bucket 63 = .ok (.bipush (-4), 2) := by decide +kernel
theorem dX9_bucket_65 : decode cX9_bucket 65 = .ok (.goto 5, 3) := by decide +kernel
theorem dX9_bucket_68 : decode cX9_bucket 68 = .ok (.iload 4, 2) := by decide +kernel
theorem dX9_bucket_70 : decode cX9_bucket 70 = .ok (.ireturn, 1) := by decide +kernel
theorem dX9_bucket_71 : decode cX9_bucket 71 = .ok (.iload_n 2, 1) := by decide +kernel
theorem dX9_bucket_72 : decode cX9_bucket 72 = .ok (.ifCond .ne 10, 3) := by decide +kernel
theorem dX9_bucket_75 : decode cX9_bucket 75 = .ok (.aload_n 3, 1) := by decide +kernel
theorem dX9_bucket_76 : decode cX9_bucket 76 = .ok (.getfield 237, 3) := by decide +kernel
theorem dX9_bucket_79 : decode cX9_bucket 79 = .ok (.iload_n 1, 1) := by decide +kernel
theorem dX9_bucket_80 : decode cX9_bucket 80 = .ok (.iaload, 1) := by decide +kernel
theorem dX9_bucket_81 : decode cX9_bucket 81 = .ok (.ireturn, 1) := by decide +kernel
theorem dX9_bucket_82 : decode cX9_bucket 82 = .ok (.iload_n 2, 1) := by decide +kernel
theorem dX9_bucket_83 : decode cX9_bucket 83 = .ok (.iconst 1, 1) := by decide +kernel
theorem dX9_bucket_84 : decode cX9_bucket 84 = .ok (.if_icmp .ne 12, 3) := by decide +kernel
theorem dX9_bucket_87 : decode cX9_bucket 87 = .ok (.aload_n 3, 1) := by decide +kernel
theorem dX9_bucket_88 : decode cX9_bucket 88 = .ok (.getfield 240, 3) := by decide +kernel
theorem dX9_bucket_91 : decode cX9_bucket 91 = .ok (.iload_n 1, 1) := by decide +kernel
theorem dX9_bucket_92 : decode cX9_bucket 92 = .ok (.iaload, 1) := by decide +kernel
theorem dX9_bucket_93 : decode cX9_bucket 93 = .ok (.goto 4, 3) := by decide +kernel
theorem dX9_bucket_96 : decode cX9_bucket 96 = .ok (.iconst (-1), 1) := by decide +kernel
theorem dX9_bucket_97 : decode cX9_bucket 97 = .ok (.ireturn, 1) := by decide +kernel
theorem dX9_page_0 : decode cX9_page 0 = .ok (.iload_n 2, 1) := by decide +kernel
theorem dX9_page_1 : decode cX9_page 1 = .ok (.bipush 10, 2) := by decide +kernel
theorem dX9_page_3 : decode cX9_page 3 = .ok (.bipush 15, 2) := by decide +kernel
theorem dX9_page_5 : decode cX9_page 5 = .ok (.invokestatic 63, 3) := by decide +kernel
theorem dX9_page_8 : decode cX9_page 8 = .ok (.istore_n 3, 1) := by decide +kernel
theorem dX9_page_9 : decode cX9_page 9 = .ok (.iload_n 1, 1) := by decide +kernel
theorem dX9_page_10 : decode cX9_page 10 = .ok (.iconst 0, 1) := by decide +kernel
theorem dX9_page_11 : decode cX9_page 11 = .ok (.sipush 255, 3) := by decide +kernel
theorem dX9_page_14 : decode cX9_page 14 = .ok (.invokestatic 63, 3) := by decide +kernel
theorem dX9_page_17 : decode cX9_page 17 = .ok (.ifCond .eq 16, 3) := by decide +kernel
theorem dX9_page_20 : decode cX9_page 20 = .ok (.iload_n 2, 1) := by decide +kernel
theorem dX9_page_21 : decode cX9_page 21 = .ok (.iconst 0, 1) := by decide +kernel
theorem dX9_page_22 : decode cX9_page 22 = .ok (.iconst 2, 1) := by decide +kernel
theorem dX9_page_23 : decode cX9_page 23 = .ok (.invokestatic 63, 3) := by decide +kernel
theorem dX9_page_26 : decode cX9_page 26 = .ok (.ifCond .ne 9, 3) := by decide +kernel
theorem dX9_page_29 : decode cX9_page 29 = .ok (.iload_n 3, 1) := by decide +kernel
theorem dX9_page_30 : decode cX9_page 30 = .ok (.ifCond .ne 5, 3) := by decide +kernel
theorem dX9_page_33 : decode cX9_page 33 = .ok (.iconst (-1), 1) := by decide +kernel
theorem dX9_page_34 : decode cX9_page 34 = .ok (.ireturn, 1) := by decide +kernel
theorem dX9_page_35 : decode cX9_page 35 = .ok (.aload_n 0, 1) := by decide +kernel
theorem dX9_page_36 : decode cX9_page 36 = .ok (.getfield 33, 3) := by decide +kernel
theorem dX9_page_39 : decode cX9_page 39 = .ok (.getfield 156, 3) := by decide +kernel
theorem dX9_page_42 : decode cX9_page 42 = .ok (.astore 4, 2) := by decide +kernel
theorem dX9_page_44 : decode cX9_page 44 = .ok (.aload 4, 2) := by decide +kernel
theorem dX9_page_46 : decode cX9_page 46 = .ok (.getfield 243, 3) := by decide +kernel
theorem dX9_page_49 : decode cX9_page 49 = .ok (.iload_n 1, 1) := by decide +kernel
theorem dX9_page_50 : decode cX9_page 50 = .ok (.iaload, 1) := by decide +kernel
theorem dX9_page_51 : decode cX9_page 51 = .ok (.iconst (-1), 1) := by decide +kernel
theorem dX9_page_52 : decode cX9_page 52 = .ok (.if_icmp .ne 6, 3) := by decide +kernel
theorem dX9_page_55 : decode cX9_page 55 = .ok (.bipush (-2), 2) := by decide +kernel
theorem dX9_page_57 : decode cX9_page 57 = .ok (.ireturn, 1) := by decide +kernel
theorem dX9_page_58 : decode cX9_page 58 = .ok (.iload_n 3, 1) := by decide +kernel
theorem dX9_page_59 : decode cX9_page 59 = .ok (.ifCond .eq 43, 3) := by decide +kernel
theorem dX9_page_62 : decode cX9_page 62 = .ok (.iload_n 2, 1) := by decide +kernel
theorem dX9_page_63 : decode cX9_page 63 = .ok (.bipush 10, 2) := by decide +kernel
theorem dX9_page_65 : decode cX9_page 65 = .ok (.isub, 1) := by decide +kernel
theorem dX9_page_66 : decode cX9_page 66 = .ok (.istore 5, 2) := by decide +kernel
theorem dX9_page_68 : decode cX9_page 68 = .ok (.iload 5, 2) := by decide +kernel
theorem dX9_page_70 : decode cX9_page 70 = .ok (.aload 4, 2) := by decide +kernel
theorem dX9_page_72 : decode cX9_page 72 = .ok (.getfield 246, 3) := by decide +kernel
theorem dX9_page_75 : decode cX9_page 75 = .ok (.iload_n 1, 1) := by decide +kernel
theorem dX9_page_76 : decode cX9_page 76 = .ok (.iaload, 1) := by decide +kernel
theorem dX9_page_77 : decode cX9_page 77 = .ok (.if_icmp .ge 22, 3) := by decide +kernel
theorem dX9_page_80 : decode cX9_page 80 = .ok (.aload 4, 2) := by decide +kernel
theorem dX9_page_82 : decode cX9_page 82 = .ok (.getfield 249, 3) := by decide +kernel
theorem dX9_page_85 : decode cX9_page 85 = .ok (.iload_n 1, 1) := by decide +kernel
theorem dX9_page_86 : decode cX9_page 86 = .ok (.bipush 6, 2) := by decide +kernel
theorem dX9_page_88 : decode cX9_page 88 = .ok (.imul, 1) := by decide +kernel
theorem dX9_page_89 : decode cX9_page 89 = .ok (.iload 5, 2) := by decide +kernel
theorem dX9_page_91 : decode cX9_page 91 = .ok (.iadd, 1) := by decide +kernel
theorem dX9_page_92 : decode cX9_page 92 = .ok (.laload, 1) := by decide +kernel
theorem dX9_page_93 : decode cX9_page 93 = .ok (.invokestatic 253, 3) := by decide +kernel
theorem dX9_page_96 : decode cX9_page 96 = .ok (.goto 5, 3) := by decide +kernel
theorem dX9_page_99 : decode cX9_page 99 = .ok (.bipush (-4), 2) := by decide +kernel
theorem dX9_page_101 : decode cX9_page 101 = .ok (.ireturn, 1) := by decide +kernel
theorem dX9_page_102 : decode cX9_page 102 = .ok (.iload_n 2, 1) := by decide +kernel
theorem dX9_page_103 : decode cX9_page 103 = .ok (.ifCond .ne 11, 3) := by decide +kernel
theorem dX9_page_106 : decode cX9_page 106 = .ok (.aload 4, 2) := by decide +kernel
theorem dX9_page_108 : decode cX9_page 108 = .ok (.getfield 243, 3) := by decide +kernel
theorem dX9_page_111 : decode cX9_page 111 = .ok (.iload_n 1, 1) := by decide +kernel
theorem dX9_page_112 : decode cX9_page 112 = .ok (.iaload, 1) := by decide +kernel
theorem dX9_page_113 : decode cX9_page 113 = .ok (.ireturn, 1) := by decide +kernel
theorem dX9_page_114 : decode cX9_page 114 = .ok (.iload_n 2, 1) := by decide +kernel
theorem dX9_page_115 : decode cX9_page 115 = .ok (.iconst 1, 1) := by decide +kernel
theorem dX9_page_116 : decode cX9_page 116 = .ok (.if_icmp .ne 13, 3) := by decide +kernel
theorem dX9_page_119 : decode cX9_page 119 = .ok (.aload 4, 2) := by decide +kernel
theorem dX9_page_121 : decode cX9_page 121 = .ok (.getfield 259, 3) := by decide +kernel
theorem dX9_page_124 : decode cX9_page 124 = .ok (.iload_n 1, 1) := by decide +kernel
theorem dX9_page_125 : decode cX9_page 125 = .ok (.iaload, 1) := by decide +kernel
theorem dX9_page_126 : decode cX9_page 126 = .ok (.goto 10, 3) := by decide +kernel
theorem dX9_page_129 : decode cX9_page 129 = .ok (.aload 4, 2) := by decide +kernel
theorem dX9_page_131 : decode cX9_page 131 = .ok (.getfield 246, 3) := by decide +kernel
theorem dX9_page_134 : decode cX9_page 134 = .ok (.iload_n 1, 1) := by decide +kernel
theorem dX9_page_135 : decode cX9_page 135 = .ok (.iaload, 1) := by decide +kernel
theorem dX9_page_136 : decode cX9_page 136 = .ok (.ireturn, 1) := by decide +kernel
theorem dX9_chains_0 : decode cX9_chains 0 = .ok (.iload_n 1, 1) := by decide +kernel
theorem dX9_chains_1 : decode cX9_chains 1 = .ok (.iconst 1, 1) := by decide +kernel
theorem dX9_chains_2 : decode cX9_chains 2 = .ok (.sipush 150, 3) := by decide +kernel
theorem dX9_chains_5 : decode cX9_chains 5 = .ok (.invokestatic 63, 3) := by decide +kernel
theorem dX9_chains_8 : decode cX9_chains 8 = .ok (.ifCond .ne 5, 3) := by decide +kernel
theorem dX9_chains_11 : decode cX9_chains 11 = .ok (.iconst (-1), 1) := by decide +kernel
theorem dX9_chains_12 : decode cX9_chains 12 = .ok (.ireturn, 1) := by decide +kernel
theorem dX9_chains_13 : decode cX9_chains 13 = .ok (.iconst 0, 1) := by decide +kernel
theorem dX9_chains_14 : decode cX9_chains 14 = .ok (.istore_n 2, 1) := by decide +kernel
theorem dX9_chains_15 : decode cX9_chains 15 = .ok (.aload_n 0, 1) := by decide +kernel
theorem dX9_chains_16 : decode cX9_chains 16 = .ok (.getfield 33, 3) := by decide +kernel
theorem dX9_chains_19 : decode cX9_chains 19 = .ok (.invokevirtual 180, 3) := by decide +kernel
theorem dX9_chains_22 : decode cX9_chains 22 = .ok (.istore_n 3, 1) := by decide +kernel
theorem dX9_chains_23 : decode cX9_chains 23 = .ok (.iconst 0, 1) := by decide +kernel
theorem dX9_chains_24 : decode cX9_chains 24 = .ok (.istore 4, 2) := by decide +kernel
theorem dX9_chains_26 : decode cX9_chains 26 = .ok (.iload 4, 2) := by decide +kernel
theorem dX9_chains_28 : decode cX9_chains 28 = .ok (.iload_n 3, 1) := by decide +kernel
theorem dX9_chains_29 : decode cX9_chains 29 = .ok (.if_icmp .ge 29, 3) := by decide +kernel
theorem dX9_chains_32 : decode cX9_chains 32 = .ok (.aload_n 0, 1) := by decide +kernel
theorem dX9_chains_33 : decode cX9_chains 33 = .ok (.getfield 33, 3) := by decide +kernel
theorem dX9_chains_36 : decode cX9_chains 36 = .ok (.getfield 156, 3) := by decide +kernel
theorem dX9_chains_39 : decode cX9_chains 39 = .ok (.getfield 240, 3) := by decide +kernel
theorem dX9_chains_42 : decode cX9_chains 42 = .ok (.iload 4, 2) := by decide +kernel
theorem dX9_chains_44 : decode cX9_chains 44 = .ok (.iaload, 1) := by decide +kernel
theorem dX9_chains_45 : decode cX9_chains 45 = .ok (.iload_n 1, 1) := by decide +kernel
theorem dX9_chains_46 : decode cX9_chains 46 = .ok (.if_icmp .ne 6, 3) := by decide +kernel
theorem dX9_chains_49 : decode cX9_chains 49 = .ok (.iinc 2 1, 3) := by decide +kernel
theorem dX9_chains_52 : decode cX9_chains 52 = .ok (.iinc 4 1, 3) := by decide +kernel
theorem dX9_chains_55 : decode cX9_chains 55 = .ok (.goto (-29), 3) := by decide +kernel
theorem dX9_chains_58 : decode cX9_chains 58 = .ok (.iload_n 2, 1) := by decide +kernel
theorem dX9_chains_59 : decode cX9_chains 59 = .ok (.ireturn, 1) := by decide +kernel
theorem dX9_finds_0 : decode cX9_finds 0 = .ok (.iload_n 1, 1) := by decide +kernel
theorem dX9_finds_1 : decode cX9_finds 1 = .ok (.tableswitch 60 0 2 #[27, 38, 49], 27) := by decide +kernel
theorem dX9_finds_28 : decode cX9_finds 28 = .ok (.aload_n 0, 1) := by decide +kernel
theorem dX9_finds_29 : decode cX9_finds 29 = .ok (.getfield 33, 3) := by decide +kernel
theorem dX9_finds_32 : decode cX9_finds 32 = .ok (.getfield 156, 3) := by decide +kernel
theorem dX9_finds_35 : decode cX9_finds 35 = .ok (.invokevirtual 262, 3) := by decide +kernel
theorem dX9_finds_38 : decode cX9_finds 38 = .ok (.ireturn, 1) := by decide +kernel
theorem dX9_finds_39 : decode cX9_finds 39 = .ok (.aload_n 0, 1) := by decide +kernel
theorem dX9_finds_40 : decode cX9_finds 40 = .ok (.getfield 33, 3) := by decide +kernel
theorem dX9_finds_43 : decode cX9_finds 43 = .ok (.getfield 156, 3) := by decide +kernel
theorem dX9_finds_46 : decode cX9_finds 46 = .ok (.invokevirtual 265, 3) := by decide +kernel
theorem dX9_finds_49 : decode cX9_finds 49 = .ok (.ireturn, 1) := by decide +kernel
theorem dX9_finds_50 : decode cX9_finds 50 = .ok (.aload_n 0, 1) := by decide +kernel
theorem dX9_finds_51 : decode cX9_finds 51 = .ok (.getfield 33, 3) := by decide +kernel
theorem dX9_finds_54 : decode cX9_finds 54 = .ok (.getfield 156, 3) := by decide +kernel
theorem dX9_finds_57 : decode cX9_finds 57 = .ok (.invokevirtual 183, 3) := by decide +kernel
theorem dX9_finds_60 : decode cX9_finds 60 = .ok (.ireturn, 1) := by decide +kernel
theorem dX9_finds_61 : decode cX9_finds 61 = .ok (.iconst (-1), 1) := by decide +kernel
theorem dX9_finds_62 : decode cX9_finds 62 = .ok (.ireturn, 1) := by decide +kernel
theorem dX9_next_0 : decode cX9_next 0 = .ok (.iload_n 1, 1) := by decide +kernel
theorem dX9_next_1 : decode cX9_next 1 = .ok (.iconst (-1), 1) := by decide +kernel
theorem dX9_next_2 : decode cX9_next 2 = .ok (.if_icmp .ge 6, 3) := by decide +kernel
theorem dX9_next_5 : decode cX9_next 5 = .ok (.bipush (-9), 2) := by decide +kernel
theorem dX9_next_7 : decode cX9_next 7 = .ok (.ireturn, 1) := by decide +kernel
theorem dX9_next_8 : decode cX9_next 8 = .ok (.aload_n 0, 1) := by decide +kernel
theorem dX9_next_9 : decode cX9_next 9 = .ok (.getfield 33, 3) := by decide +kernel
theorem dX9_next_12 : decode cX9_next 12 = .ok (.invokevirtual 219, 3) := by decide +kernel
theorem dX9_next_15 : decode cX9_next 15 = .ok (.ifCond .eq 6, 3) := by decide +kernel
theorem dX9_next_18 : decode cX9_next 18 = .ok (.bipush (-3), 2) := by decide +kernel
theorem dX9_next_20 : decode cX9_next 20 = .ok (.ireturn, 1) := by decide +kernel
theorem dX9_next_21 : decode cX9_next 21 = .ok (.aload_n 0, 1) := by decide +kernel
theorem dX9_next_22 : decode cX9_next 22 = .ok (.getfield 33, 3) := by decide +kernel
theorem dX9_next_25 : decode cX9_next 25 = .ok (.getfield 156, 3) := by decide +kernel
theorem dX9_next_28 : decode cX9_next 28 = .ok (.astore_n 2, 1) := by decide +kernel
theorem dX9_next_29 : decode cX9_next 29 = .ok (.iconst 0, 1) := by decide +kernel
theorem dX9_next_30 : decode cX9_next 30 = .ok (.istore_n 3, 1) := by decide +kernel
theorem dX9_next_31 : decode cX9_next 31 = .ok (.aload_n 2, 1) := by decide +kernel
theorem dX9_next_32 : decode cX9_next 32 = .ok (.aload_n 0, 1) := by decide +kernel
theorem dX9_next_33 : decode cX9_next 33 = .ok (.getfield 33, 3) := by decide +kernel
theorem dX9_next_36 : decode cX9_next 36 = .ok (.getfield 177, 3) := by decide +kernel
theorem dX9_next_39 : decode cX9_next 39 = .ok (.invokevirtual 268, 3) := by decide +kernel
theorem dX9_next_42 : decode cX9_next 42 = .ok (.iconst 0, 1) := by decide +kernel
theorem dX9_next_43 : decode cX9_next 43 = .ok (.istore 4, 2) := by decide +kernel
theorem dX9_next_45 : decode cX9_next 45 = .ok (.iload 4, 2) := by decide +kernel
theorem dX9_next_47 : decode cX9_next 47 = .ok (.aload_n 2, 1) := by decide +kernel
theorem dX9_next_48 : decode cX9_next 48 = .ok (.getfield 271, 3) := by decide +kernel
theorem dX9_next_51 : decode cX9_next 51 = .ok (.if_icmp .ge 45, 3) := by decide +kernel
theorem dX9_next_54 : decode cX9_next 54 = .ok (.aload_n 0, 1) := by decide +kernel
theorem dX9_next_55 : decode cX9_next 55 = .ok (.getfield 33, 3) := by decide +kernel
theorem dX9_next_58 : decode cX9_next 58 = .ok (.aload_n 2, 1) := by decide +kernel
theorem dX9_next_59 : decode cX9_next 59 = .ok (.getfield 274, 3) := by decide +kernel
theorem dX9_next_62 : decode cX9_next 62 = .ok (.iload 4, 2) := by decide +kernel
theorem dX9_next_64 : decode cX9_next 64 = .ok (.laload, 1) := by decide +kernel
theorem dX9_next_65 : decode cX9_next 65 = .ok (.invokevirtual 277, 3) := by decide +kernel
theorem dX9_next_68 : decode cX9_next 68 = .ok (.ifCond .eq 22, 3) := by decide +kernel
theorem dX9_next_71 : decode cX9_next 71 = .ok (.iload_n 3, 1) := by decide +kernel
theorem dX9_next_72 : decode cX9_next 72 = .ok (.iload_n 1, 1) := by decide +kernel
theorem dX9_next_73 : decode cX9_next 73 = .ok (.if_icmp .ne 14, 3) := by decide +kernel
theorem dX9_next_76 : decode cX9_next 76 = .ok (.aload_n 2, 1) := by decide +kernel
theorem dX9_next_77 : decode cX9_next 77 = .ok (.getfield 274, 3) := by decide +kernel
theorem dX9_next_80 : decode cX9_next 80 = .ok (.iload 4, 2) := by decide +kernel
theorem dX9_next_82 : decode cX9_next 82 = .ok (.laload, 1) := by decide +kernel
theorem dX9_next_83 : decode cX9_next 83 = .ok (.invokestatic 253, 3) := by decide +kernel
theorem dX9_next_86 : decode cX9_next 86 = .ok (.ireturn, 1) := by decide +kernel
theorem dX9_next_87 : decode cX9_next 87 = .ok (.iinc 3 1, 3) := by decide +kernel
theorem dX9_next_90 : decode cX9_next 90 = .ok (.iinc 4 1, 3) := by decide +kernel
theorem dX9_next_93 : decode cX9_next 93 = .ok (.goto (-48), 3) := by decide +kernel
theorem dX9_next_96 : decode cX9_next 96 = .ok (.iload_n 1, 1) := by decide +kernel
theorem dX9_next_97 : decode cX9_next 97 = .ok (.iconst (-1), 1) := by decide +kernel
theorem dX9_next_98 : decode cX9_next 98 = .ok (.if_icmp .ne 7, 3) := by decide +kernel
theorem dX9_next_101 : decode cX9_next 101 = .ok (.iload_n 3, 1) := by decide +kernel
theorem dX9_next_102 : decode cX9_next 102 = .ok (.goto 5, 3) := by decide +kernel
theorem dX9_next_105 : decode cX9_next 105 = .ok (.bipush (-4), 2) := by decide +kernel
theorem dX9_next_107 : decode cX9_next 107 = .ok (.ireturn, 1) := by decide +kernel
theorem dX9_parted_0 : decode cX9_parted 0 = .ok (.iload_n 1, 1) := by decide +kernel
theorem dX9_parted_1 : decode cX9_parted 1 = .ok (.invokestatic 149, 3) := by decide +kernel
theorem dX9_parted_4 : decode cX9_parted 4 = .ok (.ifCond .eq 15, 3) := by decide +kernel
theorem dX9_parted_7 : decode cX9_parted 7 = .ok (.iload_n 2, 1) := by decide +kernel
theorem dX9_parted_8 : decode cX9_parted 8 = .ok (.invokestatic 149, 3) := by decide +kernel
theorem dX9_parted_11 : decode cX9_parted 11 = .ok (.ifCond .eq 8, 3) := by decide +kernel
theorem dX9_parted_14 : decode cX9_parted 14 = .ok (.iload_n 1, 1) := by decide +kernel
theorem dX9_parted_15 : decode cX9_parted 15 = .ok (.iload_n 2, 1) := by decide +kernel
theorem dX9_parted_16 : decode cX9_parted 16 = .ok (.if_icmp .ne 5, 3) := by decide +kernel
theorem dX9_parted_19 : decode cX9_parted 19 = .ok (.iconst (-1), 1) := by decide +kernel
theorem dX9_parted_20 : decode cX9_parted 20 = .ok (.ireturn, 1) := by decide +kernel
theorem dX9_parted_21 : decode cX9_parted 21 = .ok (.aload_n 0, 1) := by decide +kernel
theorem dX9_parted_22 : decode cX9_parted 22 = .ok (.getfield 33, 3) := by decide +kernel
theorem dX9_parted_25 : decode cX9_parted 25 = .ok (.getfield 88, 3) := by decide +kernel
theorem dX9_parted_28 : decode cX9_parted 28 = .ok (.iload_n 1, 1) := by decide +kernel
theorem dX9_parted_29 : decode cX9_parted 29 = .ok (.invokevirtual 207, 3) := by decide +kernel
theorem dX9_parted_32 : decode cX9_parted 32 = .ok (.istore_n 3, 1) := by decide +kernel
theorem dX9_parted_33 : decode cX9_parted 33 = .ok (.aload_n 0, 1) := by decide +kernel
theorem dX9_parted_34 : decode cX9_parted 34 = .ok (.getfield 33, 3) := by decide +kernel
theorem dX9_parted_37 : decode cX9_parted 37 = .ok (.getfield 88, 3) := by decide +kernel
theorem dX9_parted_40 : decode cX9_parted 40 = .ok (.iload_n 2, 1) := by decide +kernel
theorem dX9_parted_41 : decode cX9_parted 41 = .ok (.invokevirtual 207, 3) := by decide +kernel
theorem dX9_parted_44 : decode cX9_parted 44 = .ok (.istore 4, 2) := by decide +kernel
theorem dX9_parted_46 : decode cX9_parted 46 = .ok (.aload_n 0, 1) := by decide +kernel
theorem dX9_parted_47 : decode cX9_parted 47 = .ok (.getfield 33, 3) := by decide +kernel
theorem dX9_parted_50 : decode cX9_parted 50 = .ok (.getfield 153, 3) := by decide +kernel
theorem dX9_parted_53 : decode cX9_parted 53 = .ok (.istore 5, 2) := by decide +kernel
theorem dX9_parted_55 : decode cX9_parted 55 = .ok (.iload 5, 2) := by decide +kernel
theorem dX9_parted_57 : decode cX9_parted 57 = .ok (.bipush 64, 2) := by decide +kernel
theorem dX9_parted_59 : decode cX9_parted 59 = .ok (.if_icmp .gt 36, 3) := by decide +kernel
theorem dX9_parted_62 : decode cX9_parted 62 = .ok (.aload_n 0, 1) := by decide +kernel
theorem dX9_parted_63 : decode cX9_parted 63 = .ok (.getfield 33, 3) := by decide +kernel
theorem dX9_parted_66 : decode cX9_parted 66 = .ok (.iload_n 3, 1) := by decide +kernel
theorem dX9_parted_67 : decode cX9_parted 67 = .ok (.iload 5, 2) := by decide +kernel
theorem dX9_parted_69 : decode cX9_parted 69 = .ok (.invokevirtual 222, 3) := by decide +kernel
theorem dX9_parted_72 : decode cX9_parted 72 = .ok (.aload_n 0, 1) := by decide +kernel
theorem dX9_parted_73 : decode cX9_parted 73 = .ok (.getfield 33, 3) := by decide +kernel
theorem dX9_parted_76 : decode cX9_parted 76 = .ok (.iload 4, 2) := by decide +kernel
theorem dX9_parted_78 : decode cX9_parted 78 = .ok (.iload 5, 2) := by decide +kernel
theorem dX9_parted_80 : decode cX9_parted 80 = .ok (.invokevirtual 222, 3) := by decide +kernel
theorem dX9_parted_83 : decode cX9_parted 83 = .ok (.if_icmp .eq 6, 3) := by decide +kernel
theorem dX9_parted_86 : decode cX9_parted 86 = .ok (.iload 5, 2) := by decide +kernel
theorem dX9_parted_88 : decode cX9_parted 88 = .ok (.ireturn, 1) := by decide +kernel
theorem dX9_parted_89 : decode cX9_parted 89 = .ok (.iinc 5 1, 3) := by decide +kernel
theorem dX9_parted_92 : decode cX9_parted 92 = .ok (.goto (-37), 3) := by decide +kernel
theorem dX9_parted_95 : decode cX9_parted 95 = .ok (.bipush (-2), 2) := by decide +kernel
theorem dX9_parted_97 : decode cX9_parted 97 = .ok (.ireturn, 1) := by decide +kernel
theorem dX9_enough_0 : decode cX9_enough 0 = .ok (.iload_n 1, 1) := by decide +kernel
theorem dX9_enough_1 : decode cX9_enough 1 = .ok (.iconst 1, 1) := by decide +kernel
theorem dX9_enough_2 : decode cX9_enough 2 = .ok (.sipush 300, 3) := by decide +kernel
theorem dX9_enough_5 : decode cX9_enough 5 = .ok (.invokestatic 63, 3) := by decide +kernel
theorem dX9_enough_8 : decode cX9_enough 8 = .ok (.ifCond .ne 5, 3) := by decide +kernel
theorem dX9_enough_11 : decode cX9_enough 11 = .ok (.iconst (-1), 1) := by decide +kernel
theorem dX9_enough_12 : decode cX9_enough 12 = .ok (.ireturn, 1) := by decide +kernel
theorem dX9_enough_13 : decode cX9_enough 13 = .ok (.aload_n 0, 1) := by decide +kernel
theorem dX9_enough_14 : decode cX9_enough 14 = .ok (.getfield 33, 3) := by decide +kernel
theorem dX9_enough_17 : decode cX9_enough 17 = .ok (.getfield 153, 3) := by decide +kernel
theorem dX9_enough_20 : decode cX9_enough 20 = .ok (.istore_n 2, 1) := by decide +kernel
theorem dX9_enough_21 : decode cX9_enough 21 = .ok (.iload_n 2, 1) := by decide +kernel
theorem dX9_enough_22 : decode cX9_enough 22 = .ok (.bipush 64, 2) := by decide +kernel
theorem dX9_enough_24 : decode cX9_enough 24 = .ok (.if_icmp .gt 20, 3) := by decide +kernel
theorem dX9_enough_27 : decode cX9_enough 27 = .ok (.aload_n 0, 1) := by decide +kernel
theorem dX9_enough_28 : decode cX9_enough 28 = .ok (.iload_n 2, 1) := by decide +kernel
theorem dX9_enough_29 : decode cX9_enough 29 = .ok (.invokevirtual 281, 3) := by decide +kernel
theorem dX9_enough_32 : decode cX9_enough 32 = .ok (.iload_n 1, 1) := by decide +kernel
theorem dX9_enough_33 : decode cX9_enough 33 = .ok (.if_icmp .gt 5, 3) := by decide +kernel
theorem dX9_enough_36 : decode cX9_enough 36 = .ok (.iload_n 2, 1) := by decide +kernel
theorem dX9_enough_37 : decode cX9_enough 37 = .ok (.ireturn, 1) := by decide +kernel
theorem dX9_enough_38 : decode cX9_enough 38 = .ok (.iinc 2 1, 3) := by decide +kernel
theorem dX9_enough_41 : decode cX9_enough 41 = .ok (.goto (-20), 3) := by decide +kernel
theorem dX9_enough_44 : decode cX9_enough 44 = .ok (.bipush (-2), 2) := by decide +kernel
theorem dX9_enough_46 : decode cX9_enough 46 = .ok (.ireturn, 1) := by decide +kernel
theorem dX9_mostIn_0 : decode cX9_mostIn 0 = .ok (.aload_n 0, 1) := by decide +kernel
theorem dX9_mostIn_1 : decode cX9_mostIn 1 = .ok (.iload_n 1, 1) := by decide +kernel
theorem dX9_mostIn_2 : decode cX9_mostIn 2 = .ok (.invokevirtual 284, 3) := by decide +kernel
theorem dX9_mostIn_5 : decode cX9_mostIn 5 = .ok (.iconst 0, 1) := by decide +kernel
theorem dX9_mostIn_6 : decode cX9_mostIn 6 = .ok (.istore_n 2, 1) := by decide +kernel
theorem dX9_mostIn_7 : decode cX9_mostIn 7 = .ok (.iconst 0, 1) := by decide +kernel
theorem dX9_mostIn_8 : decode cX9_mostIn 8 = .ok (.istore_n 3, 1) := by decide +kernel
theorem dX9_mostIn_9 : decode cX9_mostIn 9 = .ok (.iload_n 3, 1) := by decide +kernel
theorem dX9_mostIn_10 : decode cX9_mostIn 10 = .ok (.iload_n 1, 1) := by decide +kernel
theorem dX9_mostIn_11 : decode cX9_mostIn 11 = .ok (.if_icmp .ge 20, 3) := by decide +kernel
theorem dX9_mostIn_14 : decode cX9_mostIn 14 = .ok (.iload_n 2, 1) := by decide +kernel
theorem dX9_mostIn_15 : decode cX9_mostIn 15 = .ok (.aload_n 0, 1) := by decide +kernel
theorem dX9_mostIn_16 : decode cX9_mostIn 16 = .ok (.getfield 43, 3) := by decide +kernel
theorem dX9_mostIn_19 : decode cX9_mostIn 19 = .ok (.iload_n 3, 1) := by decide +kernel
theorem dX9_mostIn_20 : decode cX9_mostIn 20 = .ok (.iaload, 1) := by decide +kernel
theorem dX9_mostIn_21 : decode cX9_mostIn 21 = .ok (.invokestatic 287, 3) := by decide +kernel
theorem dX9_mostIn_24 : decode cX9_mostIn 24 = .ok (.istore_n 2, 1) := by decide +kernel
theorem dX9_mostIn_25 : decode cX9_mostIn 25 = .ok (.iinc 3 1, 3) := by decide +kernel
theorem dX9_mostIn_28 : decode cX9_mostIn 28 = .ok (.goto (-19), 3) := by decide +kernel
theorem dX9_mostIn_31 : decode cX9_mostIn 31 = .ok (.iload_n 2, 1) := by decide +kernel
theorem dX9_mostIn_32 : decode cX9_mostIn 32 = .ok (.ireturn, 1) := by decide +kernel
theorem dX9_countAmong_0 : decode cX9_countAmong 0 = .ok (.aload_n 0, 1) := by decide +kernel
theorem dX9_countAmong_1 : decode cX9_countAmong 1 = .ok (.getfield 43, 3) := by decide +kernel
theorem dX9_countAmong_4 : decode cX9_countAmong 4 = .ok (.iconst 0, 1) := by decide +kernel
theorem dX9_countAmong_5 : decode cX9_countAmong 5 = .ok (.invokestatic 292, 3) := by decide +kernel
theorem dX9_countAmong_8 : decode cX9_countAmong 8 = .ok (.aload_n 0, 1) := by decide +kernel
theorem dX9_countAmong_9 : decode cX9_countAmong 9 = .ok (.getfield 33, 3) := by decide +kernel
theorem dX9_countAmong_12 : decode cX9_countAmong 12 = .ok (.iload_n 1, 1) := by decide +kernel
theorem dX9_countAmong_13 : decode cX9_countAmong 13 = .ok (.invokevirtual 297, 3) := by decide +kernel
theorem dX9_countAmong_16 : decode cX9_countAmong 16 = .ok (.istore_n 2, 1) := by decide +kernel
theorem dX9_countAmong_17 : decode cX9_countAmong 17 = .ok (.iconst 0, 1) := by decide +kernel
theorem dX9_countAmong_18 : decode cX9_countAmong 18 = .ok (.istore_n 3, 1) := by decide +kernel
theorem dX9_countAmong_19 : decode cX9_countAmong 19 = .ok (.iload_n 3, 1) := by decide +kernel
theorem dX9_countAmong_20 : decode cX9_countAmong 20 = .ok (.aload_n 0, 1) := by decide +kernel
theorem dX9_countAmong_21 : decode cX9_countAmong 21 = .ok (.getfield 33, 3) := by decide +kernel
theorem dX9_countAmong_24 : decode cX9_countAmong 24 = .ok (.getfield 77, 3) := by decide +kernel
theorem dX9_countAmong_27 : decode cX9_countAmong 27 = .ok (.getfield 81, 3) := by decide +kernel
theorem dX9_countAmong_30 : decode cX9_countAmong 30 = .ok (.if_icmp .ge 33, 3) := by decide +kernel
theorem dX9_countAmong_33 : decode cX9_countAmong 33 = .ok (.aload_n 0, 1) := by decide +kernel
theorem dX9_countAmong_34 : decode cX9_countAmong 34 = .ok (.getfield 43, 3) := by decide +kernel
theorem dX9_countAmong_37 : decode cX9_countAmong 37 = .ok (.aload_n 0, 1) := by decide +kernel
theorem dX9_countAmong_38 : decode cX9_countAmong 38 = .ok (.getfield 33, 3) := by decide +kernel
theorem dX9_countAmong_41 : decode cX9_countAmong 41 = .ok (.iload_n 3, 1) := by decide +kernel
theorem dX9_countAmong_42 : decode cX9_countAmong 42 = .ok (.invokevirtual 300, 3) := by decide +kernel
theorem dX9_countAmong_45 : decode cX9_countAmong 45 = .ok (.iload_n 2, 1) := by decide +kernel
theorem dX9_countAmong_46 : decode cX9_countAmong 46 = .ok (.iload_n 1, 1) := by decide +kernel
theorem dX9_countAmong_47 : decode cX9_countAmong 47 = .ok (.iload_n 2, 1) := by decide +kernel
theorem dX9_countAmong_48 : decode cX9_countAmong 48 = .ok (.isub, 1) := by decide +kernel
theorem dX9_countAmong_49 : decode cX9_countAmong 49 = .ok (.invokestatic 303, 3) := by decide +kernel
theorem dX9_countAmong_52 : decode cX9_countAmong 52 = .ok (.dup2, 1) := by decide +kernel
theorem dX9_countAmong_53 : decode cX9_countAmong 53 = .ok (.iaload, 1) := by decide +kernel
theorem dX9_countAmong_54 : decode cX9_countAmong 54 = .ok (.iconst 1, 1) := by decide +kernel
theorem dX9_countAmong_55 : decode cX9_countAmong 55 = .ok (.iadd, 1) := by decide +kernel
theorem dX9_countAmong_56 : decode cX9_countAmong 56 = .ok (.iastore, 1) := by decide +kernel
theorem dX9_countAmong_57 : decode cX9_countAmong 57 = .ok (.iinc 3 1, 3) := by decide +kernel
theorem dX9_countAmong_60 : decode cX9_countAmong 60 = .ok (.goto (-41), 3) := by decide +kernel
theorem dX9_countAmong_63 : decode cX9_countAmong 63 = .ok (.return_, 1) := by decide +kernel
theorem dX9_anew_0 : decode cX9_anew 0 = .ok (.aload_n 0, 1) := by decide +kernel
theorem dX9_anew_1 : decode cX9_anew 1 = .ok (.iload_n 1, 1) := by decide +kernel
theorem dX9_anew_2 : decode cX9_anew 2 = .ok (.invokevirtual 225, 3) := by decide +kernel
theorem dX9_anew_5 : decode cX9_anew 5 = .ok (.ifCond .eq 12, 3) := by decide +kernel
theorem dX9_anew_8 : decode cX9_anew 8 = .ok (.iload_n 2, 1) := by decide +kernel
theorem dX9_anew_9 : decode cX9_anew 9 = .ok (.iconst 0, 1) := by decide +kernel
theorem dX9_anew_10 : decode cX9_anew 10 = .ok (.iconst 3, 1) := by decide +kernel
theorem dX9_anew_11 : decode cX9_anew 11 = .ok (.invokestatic 63, 3) := by decide +kernel
theorem dX9_anew_14 : decode cX9_anew 14 = .ok (.ifCond .ne 5, 3) := by decide +kernel
theorem dX9_anew_17 : decode cX9_anew 17 = .ok (.iconst (-1), 1) := by decide +kernel
theorem dX9_anew_18 : decode cX9_anew 18 = .ok (.ireturn, 1) := by decide +kernel
theorem dX9_anew_19 : decode cX9_anew 19 = .ok (.aload_n 0, 1) := by decide +kernel
theorem dX9_anew_20 : decode cX9_anew 20 = .ok (.iload_n 1, 1) := by decide +kernel
theorem dX9_anew_21 : decode cX9_anew 21 = .ok (.invokevirtual 284, 3) := by decide +kernel
theorem dX9_anew_24 : decode cX9_anew 24 = .ok (.iconst 0, 1) := by decide +kernel
theorem dX9_anew_25 : decode cX9_anew 25 = .ok (.istore_n 3, 1) := by decide +kernel
theorem dX9_anew_26 : decode cX9_anew 26 = .ok (.iconst 0, 1) := by decide +kernel
theorem dX9_anew_27 : decode cX9_anew 27 = .ok (.istore 4, 2) := by decide +kernel
theorem dX9_anew_29 : decode cX9_anew 29 = .ok (.iconst 0, 1) := by decide +kernel
theorem dX9_anew_30 : decode cX9_anew 30 = .ok (.istore 5, 2) := by decide +kernel
theorem dX9_anew_32 : decode cX9_anew 32 = .ok (.iconst 0, 1) := by decide +kernel
theorem dX9_anew_33 : decode cX9_anew 33 = .ok (.istore 6, 2) := by decide +kernel
theorem dX9_anew_35 : decode cX9_anew 35 = .ok (.aload_n 0, 1) := by decide +kernel
theorem dX9_anew_36 : decode cX9_anew 36 = .ok (.getfield 33, 3) := by decide +kernel
theorem dX9_anew_39 : decode cX9_anew 39 = .ok (.getfield 156, 3) := by decide +kernel
theorem dX9_anew_42 : decode cX9_anew 42 = .ok (.getfield 160, 3) := by decide +kernel
theorem dX9_anew_45 : decode cX9_anew 45 = .ok (.istore 7, 2) := by decide +kernel
theorem dX9_anew_47 : decode cX9_anew 47 = .ok (.iconst 0, 1) := by decide +kernel
theorem dX9_anew_48 : decode cX9_anew 48 = .ok (.istore 8, 2) := by decide +kernel
theorem dX9_anew_50 : decode cX9_anew 50 = .ok (.iload 8, 2) := by decide +kernel
theorem dX9_anew_52 : decode cX9_anew 52 = .ok (.iload_n 1, 1) := by decide +kernel
theorem dX9_anew_53 : decode cX9_anew 53 = .ok (.if_icmp .ge 74, 3) := by decide +kernel
theorem dX9_anew_56 : decode cX9_anew 56 = .ok (.aload_n 0, 1) := by decide +kernel
theorem dX9_anew_57 : decode cX9_anew 57 = .ok (.getfield 43, 3) := by decide +kernel
theorem dX9_anew_60 : decode cX9_anew 60 = .ok (.iload 8, 2) := by decide +kernel
theorem dX9_anew_62 : decode cX9_anew 62 = .ok (.iaload, 1) := by decide +kernel
theorem dX9_anew_63 : decode cX9_anew 63 = .ok (.iload 7, 2) := by decide +kernel
theorem dX9_anew_65 : decode cX9_anew 65 = .ok (.invokestatic 307, 3) := by decide +kernel
theorem dX9_anew_68 : decode cX9_anew 68 = .ok (.istore 9, 2) := by decide +kernel
theorem dX9_anew_70 : decode cX9_anew 70 = .ok (.iload_n 3, 1) := by decide +kernel
theorem dX9_anew_71 : decode cX9_anew 71 = .ok (.iload 9, 2) := by decide +kernel
theorem dX9_anew_73 : decode cX9_anew 73 = .ok (.iadd, 1) := by decide +kernel
theorem dX9_anew_74 : decode cX9_anew 74 = .ok (.istore_n 3, 1) := by decide +kernel
theorem dX9_anew_75 : decode cX9_anew 75 = .ok (.iload 4, 2) := by decide +kernel
theorem dX9_anew_77 : decode cX9_anew 77 = .ok (.iload 9, 2) := by decide +kernel
theorem dX9_anew_79 : decode cX9_anew 79 = .ok (.invokestatic 287, 3) := by decide +kernel
theorem dX9_anew_82 : decode cX9_anew 82 = .ok (.istore 4, 2) := by decide +kernel
theorem dX9_anew_84 : decode cX9_anew 84 = .ok (.iload 5, 2) := by decide +kernel
theorem dX9_anew_86 : decode cX9_anew 86 = .ok (.aload_n 0, 1) := by decide +kernel
theorem dX9_anew_87 : decode cX9_anew 87 = .ok (.getfield 43, 3) := by decide +kernel
theorem dX9_anew_90 : decode cX9_anew 90 = .ok (.iload 8, 2) := by decide +kernel
theorem dX9_anew_92 : decode cX9_anew 92 = .ok (.iaload, 1) := by decide +kernel
theorem dX9_anew_93 : decode cX9_anew 93 = .ok (.ifCond .ne 7, 3) := by decide +kernel
theorem dX9_anew_96 : decode cX9_anew 96 = .ok (.iconst 1, 1) := by decide +kernel
theorem dX9_anew_97 : decode cX9_anew 97 = .ok (.goto 4, 3) := by decide +kernel
theorem dX9_anew_100 : decode cX9_anew 100 = .ok (.iconst 0, 1) := by decide +kernel
theorem dX9_anew_101 : decode cX9_anew 101 = .ok (.iadd, 1) := by decide +kernel
theorem dX9_anew_102 : decode cX9_anew 102 = .ok (.istore 5, 2) := by decide +kernel
theorem dX9_anew_104 : decode cX9_anew 104 = .ok (.iload 6, 2) := by decide +kernel
theorem dX9_anew_106 : decode cX9_anew 106 = .ok (.aload_n 0, 1) := by decide +kernel
theorem dX9_anew_107 : decode cX9_anew 107 = .ok (.getfield 43, 3) := by decide +kernel
theorem dX9_anew_110 : decode cX9_anew 110 = .ok (.iload 8, 2) := by decide +kernel
theorem dX9_anew_112 : decode cX9_anew 112 = .ok (.iaload, 1) := by decide +kernel
theorem dX9_anew_113 : decode cX9_anew 113 = .ok (.iload 7, 2) := by decide +kernel
theorem dX9_anew_115 : decode cX9_anew 115 = .ok (.invokestatic 310, 3) := by decide +kernel
theorem dX9_anew_118 : decode cX9_anew 118 = .ok (.iadd, 1) := by decide +kernel
theorem dX9_anew_119 : decode cX9_anew 119 = .ok (.istore 6, 2) := by decide +kernel
theorem dX9_anew_121 : decode cX9_anew 121 = .ok (.iinc 8 1, 3) := by decide +kernel
theorem dX9_anew_124 : decode cX9_anew 124 = .ok (.goto (-74), 3) := by decide +kernel
theorem dX9_anew_127 : decode cX9_anew 127 = .ok (.iload_n 2, 1) := by decide +kernel
theorem dX9_anew_128 : decode cX9_anew 128 = .ok (.tableswitch 36 0 2 #[28, 30, 33], 28) := by decide +kernel
theorem dX9_anew_156 : decode cX9_anew 156 = .ok (.iload_n 3, 1) := by decide +kernel
theorem dX9_anew_157 : decode cX9_anew 157 = .ok (.ireturn, 1) := by decide +kernel
theorem dX9_anew_158 : decode cX9_anew 158 = .ok (.iload 4, 2) := by decide +kernel
theorem dX9_anew_160 : decode cX9_anew 160 = .ok (.ireturn, 1) := by decide +kernel
theorem dX9_anew_161 : decode cX9_anew 161 = .ok (.iload 5, 2) := by decide +kernel
theorem dX9_anew_163 : decode cX9_anew 163 = .ok (.ireturn, 1) := by decide +kernel
theorem dX9_anew_164 : decode cX9_anew 164 = .ok (.iload 6, 2) := by decide +kernel
theorem dX9_anew_166 : decode cX9_anew 166 = .ok (.ireturn, 1) := by decide +kernel
theorem dX9_pagesFor_0 : decode cX9_pagesFor 0 = .ok (.iload_n 1, 1) := by decide +kernel
theorem dX9_pagesFor_1 : decode cX9_pagesFor 1 = .ok (.iconst 1, 1) := by decide +kernel
theorem dX9_pagesFor_2 : decode cX9_pagesFor 2 = .ok (.if_icmp .ge 7, 3) := by decide +kernel
theorem dX9_pagesFor_5 : decode cX9_pagesFor 5 = .ok (.iconst 1, 1) := by decide +kernel
theorem dX9_pagesFor_6 : decode cX9_pagesFor 6 = .ok (.goto 14, 3) := by decide +kernel
theorem dX9_pagesFor_9 : decode cX9_pagesFor 9 = .ok (.iconst 1, 1) := by decide +kernel
theorem dX9_pagesFor_10 : decode cX9_pagesFor 10 = .ok (.iload_n 0, 1) := by decide +kernel
theorem dX9_pagesFor_11 : decode cX9_pagesFor 11 = .ok (.iload_n 1, 1) := by decide +kernel
theorem dX9_pagesFor_12 : decode cX9_pagesFor 12 = .ok (.iadd, 1) := by decide +kernel
theorem dX9_pagesFor_13 : decode cX9_pagesFor 13 = .ok (.iconst 1, 1) := by decide +kernel
theorem dX9_pagesFor_14 : decode cX9_pagesFor 14 = .ok (.isub, 1) := by decide +kernel
theorem dX9_pagesFor_15 : decode cX9_pagesFor 15 = .ok (.iload_n 1, 1) := by decide +kernel
theorem dX9_pagesFor_16 : decode cX9_pagesFor 16 = .ok (.idiv, 1) := by decide +kernel
theorem dX9_pagesFor_17 : decode cX9_pagesFor 17 = .ok (.invokestatic 287, 3) := by decide +kernel
theorem dX9_pagesFor_20 : decode cX9_pagesFor 20 = .ok (.ireturn, 1) := by decide +kernel
theorem dX9_readsOfAll_0 : decode cX9_readsOfAll 0 = .ok (.iload_n 1, 1) := by decide +kernel
theorem dX9_readsOfAll_1 : decode cX9_readsOfAll 1 = .ok (.iconst 1, 1) := by decide +kernel
theorem dX9_readsOfAll_2 : decode cX9_readsOfAll 2 = .ok (.if_icmp .ge 5, 3) := by decide +kernel
theorem dX9_readsOfAll_5 : decode cX9_readsOfAll 5 = .ok (.iconst 0, 1) := by decide +kernel
theorem dX9_readsOfAll_6 : decode cX9_readsOfAll 6 = .ok (.ireturn, 1) := by decide +kernel
theorem dX9_readsOfAll_7 : decode cX9_readsOfAll 7 = .ok (.iload_n 0, 1) := by decide +kernel
theorem dX9_readsOfAll_8 : decode cX9_readsOfAll 8 = .ok (.iload_n 1, 1) := by decide +kernel
theorem dX9_readsOfAll_9 : decode cX9_readsOfAll 9 = .ok (.idiv, 1) := by decide +kernel
theorem dX9_readsOfAll_10 : decode cX9_readsOfAll 10 = .ok (.istore_n 2, 1) := by decide +kernel
theorem dX9_readsOfAll_11 : decode cX9_readsOfAll 11 = .ok (.iload_n 1, 1) := by decide +kernel
theorem dX9_readsOfAll_12 : decode cX9_readsOfAll 12 = .ok (.iload_n 2, 1) := by decide +kernel
theorem dX9_readsOfAll_13 : decode cX9_readsOfAll 13 = .ok (.iload_n 2, 1) := by decide +kernel
theorem dX9_readsOfAll_14 : decode cX9_readsOfAll 14 = .ok (.iconst 1, 1) := by decide +kernel
theorem dX9_readsOfAll_15 : decode cX9_readsOfAll 15 = .ok (.iadd, 1) := by decide +kernel
theorem dX9_readsOfAll_16 : decode cX9_readsOfAll 16 = .ok (.imul, 1) := by decide +kernel
theorem dX9_readsOfAll_17 : decode cX9_readsOfAll 17 = .ok (.iconst 2, 1) := by decide +kernel
theorem dX9_readsOfAll_18 : decode cX9_readsOfAll 18 = .ok (.idiv, 1) := by decide +kernel
theorem dX9_readsOfAll_19 : decode cX9_readsOfAll 19 = .ok (.imul, 1) := by decide +kernel
theorem dX9_readsOfAll_20 : decode cX9_readsOfAll 20 = .ok (.iload_n 0, 1) := by decide +kernel
theorem dX9_readsOfAll_21 : decode cX9_readsOfAll 21 = .ok (.iload_n 1, 1) := by decide +kernel
theorem dX9_readsOfAll_22 : decode cX9_readsOfAll 22 = .ok (.irem, 1) := by decide +kernel
theorem dX9_readsOfAll_23 : decode cX9_readsOfAll 23 = .ok (.iload_n 2, 1) := by decide +kernel
theorem dX9_readsOfAll_24 : decode cX9_readsOfAll 24 = .ok (.iconst 1, 1) := by decide +kernel
theorem dX9_readsOfAll_25 : decode cX9_readsOfAll 25 = .ok (.iadd, 1) := by decide +kernel
theorem dX9_readsOfAll_26 : decode cX9_readsOfAll 26 = .ok (.imul, 1) := by decide +kernel
theorem dX9_readsOfAll_27 : decode cX9_readsOfAll 27 = .ok (.iadd, 1) := by decide +kernel
theorem dX9_readsOfAll_28 : decode cX9_readsOfAll 28 = .ok (.ireturn, 1) := by decide +kernel
theorem dX9_torn_0 : decode cX9_torn 0 = .ok (.iload_n 1, 1) := by decide +kernel
theorem dX9_torn_1 : decode cX9_torn 1 = .ok (.iconst 0, 1) := by decide +kernel
theorem dX9_torn_2 : decode cX9_torn 2 = .ok (.iconst 1, 1) := by decide +kernel
theorem dX9_torn_3 : decode cX9_torn 3 = .ok (.invokestatic 63, 3) := by decide +kernel
theorem dX9_torn_6 : decode cX9_torn 6 = .ok (.ifCond .eq 16, 3) := by decide +kernel
theorem dX9_torn_9 : decode cX9_torn 9 = .ok (.iload_n 2, 1) := by decide +kernel
theorem dX9_torn_10 : decode cX9_torn 10 = .ok (.ifCond .lt 12, 3) := by decide +kernel
theorem dX9_torn_13 : decode cX9_torn 13 = .ok (.iload_n 3, 1) := by decide +kernel
theorem dX9_torn_14 : decode cX9_torn 14 = .ok (.iconst 0, 1) := by decide +kernel
theorem dX9_torn_15 : decode cX9_torn 15 = .ok (.iconst 1, 1) := by decide +kernel
theorem dX9_torn_16 : decode cX9_torn 16 = .ok (.invokestatic 63, 3) := by decide +kernel
theorem dX9_torn_19 : decode cX9_torn 19 = .ok (.ifCond .ne 5, 3) := by decide +kernel
theorem dX9_torn_22 : decode cX9_torn 22 = .ok (.iconst (-1), 1) := by decide +kernel
theorem dX9_torn_23 : decode cX9_torn 23 = .ok (.ireturn, 1) := by decide +kernel
theorem dX9_torn_24 : decode cX9_torn 24 = .ok (.aload_n 0, 1) := by decide +kernel
theorem dX9_torn_25 : decode cX9_torn 25 = .ok (.getfield 33, 3) := by decide +kernel
theorem dX9_torn_28 : decode cX9_torn 28 = .ok (.invokevirtual 219, 3) := by decide +kernel
theorem dX9_torn_31 : decode cX9_torn 31 = .ok (.ifCond .eq 6, 3) := by decide +kernel
theorem dX9_torn_34 : decode cX9_torn 34 = .ok (.bipush (-3), 2) := by decide +kernel
theorem dX9_torn_36 : decode cX9_torn 36 = .ok (.ireturn, 1) := by decide +kernel
theorem dX9_torn_37 : decode cX9_torn 37 = .ok (.aload_n 0, 1) := by decide +kernel
theorem dX9_torn_38 : decode cX9_torn 38 = .ok (.getfield 40, 3) := by decide +kernel
theorem dX9_torn_41 : decode cX9_torn 41 = .ok (.aload_n 0, 1) := by decide +kernel
theorem dX9_torn_42 : decode cX9_torn 42 = .ok (.getfield 33, 3) := by decide +kernel
theorem dX9_torn_45 : decode cX9_torn 45 = .ok (.invokevirtual 313, 3) := by decide +kernel
theorem dX9_torn_48 : decode cX9_torn 48 = .ok (.aload_n 0, 1) := by decide +kernel
theorem dX9_torn_49 : decode cX9_torn 49 = .ok (.getfield 40, 3) := by decide +kernel
theorem dX9_torn_52 : decode cX9_torn 52 = .ok (.invokevirtual 131, 3) := by decide +kernel
theorem dX9_torn_55 : decode cX9_torn 55 = .ok (.pop, 1) := by decide +kernel
theorem dX9_torn_56 : decode cX9_torn 56 = .ok (.aload_n 0, 1) := by decide +kernel
theorem dX9_torn_57 : decode cX9_torn 57 = .ok (.getfield 33, 3) := by decide +kernel
theorem dX9_torn_60 : decode cX9_torn 60 = .ok (.getfield 177, 3) := by decide +kernel
theorem dX9_torn_63 : decode cX9_torn 63 = .ok (.istore 4, 2) := by decide +kernel
theorem dX9_torn_65 : decode cX9_torn 65 = .ok (.aload_n 0, 1) := by decide +kernel
theorem dX9_torn_66 : decode cX9_torn 66 = .ok (.getfield 33, 3) := by decide +kernel
theorem dX9_torn_69 : decode cX9_torn 69 = .ok (.invokevirtual 317, 3) := by decide +kernel
theorem dX9_torn_72 : decode cX9_torn 72 = .ok (.iload 4, 2) := by decide +kernel
theorem dX9_torn_74 : decode cX9_torn 74 = .ok (.iadd, 1) := by decide +kernel
theorem dX9_torn_75 : decode cX9_torn 75 = .ok (.istore 5, 2) := by decide +kernel
theorem dX9_torn_77 : decode cX9_torn 77 = .ok (.iload_n 2, 1) := by decide +kernel
theorem dX9_torn_78 : decode cX9_torn 78 = .ok (.aload_n 0, 1) := by decide +kernel
theorem dX9_torn_79 : decode cX9_torn 79 = .ok (.getfield 40, 3) := by decide +kernel
theorem dX9_torn_82 : decode cX9_torn 82 = .ok (.getfield 156, 3) := by decide +kernel
theorem dX9_torn_85 : decode cX9_torn 85 = .ok (.getfield 240, 3) := by decide +kernel
theorem dX9_torn_88 : decode cX9_torn 88 = .ok (.iload 4, 2) := by decide +kernel
theorem dX9_torn_90 : decode cX9_torn 90 = .ok (.iaload, 1) := by decide +kernel
theorem dX9_torn_91 : decode cX9_torn 91 = .ok (.aload_n 0, 1) := by decide +kernel
theorem dX9_torn_92 : decode cX9_torn 92 = .ok (.getfield 40, 3) := by decide +kernel
theorem dX9_torn_95 : decode cX9_torn 95 = .ok (.getfield 156, 3) := by decide +kernel
theorem dX9_torn_98 : decode cX9_torn 98 = .ok (.getfield 240, 3) := by decide +kernel
theorem dX9_torn_101 : decode cX9_torn 101 = .ok (.iload 5, 2) := by decide +kernel
theorem dX9_torn_103 : decode cX9_torn 103 = .ok (.iaload, 1) := by decide +kernel
theorem dX9_torn_104 : decode cX9_torn 104 = .ok (.iadd, 1) := by decide +kernel
theorem dX9_torn_105 : decode cX9_torn 105 = .ok (.if_icmp .le 6, 3) := by decide +kernel
theorem dX9_torn_108 : decode cX9_torn 108 = .ok (.bipush (-4), 2) := by decide +kernel
theorem dX9_torn_110 : decode cX9_torn 110 = .ok (.ireturn, 1) := by decide +kernel
theorem dX9_torn_111 : decode cX9_torn 111 = .ok (.iload_n 1, 1) := by decide +kernel
theorem dX9_torn_112 : decode cX9_torn 112 = .ok (.ifCond .ne 8, 3) := by decide +kernel
theorem dX9_torn_115 : decode cX9_torn 115 = .ok (.iload 4, 2) := by decide +kernel
theorem dX9_torn_117 : decode cX9_torn 117 = .ok (.goto 5, 3) := by decide +kernel
theorem dX9_torn_120 : decode cX9_torn 120 = .ok (.iload 5, 2) := by decide +kernel
theorem dX9_torn_122 : decode cX9_torn 122 = .ok (.istore 6, 2) := by decide +kernel
theorem dX9_torn_124 : decode cX9_torn 124 = .ok (.iconst 0, 1) := by decide +kernel
theorem dX9_torn_125 : decode cX9_torn 125 = .ok (.istore 7, 2) := by decide +kernel
theorem dX9_torn_127 : decode cX9_torn 127 = .ok (.iconst 0, 1) := by decide +kernel
theorem dX9_torn_128 : decode cX9_torn 128 = .ok (.istore 8, 2) := by decide +kernel
theorem dX9_torn_130 : decode cX9_torn 130 = .ok (.iconst 0, 1) := by decide +kernel
theorem dX9_torn_131 : decode cX9_torn 131 = .ok (.istore 9, 2) := by decide +kernel
theorem dX9_torn_133 : decode cX9_torn 133 = .ok (.iload 9, 2) := by decide +kernel
theorem dX9_torn_135 : decode cX9_torn 135 = .ok (.aload_n 0, 1) := by decide +kernel
theorem dX9_torn_136 : decode cX9_torn 136 = .ok (.getfield 40, 3) := by decide +kernel
theorem dX9_torn_139 : decode cX9_torn 139 = .ok (.getfield 156, 3) := by decide +kernel
theorem dX9_torn_142 : decode cX9_torn 142 = .ok (.getfield 271, 3) := by decide +kernel
theorem dX9_torn_145 : decode cX9_torn 145 = .ok (.if_icmp .ge 162, 3) := by decide +kernel
theorem dX9_torn_148 : decode cX9_torn 148 = .ok (.aload_n 0, 1) := by decide +kernel
theorem dX9_torn_149 : decode cX9_torn 149 = .ok (.getfield 33, 3) := by decide +kernel
theorem dX9_torn_152 : decode cX9_torn 152 = .ok (.aload_n 0, 1) := by decide +kernel
theorem dX9_torn_153 : decode cX9_torn 153 = .ok (.getfield 40, 3) := by decide +kernel
theorem dX9_torn_156 : decode cX9_torn 156 = .ok (.getfield 156, 3) := by decide +kernel
theorem dX9_torn_159 : decode cX9_torn 159 = .ok (.getfield 274, 3) := by decide +kernel
theorem dX9_torn_162 : decode cX9_torn 162 = .ok (.iload 9, 2) := by decide +kernel
theorem dX9_torn_164 : decode cX9_torn 164 = .ok (.laload, 1) := by decide +kernel
theorem dX9_torn_165 : decode cX9_torn 165 = .ok (.invokevirtual 277, 3) := by decide +kernel
theorem dX9_torn_168 : decode cX9_torn 168 = .ok (.ifCond .ne 7, 3) := by decide +kernel
theorem dX9_torn_171 : decode cX9_torn 171 = .ok (.iconst 1, 1) := by decide +kernel
theorem dX9_torn_172 : decode cX9_torn 172 = .ok (.goto 4, 3) := by decide +kernel
theorem dX9_torn_175 : decode cX9_torn 175 = .ok (.iconst 0, 1) := by decide +kernel
theorem dX9_torn_176 : decode cX9_torn 176 = .ok (.istore 10, 2) := by decide +kernel
theorem dX9_torn_178 : decode cX9_torn 178 = .ok (.iload 10, 2) := by decide +kernel
theorem dX9_torn_180 : decode cX9_torn 180 = .ok (.ifCond .eq 20, 3) := by decide +kernel
theorem dX9_torn_183 : decode cX9_torn 183 = .ok (.aload_n 0, 1) := by decide +kernel
theorem dX9_torn_184 : decode cX9_torn 184 = .ok (.getfield 40, 3) := by decide +kernel
theorem dX9_torn_187 : decode cX9_torn 187 = .ok (.getfield 156, 3) := by decide +kernel
theorem dX9_torn_190 : decode cX9_torn 190 = .ok (.iload 4, 2) := by decide +kernel
theorem dX9_torn_192 : decode cX9_torn 192 = .ok (.iload 8, 2) := by decide +kernel
theorem dX9_torn_194 : decode cX9_torn 194 = .ok (.invokevirtual 320, 3) := by decide +kernel
theorem dX9_torn_197 : decode cX9_torn 197 = .ok (.goto 20, 3) := by decide +kernel
theorem dX9_torn_200 : decode cX9_torn 200 = .ok (.aload_n 0, 1) := by decide +kernel
theorem dX9_torn_201 : decode cX9_torn 201 = .ok (.getfield 40, 3) := by decide +kernel
theorem dX9_torn_204 : decode cX9_torn 204 = .ok (.getfield 156, 3) := by decide +kernel
theorem dX9_torn_207 : decode cX9_torn 207 = .ok (.iload 5, 2) := by decide +kernel
theorem dX9_torn_209 : decode cX9_torn 209 = .ok (.iload 9, 2) := by decide +kernel
theorem dX9_torn_211 : decode cX9_torn 211 = .ok (.iload 8, 2) := by decide +kernel
theorem dX9_torn_213 : decode cX9_torn 213 = .ok (.isub, 1) := by decide +kernel
theorem dX9_torn_214 : decode cX9_torn 214 = .ok (.invokevirtual 320, 3) := by decide +kernel
theorem dX9_torn_217 : decode cX9_torn 217 = .ok (.istore 11, 2) := by decide +kernel
theorem dX9_torn_219 : decode cX9_torn 219 = .ok (.iload 8, 2) := by decide +kernel
theorem dX9_torn_221 : decode cX9_torn 221 = .ok (.iload 10, 2) := by decide +kernel
theorem dX9_torn_223 : decode cX9_torn 223 = .ok (.ifCond .eq 7, 3) := by decide +kernel
theorem dX9_torn_226 : decode cX9_torn 226 = .ok (.iconst 1, 1) := by decide +kernel
theorem dX9_torn_227 : decode cX9_torn 227 = .ok (.goto 4, 3) := by decide +kernel
theorem dX9_torn_230 : decode cX9_torn 230 = .ok (.iconst 0, 1) := by decide +kernel
theorem dX9_torn_231 : decode cX9_torn 231 = .ok (.iadd, 1) := by decide +kernel
theorem dX9_torn_232 : decode cX9_torn 232 = .ok (.istore 8, 2) := by decide +kernel
theorem dX9_torn_234 : decode cX9_torn 234 = .ok (.aload_n 0, 1) := by decide +kernel
theorem dX9_torn_235 : decode cX9_torn 235 = .ok (.aload_n 0, 1) := by decide +kernel
theorem dX9_torn_236 : decode cX9_torn 236 = .ok (.getfield 33, 3) := by decide +kernel
theorem dX9_torn_239 : decode cX9_torn 239 = .ok (.getfield 156, 3) := by decide +kernel
theorem dX9_torn_242 : decode cX9_torn 242 = .ok (.iload 4, 2) := by decide +kernel
theorem dX9_torn_244 : decode cX9_torn 244 = .ok (.iload 9, 2) := by decide +kernel
theorem dX9_torn_246 : decode cX9_torn 246 = .ok (.invokevirtual 320, 3) := by decide +kernel
theorem dX9_torn_249 : decode cX9_torn 249 = .ok (.iload 6, 2) := by decide +kernel
theorem dX9_torn_251 : decode cX9_torn 251 = .ok (.iload_n 2, 1) := by decide +kernel
theorem dX9_torn_252 : decode cX9_torn 252 = .ok (.invokevirtual 323, 3) := by decide +kernel
theorem dX9_torn_255 : decode cX9_torn 255 = .ok (.ifCond .ne 7, 3) := by decide +kernel
theorem dX9_torn_258 : decode cX9_torn 258 = .ok (.iconst 1, 1) := by decide +kernel
theorem dX9_torn_259 : decode cX9_torn 259 = .ok (.goto 4, 3) := by decide +kernel
theorem dX9_torn_262 : decode cX9_torn 262 = .ok (.iconst 0, 1) := by decide +kernel
theorem dX9_torn_263 : decode cX9_torn 263 = .ok (.istore 12, 2) := by decide +kernel
theorem dX9_torn_265 : decode cX9_torn 265 = .ok (.aload_n 0, 1) := by decide +kernel
theorem dX9_torn_266 : decode cX9_torn 266 = .ok (.iload 11, 2) := by decide +kernel
theorem dX9_torn_268 : decode cX9_torn 268 = .ok (.iload 6, 2) := by decide +kernel
theorem dX9_torn_270 : decode cX9_torn 270 = .ok (.iload_n 2, 1) := by decide +kernel
theorem dX9_torn_271 : decode cX9_torn 271 = .ok (.invokevirtual 323, 3) := by decide +kernel
theorem dX9_torn_274 : decode cX9_torn 274 = .ok (.istore 13, 2) := by decide +kernel
theorem dX9_torn_276 : decode cX9_torn 276 = .ok (.iload 12, 2) := by decide +kernel
theorem dX9_torn_278 : decode cX9_torn 278 = .ok (.iload 13, 2) := by decide +kernel
theorem dX9_torn_280 : decode cX9_torn 280 = .ok (.if_icmp .ne 21, 3) := by decide +kernel
theorem dX9_torn_283 : decode cX9_torn 283 = .ok (.iload 13, 2) := by decide +kernel
theorem dX9_torn_285 : decode cX9_torn 285 = .ok (.iload_n 3, 1) := by decide +kernel
theorem dX9_torn_286 : decode cX9_torn 286 = .ok (.iconst 1, 1) := by decide +kernel
theorem dX9_torn_287 : decode cX9_torn 287 = .ok (.if_icmp .ne 7, 3) := by decide +kernel
theorem dX9_torn_290 : decode cX9_torn 290 = .ok (.iconst 1, 1) := by decide +kernel
theorem dX9_torn_291 : decode cX9_torn 291 = .ok (.goto 4, 3) := by decide +kernel
theorem dX9_torn_294 : decode cX9_torn 294 = .ok (.iconst 0, 1) := by decide +kernel
theorem dX9_torn_295 : decode cX9_torn 295 = .ok (.if_icmp .ne 6, 3) := by decide +kernel
theorem dX9_torn_298 : decode cX9_torn 298 = .ok (.iinc 7 1, 3) := by decide +kernel
theorem dX9_torn_301 : decode cX9_torn 301 = .ok (.iinc 9 1, 3) := by decide +kernel
theorem dX9_torn_304 : decode cX9_torn 304 = .ok (.goto (-171), 3) := by decide +kernel
theorem dX9_torn_307 : decode cX9_torn 307 = .ok (.iload 7, 2) := by decide +kernel
theorem dX9_torn_309 : decode cX9_torn 309 = .ok (.ireturn, 1) := by decide +kernel
theorem dX9_isWritten_0 : decode cX9_isWritten 0 = .ok (.iload_n 1, 1) := by decide +kernel
theorem dX9_isWritten_1 : decode cX9_isWritten 1 = .ok (.iconst (-1), 1) := by decide +kernel
theorem dX9_isWritten_2 : decode cX9_isWritten 2 = .ok (.if_icmp .ne 5, 3) := by decide +kernel
theorem dX9_isWritten_5 : decode cX9_isWritten 5 = .ok (.iconst 0, 1) := by decide +kernel
theorem dX9_isWritten_6 : decode cX9_isWritten 6 = .ok (.ireturn, 1) := by decide +kernel
theorem dX9_isWritten_7 : decode cX9_isWritten 7 = .ok (.aload_n 0, 1) := by decide +kernel
theorem dX9_isWritten_8 : decode cX9_isWritten 8 = .ok (.getfield 33, 3) := by decide +kernel
theorem dX9_isWritten_11 : decode cX9_isWritten 11 = .ok (.getfield 177, 3) := by decide +kernel
theorem dX9_isWritten_14 : decode cX9_isWritten 14 = .ok (.istore 4, 2) := by decide +kernel
theorem dX9_isWritten_16 : decode cX9_isWritten 16 = .ok (.aload_n 0, 1) := by decide +kernel
theorem dX9_isWritten_17 : decode cX9_isWritten 17 = .ok (.getfield 40, 3) := by decide +kernel
theorem dX9_isWritten_20 : decode cX9_isWritten 20 = .ok (.getfield 156, 3) := by decide +kernel
theorem dX9_isWritten_23 : decode cX9_isWritten 23 = .ok (.getfield 243, 3) := by decide +kernel
theorem dX9_isWritten_26 : decode cX9_isWritten 26 = .ok (.iload_n 1, 1) := by decide +kernel
theorem dX9_isWritten_27 : decode cX9_isWritten 27 = .ok (.iaload, 1) := by decide +kernel
theorem dX9_isWritten_28 : decode cX9_isWritten 28 = .ok (.istore 5, 2) := by decide +kernel
theorem dX9_isWritten_30 : decode cX9_isWritten 30 = .ok (.iload 5, 2) := by decide +kernel
theorem dX9_isWritten_32 : decode cX9_isWritten 32 = .ok (.iload 4, 2) := by decide +kernel
theorem dX9_isWritten_34 : decode cX9_isWritten 34 = .ok (.if_icmp .eq 20, 3) := by decide +kernel
theorem dX9_isWritten_37 : decode cX9_isWritten 37 = .ok (.iload 5, 2) := by decide +kernel
theorem dX9_isWritten_39 : decode cX9_isWritten 39 = .ok (.aload_n 0, 1) := by decide +kernel
theorem dX9_isWritten_40 : decode cX9_isWritten 40 = .ok (.getfield 33, 3) := by decide +kernel
theorem dX9_isWritten_43 : decode cX9_isWritten 43 = .ok (.invokevirtual 317, 3) := by decide +kernel
theorem dX9_isWritten_46 : decode cX9_isWritten 46 = .ok (.iload 4, 2) := by decide +kernel
theorem dX9_isWritten_48 : decode cX9_isWritten 48 = .ok (.iadd, 1) := by decide +kernel
theorem dX9_isWritten_49 : decode cX9_isWritten 49 = .ok (.if_icmp .eq 5, 3) := by decide +kernel
theorem dX9_isWritten_52 : decode cX9_isWritten 52 = .ok (.iconst 0, 1) := by decide +kernel
theorem dX9_isWritten_53 : decode cX9_isWritten 53 = .ok (.ireturn, 1) := by decide +kernel
theorem dX9_isWritten_54 : decode cX9_isWritten 54 = .ok (.iload 5, 2) := by decide +kernel
theorem dX9_isWritten_56 : decode cX9_isWritten 56 = .ok (.iload_n 2, 1) := by decide +kernel
theorem dX9_isWritten_57 : decode cX9_isWritten 57 = .ok (.if_icmp .ne 7, 3) := by decide +kernel
theorem dX9_isWritten_60 : decode cX9_isWritten 60 = .ok (.iconst 0, 1) := by decide +kernel
theorem dX9_isWritten_61 : decode cX9_isWritten 61 = .ok (.goto 15, 3) := by decide +kernel
theorem dX9_isWritten_64 : decode cX9_isWritten 64 = .ok (.aload_n 0, 1) := by decide +kernel
theorem dX9_isWritten_65 : decode cX9_isWritten 65 = .ok (.getfield 40, 3) := by decide +kernel
theorem dX9_isWritten_68 : decode cX9_isWritten 68 = .ok (.getfield 156, 3) := by decide +kernel
theorem dX9_isWritten_71 : decode cX9_isWritten 71 = .ok (.getfield 240, 3) := by decide +kernel
theorem dX9_isWritten_74 : decode cX9_isWritten 74 = .ok (.iload_n 2, 1) := by decide +kernel
theorem dX9_isWritten_75 : decode cX9_isWritten 75 = .ok (.iaload, 1) := by decide +kernel
theorem dX9_isWritten_76 : decode cX9_isWritten 76 = .ok (.istore 6, 2) := by decide +kernel
theorem dX9_isWritten_78 : decode cX9_isWritten 78 = .ok (.iload 6, 2) := by decide +kernel
theorem dX9_isWritten_80 : decode cX9_isWritten 80 = .ok (.aload_n 0, 1) := by decide +kernel
theorem dX9_isWritten_81 : decode cX9_isWritten 81 = .ok (.getfield 40, 3) := by decide +kernel
theorem dX9_isWritten_84 : decode cX9_isWritten 84 = .ok (.getfield 156, 3) := by decide +kernel
theorem dX9_isWritten_87 : decode cX9_isWritten 87 = .ok (.getfield 259, 3) := by decide +kernel
theorem dX9_isWritten_90 : decode cX9_isWritten 90 = .ok (.iload_n 1, 1) := by decide +kernel
theorem dX9_isWritten_91 : decode cX9_isWritten 91 = .ok (.iaload, 1) := by decide +kernel
theorem dX9_isWritten_92 : decode cX9_isWritten 92 = .ok (.iadd, 1) := by decide +kernel
theorem dX9_isWritten_93 : decode cX9_isWritten 93 = .ok (.iload_n 3, 1) := by decide +kernel
theorem dX9_isWritten_94 : decode cX9_isWritten 94 = .ok (.if_icmp .ge 7, 3) := by decide +kernel
theorem dX9_isWritten_97 : decode cX9_isWritten 97 = .ok (.iconst 1, 1) := by decide +kernel
theorem dX9_isWritten_98 : decode cX9_isWritten 98 = .ok (.goto 4, 3) := by decide +kernel
theorem dX9_isWritten_101 : decode cX9_isWritten 101 = .ok (.iconst 0, 1) := by decide +kernel
theorem dX9_isWritten_102 : decode cX9_isWritten 102 = .ok (.ireturn, 1) := by decide +kernel
theorem dX9_grown_0 : decode cX9_grown 0 = .ok (.iload_n 1, 1) := by decide +kernel
theorem dX9_grown_1 : decode cX9_grown 1 = .ok (.iconst 1, 1) := by decide +kernel
theorem dX9_grown_2 : decode cX9_grown 2 = .ok (.bipush 99, 2) := by decide +kernel
theorem dX9_grown_4 : decode cX9_grown 4 = .ok (.invokestatic 63, 3) := by decide +kernel
theorem dX9_grown_7 : decode cX9_grown 7 = .ok (.ifCond .eq 12, 3) := by decide +kernel
theorem dX9_grown_10 : decode cX9_grown 10 = .ok (.iload_n 2, 1) := by decide +kernel
theorem dX9_grown_11 : decode cX9_grown 11 = .ok (.iconst 0, 1) := by decide +kernel
theorem dX9_grown_12 : decode cX9_grown 12 = .ok (.iconst 5, 1) := by decide +kernel
theorem dX9_grown_13 : decode cX9_grown 13 = .ok (.invokestatic 63, 3) := by decide +kernel
theorem dX9_grown_16 : decode cX9_grown 16 = .ok (.ifCond .ne 5, 3) := by decide +kernel
theorem dX9_grown_19 : decode cX9_grown 19 = .ok (.iconst (-1), 1) := by decide +kernel
theorem dX9_grown_20 : decode cX9_grown 20 = .ok (.ireturn, 1) := by decide +kernel
theorem dX9_grown_21 : decode cX9_grown 21 = .ok (.aload_n 0, 1) := by decide +kernel
theorem dX9_grown_22 : decode cX9_grown 22 = .ok (.getfield 40, 3) := by decide +kernel
theorem dX9_grown_25 : decode cX9_grown 25 = .ok (.aload_n 0, 1) := by decide +kernel
theorem dX9_grown_26 : decode cX9_grown 26 = .ok (.getfield 33, 3) := by decide +kernel
theorem dX9_grown_29 : decode cX9_grown 29 = .ok (.invokevirtual 313, 3) := by decide +kernel
theorem dX9_grown_32 : decode cX9_grown 32 = .ok (.aload_n 0, 1) := by decide +kernel
theorem dX9_grown_33 : decode cX9_grown 33 = .ok (.getfield 40, 3) := by decide +kernel
theorem dX9_grown_36 : decode cX9_grown 36 = .ok (.iload_n 1, 1) := by decide +kernel
theorem dX9_grown_37 : decode cX9_grown 37 = .ok (.invokevirtual 142, 3) := by decide +kernel
theorem dX9_grown_40 : decode cX9_grown 40 = .ok (.iload_n 2, 1) := by decide +kernel
theorem dX9_grown_41 : decode cX9_grown 41 = .ok (.tableswitch 89 0 4 #[35, 43, 51, 62, 73], 35) := by decide +kernel
theorem dX9_grown_76 : decode cX9_grown 76 = .ok (.aload_n 0, 1) := by decide +kernel
theorem dX9_grown_77 : decode cX9_grown 77 = .ok (.getfield 40, 3) := by decide +kernel
theorem dX9_grown_80 : decode cX9_grown 80 = .ok (.invokevirtual 180, 3) := by decide +kernel
theorem dX9_grown_83 : decode cX9_grown 83 = .ok (.ireturn, 1) := by decide +kernel
theorem dX9_grown_84 : decode cX9_grown 84 = .ok (.aload_n 0, 1) := by decide +kernel
theorem dX9_grown_85 : decode cX9_grown 85 = .ok (.getfield 40, 3) := by decide +kernel
