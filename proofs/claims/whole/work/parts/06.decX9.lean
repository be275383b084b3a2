theorem dX9_init_0 : decode cX9_init 0 = .ok (.aload_n 0, 1) := by decide +kernel
theorem dX9_init_1 : decode cX9_init 1 = .ok (.invokespecial 1, 3) := by decide +kernel
theorem dX9_init_4 : decode cX9_init 4 = .ok (.aload_n 0, 1) := by decide +kernel
theorem dX9_init_5 : decode cX9_init 5 = .ok (.sipush 266, 3) := by decide +kernel
theorem dX9_init_8 : decode cX9_init 8 = .ok (.newarray .int, 2) := by decide +kernel
theorem dX9_init_10 : decode cX9_init 10 = .ok (.putfield 7, 3) := by decide +kernel
theorem dX9_init_13 : decode cX9_init 13 = .ok (.aload_n 0, 1) := by decide +kernel
theorem dX9_init_14 : decode cX9_init 14 = .ok (.sipush 1330, 3) := by decide +kernel
theorem dX9_init_17 : decode cX9_init 17 = .ok (.newarray .int, 2) := by decide +kernel
theorem dX9_init_19 : decode cX9_init 19 = .ok (.putfield 13, 3) := by decide +kernel
theorem dX9_init_22 : decode cX9_init 22 = .ok (.aload_n 0, 1) := by decide +kernel
theorem dX9_init_23 : decode cX9_init 23 = .ok (.bipush 26, 2) := by decide +kernel
theorem dX9_init_25 : decode cX9_init 25 = .ok (.newarray .int, 2) := by decide +kernel
theorem dX9_init_27 : decode cX9_init 27 = .ok (.putfield 16, 3) := by decide +kernel
theorem dX9_init_30 : decode cX9_init 30 = .ok (.aload_n 0, 1) := by decide +kernel
theorem dX9_init_31 : decode cX9_init 31 = .ok (.bipush 26, 2) := by decide +kernel
theorem dX9_init_33 : decode cX9_init 33 = .ok (.newarray .int, 2) := by decide +kernel
theorem dX9_init_35 : decode cX9_init 35 = .ok (.putfield 19, 3) := by decide +kernel
theorem dX9_init_38 : decode cX9_init 38 = .ok (.aload_n 0, 1) := by decide +kernel
theorem dX9_init_39 : decode cX9_init 39 = .ok (.bipush 60, 2) := by decide +kernel
theorem dX9_init_41 : decode cX9_init 41 = .ok (.newarray .int, 2) := by decide +kernel
theorem dX9_init_43 : decode cX9_init 43 = .ok (.putfield 22, 3) := by decide +kernel
theorem dX9_init_46 : decode cX9_init 46 = .ok (.aload_n 0, 1) := by decide +kernel
theorem dX9_init_47 : decode cX9_init 47 = .ok (.getfield 7, 3) := by decide +kernel
theorem dX9_init_50 : decode cX9_init 50 = .ok (.sipush 264, 3) := by decide +kernel
theorem dX9_init_53 : decode cX9_init 53 = .ok (.iconst 4, 1) := by decide +kernel
theorem dX9_init_54 : decode cX9_init 54 = .ok (.iastore, 1) := by decide +kernel
theorem dX9_init_55 : decode cX9_init 55 = .ok (.return_, 1) := by decide +kernel
theorem dX9_thrown_0 : decode cX9_thrown 0 = .ok (.aload_n 0, 1) := by decide +kernel
theorem dX9_thrown_1 : decode cX9_thrown 1 = .ok (.getfield 25, 3) := by decide +kernel
theorem dX9_thrown_4 : decode cX9_thrown 4 = .ok (.ireturn, 1) := by decide +kernel
theorem dX9_fails_0 : decode cX9_fails 0 = .ok (.aload_n 0, 1) := by decide +kernel
theorem dX9_fails_1 : decode cX9_fails 1 = .ok (.iload_n 1, 1) := by decide +kernel
theorem dX9_fails_2 : decode cX9_fails 2 = .ok (.putfield 25, 3) := by decide +kernel
theorem dX9_fails_5 : decode cX9_fails 5 = .ok (.iconst 0, 1) := by decide +kernel
theorem dX9_fails_6 : decode cX9_fails 6 = .ok (.ireturn, 1) := by decide +kernel
theorem dX9_in_0 : decode cX9_in 0 = .ok (.lload_n 0, 1) := by decide +kernel
theorem dX9_in_1 : decode cX9_in 1 = .ok (.lload_n 2, 1) := by decide +kernel
theorem dX9_in_2 : decode cX9_in 2 = .ok (.lcmp, 1) := by decide +kernel
theorem dX9_in_3 : decode cX9_in 3 = .ok (.ifCond .lt 14, 3) := by decide +kernel
theorem dX9_in_6 : decode cX9_in 6 = .ok (.lload_n 0, 1) := by decide +kernel
theorem dX9_in_7 : decode cX9_in 7 = .ok (.lload 4, 2) := by decide +kernel
theorem dX9_in_9 : decode cX9_in 9 = .ok (.lcmp, 1) := by decide +kernel
theorem dX9_in_10 : decode cX9_in 10 = .ok (.ifCond .gt 7, 3) := by decide +kernel
theorem dX9_in_13 : decode cX9_in 13 = .ok (.iconst 1, 1) := by decide +kernel
theorem dX9_in_14 : decode cX9_in 14 = .ok (.goto 4, 3) := by decide +kernel
theorem dX9_in_17 : decode cX9_in 17 = .ok (.iconst 0, 1) := by decide +kernel
theorem dX9_in_18 : decode cX9_in 18 = .ok (.ireturn, 1) := by decide +kernel
theorem dX9_changes_0 : decode cX9_changes 0 = .ok (.aload_n 0, 1) := by decide +kernel
theorem dX9_changes_1 : decode cX9_changes 1 = .ok (.iconst 0, 1) := by decide +kernel
theorem dX9_changes_2 : decode cX9_changes 2 = .ok (.putfield 25, 3) := by decide +kernel
theorem dX9_changes_5 : decode cX9_changes 5 = .ok (.aload_n 0, 1) := by decide +kernel
theorem dX9_changes_6 : decode cX9_changes 6 = .ok (.getfield 29, 3) := by decide +kernel
theorem dX9_changes_9 : decode cX9_changes 9 = .ok (.iconst 5, 1) := by decide +kernel
theorem dX9_changes_10 : decode cX9_changes 10 = .ok (.if_icmp .ne 44, 3) := by decide +kernel
theorem dX9_changes_13 : decode cX9_changes 13 = .ok (.iconst 0, 1) := by decide +kernel
theorem dX9_changes_14 : decode cX9_changes 14 = .ok (.istore_n 1, 1) := by decide +kernel
theorem dX9_changes_15 : decode cX9_changes 15 = .ok (.iload_n 1, 1) := by decide +kernel
theorem dX9_changes_16 : decode cX9_changes 16 = .ok (.sipush 1064, 3) := by decide +kernel
theorem dX9_changes_19 : decode cX9_changes 19 = .ok (.if_icmp .ge 25, 3) := by decide +kernel
theorem dX9_changes_22 : decode cX9_changes 22 = .ok (.aload_n 0, 1) := by decide +kernel
theorem dX9_changes_23 : decode cX9_changes 23 = .ok (.getfield 13, 3) := by decide +kernel
theorem dX9_changes_26 : decode cX9_changes 26 = .ok (.iload_n 1, 1) := by decide +kernel
theorem dX9_changes_27 : decode cX9_changes 27 = .ok (.aload_n 0, 1) := by decide +kernel
theorem dX9_changes_28 : decode cX9_changes 28 = .ok (.getfield 13, 3) := by decide +kernel
theorem dX9_changes_31 : decode cX9_changes 31 = .ok (.iload_n 1, 1) := by decide +kernel
theorem dX9_changes_32 : decode cX9_changes 32 = .ok (.sipush 266, 3) := by decide +kernel
theorem dX9_changes_35 : decode cX9_changes 35 = .ok (.iadd, 1) := by decide +kernel
theorem dX9_changes_36 : decode cX9_changes 36 = .ok (.iaload, 1) := by decide +kernel
theorem dX9_changes_37 : decode cX9_changes 37 = .ok (.iastore, 1) := by decide +kernel
theorem dX9_changes_38 : decode cX9_changes 38 = .ok (.iinc 1 1, 3) := by decide +kernel
theorem dX9_changes_41 : decode cX9_changes 41 = .ok (.goto (-26), 3) := by decide +kernel
theorem dX9_changes_44 : decode cX9_changes 44 = .ok (.aload_n 0, 1) := by decide +kernel
theorem dX9_changes_45 : decode cX9_changes 45 = .ok (.dup, 1) := by decide +kernel
theorem dX9_changes_46 : decode cX9_changes 46 = .ok (.getfield 29, 3) := by decide +kernel
theorem dX9_changes_49 : decode cX9_changes 49 = .ok (.iconst 1, 1) := by decide +kernel
theorem dX9_changes_50 : decode cX9_changes 50 = .ok (.isub, 1) := by decide +kernel
theorem dX9_changes_51 : decode cX9_changes 51 = .ok (.putfield 29, 3) := by decide +kernel
theorem dX9_changes_54 : decode cX9_changes 54 = .ok (.iconst 0, 1) := by decide +kernel
theorem dX9_changes_55 : decode cX9_changes 55 = .ok (.istore_n 1, 1) := by decide +kernel
theorem dX9_changes_56 : decode cX9_changes 56 = .ok (.iload_n 1, 1) := by decide +kernel
theorem dX9_changes_57 : decode cX9_changes 57 = .ok (.sipush 266, 3) := by decide +kernel
theorem dX9_changes_60 : decode cX9_changes 60 = .ok (.if_icmp .ge 30, 3) := by decide +kernel
theorem dX9_changes_63 : decode cX9_changes 63 = .ok (.aload_n 0, 1) := by decide +kernel
theorem dX9_changes_64 : decode cX9_changes 64 = .ok (.getfield 13, 3) := by decide +kernel
theorem dX9_changes_67 : decode cX9_changes 67 = .ok (.sipush 266, 3) := by decide +kernel
theorem dX9_changes_70 : decode cX9_changes 70 = .ok (.aload_n 0, 1) := by decide +kernel
theorem dX9_changes_71 : decode cX9_changes 71 = .ok (.getfield 29, 3) := by decide +kernel
theorem dX9_changes_74 : decode cX9_changes 74 = .ok (.imul, 1) := by decide +kernel
theorem dX9_changes_75 : decode cX9_changes 75 = .ok (.iload_n 1, 1) := by decide +kernel
theorem dX9_changes_76 : decode cX9_changes 76 = .ok (.iadd, 1) := by decide +kernel
theorem dX9_changes_77 : decode cX9_changes 77 = .ok (.aload_n 0, 1) := by decide +kernel
theorem dX9_changes_78 : decode cX9_changes 78 = .ok (.getfield 7, 3) := by decide +kernel
theorem dX9_changes_81 : decode cX9_changes 81 = .ok (.iload_n 1, 1) := by decide +kernel
theorem dX9_changes_82 : decode cX9_changes 82 = .ok (.iaload, 1) := by decide +kernel
theorem dX9_changes_83 : decode cX9_changes 83 = .ok (.iastore, 1) := by decide +kernel
theorem dX9_changes_84 : decode cX9_changes 84 = .ok (.iinc 1 1, 3) := by decide +kernel
theorem dX9_changes_87 : decode cX9_changes 87 = .ok (.goto (-31), 3) := by decide +kernel
theorem dX9_changes_90 : decode cX9_changes 90 = .ok (.aload_n 0, 1) := by decide +kernel
theorem dX9_changes_91 : decode cX9_changes 91 = .ok (.dup, 1) := by decide +kernel
theorem dX9_changes_92 : decode cX9_changes 92 = .ok (.getfield 29, 3) := by decide +kernel
theorem dX9_changes_95 : decode cX9_changes 95 = .ok (.iconst 1, 1) := by decide +kernel
theorem dX9_changes_96 : decode cX9_changes 96 = .ok (.iadd, 1) := by decide +kernel
theorem dX9_changes_97 : decode cX9_changes 97 = .ok (.putfield 29, 3) := by decide +kernel
theorem dX9_changes_100 : decode cX9_changes 100 = .ok (.return_, 1) := by decide +kernel
theorem dX9_told_0 : decode cX9_told 0 = .ok (.aload_n 0, 1) := by decide +kernel
theorem dX9_told_1 : decode cX9_told 1 = .ok (.iconst 0, 1) := by decide +kernel
theorem dX9_told_2 : decode cX9_told 2 = .ok (.putfield 25, 3) := by decide +kernel
theorem dX9_told_5 : decode cX9_told 5 = .ok (.iload_n 1, 1) := by decide +kernel
theorem dX9_told_6 : decode cX9_told 6 = .ok (.ireturn, 1) := by decide +kernel
set_option maxRecDepth 20000 in
theorem ggX9_isParrot_X9_in : GoodIn wsX9_isParrot wsX9_in := goodIn_r _ [5] (by decide +kernel) (by decide +kernel)
set_option maxRecDepth 20000 in
theorem gX9_isParrot_X9_in : GoodIn wsX9_isParrot (va_wsS RX9 34 yX9_in wsX9_in) := goodIn_app (goodIn_of _ (by decide +kernel)) ggX9_isParrot_X9_in
theorem dX9_isParrot_0 : decode cX9_isParrot 0 = .ok (.iload_n 0, 1) := by decide +kernel
theorem dX9_isParrot_1 : decode cX9_isParrot 1 = .ok (.i2l, 1) := by decide +kernel
theorem dX9_isParrot_2 : decode cX9_isParrot 2 = .ok (.lconst 0, 1) := by decide +kernel
theorem dX9_isParrot_3 : decode cX9_isParrot 3 = .ok (.ldc2_w 32, 3) := by decide +kernel
theorem dX9_isParrot_6 : decode cX9_isParrot 6 = .ok (.invokestatic 34, 3) := by decide +kernel
theorem dX9_isParrot_9 : decode cX9_isParrot 9 = .ok (.ireturn, 1) := by decide +kernel
theorem dX9_many_0 : decode cX9_many 0 = .ok (.iconst 0, 1) := by decide +kernel
theorem dX9_many_1 : decode cX9_many 1 = .ok (.istore_n 2, 1) := by decide +kernel
theorem dX9_many_2 : decode cX9_many 2 = .ok (.iconst 0, 1) := by decide +kernel
theorem dX9_many_3 : decode cX9_many 3 = .ok (.istore_n 3, 1) := by decide +kernel
theorem dX9_many_4 : decode cX9_many 4 = .ok (.iload_n 3, 1) := by decide +kernel
theorem dX9_many_5 : decode cX9_many 5 = .ok (.bipush 26, 2) := by decide +kernel
theorem dX9_many_7 : decode cX9_many 7 = .ok (.if_icmp .ge 28, 3) := by decide +kernel
theorem dX9_many_10 : decode cX9_many 10 = .ok (.iload_n 2, 1) := by decide +kernel
theorem dX9_many_11 : decode cX9_many 11 = .ok (.aload_n 0, 1) := by decide +kernel
theorem dX9_many_12 : decode cX9_many 12 = .ok (.getfield 7, 3) := by decide +kernel
theorem dX9_many_15 : decode cX9_many 15 = .ok (.iload_n 1, 1) := by decide +kernel
theorem dX9_many_16 : decode cX9_many 16 = .ok (.iload_n 3, 1) := by decide +kernel
theorem dX9_many_17 : decode cX9_many 17 = .ok (.iadd, 1) := by decide +kernel
theorem dX9_many_18 : decode cX9_many 18 = .ok (.iaload, 1) := by decide +kernel
theorem dX9_many_19 : decode cX9_many 19 = .ok (.ifCond .le 7, 3) := by decide +kernel
theorem dX9_many_22 : decode cX9_many 22 = .ok (.iconst 1, 1) := by decide +kernel
theorem dX9_many_23 : decode cX9_many 23 = .ok (.goto 4, 3) := by decide +kernel
theorem dX9_many_26 : decode cX9_many 26 = .ok (.iconst 0, 1) := by decide +kernel
theorem dX9_many_27 : decode cX9_many 27 = .ok (.iadd, 1) := by decide +kernel
theorem dX9_many_28 : decode cX9_many 28 = .ok (.istore_n 2, 1) := by decide +kernel
theorem dX9_many_29 : decode cX9_many 29 = .ok (.iinc 3 1, 3) := by decide +kernel
theorem dX9_many_32 : decode cX9_many 32 = .ok (.goto (-28), 3) := by decide +kernel
theorem dX9_many_35 : decode cX9_many 35 = .ok (.iload_n 2, 1) := by decide +kernel
theorem dX9_many_36 : decode cX9_many 36 = .ok (.ireturn, 1) := by decide +kernel
theorem dX9_sum_0 : decode cX9_sum 0 = .ok (.iconst 0, 1) := by decide +kernel
theorem dX9_sum_1 : decode cX9_sum 1 = .ok (.istore_n 2, 1) := by decide +kernel
theorem dX9_sum_2 : decode cX9_sum 2 = .ok (.iconst 0, 1) := by decide +kernel
theorem dX9_sum_3 : decode cX9_sum 3 = .ok (.istore_n 3, 1) := by decide +kernel
theorem dX9_sum_4 : decode cX9_sum 4 = .ok (.iload_n 3, 1) := by decide +kernel
theorem dX9_sum_5 : decode cX9_sum 5 = .ok (.bipush 26, 2) := by decide +kernel
theorem dX9_sum_7 : decode cX9_sum 7 = .ok (.if_icmp .ge 20, 3) := by decide +kernel
theorem dX9_sum_10 : decode cX9_sum 10 = .ok (.iload_n 2, 1) := by decide +kernel
theorem dX9_sum_11 : decode cX9_sum 11 = .ok (.aload_n 0, 1) := by decide +kernel
theorem dX9_sum_12 : decode cX9_sum 12 = .ok (.getfield 7, 3) := by decide +kernel
theorem dX9_sum_15 : decode cX9_sum 15 = .ok (.iload_n 1, 1) := by decide +kernel
theorem dX9_sum_16 : decode cX9_sum 16 = .ok (.iload_n 3, 1) := by decide +kernel
theorem dX9_sum_17 : decode cX9_sum 17 = .ok (.iadd, 1) := by decide +kernel
theorem dX9_sum_18 : decode cX9_sum 18 = .ok (.iaload, 1) := by decide +kernel
theorem dX9_sum_19 : decode cX9_sum 19 = .ok (.iadd, 1) := by decide +kernel
theorem dX9_sum_20 : decode cX9_sum 20 = .ok (.istore_n 2, 1) := by decide +kernel
theorem dX9_sum_21 : decode cX9_sum 21 = .ok (.iinc 3 1, 3) := by decide +kernel
theorem dX9_sum_24 : decode cX9_sum 24 = .ok (.goto (-20), 3) := by decide +kernel
theorem dX9_sum_27 : decode cX9_sum 27 = .ok (.iload_n 2, 1) := by decide +kernel
theorem dX9_sum_28 : decode cX9_sum 28 = .ok (.ireturn, 1) := by decide +kernel
set_option maxRecDepth 20000 in
theorem ggX9_isFull_X9_many : GoodIn wsX9_isFull wsX9_many := goodIn_r _ [6, 1, 7, 8, 9, 10, 11, 12, 13, 14, 15, 16, 17, 18] (by decide +kernel) (by decide +kernel)
set_option maxRecDepth 20000 in
theorem gX9_isFull_X9_many : GoodIn wsX9_isFull (wsV RX9 38 RX9 yX9_many wsX9_many) := goodIn_app (goodIn_of _ (by decide +kernel)) ggX9_isFull_X9_many
theorem dX9_isFull_0 : decode cX9_isFull 0 = .ok (.aload_n 0, 1) := by decide +kernel
theorem dX9_isFull_1 : decode cX9_isFull 1 = .ok (.iload_n 1, 1) := by decide +kernel
theorem dX9_isFull_2 : decode cX9_isFull 2 = .ok (.bipush 26, 2) := by decide +kernel
theorem dX9_isFull_4 : decode cX9_isFull 4 = .ok (.iadd, 1) := by decide +kernel
theorem dX9_isFull_5 : decode cX9_isFull 5 = .ok (.invokevirtual 38, 3) := by decide +kernel
theorem dX9_isFull_8 : decode cX9_isFull 8 = .ok (.aload_n 0, 1) := by decide +kernel
theorem dX9_isFull_9 : decode cX9_isFull 9 = .ok (.getfield 7, 3) := by decide +kernel
theorem dX9_isFull_12 : decode cX9_isFull 12 = .ok (.sipush 264, 3) := by decide +kernel
theorem dX9_isFull_15 : decode cX9_isFull 15 = .ok (.iaload, 1) := by decide +kernel
theorem dX9_isFull_16 : decode cX9_isFull 16 = .ok (.if_icmp .le 7, 3) := by decide +kernel
theorem dX9_isFull_19 : decode cX9_isFull 19 = .ok (.iconst 1, 1) := by decide +kernel
theorem dX9_isFull_20 : decode cX9_isFull 20 = .ok (.goto 4, 3) := by decide +kernel
theorem dX9_isFull_23 : decode cX9_isFull 23 = .ok (.iconst 0, 1) := by decide +kernel
theorem dX9_isFull_24 : decode cX9_isFull 24 = .ok (.ireturn, 1) := by decide +kernel
theorem dX9_leastOf_0 : decode cX9_leastOf 0 = .ok (.iconst (-1), 1) := by decide +kernel
theorem dX9_leastOf_1 : decode cX9_leastOf 1 = .ok (.istore_n 2, 1) := by decide +kernel
theorem dX9_leastOf_2 : decode cX9_leastOf 2 = .ok (.iconst 0, 1) := by decide +kernel
theorem dX9_leastOf_3 : decode cX9_leastOf 3 = .ok (.istore_n 3, 1) := by decide +kernel
theorem dX9_leastOf_4 : decode cX9_leastOf 4 = .ok (.iload_n 3, 1) := by decide +kernel
theorem dX9_leastOf_5 : decode cX9_leastOf 5 = .ok (.bipush 26, 2) := by decide +kernel
theorem dX9_leastOf_7 : decode cX9_leastOf 7 = .ok (.if_icmp .ge 107, 3) := by decide +kernel
theorem dX9_leastOf_10 : decode cX9_leastOf 10 = .ok (.aload_n 0, 1) := by decide +kernel
theorem dX9_leastOf_11 : decode cX9_leastOf 11 = .ok (.getfield 7, 3) := by decide +kernel
theorem dX9_leastOf_14 : decode cX9_leastOf 14 = .ok (.iload_n 1, 1) := by decide +kernel
theorem dX9_leastOf_15 : decode cX9_leastOf 15 = .ok (.bipush 26, 2) := by decide +kernel
theorem dX9_leastOf_17 : decode cX9_leastOf 17 = .ok (.iadd, 1) := by decide +kernel
theorem dX9_leastOf_18 : decode cX9_leastOf 18 = .ok (.iload_n 3, 1) := by decide +kernel
theorem dX9_leastOf_19 : decode cX9_leastOf 19 = .ok (.iadd, 1) := by decide +kernel
theorem dX9_leastOf_20 : decode cX9_leastOf 20 = .ok (.iaload, 1) := by decide +kernel
theorem dX9_leastOf_21 : decode cX9_leastOf 21 = .ok (.istore 4, 2) := by decide +kernel
theorem dX9_leastOf_23 : decode cX9_leastOf 23 = .ok (.iload 4, 2) := by decide +kernel
theorem dX9_leastOf_25 : decode cX9_leastOf 25 = .ok (.ifCond .le 69, 3) := by decide +kernel
theorem dX9_leastOf_28 : decode cX9_leastOf 28 = .ok (.iload_n 2, 1) := by decide +kernel
theorem dX9_leastOf_29 : decode cX9_leastOf 29 = .ok (.iconst (-1), 1) := by decide +kernel
theorem dX9_leastOf_30 : decode cX9_leastOf 30 = .ok (.if_icmp .eq 60, 3) := by decide +kernel
theorem dX9_leastOf_33 : decode cX9_leastOf 33 = .ok (.iload 4, 2) := by decide +kernel
theorem dX9_leastOf_35 : decode cX9_leastOf 35 = .ok (.aload_n 0, 1) := by decide +kernel
theorem dX9_leastOf_36 : decode cX9_leastOf 36 = .ok (.getfield 7, 3) := by decide +kernel
theorem dX9_leastOf_39 : decode cX9_leastOf 39 = .ok (.iload_n 1, 1) := by decide +kernel
theorem dX9_leastOf_40 : decode cX9_leastOf 40 = .ok (.bipush 26, 2) := by decide +kernel
theorem dX9_leastOf_42 : decode cX9_leastOf 42 = .ok (.iadd, 1) := by decide +kernel
theorem dX9_leastOf_43 : decode cX9_leastOf 43 = .ok (.iload_n 2, 1) := by decide +kernel
theorem dX9_leastOf_44 : decode cX9_leastOf 44 = .ok (.iadd, 1) := by decide +kernel
theorem dX9_leastOf_45 : decode cX9_leastOf 45 = .ok (.iaload, 1) := by decide +kernel
theorem dX9_leastOf_46 : decode cX9_leastOf 46 = .ok (.if_icmp .lt 44, 3) := by decide +kernel
theorem dX9_leastOf_49 : decode cX9_leastOf 49 = .ok (.iload 4, 2) := by decide +kernel
theorem dX9_leastOf_51 : decode cX9_leastOf 51 = .ok (.aload_n 0, 1) := by decide +kernel
theorem dX9_leastOf_52 : decode cX9_leastOf 52 = .ok (.getfield 7, 3) := by decide +kernel
theorem dX9_leastOf_55 : decode cX9_leastOf 55 = .ok (.iload_n 1, 1) := by decide +kernel
theorem dX9_leastOf_56 : decode cX9_leastOf 56 = .ok (.bipush 26, 2) := by decide +kernel
theorem dX9_leastOf_58 : decode cX9_leastOf 58 = .ok (.iadd, 1) := by decide +kernel
theorem dX9_leastOf_59 : decode cX9_leastOf 59 = .ok (.iload_n 2, 1) := by decide +kernel
theorem dX9_leastOf_60 : decode cX9_leastOf 60 = .ok (.iadd, 1) := by decide +kernel
theorem dX9_leastOf_61 : decode cX9_leastOf 61 = .ok (.iaload, 1) := by decide +kernel
theorem dX9_leastOf_62 : decode cX9_leastOf 62 = .ok (.if_icmp .ne 32, 3) := by decide +kernel
theorem dX9_leastOf_65 : decode cX9_leastOf 65 = .ok (.aload_n 0, 1) := by decide +kernel
theorem dX9_leastOf_66 : decode cX9_leastOf 66 = .ok (.getfield 7, 3) := by decide +kernel
theorem dX9_leastOf_69 : decode cX9_leastOf 69 = .ok (.iload_n 1, 1) := by decide +kernel
theorem dX9_leastOf_70 : decode cX9_leastOf 70 = .ok (.bipush 78, 2) := by decide +kernel
theorem dX9_leastOf_72 : decode cX9_leastOf 72 = .ok (.iadd, 1) := by decide +kernel
theorem dX9_leastOf_73 : decode cX9_leastOf 73 = .ok (.iload_n 3, 1) := by decide +kernel
theorem dX9_leastOf_74 : decode cX9_leastOf 74 = .ok (.iadd, 1) := by decide +kernel
theorem dX9_leastOf_75 : decode cX9_leastOf 75 = .ok (.iaload, 1) := by decide +kernel
theorem dX9_leastOf_76 : decode cX9_leastOf 76 = .ok (.aload_n 0, 1) := by decide +kernel
theorem dX9_leastOf_77 : decode cX9_leastOf 77 = .ok (.getfield 7, 3) := by decide +kernel
theorem dX9_leastOf_80 : decode cX9_leastOf 80 = .ok (.iload_n 1, 1) := by decide +kernel
theorem dX9_leastOf_81 : decode cX9_leastOf 81 = .ok (.bipush 78, 2) := by decide +kernel
theorem dX9_leastOf_83 : decode cX9_leastOf 83 = .ok (.iadd, 1) := by decide +kernel
theorem dX9_leastOf_84 : decode cX9_leastOf 84 = .ok (.iload_n 2, 1) := by decide +kernel
theorem dX9_leastOf_85 : decode cX9_leastOf 85 = .ok (.iadd, 1) := by decide +kernel
theorem dX9_leastOf_86 : decode cX9_leastOf 86 = .ok (.iaload, 1) := by decide +kernel
theorem dX9_leastOf_87 : decode cX9_leastOf 87 = .ok (.if_icmp .ge 7, 3) := by decide +kernel
theorem dX9_leastOf_90 : decode cX9_leastOf 90 = .ok (.iconst 1, 1) := by decide +kernel
theorem dX9_leastOf_91 : decode cX9_leastOf 91 = .ok (.goto 4, 3) := by decide +kernel
theorem dX9_leastOf_94 : decode cX9_leastOf 94 = .ok (.iconst 0, 1) := by decide +kernel
theorem dX9_leastOf_95 : decode cX9_leastOf 95 = .ok (.istore 5, 2) := by decide +kernel
theorem dX9_leastOf_97 : decode cX9_leastOf 97 = .ok (.iload 5, 2) := by decide +kernel
theorem dX9_leastOf_99 : decode cX9_leastOf 99 = .ok (.ifCond .eq 7, 3) := by decide +kernel
theorem dX9_leastOf_102 : decode cX9_leastOf 102 = .ok (.iload_n 3, 1) := by decide +kernel
theorem dX9_leastOf_103 : decode cX9_leastOf 103 = .ok (.goto 4, 3) := by decide +kernel
theorem dX9_leastOf_106 : decode cX9_leastOf 106 = .ok (.iload_n 2, 1) := by decide +kernel
theorem dX9_leastOf_107 : decode cX9_leastOf 107 = .ok (.istore_n 2, 1) := by decide +kernel
theorem dX9_leastOf_108 : decode cX9_leastOf 108 = .ok (.iinc 3 1, 3) := by decide +kernel
theorem dX9_leastOf_111 : decode cX9_leastOf 111 = .ok (.goto (-107), 3) := by decide +kernel
theorem dX9_leastOf_114 : decode cX9_leastOf 114 = .ok (.iload_n 2, 1) := by decide +kernel
theorem dX9_leastOf_115 : decode cX9_leastOf 115 = .ok (.ireturn, 1) := by decide +kernel
set_option maxRecDepth 20000 in
theorem ggX9_floorOf_X9_isFull : GoodIn wsX9_floorOf wsX9_isFull := goodIn_r _ [6, 1, 7, 8, 9, 5, 10, 15, 16, 17, 18, 19, 20, 21, 22, 23, 24, 25, 26] (by decide +kernel) (by decide +kernel)
set_option maxRecDepth 20000 in
theorem gX9_floorOf_X9_isFull : GoodIn wsX9_floorOf (wsV RX9 42 RX9 yX9_isFull wsX9_isFull) := goodIn_app (goodIn_of _ (by decide +kernel)) ggX9_floorOf_X9_isFull
set_option maxRecDepth 20000 in
theorem ggX9_floorOf_X9_leastOf : GoodIn wsX9_floorOf wsX9_leastOf := goodIn_r _ [14, 1, 15, 16, 17, 18, 19, 20, 21, 22, 23, 24, 25, 26] (by decide +kernel) (by decide +kernel)
set_option maxRecDepth 20000 in
theorem gX9_floorOf_X9_leastOf : GoodIn wsX9_floorOf (wsV RX9 46 RX9 yX9_leastOf wsX9_leastOf) := goodIn_app (goodIn_of _ (by decide +kernel)) ggX9_floorOf_X9_leastOf
theorem dX9_floorOf_0 : decode cX9_floorOf 0 = .ok (.aload_n 0, 1) := by decide +kernel
theorem dX9_floorOf_1 : decode cX9_floorOf 1 = .ok (.iload_n 1, 1) := by decide +kernel
theorem dX9_floorOf_2 : decode cX9_floorOf 2 = .ok (.invokevirtual 42, 3) := by decide +kernel
theorem dX9_floorOf_5 : decode cX9_floorOf 5 = .ok (.ifCond .eq 21, 3) := by decide +kernel
theorem dX9_floorOf_8 : decode cX9_floorOf 8 = .ok (.aload_n 0, 1) := by decide +kernel
theorem dX9_floorOf_9 : decode cX9_floorOf 9 = .ok (.getfield 7, 3) := by decide +kernel
theorem dX9_floorOf_12 : decode cX9_floorOf 12 = .ok (.iload_n 1, 1) := by decide +kernel
theorem dX9_floorOf_13 : decode cX9_floorOf 13 = .ok (.bipush 26, 2) := by decide +kernel
theorem dX9_floorOf_15 : decode cX9_floorOf 15 = .ok (.iadd, 1) := by decide +kernel
theorem dX9_floorOf_16 : decode cX9_floorOf 16 = .ok (.aload_n 0, 1) := by decide +kernel
theorem dX9_floorOf_17 : decode cX9_floorOf 17 = .ok (.iload_n 1, 1) := by decide +kernel
theorem dX9_floorOf_18 : decode cX9_floorOf 18 = .ok (.invokevirtual 46, 3) := by decide +kernel
theorem dX9_floorOf_21 : decode cX9_floorOf 21 = .ok (.iadd, 1) := by decide +kernel
theorem dX9_floorOf_22 : decode cX9_floorOf 22 = .ok (.iaload, 1) := by decide +kernel
theorem dX9_floorOf_23 : decode cX9_floorOf 23 = .ok (.goto 4, 3) := by decide +kernel
theorem dX9_floorOf_26 : decode cX9_floorOf 26 = .ok (.iconst 0, 1) := by decide +kernel
theorem dX9_floorOf_27 : decode cX9_floorOf 27 = .ok (.ireturn, 1) := by decide +kernel
set_option maxRecDepth 20000 in
theorem ggX9_estimateBy_X9_floorOf : GoodIn wsX9_estimateBy wsX9_floorOf := goodIn_r _ [6, 1, 7, 8, 9, 5, 10, 11, 12, 13, 14, 15, 16, 17, 18, 19, 20, 21, 22, 23, 24, 25, 26, 27, 28, 29, 30] (by decide +kernel) (by decide +kernel)
set_option maxRecDepth 20000 in
theorem gX9_estimateBy_X9_floorOf : GoodIn wsX9_estimateBy (wsV RX9 49 RX9 yX9_floorOf wsX9_floorOf) := goodIn_app (goodIn_of _ (by decide +kernel)) ggX9_estimateBy_X9_floorOf
theorem dX9_estimateBy_0 : decode cX9_estimateBy 0 = .ok (.aload_n 0, 1) := by decide +kernel
theorem dX9_estimateBy_1 : decode cX9_estimateBy 1 = .ok (.getfield 7, 3) := by decide +kernel
theorem dX9_estimateBy_4 : decode cX9_estimateBy 4 = .ok (.iload_n 1, 1) := by decide +kernel
theorem dX9_estimateBy_5 : decode cX9_estimateBy 5 = .ok (.bipush 26, 2) := by decide +kernel
theorem dX9_estimateBy_7 : decode cX9_estimateBy 7 = .ok (.iadd, 1) := by decide +kernel
theorem dX9_estimateBy_8 : decode cX9_estimateBy 8 = .ok (.iload_n 2, 1) := by decide +kernel
theorem dX9_estimateBy_9 : decode cX9_estimateBy 9 = .ok (.iadd, 1) := by decide +kernel
theorem dX9_estimateBy_10 : decode cX9_estimateBy 10 = .ok (.iaload, 1) := by decide +kernel
theorem dX9_estimateBy_11 : decode cX9_estimateBy 11 = .ok (.istore_n 3, 1) := by decide +kernel
theorem dX9_estimateBy_12 : decode cX9_estimateBy 12 = .ok (.iload_n 3, 1) := by decide +kernel
theorem dX9_estimateBy_13 : decode cX9_estimateBy 13 = .ok (.ifCond .le 7, 3) := by decide +kernel
theorem dX9_estimateBy_16 : decode cX9_estimateBy 16 = .ok (.iload_n 3, 1) := by decide +kernel
theorem dX9_estimateBy_17 : decode cX9_estimateBy 17 = .ok (.goto 8, 3) := by decide +kernel
theorem dX9_estimateBy_20 : decode cX9_estimateBy 20 = .ok (.aload_n 0, 1) := by decide +kernel
theorem dX9_estimateBy_21 : decode cX9_estimateBy 21 = .ok (.iload_n 1, 1) := by decide +kernel
theorem dX9_estimateBy_22 : decode cX9_estimateBy 22 = .ok (.invokevirtual 49, 3) := by decide +kernel
theorem dX9_estimateBy_25 : decode cX9_estimateBy 25 = .ok (.ireturn, 1) := by decide +kernel
theorem dX9_sureBy_0 : decode cX9_sureBy 0 = .ok (.aload_n 0, 1) := by decide +kernel
theorem dX9_sureBy_1 : decode cX9_sureBy 1 = .ok (.getfield 7, 3) := by decide +kernel
theorem dX9_sureBy_4 : decode cX9_sureBy 4 = .ok (.iload_n 1, 1) := by decide +kernel
theorem dX9_sureBy_5 : decode cX9_sureBy 5 = .ok (.bipush 26, 2) := by decide +kernel
theorem dX9_sureBy_7 : decode cX9_sureBy 7 = .ok (.iadd, 1) := by decide +kernel
theorem dX9_sureBy_8 : decode cX9_sureBy 8 = .ok (.iload_n 2, 1) := by decide +kernel
theorem dX9_sureBy_9 : decode cX9_sureBy 9 = .ok (.iadd, 1) := by decide +kernel
theorem dX9_sureBy_10 : decode cX9_sureBy 10 = .ok (.iaload, 1) := by decide +kernel
theorem dX9_sureBy_11 : decode cX9_sureBy 11 = .ok (.aload_n 0, 1) := by decide +kernel
theorem dX9_sureBy_12 : decode cX9_sureBy 12 = .ok (.getfield 7, 3) := by decide +kernel
theorem dX9_sureBy_15 : decode cX9_sureBy 15 = .ok (.iload_n 1, 1) := by decide +kernel
theorem dX9_sureBy_16 : decode cX9_sureBy 16 = .ok (.bipush 52, 2) := by decide +kernel
theorem dX9_sureBy_18 : decode cX9_sureBy 18 = .ok (.iadd, 1) := by decide +kernel
theorem dX9_sureBy_19 : decode cX9_sureBy 19 = .ok (.iload_n 2, 1) := by decide +kernel
theorem dX9_sureBy_20 : decode cX9_sureBy 20 = .ok (.iadd, 1) := by decide +kernel
theorem dX9_sureBy_21 : decode cX9_sureBy 21 = .ok (.iaload, 1) := by decide +kernel
theorem dX9_sureBy_22 : decode cX9_sureBy 22 = .ok (.isub, 1) := by decide +kernel
theorem dX9_sureBy_23 : decode cX9_sureBy 23 = .ok (.ireturn, 1) := by decide +kernel
set_option maxRecDepth 20000 in
theorem ggX9_hears_X9_isFull : GoodIn wsX9_hears wsX9_isFull := goodIn_r _ [6, 1, 7, 8, 9, 5, 10, 19, 20, 21, 22, 23, 24, 25, 26, 27, 28, 29, 30] (by decide +kernel) (by decide +kernel)
set_option maxRecDepth 20000 in
theorem gX9_hears_X9_isFull : GoodIn wsX9_hears (wsV RX9 42 RX9 yX9_isFull wsX9_isFull) := goodIn_app (goodIn_of _ (by decide +kernel)) ggX9_hears_X9_isFull
set_option maxRecDepth 20000 in
theorem ggX9_hears_X9_leastOf : GoodIn wsX9_hears wsX9_leastOf := goodIn_r _ [14, 1, 19, 20, 21, 22, 23, 24, 25, 26, 27, 28, 29, 30] (by decide +kernel) (by decide +kernel)
set_option maxRecDepth 20000 in
theorem gX9_hears_X9_leastOf : GoodIn wsX9_hears (wsV RX9 46 RX9 yX9_leastOf wsX9_leastOf) := goodIn_app (goodIn_of _ (by decide +kernel)) ggX9_hears_X9_leastOf
set_option maxRecDepth 20000 in
theorem ggX9_hears_X9_many : GoodIn wsX9_hears wsX9_many := goodIn_r _ [10, 1, 19, 20, 21, 22, 23, 24, 25, 26, 27, 28, 29, 30] (by decide +kernel) (by decide +kernel)
set_option maxRecDepth 20000 in
theorem gX9_hears_X9_many : GoodIn wsX9_hears (wsV RX9 38 RX9 yX9_many wsX9_many) := goodIn_app (goodIn_of _ (by decide +kernel)) ggX9_hears_X9_many
set_option maxRecDepth 20000 in
theorem ggX9_hears_X9_wears : GoodIn wsX9_hears wsX9_wears := goodIn_r _ [18, 1, 19, 20, 21, 22, 23, 24, 25, 26, 27, 28, 29, 30] (by decide +kernel) (by decide +kernel)
set_option maxRecDepth 20000 in
theorem gX9_hears_X9_wears : GoodIn wsX9_hears (wsV RX9 52 RX9 yX9_wears wsX9_wears) := goodIn_app (goodIn_of _ (by decide +kernel)) ggX9_hears_X9_wears
theorem dX9_hears_0 : decode cX9_hears 0 = .ok (.aload_n 0, 1) := by decide +kernel
theorem dX9_hears_1 : decode cX9_hears 1 = .ok (.getfield 7, 3) := by decide +kernel
theorem dX9_hears_4 : decode cX9_hears 4 = .ok (.iconst 0, 1) := by decide +kernel
theorem dX9_hears_5 : decode cX9_hears 5 = .ok (.iload_n 1, 1) := by decide +kernel
theorem dX9_hears_6 : decode cX9_hears 6 = .ok (.iadd, 1) := by decide +kernel
theorem dX9_hears_7 : decode cX9_hears 7 = .ok (.dup2, 1) := by decide +kernel
theorem dX9_hears_8 : decode cX9_hears 8 = .ok (.iaload, 1) := by decide +kernel
theorem dX9_hears_9 : decode cX9_hears 9 = .ok (.iconst 1, 1) := by decide +kernel
theorem dX9_hears_10 : decode cX9_hears 10 = .ok (.iadd, 1) := by decide +kernel
theorem dX9_hears_11 : decode cX9_hears 11 = .ok (.iastore, 1) := by decide +kernel
theorem dX9_hears_12 : decode cX9_hears 12 = .ok (.aload_n 0, 1) := by decide +kernel
theorem dX9_hears_13 : decode cX9_hears 13 = .ok (.getfield 7, 3) := by decide +kernel
theorem dX9_hears_16 : decode cX9_hears 16 = .ok (.bipush 26, 2) := by decide +kernel
theorem dX9_hears_18 : decode cX9_hears 18 = .ok (.iload_n 1, 1) := by decide +kernel
theorem dX9_hears_19 : decode cX9_hears 19 = .ok (.iadd, 1) := by decide +kernel
theorem dX9_hears_20 : decode cX9_hears 20 = .ok (.iaload, 1) := by decide +kernel
theorem dX9_hears_21 : decode cX9_hears 21 = .ok (.ifCond .ne 83, 3) := by decide +kernel
theorem dX9_hears_24 : decode cX9_hears 24 = .ok (.aload_n 0, 1) := by decide +kernel
theorem dX9_hears_25 : decode cX9_hears 25 = .ok (.iconst 0, 1) := by decide +kernel
theorem dX9_hears_26 : decode cX9_hears 26 = .ok (.invokevirtual 42, 3) := by decide +kernel
theorem dX9_hears_29 : decode cX9_hears 29 = .ok (.ifCond .eq 75, 3) := by decide +kernel
theorem dX9_hears_32 : decode cX9_hears 32 = .ok (.aload_n 0, 1) := by decide +kernel
theorem dX9_hears_33 : decode cX9_hears 33 = .ok (.iconst 0, 1) := by decide +kernel
theorem dX9_hears_34 : decode cX9_hears 34 = .ok (.invokevirtual 46, 3) := by decide +kernel
theorem dX9_hears_37 : decode cX9_hears 37 = .ok (.istore_n 2, 1) := by decide +kernel
theorem dX9_hears_38 : decode cX9_hears 38 = .ok (.aload_n 0, 1) := by decide +kernel
theorem dX9_hears_39 : decode cX9_hears 39 = .ok (.getfield 7, 3) := by decide +kernel
theorem dX9_hears_42 : decode cX9_hears 42 = .ok (.bipush 52, 2) := by decide +kernel
theorem dX9_hears_44 : decode cX9_hears 44 = .ok (.iload_n 1, 1) := by decide +kernel
theorem dX9_hears_45 : decode cX9_hears 45 = .ok (.iadd, 1) := by decide +kernel
theorem dX9_hears_46 : decode cX9_hears 46 = .ok (.aload_n 0, 1) := by decide +kernel
theorem dX9_hears_47 : decode cX9_hears 47 = .ok (.getfield 7, 3) := by decide +kernel
theorem dX9_hears_50 : decode cX9_hears 50 = .ok (.bipush 26, 2) := by decide +kernel
theorem dX9_hears_52 : decode cX9_hears 52 = .ok (.iload_n 2, 1) := by decide +kernel
theorem dX9_hears_53 : decode cX9_hears 53 = .ok (.iadd, 1) := by decide +kernel
theorem dX9_hears_54 : decode cX9_hears 54 = .ok (.iaload, 1) := by decide +kernel
theorem dX9_hears_55 : decode cX9_hears 55 = .ok (.iastore, 1) := by decide +kernel
theorem dX9_hears_56 : decode cX9_hears 56 = .ok (.aload_n 0, 1) := by decide +kernel
theorem dX9_hears_57 : decode cX9_hears 57 = .ok (.getfield 7, 3) := by decide +kernel
theorem dX9_hears_60 : decode cX9_hears 60 = .ok (.bipush 26, 2) := by decide +kernel
theorem dX9_hears_62 : decode cX9_hears 62 = .ok (.iload_n 1, 1) := by decide +kernel
theorem dX9_hears_63 : decode cX9_hears 63 = .ok (.iadd, 1) := by decide +kernel
theorem dX9_hears_64 : decode cX9_hears 64 = .ok (.aload_n 0, 1) := by decide +kernel
theorem dX9_hears_65 : decode cX9_hears 65 = .ok (.getfield 7, 3) := by decide +kernel
theorem dX9_hears_68 : decode cX9_hears 68 = .ok (.bipush 26, 2) := by decide +kernel
theorem dX9_hears_70 : decode cX9_hears 70 = .ok (.iload_n 2, 1) := by decide +kernel
theorem dX9_hears_71 : decode cX9_hears 71 = .ok (.iadd, 1) := by decide +kernel
theorem dX9_hears_72 : decode cX9_hears 72 = .ok (.iaload, 1) := by decide +kernel
theorem dX9_hears_73 : decode cX9_hears 73 = .ok (.iastore, 1) := by decide +kernel
theorem dX9_hears_74 : decode cX9_hears 74 = .ok (.aload_n 0, 1) := by decide +kernel
theorem dX9_hears_75 : decode cX9_hears 75 = .ok (.getfield 7, 3) := by decide +kernel
theorem dX9_hears_78 : decode cX9_hears 78 = .ok (.bipush 26, 2) := by decide +kernel
theorem dX9_hears_80 : decode cX9_hears 80 = .ok (.iload_n 2, 1) := by decide +kernel
theorem dX9_hears_81 : decode cX9_hears 81 = .ok (.iadd, 1) := by decide +kernel
theorem dX9_hears_82 : decode cX9_hears 82 = .ok (.iconst 0, 1) := by decide +kernel
theorem dX9_hears_83 : decode cX9_hears 83 = .ok (.iastore, 1) := by decide +kernel
theorem dX9_hears_84 : decode cX9_hears 84 = .ok (.aload_n 0, 1) := by decide +kernel
theorem dX9_hears_85 : decode cX9_hears 85 = .ok (.getfield 7, 3) := by decide +kernel
theorem dX9_hears_88 : decode cX9_hears 88 = .ok (.bipush 52, 2) := by decide +kernel
theorem dX9_hears_90 : decode cX9_hears 90 = .ok (.iload_n 2, 1) := by decide +kernel
theorem dX9_hears_91 : decode cX9_hears 91 = .ok (.iadd, 1) := by decide +kernel
theorem dX9_hears_92 : decode cX9_hears 92 = .ok (.iconst 0, 1) := by decide +kernel
theorem dX9_hears_93 : decode cX9_hears 93 = .ok (.iastore, 1) := by decide +kernel
theorem dX9_hears_94 : decode cX9_hears 94 = .ok (.aload_n 0, 1) := by decide +kernel
theorem dX9_hears_95 : decode cX9_hears 95 = .ok (.getfield 7, 3) := by decide +kernel
theorem dX9_hears_98 : decode cX9_hears 98 = .ok (.bipush 78, 2) := by decide +kernel
theorem dX9_hears_100 : decode cX9_hears 100 = .ok (.iload_n 2, 1) := by decide +kernel
theorem dX9_hears_101 : decode cX9_hears 101 = .ok (.iadd, 1) := by decide +kernel
theorem dX9_hears_102 : decode cX9_hears 102 = .ok (.iconst 0, 1) := by decide +kernel
theorem dX9_hears_103 : decode cX9_hears 103 = .ok (.iastore, 1) := by decide +kernel
theorem dX9_hears_104 : decode cX9_hears 104 = .ok (.aload_n 0, 1) := by decide +kernel
theorem dX9_hears_105 : decode cX9_hears 105 = .ok (.getfield 7, 3) := by decide +kernel
theorem dX9_hears_108 : decode cX9_hears 108 = .ok (.bipush 26, 2) := by decide +kernel
theorem dX9_hears_110 : decode cX9_hears 110 = .ok (.iload_n 1, 1) := by decide +kernel
theorem dX9_hears_111 : decode cX9_hears 111 = .ok (.iadd, 1) := by decide +kernel
theorem dX9_hears_112 : decode cX9_hears 112 = .ok (.dup2, 1) := by decide +kernel
theorem dX9_hears_113 : decode cX9_hears 113 = .ok (.iaload, 1) := by decide +kernel
theorem dX9_hears_114 : decode cX9_hears 114 = .ok (.iconst 1, 1) := by decide +kernel
theorem dX9_hears_115 : decode cX9_hears 115 = .ok (.iadd, 1) := by decide +kernel
theorem dX9_hears_116 : decode cX9_hears 116 = .ok (.iastore, 1) := by decide +kernel
theorem dX9_hears_117 : decode cX9_hears 117 = .ok (.aload_n 0, 1) := by decide +kernel
theorem dX9_hears_118 : decode cX9_hears 118 = .ok (.getfield 7, 3) := by decide +kernel
theorem dX9_hears_121 : decode cX9_hears 121 = .ok (.sipush 131, 3) := by decide +kernel
theorem dX9_hears_124 : decode cX9_hears 124 = .ok (.dup2, 1) := by decide +kernel
theorem dX9_hears_125 : decode cX9_hears 125 = .ok (.iaload, 1) := by decide +kernel
theorem dX9_hears_126 : decode cX9_hears 126 = .ok (.iconst 1, 1) := by decide +kernel
theorem dX9_hears_127 : decode cX9_hears 127 = .ok (.iadd, 1) := by decide +kernel
theorem dX9_hears_128 : decode cX9_hears 128 = .ok (.iastore, 1) := by decide +kernel
theorem dX9_hears_129 : decode cX9_hears 129 = .ok (.aload_n 0, 1) := by decide +kernel
theorem dX9_hears_130 : decode cX9_hears 130 = .ok (.getfield 7, 3) := by decide +kernel
theorem dX9_hears_133 : decode cX9_hears 133 = .ok (.bipush 78, 2) := by decide +kernel
theorem dX9_hears_135 : decode cX9_hears 135 = .ok (.iload_n 1, 1) := by decide +kernel
theorem dX9_hears_136 : decode cX9_hears 136 = .ok (.iadd, 1) := by decide +kernel
theorem dX9_hears_137 : decode cX9_hears 137 = .ok (.aload_n 0, 1) := by decide +kernel
theorem dX9_hears_138 : decode cX9_hears 138 = .ok (.getfield 7, 3) := by decide +kernel
theorem dX9_hears_141 : decode cX9_hears 141 = .ok (.sipush 131, 3) := by decide +kernel
theorem dX9_hears_144 : decode cX9_hears 144 = .ok (.iaload, 1) := by decide +kernel
theorem dX9_hears_145 : decode cX9_hears 145 = .ok (.iastore, 1) := by decide +kernel
theorem dX9_hears_146 : decode cX9_hears 146 = .ok (.aload_n 0, 1) := by decide +kernel
theorem dX9_hears_147 : decode cX9_hears 147 = .ok (.getfield 7, 3) := by decide +kernel
theorem dX9_hears_150 : decode cX9_hears 150 = .ok (.bipush 104, 2) := by decide +kernel
theorem dX9_hears_152 : decode cX9_hears 152 = .ok (.iload_n 1, 1) := by decide +kernel
theorem dX9_hears_153 : decode cX9_hears 153 = .ok (.iadd, 1) := by decide +kernel
theorem dX9_hears_154 : decode cX9_hears 154 = .ok (.iaload, 1) := by decide +kernel
theorem dX9_hears_155 : decode cX9_hears 155 = .ok (.ifCond .gt 20, 3) := by decide +kernel
theorem dX9_hears_158 : decode cX9_hears 158 = .ok (.aload_n 0, 1) := by decide +kernel
theorem dX9_hears_159 : decode cX9_hears 159 = .ok (.bipush 104, 2) := by decide +kernel
theorem dX9_hears_161 : decode cX9_hears 161 = .ok (.invokevirtual 38, 3) := by decide +kernel
theorem dX9_hears_164 : decode cX9_hears 164 = .ok (.aload_n 0, 1) := by decide +kernel
theorem dX9_hears_165 : decode cX9_hears 165 = .ok (.getfield 7, 3) := by decide +kernel
theorem dX9_hears_168 : decode cX9_hears 168 = .ok (.sipush 264, 3) := by decide +kernel
theorem dX9_hears_171 : decode cX9_hears 171 = .ok (.iaload, 1) := by decide +kernel
theorem dX9_hears_172 : decode cX9_hears 172 = .ok (.if_icmp .ge 19, 3) := by decide +kernel
theorem dX9_hears_175 : decode cX9_hears 175 = .ok (.aload_n 0, 1) := by decide +kernel
theorem dX9_hears_176 : decode cX9_hears 176 = .ok (.getfield 7, 3) := by decide +kernel
theorem dX9_hears_179 : decode cX9_hears 179 = .ok (.bipush 104, 2) := by decide +kernel
theorem dX9_hears_181 : decode cX9_hears 181 = .ok (.iload_n 1, 1) := by decide +kernel
theorem dX9_hears_182 : decode cX9_hears 182 = .ok (.iadd, 1) := by decide +kernel
theorem dX9_hears_183 : decode cX9_hears 183 = .ok (.dup2, 1) := by decide +kernel
theorem dX9_hears_184 : decode cX9_hears 184 = .ok (.iaload, 1) := by decide +kernel
theorem dX9_hears_185 : decode cX9_hears 185 = .ok (.iconst 1, 1) := by decide +kernel
theorem dX9_hears_186 : decode cX9_hears 186 = .ok (.iadd, 1) := by decide +kernel
theorem dX9_hears_187 : decode cX9_hears 187 = .ok (.iastore, 1) := by decide +kernel
theorem dX9_hears_188 : decode cX9_hears 188 = .ok (.goto 20, 3) := by decide +kernel
theorem dX9_hears_191 : decode cX9_hears 191 = .ok (.aload_n 0, 1) := by decide +kernel
theorem dX9_hears_192 : decode cX9_hears 192 = .ok (.iconst 1, 1) := by decide +kernel
theorem dX9_hears_193 : decode cX9_hears 193 = .ok (.invokevirtual 52, 3) := by decide +kernel
theorem dX9_hears_196 : decode cX9_hears 196 = .ok (.aload_n 0, 1) := by decide +kernel
theorem dX9_hears_197 : decode cX9_hears 197 = .ok (.getfield 7, 3) := by decide +kernel
theorem dX9_hears_200 : decode cX9_hears 200 = .ok (.sipush 130, 3) := by decide +kernel
theorem dX9_hears_203 : decode cX9_hears 203 = .ok (.dup2, 1) := by decide +kernel
theorem dX9_hears_204 : decode cX9_hears 204 = .ok (.iaload, 1) := by decide +kernel
theorem dX9_hears_205 : decode cX9_hears 205 = .ok (.iconst 1, 1) := by decide +kernel
theorem dX9_hears_206 : decode cX9_hears 206 = .ok (.iadd, 1) := by decide +kernel
theorem dX9_hears_207 : decode cX9_hears 207 = .ok (.iastore, 1) := by decide +kernel
theorem dX9_hears_208 : decode cX9_hears 208 = .ok (.return_, 1) := by decide +kernel
theorem dX9_wears_0 : decode cX9_wears 0 = .ok (.iconst 0, 1) := by decide +kernel
theorem dX9_wears_1 : decode cX9_wears 1 = .ok (.istore_n 2, 1) := by decide +kernel
theorem dX9_wears_2 : decode cX9_wears 2 = .ok (.iload_n 2, 1) := by decide +kernel
theorem dX9_wears_3 : decode cX9_wears 3 = .ok (.bipush 26, 2) := by decide +kernel
theorem dX9_wears_5 : decode cX9_wears 5 = .ok (.if_icmp .ge 46, 3) := by decide +kernel
theorem dX9_wears_8 : decode cX9_wears 8 = .ok (.aload_n 0, 1) := by decide +kernel
theorem dX9_wears_9 : decode cX9_wears 9 = .ok (.getfield 7, 3) := by decide +kernel
theorem dX9_wears_12 : decode cX9_wears 12 = .ok (.bipush 104, 2) := by decide +kernel
theorem dX9_wears_14 : decode cX9_wears 14 = .ok (.iload_n 2, 1) := by decide +kernel
theorem dX9_wears_15 : decode cX9_wears 15 = .ok (.iadd, 1) := by decide +kernel
theorem dX9_wears_16 : decode cX9_wears 16 = .ok (.aload_n 0, 1) := by decide +kernel
theorem dX9_wears_17 : decode cX9_wears 17 = .ok (.getfield 7, 3) := by decide +kernel
theorem dX9_wears_20 : decode cX9_wears 20 = .ok (.bipush 104, 2) := by decide +kernel
theorem dX9_wears_22 : decode cX9_wears 22 = .ok (.iload_n 2, 1) := by decide +kernel
theorem dX9_wears_23 : decode cX9_wears 23 = .ok (.iadd, 1) := by decide +kernel
theorem dX9_wears_24 : decode cX9_wears 24 = .ok (.iaload, 1) := by decide +kernel
theorem dX9_wears_25 : decode cX9_wears 25 = .ok (.iload_n 1, 1) := by decide +kernel
theorem dX9_wears_26 : decode cX9_wears 26 = .ok (.if_icmp .le 17, 3) := by decide +kernel
theorem dX9_wears_29 : decode cX9_wears 29 = .ok (.aload_n 0, 1) := by decide +kernel
theorem dX9_wears_30 : decode cX9_wears 30 = .ok (.getfield 7, 3) := by decide +kernel
theorem dX9_wears_33 : decode cX9_wears 33 = .ok (.bipush 104, 2) := by decide +kernel
theorem dX9_wears_35 : decode cX9_wears 35 = .ok (.iload_n 2, 1) := by decide +kernel
theorem dX9_wears_36 : decode cX9_wears 36 = .ok (.iadd, 1) := by decide +kernel
theorem dX9_wears_37 : decode cX9_wears 37 = .ok (.iaload, 1) := by decide +kernel
theorem dX9_wears_38 : decode cX9_wears 38 = .ok (.iload_n 1, 1) := by decide +kernel
theorem dX9_wears_39 : decode cX9_wears 39 = .ok (.isub, 1) := by decide +kernel
theorem dX9_wears_40 : decode cX9_wears 40 = .ok (.goto 4, 3) := by decide +kernel
theorem dX9_wears_43 : decode cX9_wears 43 = .ok (.iconst 0, 1) := by decide +kernel
theorem dX9_wears_44 : decode cX9_wears 44 = .ok (.iastore, 1) := by decide +kernel
theorem dX9_wears_45 : decode cX9_wears 45 = .ok (.iinc 2 1, 3) := by decide +kernel
theorem dX9_wears_48 : decode cX9_wears 48 = .ok (.goto (-46), 3) := by decide +kernel
theorem dX9_wears_51 : decode cX9_wears 51 = .ok (.return_, 1) := by decide +kernel
set_option maxRecDepth 20000 in
theorem ggX9_callsNow_X9_sum : GoodIn wsX9_callsNow wsX9_sum := goodIn_r _ [5, 6, 7, 8, 9, 10, 11, 12, 13, 14, 15, 16, 17, 18] (by decide +kernel) (by decide +kernel)
set_option maxRecDepth 20000 in
theorem gX9_callsNow_X9_sum : GoodIn wsX9_callsNow (wsV RX9 56 RX9 yX9_sum wsX9_sum) := goodIn_app (goodIn_of _ (by decide +kernel)) ggX9_callsNow_X9_sum
theorem dX9_callsNow_0 : decode cX9_callsNow 0 = .ok (.aload_n 0, 1) := by decide +kernel
theorem dX9_callsNow_1 : decode cX9_callsNow 1 = .ok (.iconst 0, 1) := by decide +kernel
theorem dX9_callsNow_2 : decode cX9_callsNow 2 = .ok (.invokevirtual 56, 3) := by decide +kernel
theorem dX9_callsNow_5 : decode cX9_callsNow 5 = .ok (.ireturn, 1) := by decide +kernel
set_option maxRecDepth 20000 in
theorem ggX9_hear_X9_isParrot : GoodIn wsX9_hear wsX9_isParrot := goodIn_r _ [6, 7, 8, 9, 5, 10] (by decide +kernel) (by decide +kernel)
set_option maxRecDepth 20000 in
theorem gX9_hear_X9_isParrot : GoodIn wsX9_hear (va_wsS RX9 59 yX9_isParrot wsX9_isParrot) := goodIn_app (goodIn_of _ (by decide +kernel)) ggX9_hear_X9_isParrot
set_option maxRecDepth 20000 in
theorem ggX9_hear_X9_fails : GoodIn wsX9_hear wsX9_fails := goodIn_r _ [14, 15, 50, 51, 52, 53, 54, 55, 56, 57, 58, 59, 60, 61] (by decide +kernel) (by decide +kernel)
set_option maxRecDepth 20000 in
theorem gX9_hear_X9_fails : GoodIn wsX9_hear (wsV RX9 62 RX9 yX9_fails wsX9_fails) := goodIn_app (goodIn_of _ (by decide +kernel)) ggX9_hear_X9_fails
set_option maxRecDepth 20000 in
theorem ggX9_hear_X9_callsNow : GoodIn wsX9_hear wsX9_callsNow := goodIn_r _ [19, 20, 21, 22, 5, 23, 2, 50, 51, 52, 53, 54, 55, 56, 57, 58, 59, 60, 61] (by decide +kernel) (by decide +kernel)
set_option maxRecDepth 20000 in
theorem gX9_hear_X9_callsNow : GoodIn wsX9_hear (wsV RX9 65 RX9 yX9_callsNow wsX9_callsNow) := goodIn_app (goodIn_of _ (by decide +kernel)) ggX9_hear_X9_callsNow
set_option maxRecDepth 20000 in
theorem ggX9_hear_X9_changes : GoodIn wsX9_hear wsX9_changes := goodIn_r _ [27, 15, 28, 29, 2, 50, 51, 52, 53, 54, 55, 56, 57, 58, 59, 60, 61] (by decide +kernel) (by decide +kernel)
set_option maxRecDepth 20000 in
theorem gX9_hear_X9_changes : GoodIn wsX9_hear (wsV RX9 70 RX9 yX9_changes wsX9_changes) := goodIn_app (goodIn_of _ (by decide +kernel)) ggX9_hear_X9_changes
set_option maxRecDepth 20000 in
theorem ggX9_hear_X9_hears : GoodIn wsX9_hear wsX9_hears := goodIn_r _ [33, 2, 34, 35, 36, 5, 37, 38, 39, 40, 41, 42, 43, 44, 45, 46, 47, 48, 49, 50, 51, 52, 53, 54, 55, 56, 57, 58, 59, 60, 61] (by decide +kernel) (by decide +kernel)
set_option maxRecDepth 20000 in
theorem gX9_hear_X9_hears : GoodIn wsX9_hear (wsV RX9 73 RX9 yX9_hears wsX9_hears) := goodIn_app (goodIn_of _ (by decide +kernel)) ggX9_hear_X9_hears
theorem dX9_hear_0 : decode cX9_hear 0 = .ok (.iload_n 1, 1) := by decide +kernel
theorem dX9_hear_1 : decode cX9_hear 1 = .ok (.invokestatic 59, 3) := by decide +kernel
theorem dX9_hear_4 : decode cX9_hear 4 = .ok (.ifCond .ne 9, 3) := by decide +kernel
theorem dX9_hear_7 : decode cX9_hear 7 = .ok (.aload_n 0, 1) := by decide +kernel
theorem dX9_hear_8 : decode cX9_hear 8 = .ok (.iconst 1, 1) := by decide +kernel
theorem dX9_hear_9 : decode cX9_hear 9 = .ok (.invokevirtual 62, 3) := by decide +kernel
theorem dX9_hear_12 : decode cX9_hear 12 = .ok (.ireturn, 1) := by decide +kernel
theorem dX9_hear_13 : decode cX9_hear 13 = .ok (.aload_n 0, 1) := by decide +kernel
theorem dX9_hear_14 : decode cX9_hear 14 = .ok (.invokevirtual 65, 3) := by decide +kernel
theorem dX9_hear_17 : decode cX9_hear 17 = .ok (.ldc 69, 2) := by decide +kernel
theorem dX9_hear_19 : decode cX9_hear 19 = .ok (.if_icmp .lt 9, 3) := by decide +kernel
theorem dX9_hear_22 : decode cX9_hear 22 = .ok (.aload_n 0, 1) := by decide +kernel
theorem dX9_hear_23 : decode cX9_hear 23 = .ok (.iconst 2, 1) := by decide +kernel
theorem dX9_hear_24 : decode cX9_hear 24 = .ok (.invokevirtual 62, 3) := by decide +kernel
theorem dX9_hear_27 : decode cX9_hear 27 = .ok (.ireturn, 1) := by decide +kernel
theorem dX9_hear_28 : decode cX9_hear 28 = .ok (.aload_n 0, 1) := by decide +kernel
theorem dX9_hear_29 : decode cX9_hear 29 = .ok (.invokevirtual 70, 3) := by decide +kernel
theorem dX9_hear_32 : decode cX9_hear 32 = .ok (.aload_n 0, 1) := by decide +kernel
theorem dX9_hear_33 : decode cX9_hear 33 = .ok (.iload_n 1, 1) := by decide +kernel
theorem dX9_hear_34 : decode cX9_hear 34 = .ok (.invokevirtual 73, 3) := by decide +kernel
theorem dX9_hear_37 : decode cX9_hear 37 = .ok (.aload_n 0, 1) := by decide +kernel
theorem dX9_hear_38 : decode cX9_hear 38 = .ok (.getfield 7, 3) := by decide +kernel
theorem dX9_hear_41 : decode cX9_hear 41 = .ok (.bipush 26, 2) := by decide +kernel
theorem dX9_hear_43 : decode cX9_hear 43 = .ok (.iload_n 1, 1) := by decide +kernel
theorem dX9_hear_44 : decode cX9_hear 44 = .ok (.iadd, 1) := by decide +kernel
theorem dX9_hear_45 : decode cX9_hear 45 = .ok (.iaload, 1) := by decide +kernel
theorem dX9_hear_46 : decode cX9_hear 46 = .ok (.ireturn, 1) := by decide +kernel
set_option maxRecDepth 20000 in
theorem ggX9_hearSong_X9_errorOfText : GoodIn wsX9_hearSong wsX9_errorOfText := goodIn_r _ [7, 8, 1, 9, 10, 11, 12, 13, 14, 6, 15, 16, 17, 18, 19, 20, 21, 22, 23, 24, 25, 26, 27, 72, 73, 74, 75, 76, 77, 78, 79, 80, 81, 82, 83] (by decide +kernel) (by decide +kernel)
set_option maxRecDepth 20000 in
theorem gX9_hearSong_X9_errorOfText : GoodIn wsX9_hearSong (wsV RX9 76 RX9 yX9_errorOfText wsX9_errorOfText) := goodIn_app (goodIn_of _ (by decide +kernel)) ggX9_hearSong_X9_errorOfText
set_option maxRecDepth 20000 in
theorem ggX9_hearSong_X9_fails : GoodIn wsX9_hearSong wsX9_fails := goodIn_r _ [31, 32, 72, 73, 74, 75, 76, 77, 78, 79, 80, 81, 82, 83] (by decide +kernel) (by decide +kernel)
set_option maxRecDepth 20000 in
theorem gX9_hearSong_X9_fails : GoodIn wsX9_hearSong (wsV RX9 62 RX9 yX9_fails wsX9_fails) := goodIn_app (goodIn_of _ (by decide +kernel)) ggX9_hearSong_X9_fails
set_option maxRecDepth 20000 in
theorem ggX9_hearSong_X9_callsNow : GoodIn wsX9_hearSong wsX9_callsNow := goodIn_r _ [36, 37, 38, 39, 6, 40, 41, 72, 73, 74, 75, 76, 77, 78, 79, 80, 81, 82, 83] (by decide +kernel) (by decide +kernel)
set_option maxRecDepth 20000 in
theorem gX9_hearSong_X9_callsNow : GoodIn wsX9_hearSong (wsV RX9 65 RX9 yX9_callsNow wsX9_callsNow) := goodIn_app (goodIn_of _ (by decide +kernel)) ggX9_hearSong_X9_callsNow
set_option maxRecDepth 20000 in
theorem ggX9_hearSong_X9_changes : GoodIn wsX9_hearSong wsX9_changes := goodIn_r _ [45, 32, 46, 47, 41, 72, 73, 74, 75, 76, 77, 78, 79, 80, 81, 82, 83] (by decide +kernel) (by decide +kernel)
set_option maxRecDepth 20000 in
theorem gX9_hearSong_X9_changes : GoodIn wsX9_hearSong (wsV RX9 70 RX9 yX9_changes wsX9_changes) := goodIn_app (goodIn_of _ (by decide +kernel)) ggX9_hearSong_X9_changes
set_option maxRecDepth 20000 in
theorem ggX9_hearSong_X9_sings : GoodIn wsX9_hearSong wsX9_sings := goodIn_r _ [51, 8, 9, 10, 11, 21, 22, 23, 6, 24, 16, 25, 26, 27, 12, 13, 14, 15, 17, 18, 19, 20, 52, 53, 54, 55, 41, 56, 57, 58, 59, 60, 61, 62, 63, 64, 65, 66, 67, 68, 69, 70, 71, 72, 73, 74, 75, 76, 77, 78, 79, 80, 81, 82, 83] (by decide +kernel) (by decide +kernel)
set_option maxRecDepth 20000 in
theorem gX9_hearSong_X9_sings : GoodIn wsX9_hearSong (wsV RX9 82 RX9 yX9_sings wsX9_sings) := goodIn_app (goodIn_of _ (by decide +kernel)) ggX9_hearSong_X9_sings
theorem dX9_hearSong_0 : decode cX9_hearSong 0 = .ok (.aload_n 0, 1) := by decide +kernel
theorem dX9_hearSong_1 : decode cX9_hearSong 1 = .ok (.invokevirtual 76, 3) := by decide +kernel
theorem dX9_hearSong_4 : decode cX9_hearSong 4 = .ok (.iconst (-1), 1) := by decide +kernel
theorem dX9_hearSong_5 : decode cX9_hearSong 5 = .ok (.if_icmp .eq 9, 3) := by decide +kernel
theorem dX9_hearSong_8 : decode cX9_hearSong 8 = .ok (.aload_n 0, 1) := by decide +kernel
theorem dX9_hearSong_9 : decode cX9_hearSong 9 = .ok (.iconst 1, 1) := by decide +kernel
theorem dX9_hearSong_10 : decode cX9_hearSong 10 = .ok (.invokevirtual 62, 3) := by decide +kernel
theorem dX9_hearSong_13 : decode cX9_hearSong 13 = .ok (.ireturn, 1) := by decide +kernel
theorem dX9_hearSong_14 : decode cX9_hearSong 14 = .ok (.aload_n 0, 1) := by decide +kernel
theorem dX9_hearSong_15 : decode cX9_hearSong 15 = .ok (.getfield 79, 3) := by decide +kernel
theorem dX9_hearSong_18 : decode cX9_hearSong 18 = .ok (.sipush 1000, 3) := by decide +kernel
theorem dX9_hearSong_21 : decode cX9_hearSong 21 = .ok (.if_icmp .gt 17, 3) := by decide +kernel
theorem dX9_hearSong_24 : decode cX9_hearSong 24 = .ok (.aload_n 0, 1) := by decide +kernel
theorem dX9_hearSong_25 : decode cX9_hearSong 25 = .ok (.getfield 79, 3) := by decide +kernel
theorem dX9_hearSong_28 : decode cX9_hearSong 28 = .ok (.aload_n 0, 1) := by decide +kernel
theorem dX9_hearSong_29 : decode cX9_hearSong 29 = .ok (.invokevirtual 65, 3) := by decide +kernel
theorem dX9_hearSong_32 : decode cX9_hearSong 32 = .ok (.iadd, 1) := by decide +kernel
theorem dX9_hearSong_33 : decode cX9_hearSong 33 = .ok (.ldc 69, 2) := by decide +kernel
theorem dX9_hearSong_35 : decode cX9_hearSong 35 = .ok (.if_icmp .le 9, 3) := by decide +kernel
theorem dX9_hearSong_38 : decode cX9_hearSong 38 = .ok (.aload_n 0, 1) := by decide +kernel
theorem dX9_hearSong_39 : decode cX9_hearSong 39 = .ok (.iconst 2, 1) := by decide +kernel
theorem dX9_hearSong_40 : decode cX9_hearSong 40 = .ok (.invokevirtual 62, 3) := by decide +kernel
theorem dX9_hearSong_43 : decode cX9_hearSong 43 = .ok (.ireturn, 1) := by decide +kernel
theorem dX9_hearSong_44 : decode cX9_hearSong 44 = .ok (.aload_n 0, 1) := by decide +kernel
theorem dX9_hearSong_45 : decode cX9_hearSong 45 = .ok (.invokevirtual 70, 3) := by decide +kernel
theorem dX9_hearSong_48 : decode cX9_hearSong 48 = .ok (.aload_n 0, 1) := by decide +kernel
theorem dX9_hearSong_49 : decode cX9_hearSong 49 = .ok (.invokevirtual 82, 3) := by decide +kernel
theorem dX9_hearSong_52 : decode cX9_hearSong 52 = .ok (.aload_n 0, 1) := by decide +kernel
theorem dX9_hearSong_53 : decode cX9_hearSong 53 = .ok (.invokevirtual 65, 3) := by decide +kernel
theorem dX9_hearSong_56 : decode cX9_hearSong 56 = .ok (.ireturn, 1) := by decide +kernel
theorem dX9_clears_0 : decode cX9_clears 0 = .ok (.iconst 0, 1) := by decide +kernel
theorem dX9_clears_1 : decode cX9_clears 1 = .ok (.istore_n 2, 1) := by decide +kernel
theorem dX9_clears_2 : decode cX9_clears 2 = .ok (.iload_n 2, 1) := by decide +kernel
theorem dX9_clears_3 : decode cX9_clears 3 = .ok (.sipush 132, 3) := by decide +kernel
theorem dX9_clears_6 : decode cX9_clears 6 = .ok (.if_icmp .ge 18, 3) := by decide +kernel
theorem dX9_clears_9 : decode cX9_clears 9 = .ok (.aload_n 0, 1) := by decide +kernel
theorem dX9_clears_10 : decode cX9_clears 10 = .ok (.getfield 7, 3) := by decide +kernel
theorem dX9_clears_13 : decode cX9_clears 13 = .ok (.iload_n 1, 1) := by decide +kernel
theorem dX9_clears_14 : decode cX9_clears 14 = .ok (.iload_n 2, 1) := by decide +kernel
theorem dX9_clears_15 : decode cX9_clears 15 = .ok (.iadd, 1) := by decide +kernel
theorem dX9_clears_16 : decode cX9_clears 16 = .ok (.iconst 0, 1) := by decide +kernel
theorem dX9_clears_17 : decode cX9_clears 17 = .ok (.iastore, 1) := by decide +kernel
theorem dX9_clears_18 : decode cX9_clears 18 = .ok (.iinc 2 1, 3) := by decide +kernel
theorem dX9_clears_21 : decode cX9_clears 21 = .ok (.goto (-19), 3) := by decide +kernel
theorem dX9_clears_24 : decode cX9_clears 24 = .ok (.return_, 1) := by decide +kernel
set_option maxRecDepth 20000 in
theorem ggX9_empty_X9_in : GoodIn wsX9_empty wsX9_in := goodIn_r _ [6] (by decide +kernel) (by decide +kernel)
set_option maxRecDepth 20000 in
theorem gX9_empty_X9_in : GoodIn wsX9_empty (va_wsS RX9 34 yX9_in wsX9_in) := goodIn_app (goodIn_of _ (by decide +kernel)) ggX9_empty_X9_in
set_option maxRecDepth 20000 in
theorem ggX9_empty_X9_fails : GoodIn wsX9_empty wsX9_fails := goodIn_r _ [10, 11, 22, 23, 24, 25, 26, 27, 28, 29, 30, 31, 32, 33] (by decide +kernel) (by decide +kernel)
set_option maxRecDepth 20000 in
theorem gX9_empty_X9_fails : GoodIn wsX9_empty (wsV RX9 62 RX9 yX9_fails wsX9_fails) := goodIn_app (goodIn_of _ (by decide +kernel)) ggX9_empty_X9_fails
set_option maxRecDepth 20000 in
theorem ggX9_empty_X9_changes : GoodIn wsX9_empty wsX9_changes := goodIn_r _ [15, 11, 16, 17, 2, 22, 23, 24, 25, 26, 27, 28, 29, 30, 31, 32, 33] (by decide +kernel) (by decide +kernel)
set_option maxRecDepth 20000 in
theorem gX9_empty_X9_changes : GoodIn wsX9_empty (wsV RX9 70 RX9 yX9_changes wsX9_changes) := goodIn_app (goodIn_of _ (by decide +kernel)) ggX9_empty_X9_changes
set_option maxRecDepth 20000 in
theorem ggX9_empty_X9_clears : GoodIn wsX9_empty wsX9_clears := goodIn_r _ [21, 2, 22, 23, 24, 25, 26, 27, 28, 29, 30, 31, 32, 33] (by decide +kernel) (by decide +kernel)
set_option maxRecDepth 20000 in
theorem gX9_empty_X9_clears : GoodIn wsX9_empty (wsV RX9 87 RX9 yX9_clears wsX9_clears) := goodIn_app (goodIn_of _ (by decide +kernel)) ggX9_empty_X9_clears
theorem dX9_empty_0 : decode cX9_empty 0 = .ok (.iload_n 1, 1) := by decide +kernel
theorem dX9_empty_1 : decode cX9_empty 1 = .ok (.i2l, 1) := by decide +kernel
theorem dX9_empty_2 : decode cX9_empty 2 = .ok (.lconst 1, 1) := by decide +kernel
theorem dX9_empty_3 : decode cX9_empty 3 = .ok (.ldc2_w 85, 3) := by decide +kernel
theorem dX9_empty_6 : decode cX9_empty 6 = .ok (.invokestatic 34, 3) := by decide +kernel
theorem dX9_empty_9 : decode cX9_empty 9 = .ok (.ifCond .ne 9, 3) := by decide +kernel
theorem dX9_empty_12 : decode cX9_empty 12 = .ok (.aload_n 0, 1) := by decide +kernel
theorem dX9_empty_13 : decode cX9_empty 13 = .ok (.iconst 1, 1) := by decide +kernel
theorem dX9_empty_14 : decode cX9_empty 14 = .ok (.invokevirtual 62, 3) := by decide +kernel
theorem dX9_empty_17 : decode cX9_empty 17 = .ok (.ireturn, 1) := by decide +kernel
theorem dX9_empty_18 : decode cX9_empty 18 = .ok (.aload_n 0, 1) := by decide +kernel
theorem dX9_empty_19 : decode cX9_empty 19 = .ok (.invokevirtual 70, 3) := by decide +kernel
theorem dX9_empty_22 : decode cX9_empty 22 = .ok (.aload_n 0, 1) := by decide +kernel
theorem dX9_empty_23 : decode cX9_empty 23 = .ok (.getfield 7, 3) := by decide +kernel
theorem dX9_empty_26 : decode cX9_empty 26 = .ok (.sipush 264, 3) := by decide +kernel
theorem dX9_empty_29 : decode cX9_empty 29 = .ok (.iaload, 1) := by decide +kernel
theorem dX9_empty_30 : decode cX9_empty 30 = .ok (.istore_n 2, 1) := by decide +kernel
theorem dX9_empty_31 : decode cX9_empty 31 = .ok (.aload_n 0, 1) := by decide +kernel
theorem dX9_empty_32 : decode cX9_empty 32 = .ok (.iconst 0, 1) := by decide +kernel
theorem dX9_empty_33 : decode cX9_empty 33 = .ok (.invokevirtual 87, 3) := by decide +kernel
theorem dX9_empty_36 : decode cX9_empty 36 = .ok (.aload_n 0, 1) := by decide +kernel
theorem dX9_empty_37 : decode cX9_empty 37 = .ok (.sipush 132, 3) := by decide +kernel
theorem dX9_empty_40 : decode cX9_empty 40 = .ok (.invokevirtual 87, 3) := by decide +kernel
theorem dX9_empty_43 : decode cX9_empty 43 = .ok (.aload_n 0, 1) := by decide +kernel
theorem dX9_empty_44 : decode cX9_empty 44 = .ok (.getfield 7, 3) := by decide +kernel
theorem dX9_empty_47 : decode cX9_empty 47 = .ok (.sipush 265, 3) := by decide +kernel
theorem dX9_empty_50 : decode cX9_empty 50 = .ok (.iconst 0, 1) := by decide +kernel
theorem dX9_empty_51 : decode cX9_empty 51 = .ok (.iastore, 1) := by decide +kernel
theorem dX9_empty_52 : decode cX9_empty 52 = .ok (.aload_n 0, 1) := by decide +kernel
theorem dX9_empty_53 : decode cX9_empty 53 = .ok (.getfield 7, 3) := by decide +kernel
theorem dX9_empty_56 : decode cX9_empty 56 = .ok (.sipush 264, 3) := by decide +kernel
theorem dX9_empty_59 : decode cX9_empty 59 = .ok (.iload_n 1, 1) := by decide +kernel
theorem dX9_empty_60 : decode cX9_empty 60 = .ok (.iastore, 1) := by decide +kernel
theorem dX9_empty_61 : decode cX9_empty 61 = .ok (.iload_n 2, 1) := by decide +kernel
theorem dX9_empty_62 : decode cX9_empty 62 = .ok (.ireturn, 1) := by decide +kernel
set_option maxRecDepth 20000 in
theorem ggX9_putAside_X9_changes : GoodIn wsX9_putAside wsX9_changes := goodIn_r _ [6, 7, 8, 9, 1, 18, 19, 20, 21, 22, 23, 24, 25, 26, 27, 28, 29] (by decide +kernel) (by decide +kernel)
set_option maxRecDepth 20000 in
theorem gX9_putAside_X9_changes : GoodIn wsX9_putAside (wsV RX9 70 RX9 yX9_changes wsX9_changes) := goodIn_app (goodIn_of _ (by decide +kernel)) ggX9_putAside_X9_changes
set_option maxRecDepth 20000 in
theorem ggX9_putAside_X9_clears : GoodIn wsX9_putAside wsX9_clears := goodIn_r _ [13, 1, 18, 19, 20, 21, 22, 23, 24, 25, 26, 27, 28, 29] (by decide +kernel) (by decide +kernel)
set_option maxRecDepth 20000 in
theorem gX9_putAside_X9_clears : GoodIn wsX9_putAside (wsV RX9 87 RX9 yX9_clears wsX9_clears) := goodIn_app (goodIn_of _ (by decide +kernel)) ggX9_putAside_X9_clears
set_option maxRecDepth 20000 in
theorem ggX9_putAside_X9_sum : GoodIn wsX9_putAside wsX9_sum := goodIn_r _ [17, 1, 18, 19, 20, 21, 22, 23, 24, 25, 26, 27, 28, 29] (by decide +kernel) (by decide +kernel)
set_option maxRecDepth 20000 in
theorem gX9_putAside_X9_sum : GoodIn wsX9_putAside (wsV RX9 56 RX9 yX9_sum wsX9_sum) := goodIn_app (goodIn_of _ (by decide +kernel)) ggX9_putAside_X9_sum
theorem dX9_putAside_0 : decode cX9_putAside 0 = .ok (.aload_n 0, 1) := by decide +kernel
theorem dX9_putAside_1 : decode cX9_putAside 1 = .ok (.invokevirtual 70, 3) := by decide +kernel
theorem dX9_putAside_4 : decode cX9_putAside 4 = .ok (.iconst 0, 1) := by decide +kernel
theorem dX9_putAside_5 : decode cX9_putAside 5 = .ok (.istore_n 1, 1) := by decide +kernel
theorem dX9_putAside_6 : decode cX9_putAside 6 = .ok (.iload_n 1, 1) := by decide +kernel
theorem dX9_putAside_7 : decode cX9_putAside 7 = .ok (.sipush 132, 3) := by decide +kernel
theorem dX9_putAside_10 : decode cX9_putAside 10 = .ok (.if_icmp .ge 25, 3) := by decide +kernel
theorem dX9_putAside_13 : decode cX9_putAside 13 = .ok (.aload_n 0, 1) := by decide +kernel
theorem dX9_putAside_14 : decode cX9_putAside 14 = .ok (.getfield 7, 3) := by decide +kernel
theorem dX9_putAside_17 : decode cX9_putAside 17 = .ok (.sipush 132, 3) := by decide +kernel
theorem dX9_putAside_20 : decode cX9_putAside 20 = .ok (.iload_n 1, 1) := by decide +kernel
theorem dX9_putAside_21 : decode cX9_putAside 21 = .ok (.iadd, 1) := by decide +kernel
theorem dX9_putAside_22 : decode cX9_putAside 22 = .ok (.aload_n 0, 1) := by decide +kernel
theorem dX9_putAside_23 : decode cX9_putAside 23 = .ok (.getfield 7, 3) := by decide +kernel
theorem dX9_putAside_26 : decode cX9_putAside 26 = .ok (.iload_n 1, 1) := by decide +kernel
theorem dX9_putAside_27 : decode cX9_putAside 27 = .ok (.iaload, 1) := by decide +kernel
theorem dX9_putAside_28 : decode cX9_putAside 28 = .ok (.iastore, 1) := by decide +kernel
theorem dX9_putAside_29 : decode cX9_putAside 29 = .ok (.iinc 1 1, 3) := by decide +kernel
theorem dX9_putAside_32 : decode cX9_putAside 32 = .ok (.goto (-26), 3) := by decide +kernel
theorem dX9_putAside_35 : decode cX9_putAside 35 = .ok (.aload_n 0, 1) := by decide +kernel
theorem dX9_putAside_36 : decode cX9_putAside 36 = .ok (.iconst 0, 1) := by decide +kernel
theorem dX9_putAside_37 : decode cX9_putAside 37 = .ok (.invokevirtual 87, 3) := by decide +kernel
theorem dX9_putAside_40 : decode cX9_putAside 40 = .ok (.aload_n 0, 1) := by decide +kernel
theorem dX9_putAside_41 : decode cX9_putAside 41 = .ok (.getfield 7, 3) := by decide +kernel
theorem dX9_putAside_44 : decode cX9_putAside 44 = .ok (.sipush 265, 3) := by decide +kernel
theorem dX9_putAside_47 : decode cX9_putAside 47 = .ok (.iconst 1, 1) := by decide +kernel
theorem dX9_putAside_48 : decode cX9_putAside 48 = .ok (.iastore, 1) := by decide +kernel
theorem dX9_putAside_49 : decode cX9_putAside 49 = .ok (.aload_n 0, 1) := by decide +kernel
theorem dX9_putAside_50 : decode cX9_putAside 50 = .ok (.sipush 132, 3) := by decide +kernel
theorem dX9_putAside_53 : decode cX9_putAside 53 = .ok (.invokevirtual 56, 3) := by decide +kernel
theorem dX9_putAside_56 : decode cX9_putAside 56 = .ok (.ireturn, 1) := by decide +kernel
theorem dX9_aheadOf_0 : decode cX9_aheadOf 0 = .ok (.iconst 0, 1) := by decide +kernel
theorem dX9_aheadOf_1 : decode cX9_aheadOf 1 = .ok (.istore_n 2, 1) := by decide +kernel
theorem dX9_aheadOf_2 : decode cX9_aheadOf 2 = .ok (.iconst 0, 1) := by decide +kernel
theorem dX9_aheadOf_3 : decode cX9_aheadOf 3 = .ok (.istore_n 3, 1) := by decide +kernel
theorem dX9_aheadOf_4 : decode cX9_aheadOf 4 = .ok (.iload_n 3, 1) := by decide +kernel
theorem dX9_aheadOf_5 : decode cX9_aheadOf 5 = .ok (.bipush 26, 2) := by decide +kernel
theorem dX9_aheadOf_7 : decode cX9_aheadOf 7 = .ok (.if_icmp .ge 52, 3) := by decide +kernel
theorem dX9_aheadOf_10 : decode cX9_aheadOf 10 = .ok (.iload_n 2, 1) := by decide +kernel
theorem dX9_aheadOf_11 : decode cX9_aheadOf 11 = .ok (.aload_n 0, 1) := by decide +kernel
theorem dX9_aheadOf_12 : decode cX9_aheadOf 12 = .ok (.getfield 16, 3) := by decide +kernel
theorem dX9_aheadOf_15 : decode cX9_aheadOf 15 = .ok (.iload_n 3, 1) := by decide +kernel
theorem dX9_aheadOf_16 : decode cX9_aheadOf 16 = .ok (.iaload, 1) := by decide +kernel
theorem dX9_aheadOf_17 : decode cX9_aheadOf 17 = .ok (.aload_n 0, 1) := by decide +kernel
theorem dX9_aheadOf_18 : decode cX9_aheadOf 18 = .ok (.getfield 16, 3) := by decide +kernel
theorem dX9_aheadOf_21 : decode cX9_aheadOf 21 = .ok (.iload_n 1, 1) := by decide +kernel
theorem dX9_aheadOf_22 : decode cX9_aheadOf 22 = .ok (.iaload, 1) := by decide +kernel
theorem dX9_aheadOf_23 : decode cX9_aheadOf 23 = .ok (.if_icmp .gt 23, 3) := by decide +kernel
theorem dX9_aheadOf_26 : decode cX9_aheadOf 26 = .ok (.aload_n 0, 1) := by decide +kernel
theorem dX9_aheadOf_27 : decode cX9_aheadOf 27 = .ok (.getfield 16, 3) := by decide +kernel
theorem dX9_aheadOf_30 : decode cX9_aheadOf 30 = .ok (.iload_n 3, 1) := by decide +kernel
theorem dX9_aheadOf_31 : decode cX9_aheadOf 31 = .ok (.iaload, 1) := by decide +kernel
theorem dX9_aheadOf_32 : decode cX9_aheadOf 32 = .ok (.aload_n 0, 1) := by decide +kernel
theorem dX9_aheadOf_33 : decode cX9_aheadOf 33 = .ok (.getfield 16, 3) := by decide +kernel
theorem dX9_aheadOf_36 : decode cX9_aheadOf 36 = .ok (.iload_n 1, 1) := by decide +kernel
theorem dX9_aheadOf_37 : decode cX9_aheadOf 37 = .ok (.iaload, 1) := by decide +kernel
theorem dX9_aheadOf_38 : decode cX9_aheadOf 38 = .ok (.if_icmp .ne 12, 3) := by decide +kernel
theorem dX9_aheadOf_41 : decode cX9_aheadOf 41 = .ok (.iload_n 3, 1) := by decide +kernel
theorem dX9_aheadOf_42 : decode cX9_aheadOf 42 = .ok (.iload_n 1, 1) := by decide +kernel
theorem dX9_aheadOf_43 : decode cX9_aheadOf 43 = .ok (.if_icmp .ge 7, 3) := by decide +kernel
theorem dX9_aheadOf_46 : decode cX9_aheadOf 46 = .ok (.iconst 1, 1) := by decide +kernel
theorem dX9_aheadOf_47 : decode cX9_aheadOf 47 = .ok (.goto 4, 3) := by decide +kernel
theorem dX9_aheadOf_50 : decode cX9_aheadOf 50 = .ok (.iconst 0, 1) := by decide +kernel
theorem dX9_aheadOf_51 : decode cX9_aheadOf 51 = .ok (.iadd, 1) := by decide +kernel
theorem dX9_aheadOf_52 : decode cX9_aheadOf 52 = .ok (.istore_n 2, 1) := by decide +kernel
theorem dX9_aheadOf_53 : decode cX9_aheadOf 53 = .ok (.iinc 3 1, 3) := by decide +kernel
theorem dX9_aheadOf_56 : decode cX9_aheadOf 56 = .ok (.goto (-52), 3) := by decide +kernel
theorem dX9_aheadOf_59 : decode cX9_aheadOf 59 = .ok (.iload_n 2, 1) := by decide +kernel
theorem dX9_aheadOf_60 : decode cX9_aheadOf 60 = .ok (.ireturn, 1) := by decide +kernel
set_option maxRecDepth 20000 in
theorem ggX9_mergesFirst_X9_estimateBy : GoodIn wsX9_mergesFirst wsX9_estimateBy := goodIn_r _ [8, 1, 9, 10, 11, 7, 12, 13, 14, 15, 16, 17, 18, 19, 20, 21, 22, 23, 24, 33, 34, 35, 36, 37, 38, 39, 40, 41, 42, 43, 44] (by decide +kernel) (by decide +kernel)
set_option maxRecDepth 20000 in
theorem gX9_mergesFirst_X9_estimateBy : GoodIn wsX9_mergesFirst (wsV RX9 90 RX9 yX9_estimateBy wsX9_estimateBy) := goodIn_app (goodIn_of _ (by decide +kernel)) ggX9_mergesFirst_X9_estimateBy
set_option maxRecDepth 20000 in
theorem ggX9_mergesFirst_X9_sureBy : GoodIn wsX9_mergesFirst wsX9_sureBy := goodIn_r _ [28, 1, 33, 34, 35, 36, 37, 38, 39, 40, 41, 42, 43, 44] (by decide +kernel) (by decide +kernel)
set_option maxRecDepth 20000 in
theorem gX9_mergesFirst_X9_sureBy : GoodIn wsX9_mergesFirst (wsV RX9 94 RX9 yX9_sureBy wsX9_sureBy) := goodIn_app (goodIn_of _ (by decide +kernel)) ggX9_mergesFirst_X9_sureBy
set_option maxRecDepth 20000 in
theorem ggX9_mergesFirst_X9_aheadOf : GoodIn wsX9_mergesFirst wsX9_aheadOf := goodIn_r _ [32, 2, 33, 34, 35, 36, 37, 38, 39, 40, 41, 42, 43, 44] (by decide +kernel) (by decide +kernel)
set_option maxRecDepth 20000 in
theorem gX9_mergesFirst_X9_aheadOf : GoodIn wsX9_mergesFirst (wsV RX9 97 RX9 yX9_aheadOf wsX9_aheadOf) := goodIn_app (goodIn_of _ (by decide +kernel)) ggX9_mergesFirst_X9_aheadOf
theorem dX9_mergesFirst_0 : decode cX9_mergesFirst 0 = .ok (.iconst 0, 1) := by decide +kernel
theorem dX9_mergesFirst_1 : decode cX9_mergesFirst 1 = .ok (.istore_n 1, 1) := by decide +kernel
theorem dX9_mergesFirst_2 : decode cX9_mergesFirst 2 = .ok (.iload_n 1, 1) := by decide +kernel
theorem dX9_mergesFirst_3 : decode cX9_mergesFirst 3 = .ok (.bipush 26, 2) := by decide +kernel
theorem dX9_mergesFirst_5 : decode cX9_mergesFirst 5 = .ok (.if_icmp .ge 105, 3) := by decide +kernel
theorem dX9_mergesFirst_8 : decode cX9_mergesFirst 8 = .ok (.aload_n 0, 1) := by decide +kernel
theorem dX9_mergesFirst_9 : decode cX9_mergesFirst 9 = .ok (.getfield 7, 3) := by decide +kernel
theorem dX9_mergesFirst_12 : decode cX9_mergesFirst 12 = .ok (.bipush 26, 2) := by decide +kernel
theorem dX9_mergesFirst_14 : decode cX9_mergesFirst 14 = .ok (.iload_n 1, 1) := by decide +kernel
theorem dX9_mergesFirst_15 : decode cX9_mergesFirst 15 = .ok (.iadd, 1) := by decide +kernel
theorem dX9_mergesFirst_16 : decode cX9_mergesFirst 16 = .ok (.iaload, 1) := by decide +kernel
theorem dX9_mergesFirst_17 : decode cX9_mergesFirst 17 = .ok (.ifCond .gt 16, 3) := by decide +kernel
theorem dX9_mergesFirst_20 : decode cX9_mergesFirst 20 = .ok (.aload_n 0, 1) := by decide +kernel
theorem dX9_mergesFirst_21 : decode cX9_mergesFirst 21 = .ok (.getfield 7, 3) := by decide +kernel
theorem dX9_mergesFirst_24 : decode cX9_mergesFirst 24 = .ok (.sipush 158, 3) := by decide +kernel
theorem dX9_mergesFirst_27 : decode cX9_mergesFirst 27 = .ok (.iload_n 1, 1) := by decide +kernel
theorem dX9_mergesFirst_28 : decode cX9_mergesFirst 28 = .ok (.iadd, 1) := by decide +kernel
theorem dX9_mergesFirst_29 : decode cX9_mergesFirst 29 = .ok (.iaload, 1) := by decide +kernel
theorem dX9_mergesFirst_30 : decode cX9_mergesFirst 30 = .ok (.ifCond .le 7, 3) := by decide +kernel
theorem dX9_mergesFirst_33 : decode cX9_mergesFirst 33 = .ok (.iconst 1, 1) := by decide +kernel
theorem dX9_mergesFirst_34 : decode cX9_mergesFirst 34 = .ok (.goto 4, 3) := by decide +kernel
theorem dX9_mergesFirst_37 : decode cX9_mergesFirst 37 = .ok (.iconst 0, 1) := by decide +kernel
theorem dX9_mergesFirst_38 : decode cX9_mergesFirst 38 = .ok (.istore_n 2, 1) := by decide +kernel
theorem dX9_mergesFirst_39 : decode cX9_mergesFirst 39 = .ok (.aload_n 0, 1) := by decide +kernel
theorem dX9_mergesFirst_40 : decode cX9_mergesFirst 40 = .ok (.getfield 16, 3) := by decide +kernel
theorem dX9_mergesFirst_43 : decode cX9_mergesFirst 43 = .ok (.iload_n 1, 1) := by decide +kernel
theorem dX9_mergesFirst_44 : decode cX9_mergesFirst 44 = .ok (.iload_n 2, 1) := by decide +kernel
theorem dX9_mergesFirst_45 : decode cX9_mergesFirst 45 = .ok (.ifCond .eq 21, 3) := by decide +kernel
theorem dX9_mergesFirst_48 : decode cX9_mergesFirst 48 = .ok (.aload_n 0, 1) := by decide +kernel
theorem dX9_mergesFirst_49 : decode cX9_mergesFirst 49 = .ok (.iconst 0, 1) := by decide +kernel
theorem dX9_mergesFirst_50 : decode cX9_mergesFirst 50 = .ok (.iload_n 1, 1) := by decide +kernel
theorem dX9_mergesFirst_51 : decode cX9_mergesFirst 51 = .ok (.invokevirtual 90, 3) := by decide +kernel
theorem dX9_mergesFirst_54 : decode cX9_mergesFirst 54 = .ok (.aload_n 0, 1) := by decide +kernel
theorem dX9_mergesFirst_55 : decode cX9_mergesFirst 55 = .ok (.sipush 132, 3) := by decide +kernel
theorem dX9_mergesFirst_58 : decode cX9_mergesFirst 58 = .ok (.iload_n 1, 1) := by decide +kernel
theorem dX9_mergesFirst_59 : decode cX9_mergesFirst 59 = .ok (.invokevirtual 90, 3) := by decide +kernel
theorem dX9_mergesFirst_62 : decode cX9_mergesFirst 62 = .ok (.iadd, 1) := by decide +kernel
theorem dX9_mergesFirst_63 : decode cX9_mergesFirst 63 = .ok (.goto 4, 3) := by decide +kernel
theorem dX9_mergesFirst_66 : decode cX9_mergesFirst 66 = .ok (.iconst 0, 1) := by decide +kernel
theorem dX9_mergesFirst_67 : decode cX9_mergesFirst 67 = .ok (.iastore, 1) := by decide +kernel
theorem dX9_mergesFirst_68 : decode cX9_mergesFirst 68 = .ok (.aload_n 0, 1) := by decide +kernel
theorem dX9_mergesFirst_69 : decode cX9_mergesFirst 69 = .ok (.getfield 19, 3) := by decide +kernel
theorem dX9_mergesFirst_72 : decode cX9_mergesFirst 72 = .ok (.iload_n 1, 1) := by decide +kernel
theorem dX9_mergesFirst_73 : decode cX9_mergesFirst 73 = .ok (.iload_n 2, 1) := by decide +kernel
theorem dX9_mergesFirst_74 : decode cX9_mergesFirst 74 = .ok (.ifCond .eq 28, 3) := by decide +kernel
theorem dX9_mergesFirst_77 : decode cX9_mergesFirst 77 = .ok (.aload_n 0, 1) := by decide +kernel
theorem dX9_mergesFirst_78 : decode cX9_mergesFirst 78 = .ok (.getfield 16, 3) := by decide +kernel
theorem dX9_mergesFirst_81 : decode cX9_mergesFirst 81 = .ok (.iload_n 1, 1) := by decide +kernel
theorem dX9_mergesFirst_82 : decode cX9_mergesFirst 82 = .ok (.iaload, 1) := by decide +kernel
theorem dX9_mergesFirst_83 : decode cX9_mergesFirst 83 = .ok (.aload_n 0, 1) := by decide +kernel
theorem dX9_mergesFirst_84 : decode cX9_mergesFirst 84 = .ok (.iconst 0, 1) := by decide +kernel
theorem dX9_mergesFirst_85 : decode cX9_mergesFirst 85 = .ok (.iload_n 1, 1) := by decide +kernel
theorem dX9_mergesFirst_86 : decode cX9_mergesFirst 86 = .ok (.invokevirtual 94, 3) := by decide +kernel
theorem dX9_mergesFirst_89 : decode cX9_mergesFirst 89 = .ok (.isub, 1) := by decide +kernel
theorem dX9_mergesFirst_90 : decode cX9_mergesFirst 90 = .ok (.aload_n 0, 1) := by decide +kernel
theorem dX9_mergesFirst_91 : decode cX9_mergesFirst 91 = .ok (.sipush 132, 3) := by decide +kernel
theorem dX9_mergesFirst_94 : decode cX9_mergesFirst 94 = .ok (.iload_n 1, 1) := by decide +kernel
theorem dX9_mergesFirst_95 : decode cX9_mergesFirst 95 = .ok (.invokevirtual 94, 3) := by decide +kernel
theorem dX9_mergesFirst_98 : decode cX9_mergesFirst 98 = .ok (.isub, 1) := by decide +kernel
theorem dX9_mergesFirst_99 : decode cX9_mergesFirst 99 = .ok (.goto 4, 3) := by decide +kernel
theorem dX9_mergesFirst_102 : decode cX9_mergesFirst 102 = .ok (.iconst 0, 1) := by decide +kernel
theorem dX9_mergesFirst_103 : decode cX9_mergesFirst 103 = .ok (.iastore, 1) := by decide +kernel
theorem dX9_mergesFirst_104 : decode cX9_mergesFirst 104 = .ok (.iinc 1 1, 3) := by decide +kernel
theorem dX9_mergesFirst_107 : decode cX9_mergesFirst 107 = .ok (.goto (-105), 3) := by decide +kernel
theorem dX9_mergesFirst_110 : decode cX9_mergesFirst 110 = .ok (.aload_n 0, 1) := by decide +kernel
theorem dX9_mergesFirst_111 : decode cX9_mergesFirst 111 = .ok (.getfield 7, 3) := by decide +kernel
theorem dX9_mergesFirst_114 : decode cX9_mergesFirst 114 = .ok (.sipush 131, 3) := by decide +kernel
theorem dX9_mergesFirst_117 : decode cX9_mergesFirst 117 = .ok (.iconst 0, 1) := by decide +kernel
theorem dX9_mergesFirst_118 : decode cX9_mergesFirst 118 = .ok (.iastore, 1) := by decide +kernel
theorem dX9_mergesFirst_119 : decode cX9_mergesFirst 119 = .ok (.iconst 0, 1) := by decide +kernel
theorem dX9_mergesFirst_120 : decode cX9_mergesFirst 120 = .ok (.istore_n 1, 1) := by decide +kernel
theorem dX9_mergesFirst_121 : decode cX9_mergesFirst 121 = .ok (.iload_n 1, 1) := by decide +kernel
theorem dX9_mergesFirst_122 : decode cX9_mergesFirst 122 = .ok (.bipush 26, 2) := by decide +kernel
theorem dX9_mergesFirst_124 : decode cX9_mergesFirst 124 = .ok (.if_icmp .ge 131, 3) := by decide +kernel
theorem dX9_mergesFirst_127 : decode cX9_mergesFirst 127 = .ok (.aload_n 0, 1) := by decide +kernel
theorem dX9_mergesFirst_128 : decode cX9_mergesFirst 128 = .ok (.getfield 16, 3) := by decide +kernel
theorem dX9_mergesFirst_131 : decode cX9_mergesFirst 131 = .ok (.iload_n 1, 1) := by decide +kernel
theorem dX9_mergesFirst_132 : decode cX9_mergesFirst 132 = .ok (.iaload, 1) := by decide +kernel
theorem dX9_mergesFirst_133 : decode cX9_mergesFirst 133 = .ok (.ifCond .le 23, 3) := by decide +kernel
theorem dX9_mergesFirst_136 : decode cX9_mergesFirst 136 = .ok (.aload_n 0, 1) := by decide +kernel
theorem dX9_mergesFirst_137 : decode cX9_mergesFirst 137 = .ok (.iload_n 1, 1) := by decide +kernel
theorem dX9_mergesFirst_138 : decode cX9_mergesFirst 138 = .ok (.invokevirtual 97, 3) := by decide +kernel
theorem dX9_mergesFirst_141 : decode cX9_mergesFirst 141 = .ok (.aload_n 0, 1) := by decide +kernel
theorem dX9_mergesFirst_142 : decode cX9_mergesFirst 142 = .ok (.getfield 7, 3) := by decide +kernel
theorem dX9_mergesFirst_145 : decode cX9_mergesFirst 145 = .ok (.sipush 264, 3) := by decide +kernel
theorem dX9_mergesFirst_148 : decode cX9_mergesFirst 148 = .ok (.iaload, 1) := by decide +kernel
theorem dX9_mergesFirst_149 : decode cX9_mergesFirst 149 = .ok (.if_icmp .gt 7, 3) := by decide +kernel
theorem dX9_mergesFirst_152 : decode cX9_mergesFirst 152 = .ok (.iconst 1, 1) := by decide +kernel
theorem dX9_mergesFirst_153 : decode cX9_mergesFirst 153 = .ok (.goto 4, 3) := by decide +kernel
theorem dX9_mergesFirst_156 : decode cX9_mergesFirst 156 = .ok (.iconst 0, 1) := by decide +kernel
theorem dX9_mergesFirst_157 : decode cX9_mergesFirst 157 = .ok (.istore_n 2, 1) := by decide +kernel
theorem dX9_mergesFirst_158 : decode cX9_mergesFirst 158 = .ok (.aload_n 0, 1) := by decide +kernel
theorem dX9_mergesFirst_159 : decode cX9_mergesFirst 159 = .ok (.getfield 7, 3) := by decide +kernel
theorem dX9_mergesFirst_162 : decode cX9_mergesFirst 162 = .ok (.sipush 131, 3) := by decide +kernel
theorem dX9_mergesFirst_165 : decode cX9_mergesFirst 165 = .ok (.dup2, 1) := by decide +kernel
theorem dX9_mergesFirst_166 : decode cX9_mergesFirst 166 = .ok (.iaload, 1) := by decide +kernel
theorem dX9_mergesFirst_167 : decode cX9_mergesFirst 167 = .ok (.iload_n 2, 1) := by decide +kernel
theorem dX9_mergesFirst_168 : decode cX9_mergesFirst 168 = .ok (.ifCond .eq 7, 3) := by decide +kernel
theorem dX9_mergesFirst_171 : decode cX9_mergesFirst 171 = .ok (.iconst 1, 1) := by decide +kernel
theorem dX9_mergesFirst_172 : decode cX9_mergesFirst 172 = .ok (.goto 4, 3) := by decide +kernel
theorem dX9_mergesFirst_175 : decode cX9_mergesFirst 175 = .ok (.iconst 0, 1) := by decide +kernel
theorem dX9_mergesFirst_176 : decode cX9_mergesFirst 176 = .ok (.iadd, 1) := by decide +kernel
theorem dX9_mergesFirst_177 : decode cX9_mergesFirst 177 = .ok (.iastore, 1) := by decide +kernel
theorem dX9_mergesFirst_178 : decode cX9_mergesFirst 178 = .ok (.aload_n 0, 1) := by decide +kernel
theorem dX9_mergesFirst_179 : decode cX9_mergesFirst 179 = .ok (.getfield 7, 3) := by decide +kernel
theorem dX9_mergesFirst_182 : decode cX9_mergesFirst 182 = .ok (.bipush 26, 2) := by decide +kernel
theorem dX9_mergesFirst_184 : decode cX9_mergesFirst 184 = .ok (.iload_n 1, 1) := by decide +kernel
theorem dX9_mergesFirst_185 : decode cX9_mergesFirst 185 = .ok (.iadd, 1) := by decide +kernel
theorem dX9_mergesFirst_186 : decode cX9_mergesFirst 186 = .ok (.iload_n 2, 1) := by decide +kernel
theorem dX9_mergesFirst_187 : decode cX9_mergesFirst 187 = .ok (.ifCond .eq 12, 3) := by decide +kernel
theorem dX9_mergesFirst_190 : decode cX9_mergesFirst 190 = .ok (.aload_n 0, 1) := by decide +kernel
theorem dX9_mergesFirst_191 : decode cX9_mergesFirst 191 = .ok (.getfield 16, 3) := by decide +kernel
theorem dX9_mergesFirst_194 : decode cX9_mergesFirst 194 = .ok (.iload_n 1, 1) := by decide +kernel
theorem dX9_mergesFirst_195 : decode cX9_mergesFirst 195 = .ok (.iaload, 1) := by decide +kernel
theorem dX9_mergesFirst_196 : decode cX9_mergesFirst 196 = .ok (.goto 4, 3) := by decide +kernel
theorem dX9_mergesFirst_199 : decode cX9_mergesFirst 199 = .ok (.iconst 0, 1) := by decide +kernel
theorem dX9_mergesFirst_200 : decode cX9_mergesFirst 200 = .ok (.iastore, 1) := by decide +kernel
theorem dX9_mergesFirst_201 : decode cX9_mergesFirst 201 = .ok (.aload_n 0, 1) := by decide +kernel
theorem dX9_mergesFirst_202 : decode cX9_mergesFirst 202 = .ok (.getfield 7, 3) := by decide +kernel
theorem dX9_mergesFirst_205 : decode cX9_mergesFirst 205 = .ok (.bipush 52, 2) := by decide +kernel
theorem dX9_mergesFirst_207 : decode cX9_mergesFirst 207 = .ok (.iload_n 1, 1) := by decide +kernel
theorem dX9_mergesFirst_208 : decode cX9_mergesFirst 208 = .ok (.iadd, 1) := by decide +kernel
theorem dX9_mergesFirst_209 : decode cX9_mergesFirst 209 = .ok (.iload_n 2, 1) := by decide +kernel
theorem dX9_mergesFirst_210 : decode cX9_mergesFirst 210 = .ok (.ifCond .eq 12, 3) := by decide +kernel
theorem dX9_mergesFirst_213 : decode cX9_mergesFirst 213 = .ok (.aload_n 0, 1) := by decide +kernel
theorem dX9_mergesFirst_214 : decode cX9_mergesFirst 214 = .ok (.getfield 19, 3) := by decide +kernel
theorem dX9_mergesFirst_217 : decode cX9_mergesFirst 217 = .ok (.iload_n 1, 1) := by decide +kernel
theorem dX9_mergesFirst_218 : decode cX9_mergesFirst 218 = .ok (.iaload, 1) := by decide +kernel
theorem dX9_mergesFirst_219 : decode cX9_mergesFirst 219 = .ok (.goto 4, 3) := by decide +kernel
theorem dX9_mergesFirst_222 : decode cX9_mergesFirst 222 = .ok (.iconst 0, 1) := by decide +kernel
theorem dX9_mergesFirst_223 : decode cX9_mergesFirst 223 = .ok (.iastore, 1) := by decide +kernel
theorem dX9_mergesFirst_224 : decode cX9_mergesFirst 224 = .ok (.aload_n 0, 1) := by decide +kernel
theorem dX9_mergesFirst_225 : decode cX9_mergesFirst 225 = .ok (.getfield 7, 3) := by decide +kernel
theorem dX9_mergesFirst_228 : decode cX9_mergesFirst 228 = .ok (.bipush 78, 2) := by decide +kernel
theorem dX9_mergesFirst_230 : decode cX9_mergesFirst 230 = .ok (.iload_n 1, 1) := by decide +kernel
theorem dX9_mergesFirst_231 : decode cX9_mergesFirst 231 = .ok (.iadd, 1) := by decide +kernel
theorem dX9_mergesFirst_232 : decode cX9_mergesFirst 232 = .ok (.iload_n 2, 1) := by decide +kernel
theorem dX9_mergesFirst_233 : decode cX9_mergesFirst 233 = .ok (.ifCond .eq 14, 3) := by decide +kernel
theorem dX9_mergesFirst_236 : decode cX9_mergesFirst 236 = .ok (.aload_n 0, 1) := by decide +kernel
theorem dX9_mergesFirst_237 : decode cX9_mergesFirst 237 = .ok (.getfield 7, 3) := by decide +kernel
theorem dX9_mergesFirst_240 : decode cX9_mergesFirst 240 = .ok (.sipush 131, 3) := by decide +kernel
theorem dX9_mergesFirst_243 : decode cX9_mergesFirst 243 = .ok (.iaload, 1) := by decide +kernel
theorem dX9_mergesFirst_244 : decode cX9_mergesFirst 244 = .ok (.goto 4, 3) := by decide +kernel
theorem dX9_mergesFirst_247 : decode cX9_mergesFirst 247 = .ok (.iconst 0, 1) := by decide +kernel
theorem dX9_mergesFirst_248 : decode cX9_mergesFirst 248 = .ok (.iastore, 1) := by decide +kernel
theorem dX9_mergesFirst_249 : decode cX9_mergesFirst 249 = .ok (.iinc 1 1, 3) := by decide +kernel
theorem dX9_mergesFirst_252 : decode cX9_mergesFirst 252 = .ok (.goto (-131), 3) := by decide +kernel
theorem dX9_mergesFirst_255 : decode cX9_mergesFirst 255 = .ok (.return_, 1) := by decide +kernel
set_option maxRecDepth 20000 in
theorem ggX9_mergesSecond_X9_aheadOf : GoodIn wsX9_mergesSecond wsX9_aheadOf := goodIn_r _ [7, 2, 12, 13, 14, 15, 16, 17, 18, 19, 20, 21, 22, 23] (by decide +kernel) (by decide +kernel)
set_option maxRecDepth 20000 in
theorem gX9_mergesSecond_X9_aheadOf : GoodIn wsX9_mergesSecond (wsV RX9 97 RX9 yX9_aheadOf wsX9_aheadOf) := goodIn_app (goodIn_of _ (by decide +kernel)) ggX9_mergesSecond_X9_aheadOf
set_option maxRecDepth 20000 in
theorem ggX9_mergesSecond_X9_wears : GoodIn wsX9_mergesSecond wsX9_wears := goodIn_r _ [11, 1, 12, 13, 14, 15, 16, 17, 18, 19, 20, 21, 22, 23] (by decide +kernel) (by decide +kernel)
set_option maxRecDepth 20000 in
theorem gX9_mergesSecond_X9_wears : GoodIn wsX9_mergesSecond (wsV RX9 52 RX9 yX9_wears wsX9_wears) := goodIn_app (goodIn_of _ (by decide +kernel)) ggX9_mergesSecond_X9_wears
theorem dX9_mergesSecond_0 : decode cX9_mergesSecond 0 = .ok (.iconst 0, 1) := by decide +kernel
theorem dX9_mergesSecond_1 : decode cX9_mergesSecond 1 = .ok (.istore_n 1, 1) := by decide +kernel
theorem dX9_mergesSecond_2 : decode cX9_mergesSecond 2 = .ok (.iload_n 1, 1) := by decide +kernel
theorem dX9_mergesSecond_3 : decode cX9_mergesSecond 3 = .ok (.bipush 26, 2) := by decide +kernel
theorem dX9_mergesSecond_5 : decode cX9_mergesSecond 5 = .ok (.if_icmp .ge 46, 3) := by decide +kernel
theorem dX9_mergesSecond_8 : decode cX9_mergesSecond 8 = .ok (.aload_n 0, 1) := by decide +kernel
theorem dX9_mergesSecond_9 : decode cX9_mergesSecond 9 = .ok (.getfield 7, 3) := by decide +kernel
theorem dX9_mergesSecond_12 : decode cX9_mergesSecond 12 = .ok (.bipush 104, 2) := by decide +kernel
theorem dX9_mergesSecond_14 : decode cX9_mergesSecond 14 = .ok (.iload_n 1, 1) := by decide +kernel
theorem dX9_mergesSecond_15 : decode cX9_mergesSecond 15 = .ok (.iadd, 1) := by decide +kernel
theorem dX9_mergesSecond_16 : decode cX9_mergesSecond 16 = .ok (.dup2, 1) := by decide +kernel
theorem dX9_mergesSecond_17 : decode cX9_mergesSecond 17 = .ok (.iaload, 1) := by decide +kernel
theorem dX9_mergesSecond_18 : decode cX9_mergesSecond 18 = .ok (.aload_n 0, 1) := by decide +kernel
theorem dX9_mergesSecond_19 : decode cX9_mergesSecond 19 = .ok (.getfield 7, 3) := by decide +kernel
theorem dX9_mergesSecond_22 : decode cX9_mergesSecond 22 = .ok (.sipush 236, 3) := by decide +kernel
theorem dX9_mergesSecond_25 : decode cX9_mergesSecond 25 = .ok (.iload_n 1, 1) := by decide +kernel
theorem dX9_mergesSecond_26 : decode cX9_mergesSecond 26 = .ok (.iadd, 1) := by decide +kernel
theorem dX9_mergesSecond_27 : decode cX9_mergesSecond 27 = .ok (.iaload, 1) := by decide +kernel
theorem dX9_mergesSecond_28 : decode cX9_mergesSecond 28 = .ok (.iadd, 1) := by decide +kernel
theorem dX9_mergesSecond_29 : decode cX9_mergesSecond 29 = .ok (.iastore, 1) := by decide +kernel
theorem dX9_mergesSecond_30 : decode cX9_mergesSecond 30 = .ok (.aload_n 0, 1) := by decide +kernel
theorem dX9_mergesSecond_31 : decode cX9_mergesSecond 31 = .ok (.getfield 16, 3) := by decide +kernel
theorem dX9_mergesSecond_34 : decode cX9_mergesSecond 34 = .ok (.iload_n 1, 1) := by decide +kernel
theorem dX9_mergesSecond_35 : decode cX9_mergesSecond 35 = .ok (.aload_n 0, 1) := by decide +kernel
theorem dX9_mergesSecond_36 : decode cX9_mergesSecond 36 = .ok (.getfield 7, 3) := by decide +kernel
theorem dX9_mergesSecond_39 : decode cX9_mergesSecond 39 = .ok (.bipush 104, 2) := by decide +kernel
theorem dX9_mergesSecond_41 : decode cX9_mergesSecond 41 = .ok (.iload_n 1, 1) := by decide +kernel
theorem dX9_mergesSecond_42 : decode cX9_mergesSecond 42 = .ok (.iadd, 1) := by decide +kernel
theorem dX9_mergesSecond_43 : decode cX9_mergesSecond 43 = .ok (.iaload, 1) := by decide +kernel
theorem dX9_mergesSecond_44 : decode cX9_mergesSecond 44 = .ok (.iastore, 1) := by decide +kernel
theorem dX9_mergesSecond_45 : decode cX9_mergesSecond 45 = .ok (.iinc 1 1, 3) := by decide +kernel
theorem dX9_mergesSecond_48 : decode cX9_mergesSecond 48 = .ok (.goto (-46), 3) := by decide +kernel
theorem dX9_mergesSecond_51 : decode cX9_mergesSecond 51 = .ok (.iconst 0, 1) := by decide +kernel
theorem dX9_mergesSecond_52 : decode cX9_mergesSecond 52 = .ok (.istore_n 1, 1) := by decide +kernel
theorem dX9_mergesSecond_53 : decode cX9_mergesSecond 53 = .ok (.iconst 0, 1) := by decide +kernel
theorem dX9_mergesSecond_54 : decode cX9_mergesSecond 54 = .ok (.istore_n 2, 1) := by decide +kernel
theorem dX9_mergesSecond_55 : decode cX9_mergesSecond 55 = .ok (.iload_n 2, 1) := by decide +kernel
theorem dX9_mergesSecond_56 : decode cX9_mergesSecond 56 = .ok (.bipush 26, 2) := by decide +kernel
theorem dX9_mergesSecond_58 : decode cX9_mergesSecond 58 = .ok (.if_icmp .ge 36, 3) := by decide +kernel
theorem dX9_mergesSecond_61 : decode cX9_mergesSecond 61 = .ok (.aload_n 0, 1) := by decide +kernel
theorem dX9_mergesSecond_62 : decode cX9_mergesSecond 62 = .ok (.iload_n 2, 1) := by decide +kernel
theorem dX9_mergesSecond_63 : decode cX9_mergesSecond 63 = .ok (.invokevirtual 97, 3) := by decide +kernel
theorem dX9_mergesSecond_66 : decode cX9_mergesSecond 66 = .ok (.aload_n 0, 1) := by decide +kernel
theorem dX9_mergesSecond_67 : decode cX9_mergesSecond 67 = .ok (.getfield 7, 3) := by decide +kernel
theorem dX9_mergesSecond_70 : decode cX9_mergesSecond 70 = .ok (.sipush 264, 3) := by decide +kernel
theorem dX9_mergesSecond_73 : decode cX9_mergesSecond 73 = .ok (.iaload, 1) := by decide +kernel
theorem dX9_mergesSecond_74 : decode cX9_mergesSecond 74 = .ok (.if_icmp .ne 12, 3) := by decide +kernel
theorem dX9_mergesSecond_77 : decode cX9_mergesSecond 77 = .ok (.aload_n 0, 1) := by decide +kernel
theorem dX9_mergesSecond_78 : decode cX9_mergesSecond 78 = .ok (.getfield 16, 3) := by decide +kernel
theorem dX9_mergesSecond_81 : decode cX9_mergesSecond 81 = .ok (.iload_n 2, 1) := by decide +kernel
theorem dX9_mergesSecond_82 : decode cX9_mergesSecond 82 = .ok (.iaload, 1) := by decide +kernel
theorem dX9_mergesSecond_83 : decode cX9_mergesSecond 83 = .ok (.goto 4, 3) := by decide +kernel
theorem dX9_mergesSecond_86 : decode cX9_mergesSecond 86 = .ok (.iload_n 1, 1) := by decide +kernel
theorem dX9_mergesSecond_87 : decode cX9_mergesSecond 87 = .ok (.istore_n 1, 1) := by decide +kernel
theorem dX9_mergesSecond_88 : decode cX9_mergesSecond 88 = .ok (.iinc 2 1, 3) := by decide +kernel
theorem dX9_mergesSecond_91 : decode cX9_mergesSecond 91 = .ok (.goto (-36), 3) := by decide +kernel
theorem dX9_mergesSecond_94 : decode cX9_mergesSecond 94 = .ok (.aload_n 0, 1) := by decide +kernel
theorem dX9_mergesSecond_95 : decode cX9_mergesSecond 95 = .ok (.iload_n 1, 1) := by decide +kernel
theorem dX9_mergesSecond_96 : decode cX9_mergesSecond 96 = .ok (.invokevirtual 52, 3) := by decide +kernel
theorem dX9_mergesSecond_99 : decode cX9_mergesSecond 99 = .ok (.aload_n 0, 1) := by decide +kernel
theorem dX9_mergesSecond_100 : decode cX9_mergesSecond 100 = .ok (.getfield 7, 3) := by decide +kernel
theorem dX9_mergesSecond_103 : decode cX9_mergesSecond 103 = .ok (.sipush 130, 3) := by decide +kernel
theorem dX9_mergesSecond_106 : decode cX9_mergesSecond 106 = .ok (.dup2, 1) := by decide +kernel
theorem dX9_mergesSecond_107 : decode cX9_mergesSecond 107 = .ok (.iaload, 1) := by decide +kernel
theorem dX9_mergesSecond_108 : decode cX9_mergesSecond 108 = .ok (.aload_n 0, 1) := by decide +kernel
theorem dX9_mergesSecond_109 : decode cX9_mergesSecond 109 = .ok (.getfield 7, 3) := by decide +kernel
theorem dX9_mergesSecond_112 : decode cX9_mergesSecond 112 = .ok (.sipush 262, 3) := by decide +kernel
theorem dX9_mergesSecond_115 : decode cX9_mergesSecond 115 = .ok (.iaload, 1) := by decide +kernel
theorem dX9_mergesSecond_116 : decode cX9_mergesSecond 116 = .ok (.iload_n 1, 1) := by decide +kernel
theorem dX9_mergesSecond_117 : decode cX9_mergesSecond 117 = .ok (.iadd, 1) := by decide +kernel
theorem dX9_mergesSecond_118 : decode cX9_mergesSecond 118 = .ok (.iadd, 1) := by decide +kernel
theorem dX9_mergesSecond_119 : decode cX9_mergesSecond 119 = .ok (.iastore, 1) := by decide +kernel
theorem dX9_mergesSecond_120 : decode cX9_mergesSecond 120 = .ok (.return_, 1) := by decide +kernel
set_option maxRecDepth 20000 in
theorem ggX9_mergeIn_X9_callsNow : GoodIn wsX9_mergeIn wsX9_callsNow := goodIn_r _ [7, 8, 9, 10, 6, 11, 1, 69, 70, 71, 72, 73, 74, 75, 76, 77, 78, 79, 80] (by decide +kernel) (by decide +kernel)
set_option maxRecDepth 20000 in
theorem gX9_mergeIn_X9_callsNow : GoodIn wsX9_mergeIn (wsV RX9 65 RX9 yX9_callsNow wsX9_callsNow) := goodIn_app (goodIn_of _ (by decide +kernel)) ggX9_mergeIn_X9_callsNow
set_option maxRecDepth 20000 in
theorem ggX9_mergeIn_X9_sum : GoodIn wsX9_mergeIn wsX9_sum := goodIn_r _ [11, 1, 69, 70, 71, 72, 73, 74, 75, 76, 77, 78, 79, 80] (by decide +kernel) (by decide +kernel)
set_option maxRecDepth 20000 in
theorem gX9_mergeIn_X9_sum : GoodIn wsX9_mergeIn (wsV RX9 56 RX9 yX9_sum wsX9_sum) := goodIn_app (goodIn_of _ (by decide +kernel)) ggX9_mergeIn_X9_sum
set_option maxRecDepth 20000 in
theorem ggX9_mergeIn_X9_fails : GoodIn wsX9_mergeIn wsX9_fails := goodIn_r _ [15, 16, 69, 70, 71, 72, 73, 74, 75, 76, 77, 78, 79, 80] (by decide +kernel) (by decide +kernel)
set_option maxRecDepth 20000 in
theorem gX9_mergeIn_X9_fails : GoodIn wsX9_mergeIn (wsV RX9 62 RX9 yX9_fails wsX9_fails) := goodIn_app (goodIn_of _ (by decide +kernel)) ggX9_mergeIn_X9_fails
set_option maxRecDepth 20000 in
theorem ggX9_mergeIn_X9_changes : GoodIn wsX9_mergeIn wsX9_changes := goodIn_r _ [20, 16, 21, 22, 1, 69, 70, 71, 72, 73, 74, 75, 76, 77, 78, 79, 80] (by decide +kernel) (by decide +kernel)
set_option maxRecDepth 20000 in
theorem gX9_mergeIn_X9_changes : GoodIn wsX9_mergeIn (wsV RX9 70 RX9 yX9_changes wsX9_changes) := goodIn_app (goodIn_of _ (by decide +kernel)) ggX9_mergeIn_X9_changes
set_option maxRecDepth 20000 in
theorem ggX9_mergeIn_X9_mergesFirst : GoodIn wsX9_mergeIn wsX9_mergesFirst := goodIn_r _ [26, 1, 27, 28, 29, 30, 31, 6, 32, 33, 34, 35, 36, 37, 38, 39, 40, 41, 42, 43, 44, 45, 46, 47, 48, 49, 50, 51, 52, 53, 54, 55, 56, 69, 70, 71, 72, 73, 74, 75, 76, 77, 78, 79, 80] (by decide +kernel) (by decide +kernel)
set_option maxRecDepth 20000 in
theorem gX9_mergeIn_X9_mergesFirst : GoodIn wsX9_mergeIn (wsV RX9 100 RX9 yX9_mergesFirst wsX9_mergesFirst) := goodIn_app (goodIn_of _ (by decide +kernel)) ggX9_mergeIn_X9_mergesFirst
set_option maxRecDepth 20000 in
theorem ggX9_mergeIn_X9_mergesSecond : GoodIn wsX9_mergeIn wsX9_mergesSecond := goodIn_r _ [60, 1, 27, 53, 54, 55, 6, 56, 61, 62, 63, 64, 69, 70, 71, 72, 73, 74, 75, 76, 77, 78, 79, 80] (by decide +kernel) (by decide +kernel)
set_option maxRecDepth 20000 in
theorem gX9_mergeIn_X9_mergesSecond : GoodIn wsX9_mergeIn (wsV RX9 103 RX9 yX9_mergesSecond wsX9_mergesSecond) := goodIn_app (goodIn_of _ (by decide +kernel)) ggX9_mergeIn_X9_mergesSecond
set_option maxRecDepth 20000 in
theorem ggX9_mergeIn_X9_clears : GoodIn wsX9_mergeIn wsX9_clears := goodIn_r _ [68, 1, 69, 70, 71, 72, 73, 74, 75, 76, 77, 78, 79, 80] (by decide +kernel) (by decide +kernel)
set_option maxRecDepth 20000 in
theorem gX9_mergeIn_X9_clears : GoodIn wsX9_mergeIn (wsV RX9 87 RX9 yX9_clears wsX9_clears) := goodIn_app (goodIn_of _ (by decide +kernel)) ggX9_mergeIn_X9_clears
theorem dX9_mergeIn_0 : decode cX9_mergeIn 0 = .ok (.aload_n 0, 1) := by decide +kernel
theorem dX9_mergeIn_1 : decode cX9_mergeIn 1 = .ok (.getfield 7, 3) := by decide +kernel
theorem dX9_mergeIn_4 : decode cX9_mergeIn 4 = .ok (.sipush 265, 3) := by decide +kernel
theorem dX9_mergeIn_7 : decode cX9_mergeIn 7 = .ok (.iaload, 1) := by decide +kernel
theorem dX9_mergeIn_8 : decode cX9_mergeIn 8 = .ok (.ifCond .eq 20, 3) := by decide +kernel
theorem dX9_mergeIn_11 : decode cX9_mergeIn 11 = .ok (.aload_n 0, 1) := by decide +kernel
theorem dX9_mergeIn_12 : decode cX9_mergeIn 12 = .ok (.invokevirtual 65, 3) := by decide +kernel
theorem dX9_mergeIn_15 : decode cX9_mergeIn 15 = .ok (.aload_n 0, 1) := by decide +kernel
theorem dX9_mergeIn_16 : decode cX9_mergeIn 16 = .ok (.sipush 132, 3) := by decide +kernel
theorem dX9_mergeIn_19 : decode cX9_mergeIn 19 = .ok (.invokevirtual 56, 3) := by decide +kernel
theorem dX9_mergeIn_22 : decode cX9_mergeIn 22 = .ok (.iadd, 1) := by decide +kernel
theorem dX9_mergeIn_23 : decode cX9_mergeIn 23 = .ok (.ldc 69, 2) := by decide +kernel
theorem dX9_mergeIn_25 : decode cX9_mergeIn 25 = .ok (.if_icmp .le 9, 3) := by decide +kernel
theorem dX9_mergeIn_28 : decode cX9_mergeIn 28 = .ok (.aload_n 0, 1) := by decide +kernel
theorem dX9_mergeIn_29 : decode cX9_mergeIn 29 = .ok (.iconst 1, 1) := by decide +kernel
theorem dX9_mergeIn_30 : decode cX9_mergeIn 30 = .ok (.invokevirtual 62, 3) := by decide +kernel
theorem dX9_mergeIn_33 : decode cX9_mergeIn 33 = .ok (.ireturn, 1) := by decide +kernel
theorem dX9_mergeIn_34 : decode cX9_mergeIn 34 = .ok (.aload_n 0, 1) := by decide +kernel
theorem dX9_mergeIn_35 : decode cX9_mergeIn 35 = .ok (.invokevirtual 70, 3) := by decide +kernel
theorem dX9_mergeIn_38 : decode cX9_mergeIn 38 = .ok (.aload_n 0, 1) := by decide +kernel
theorem dX9_mergeIn_39 : decode cX9_mergeIn 39 = .ok (.invokevirtual 100, 3) := by decide +kernel
theorem dX9_mergeIn_42 : decode cX9_mergeIn 42 = .ok (.aload_n 0, 1) := by decide +kernel
theorem dX9_mergeIn_43 : decode cX9_mergeIn 43 = .ok (.invokevirtual 103, 3) := by decide +kernel
theorem dX9_mergeIn_46 : decode cX9_mergeIn 46 = .ok (.iconst 0, 1) := by decide +kernel
theorem dX9_mergeIn_47 : decode cX9_mergeIn 47 = .ok (.istore_n 1, 1) := by decide +kernel
theorem dX9_mergeIn_48 : decode cX9_mergeIn 48 = .ok (.iload_n 1, 1) := by decide +kernel
theorem dX9_mergeIn_49 : decode cX9_mergeIn 49 = .ok (.bipush 26, 2) := by decide +kernel
theorem dX9_mergeIn_51 : decode cX9_mergeIn 51 = .ok (.if_icmp .ge 30, 3) := by decide +kernel
theorem dX9_mergeIn_54 : decode cX9_mergeIn 54 = .ok (.aload_n 0, 1) := by decide +kernel
theorem dX9_mergeIn_55 : decode cX9_mergeIn 55 = .ok (.getfield 7, 3) := by decide +kernel
theorem dX9_mergeIn_58 : decode cX9_mergeIn 58 = .ok (.iconst 0, 1) := by decide +kernel
theorem dX9_mergeIn_59 : decode cX9_mergeIn 59 = .ok (.iload_n 1, 1) := by decide +kernel
theorem dX9_mergeIn_60 : decode cX9_mergeIn 60 = .ok (.iadd, 1) := by decide +kernel
theorem dX9_mergeIn_61 : decode cX9_mergeIn 61 = .ok (.dup2, 1) := by decide +kernel
theorem dX9_mergeIn_62 : decode cX9_mergeIn 62 = .ok (.iaload, 1) := by decide +kernel
theorem dX9_mergeIn_63 : decode cX9_mergeIn 63 = .ok (.aload_n 0, 1) := by decide +kernel
theorem dX9_mergeIn_64 : decode cX9_mergeIn 64 = .ok (.getfield 7, 3) := by decide +kernel
theorem dX9_mergeIn_67 : decode cX9_mergeIn 67 = .ok (.sipush 132, 3) := by decide +kernel
theorem dX9_mergeIn_70 : decode cX9_mergeIn 70 = .ok (.iload_n 1, 1) := by decide +kernel
theorem dX9_mergeIn_71 : decode cX9_mergeIn 71 = .ok (.iadd, 1) := by decide +kernel
theorem dX9_mergeIn_72 : decode cX9_mergeIn 72 = .ok (.iaload, 1) := by decide +kernel
theorem dX9_mergeIn_73 : decode cX9_mergeIn 73 = .ok (.iadd, 1) := by decide +kernel
theorem dX9_mergeIn_74 : decode cX9_mergeIn 74 = .ok (.iastore, 1) := by decide +kernel
theorem dX9_mergeIn_75 : decode cX9_mergeIn 75 = .ok (.iinc 1 1, 3) := by decide +kernel
theorem dX9_mergeIn_78 : decode cX9_mergeIn 78 = .ok (.goto (-30), 3) := by decide +kernel
theorem dX9_mergeIn_81 : decode cX9_mergeIn 81 = .ok (.aload_n 0, 1) := by decide +kernel
theorem dX9_mergeIn_82 : decode cX9_mergeIn 82 = .ok (.sipush 132, 3) := by decide +kernel
theorem dX9_mergeIn_85 : decode cX9_mergeIn 85 = .ok (.invokevirtual 87, 3) := by decide +kernel
theorem dX9_mergeIn_88 : decode cX9_mergeIn 88 = .ok (.aload_n 0, 1) := by decide +kernel
theorem dX9_mergeIn_89 : decode cX9_mergeIn 89 = .ok (.getfield 7, 3) := by decide +kernel
theorem dX9_mergeIn_92 : decode cX9_mergeIn 92 = .ok (.sipush 265, 3) := by decide +kernel
theorem dX9_mergeIn_95 : decode cX9_mergeIn 95 = .ok (.iconst 0, 1) := by decide +kernel
theorem dX9_mergeIn_96 : decode cX9_mergeIn 96 = .ok (.iastore, 1) := by decide +kernel
theorem dX9_mergeIn_97 : decode cX9_mergeIn 97 = .ok (.aload_n 0, 1) := by decide +kernel
theorem dX9_mergeIn_98 : decode cX9_mergeIn 98 = .ok (.invokevirtual 65, 3) := by decide +kernel
theorem dX9_mergeIn_101 : decode cX9_mergeIn 101 = .ok (.ireturn, 1) := by decide +kernel
set_option maxRecDepth 20000 in
theorem ggX9_append_X9_fails : GoodIn wsX9_append wsX9_fails := goodIn_r _ [8, 2, 9, 10, 11, 12, 13, 14, 15, 16, 17, 18, 19, 20] (by decide +kernel) (by decide +kernel)
set_option maxRecDepth 20000 in
theorem gX9_append_X9_fails : GoodIn wsX9_append (wsV RX9 62 RX9 yX9_fails wsX9_fails) := goodIn_app (goodIn_of _ (by decide +kernel)) ggX9_append_X9_fails
theorem dX9_append_0 : decode cX9_append 0 = .ok (.aload_n 0, 1) := by decide +kernel
theorem dX9_append_1 : decode cX9_append 1 = .ok (.getfield 106, 3) := by decide +kernel
theorem dX9_append_4 : decode cX9_append 4 = .ok (.bipush 60, 2) := by decide +kernel
theorem dX9_append_6 : decode cX9_append 6 = .ok (.if_icmp .ne 9, 3) := by decide +kernel
theorem dX9_append_9 : decode cX9_append 9 = .ok (.aload_n 0, 1) := by decide +kernel
theorem dX9_append_10 : decode cX9_append 10 = .ok (.iconst 1, 1) := by decide +kernel
theorem dX9_append_11 : decode cX9_append 11 = .ok (.invokevirtual 62, 3) := by decide +kernel
theorem dX9_append_14 : decode cX9_append 14 = .ok (.ireturn, 1) := by decide +kernel
theorem dX9_append_15 : decode cX9_append 15 = .ok (.aload_n 0, 1) := by decide +kernel
theorem dX9_append_16 : decode cX9_append 16 = .ok (.iconst 0, 1) := by decide +kernel
theorem dX9_append_17 : decode cX9_append 17 = .ok (.putfield 25, 3) := by decide +kernel
theorem dX9_append_20 : decode cX9_append 20 = .ok (.aload_n 0, 1) := by decide +kernel
theorem dX9_append_21 : decode cX9_append 21 = .ok (.getfield 22, 3) := by decide +kernel
theorem dX9_append_24 : decode cX9_append 24 = .ok (.aload_n 0, 1) := by decide +kernel
theorem dX9_append_25 : decode cX9_append 25 = .ok (.getfield 106, 3) := by decide +kernel
theorem dX9_append_28 : decode cX9_append 28 = .ok (.iload_n 1, 1) := by decide +kernel
theorem dX9_append_29 : decode cX9_append 29 = .ok (.iastore, 1) := by decide +kernel
theorem dX9_append_30 : decode cX9_append 30 = .ok (.aload_n 0, 1) := by decide +kernel
theorem dX9_append_31 : decode cX9_append 31 = .ok (.dup, 1) := by decide +kernel
theorem dX9_append_32 : decode cX9_append 32 = .ok (.getfield 106, 3) := by decide +kernel
theorem dX9_append_35 : decode cX9_append 35 = .ok (.iconst 1, 1) := by decide +kernel
theorem dX9_append_36 : decode cX9_append 36 = .ok (.iadd, 1) := by decide +kernel
theorem dX9_append_37 : decode cX9_append 37 = .ok (.putfield 106, 3) := by decide +kernel
theorem dX9_append_40 : decode cX9_append 40 = .ok (.aload_n 0, 1) := by decide +kernel
theorem dX9_append_41 : decode cX9_append 41 = .ok (.getfield 106, 3) := by decide +kernel
theorem dX9_append_44 : decode cX9_append 44 = .ok (.ireturn, 1) := by decide +kernel
theorem dX9_clearText_0 : decode cX9_clearText 0 = .ok (.aload_n 0, 1) := by decide +kernel
theorem dX9_clearText_1 : decode cX9_clearText 1 = .ok (.iconst 0, 1) := by decide +kernel
theorem dX9_clearText_2 : decode cX9_clearText 2 = .ok (.putfield 25, 3) := by decide +kernel
theorem dX9_clearText_5 : decode cX9_clearText 5 = .ok (.aload_n 0, 1) := by decide +kernel
theorem dX9_clearText_6 : decode cX9_clearText 6 = .ok (.getfield 106, 3) := by decide +kernel
theorem dX9_clearText_9 : decode cX9_clearText 9 = .ok (.istore_n 1, 1) := by decide +kernel
theorem dX9_clearText_10 : decode cX9_clearText 10 = .ok (.aload_n 0, 1) := by decide +kernel
theorem dX9_clearText_11 : decode cX9_clearText 11 = .ok (.iconst 0, 1) := by decide +kernel
theorem dX9_clearText_12 : decode cX9_clearText 12 = .ok (.putfield 106, 3) := by decide +kernel
theorem dX9_clearText_15 : decode cX9_clearText 15 = .ok (.iload_n 1, 1) := by decide +kernel
theorem dX9_clearText_16 : decode cX9_clearText 16 = .ok (.ireturn, 1) := by decide +kernel
set_option maxRecDepth 20000 in
theorem ggX9_isHere_X9_in : GoodIn wsX9_isHere wsX9_in := goodIn_r _ [7] (by decide +kernel) (by decide +kernel)
set_option maxRecDepth 20000 in
theorem gX9_isHere_X9_in : GoodIn wsX9_isHere (va_wsS RX9 34 yX9_in wsX9_in) := goodIn_app (goodIn_of _ (by decide +kernel)) ggX9_isHere_X9_in
theorem dX9_isHere_0 : decode cX9_isHere 0 = .ok (.aload_n 0, 1) := by decide +kernel
theorem dX9_isHere_1 : decode cX9_isHere 1 = .ok (.getfield 109, 3) := by decide +kernel
theorem dX9_isHere_4 : decode cX9_isHere 4 = .ok (.aload_n 0, 1) := by decide +kernel
theorem dX9_isHere_5 : decode cX9_isHere 5 = .ok (.getfield 106, 3) := by decide +kernel
theorem dX9_isHere_8 : decode cX9_isHere 8 = .ok (.if_icmp .ge 27, 3) := by decide +kernel
theorem dX9_isHere_11 : decode cX9_isHere 11 = .ok (.aload_n 0, 1) := by decide +kernel
theorem dX9_isHere_12 : decode cX9_isHere 12 = .ok (.getfield 22, 3) := by decide +kernel
theorem dX9_isHere_15 : decode cX9_isHere 15 = .ok (.aload_n 0, 1) := by decide +kernel
theorem dX9_isHere_16 : decode cX9_isHere 16 = .ok (.getfield 109, 3) := by decide +kernel
theorem dX9_isHere_19 : decode cX9_isHere 19 = .ok (.iaload, 1) := by decide +kernel
theorem dX9_isHere_20 : decode cX9_isHere 20 = .ok (.i2l, 1) := by decide +kernel
theorem dX9_isHere_21 : decode cX9_isHere 21 = .ok (.iload_n 1, 1) := by decide +kernel
theorem dX9_isHere_22 : decode cX9_isHere 22 = .ok (.i2l, 1) := by decide +kernel
theorem dX9_isHere_23 : decode cX9_isHere 23 = .ok (.iload_n 2, 1) := by decide +kernel
theorem dX9_isHere_24 : decode cX9_isHere 24 = .ok (.i2l, 1) := by decide +kernel
theorem dX9_isHere_25 : decode cX9_isHere 25 = .ok (.invokestatic 34, 3) := by decide +kernel
theorem dX9_isHere_28 : decode cX9_isHere 28 = .ok (.ifCond .eq 7, 3) := by decide +kernel
theorem dX9_isHere_31 : decode cX9_isHere 31 = .ok (.iconst 1, 1) := by decide +kernel
theorem dX9_isHere_32 : decode cX9_isHere 32 = .ok (.goto 4, 3) := by decide +kernel
theorem dX9_isHere_35 : decode cX9_isHere 35 = .ok (.iconst 0, 1) := by decide +kernel
theorem dX9_isHere_36 : decode cX9_isHere 36 = .ok (.ireturn, 1) := by decide +kernel
set_option maxRecDepth 20000 in
theorem ggX9_readsTimes_X9_isHere : GoodIn wsX9_readsTimes wsX9_isHere := goodIn_r _ [8, 3, 9, 2, 10, 11, 7, 12, 13, 14, 15, 16, 17, 18, 19, 20, 21, 22, 23, 24] (by decide +kernel) (by decide +kernel)
set_option maxRecDepth 20000 in
theorem gX9_readsTimes_X9_isHere : GoodIn wsX9_readsTimes (wsV RX9 115 RX9 yX9_isHere wsX9_isHere) := goodIn_app (goodIn_of _ (by decide +kernel)) ggX9_readsTimes_X9_isHere
theorem dX9_readsTimes_0 : decode cX9_readsTimes 0 = .ok (.aload_n 0, 1) := by decide +kernel
theorem dX9_readsTimes_1 : decode cX9_readsTimes 1 = .ok (.iconst 1, 1) := by decide +kernel
theorem dX9_readsTimes_2 : decode cX9_readsTimes 2 = .ok (.putfield 112, 3) := by decide +kernel
theorem dX9_readsTimes_5 : decode cX9_readsTimes 5 = .ok (.aload_n 0, 1) := by decide +kernel
theorem dX9_readsTimes_6 : decode cX9_readsTimes 6 = .ok (.bipush 49, 2) := by decide +kernel
theorem dX9_readsTimes_8 : decode cX9_readsTimes 8 = .ok (.bipush 57, 2) := by decide +kernel
theorem dX9_readsTimes_10 : decode cX9_readsTimes 10 = .ok (.invokevirtual 115, 3) := by decide +kernel
theorem dX9_readsTimes_13 : decode cX9_readsTimes 13 = .ok (.ifCond .ne 5, 3) := by decide +kernel
theorem dX9_readsTimes_16 : decode cX9_readsTimes 16 = .ok (.iconst 1, 1) := by decide +kernel
theorem dX9_readsTimes_17 : decode cX9_readsTimes 17 = .ok (.ireturn, 1) := by decide +kernel
theorem dX9_readsTimes_18 : decode cX9_readsTimes 18 = .ok (.aload_n 0, 1) := by decide +kernel
theorem dX9_readsTimes_19 : decode cX9_readsTimes 19 = .ok (.aload_n 0, 1) := by decide +kernel
theorem dX9_readsTimes_20 : decode cX9_readsTimes 20 = .ok (.getfield 22, 3) := by decide +kernel
theorem dX9_readsTimes_23 : decode cX9_readsTimes 23 = .ok (.aload_n 0, 1) := by decide +kernel
theorem dX9_readsTimes_24 : decode cX9_readsTimes 24 = .ok (.getfield 109, 3) := by decide +kernel
theorem dX9_readsTimes_27 : decode cX9_readsTimes 27 = .ok (.iaload, 1) := by decide +kernel
theorem dX9_readsTimes_28 : decode cX9_readsTimes 28 = .ok (.bipush 48, 2) := by decide +kernel
theorem dX9_readsTimes_30 : decode cX9_readsTimes 30 = .ok (.isub, 1) := by decide +kernel
theorem dX9_readsTimes_31 : decode cX9_readsTimes 31 = .ok (.putfield 112, 3) := by decide +kernel
theorem dX9_readsTimes_34 : decode cX9_readsTimes 34 = .ok (.aload_n 0, 1) := by decide +kernel
theorem dX9_readsTimes_35 : decode cX9_readsTimes 35 = .ok (.dup, 1) := by decide +kernel
theorem dX9_readsTimes_36 : decode cX9_readsTimes 36 = .ok (.getfield 109, 3) := by decide +kernel
theorem dX9_readsTimes_39 : decode cX9_readsTimes 39 = .ok (.iconst 1, 1) := by decide +kernel
theorem dX9_readsTimes_40 : decode cX9_readsTimes 40 = .ok (.iadd, 1) := by decide +kernel
theorem dX9_readsTimes_41 : decode cX9_readsTimes 41 = .ok (.putfield 109, 3) := by decide +kernel
theorem dX9_readsTimes_44 : decode cX9_readsTimes 44 = .ok (.aload_n 0, 1) := by decide +kernel
theorem dX9_readsTimes_45 : decode cX9_readsTimes 45 = .ok (.bipush 48, 2) := by decide +kernel
theorem dX9_readsTimes_47 : decode cX9_readsTimes 47 = .ok (.bipush 57, 2) := by decide +kernel
theorem dX9_readsTimes_49 : decode cX9_readsTimes 49 = .ok (.invokevirtual 115, 3) := by decide +kernel
theorem dX9_readsTimes_52 : decode cX9_readsTimes 52 = .ok (.ifCond .eq 37, 3) := by decide +kernel
theorem dX9_readsTimes_55 : decode cX9_readsTimes 55 = .ok (.aload_n 0, 1) := by decide +kernel
theorem dX9_readsTimes_56 : decode cX9_readsTimes 56 = .ok (.bipush 10, 2) := by decide +kernel
theorem dX9_readsTimes_58 : decode cX9_readsTimes 58 = .ok (.aload_n 0, 1) := by decide +kernel
theorem dX9_readsTimes_59 : decode cX9_readsTimes 59 = .ok (.getfield 112, 3) := by decide +kernel
theorem dX9_readsTimes_62 : decode cX9_readsTimes 62 = .ok (.imul, 1) := by decide +kernel
theorem dX9_readsTimes_63 : decode cX9_readsTimes 63 = .ok (.aload_n 0, 1) := by decide +kernel
theorem dX9_readsTimes_64 : decode cX9_readsTimes 64 = .ok (.getfield 22, 3) := by decide +kernel
theorem dX9_readsTimes_67 : decode cX9_readsTimes 67 = .ok (.aload_n 0, 1) := by decide +kernel
theorem dX9_readsTimes_68 : decode cX9_readsTimes 68 = .ok (.getfield 109, 3) := by decide +kernel
theorem dX9_readsTimes_71 : decode cX9_readsTimes 71 = .ok (.iaload, 1) := by decide +kernel
theorem dX9_readsTimes_72 : decode cX9_readsTimes 72 = .ok (.iadd, 1) := by decide +kernel
theorem dX9_readsTimes_73 : decode cX9_readsTimes 73 = .ok (.bipush 48, 2) := by decide +kernel
theorem dX9_readsTimes_75 : decode cX9_readsTimes 75 = .ok (.isub, 1) := by decide +kernel
theorem dX9_readsTimes_76 : decode cX9_readsTimes 76 = .ok (.putfield 112, 3) := by decide +kernel
theorem dX9_readsTimes_79 : decode cX9_readsTimes 79 = .ok (.aload_n 0, 1) := by decide +kernel
theorem dX9_readsTimes_80 : decode cX9_readsTimes 80 = .ok (.dup, 1) := by decide +kernel
theorem dX9_readsTimes_81 : decode cX9_readsTimes 81 = .ok (.getfield 109, 3) := by decide +kernel
theorem dX9_readsTimes_84 : decode cX9_readsTimes 84 = .ok (.iconst 1, 1) := by decide +kernel
theorem dX9_readsTimes_85 : decode cX9_readsTimes 85 = .ok (.iadd, 1) := by decide +kernel
theorem dX9_readsTimes_86 : decode cX9_readsTimes 86 = .ok (.putfield 109, 3) := by decide +kernel
theorem dX9_readsTimes_89 : decode cX9_readsTimes 89 = .ok (.aload_n 0, 1) := by decide +kernel
theorem dX9_readsTimes_90 : decode cX9_readsTimes 90 = .ok (.getfield 112, 3) := by decide +kernel
theorem dX9_readsTimes_93 : decode cX9_readsTimes 93 = .ok (.iconst 1, 1) := by decide +kernel
theorem dX9_readsTimes_94 : decode cX9_readsTimes 94 = .ok (.if_icmp .le 7, 3) := by decide +kernel
theorem dX9_readsTimes_97 : decode cX9_readsTimes 97 = .ok (.iconst 1, 1) := by decide +kernel
theorem dX9_readsTimes_98 : decode cX9_readsTimes 98 = .ok (.goto 4, 3) := by decide +kernel
theorem dX9_readsTimes_101 : decode cX9_readsTimes 101 = .ok (.iconst 0, 1) := by decide +kernel
theorem dX9_readsTimes_102 : decode cX9_readsTimes 102 = .ok (.ireturn, 1) := by decide +kernel
set_option maxRecDepth 20000 in
theorem ggX9_readsPhrase_X9_readsTimes : GoodIn wsX9_readsPhrase wsX9_readsTimes := goodIn_r _ [8, 9, 3, 2, 10, 11, 12, 7, 13, 14, 15, 16, 17, 18, 19, 20, 21, 22, 23, 24, 25, 26, 27, 28, 29] (by decide +kernel) (by decide +kernel)
set_option maxRecDepth 20000 in
theorem gX9_readsPhrase_X9_readsTimes : GoodIn wsX9_readsPhrase (wsV RX9 122 RX9 yX9_readsTimes wsX9_readsTimes) := goodIn_app (goodIn_of _ (by decide +kernel)) ggX9_readsPhrase_X9_readsTimes
set_option maxRecDepth 20000 in
theorem ggX9_readsPhrase_X9_isHere : GoodIn wsX9_readsPhrase wsX9_isHere := goodIn_r _ [13, 2, 14, 3, 15, 16, 7, 17, 18, 19, 20, 21, 22, 23, 24, 25, 26, 27, 28, 29] (by decide +kernel) (by decide +kernel)
set_option maxRecDepth 20000 in
theorem gX9_readsPhrase_X9_isHere : GoodIn wsX9_readsPhrase (wsV RX9 115 RX9 yX9_isHere wsX9_isHere) := goodIn_app (goodIn_of _ (by decide +kernel)) ggX9_readsPhrase_X9_isHere
theorem dX9_readsPhrase_0 : decode cX9_readsPhrase 0 = .ok (.aload_n 0, 1) := by decide +kernel
theorem dX9_readsPhrase_1 : decode cX9_readsPhrase 1 = .ok (.iconst (-1), 1) := by decide +kernel
theorem dX9_readsPhrase_2 : decode cX9_readsPhrase 2 = .ok (.putfield 119, 3) := by decide +kernel
theorem dX9_readsPhrase_5 : decode cX9_readsPhrase 5 = .ok (.aload_n 0, 1) := by decide +kernel
theorem dX9_readsPhrase_6 : decode cX9_readsPhrase 6 = .ok (.getfield 109, 3) := by decide +kernel
theorem dX9_readsPhrase_9 : decode cX9_readsPhrase 9 = .ok (.istore_n 2, 1) := by decide +kernel
theorem dX9_readsPhrase_10 : decode cX9_readsPhrase 10 = .ok (.aload_n 0, 1) := by decide +kernel
theorem dX9_readsPhrase_11 : decode cX9_readsPhrase 11 = .ok (.invokevirtual 122, 3) := by decide +kernel
theorem dX9_readsPhrase_14 : decode cX9_readsPhrase 14 = .ok (.ifCond .ne 5, 3) := by decide +kernel
theorem dX9_readsPhrase_17 : decode cX9_readsPhrase 17 = .ok (.iconst 0, 1) := by decide +kernel
theorem dX9_readsPhrase_18 : decode cX9_readsPhrase 18 = .ok (.ireturn, 1) := by decide +kernel
theorem dX9_readsPhrase_19 : decode cX9_readsPhrase 19 = .ok (.aload_n 0, 1) := by decide +kernel
theorem dX9_readsPhrase_20 : decode cX9_readsPhrase 20 = .ok (.bipush 97, 2) := by decide +kernel
theorem dX9_readsPhrase_22 : decode cX9_readsPhrase 22 = .ok (.bipush 122, 2) := by decide +kernel
theorem dX9_readsPhrase_24 : decode cX9_readsPhrase 24 = .ok (.invokevirtual 115, 3) := by decide +kernel
theorem dX9_readsPhrase_27 : decode cX9_readsPhrase 27 = .ok (.ifCond .eq 31, 3) := by decide +kernel
theorem dX9_readsPhrase_30 : decode cX9_readsPhrase 30 = .ok (.aload_n 0, 1) := by decide +kernel
theorem dX9_readsPhrase_31 : decode cX9_readsPhrase 31 = .ok (.aload_n 0, 1) := by decide +kernel
theorem dX9_readsPhrase_32 : decode cX9_readsPhrase 32 = .ok (.getfield 22, 3) := by decide +kernel
theorem dX9_readsPhrase_35 : decode cX9_readsPhrase 35 = .ok (.aload_n 0, 1) := by decide +kernel
theorem dX9_readsPhrase_36 : decode cX9_readsPhrase 36 = .ok (.getfield 109, 3) := by decide +kernel
theorem dX9_readsPhrase_39 : decode cX9_readsPhrase 39 = .ok (.iaload, 1) := by decide +kernel
theorem dX9_readsPhrase_40 : decode cX9_readsPhrase 40 = .ok (.bipush 97, 2) := by decide +kernel
theorem dX9_readsPhrase_42 : decode cX9_readsPhrase 42 = .ok (.isub, 1) := by decide +kernel
theorem dX9_readsPhrase_43 : decode cX9_readsPhrase 43 = .ok (.putfield 119, 3) := by decide +kernel
theorem dX9_readsPhrase_46 : decode cX9_readsPhrase 46 = .ok (.aload_n 0, 1) := by decide +kernel
theorem dX9_readsPhrase_47 : decode cX9_readsPhrase 47 = .ok (.dup, 1) := by decide +kernel
theorem dX9_readsPhrase_48 : decode cX9_readsPhrase 48 = .ok (.getfield 109, 3) := by decide +kernel
theorem dX9_readsPhrase_51 : decode cX9_readsPhrase 51 = .ok (.iconst 1, 1) := by decide +kernel
theorem dX9_readsPhrase_52 : decode cX9_readsPhrase 52 = .ok (.iadd, 1) := by decide +kernel
theorem dX9_readsPhrase_53 : decode cX9_readsPhrase 53 = .ok (.putfield 109, 3) := by decide +kernel
theorem dX9_readsPhrase_56 : decode cX9_readsPhrase 56 = .ok (.iconst 1, 1) := by decide +kernel
theorem dX9_readsPhrase_57 : decode cX9_readsPhrase 57 = .ok (.ireturn, 1) := by decide +kernel
theorem dX9_readsPhrase_58 : decode cX9_readsPhrase 58 = .ok (.iload_n 1, 1) := by decide +kernel
theorem dX9_readsPhrase_59 : decode cX9_readsPhrase 59 = .ok (.ifCond .eq 34, 3) := by decide +kernel
theorem dX9_readsPhrase_62 : decode cX9_readsPhrase 62 = .ok (.aload_n 0, 1) := by decide +kernel
theorem dX9_readsPhrase_63 : decode cX9_readsPhrase 63 = .ok (.getfield 109, 3) := by decide +kernel
theorem dX9_readsPhrase_66 : decode cX9_readsPhrase 66 = .ok (.iload_n 2, 1) := by decide +kernel
theorem dX9_readsPhrase_67 : decode cX9_readsPhrase 67 = .ok (.if_icmp .le 26, 3) := by decide +kernel
theorem dX9_readsPhrase_70 : decode cX9_readsPhrase 70 = .ok (.aload_n 0, 1) := by decide +kernel
theorem dX9_readsPhrase_71 : decode cX9_readsPhrase 71 = .ok (.bipush 40, 2) := by decide +kernel
theorem dX9_readsPhrase_73 : decode cX9_readsPhrase 73 = .ok (.bipush 40, 2) := by decide +kernel
theorem dX9_readsPhrase_75 : decode cX9_readsPhrase 75 = .ok (.invokevirtual 115, 3) := by decide +kernel
theorem dX9_readsPhrase_78 : decode cX9_readsPhrase 78 = .ok (.ifCond .eq 15, 3) := by decide +kernel
theorem dX9_readsPhrase_81 : decode cX9_readsPhrase 81 = .ok (.aload_n 0, 1) := by decide +kernel
theorem dX9_readsPhrase_82 : decode cX9_readsPhrase 82 = .ok (.dup, 1) := by decide +kernel
theorem dX9_readsPhrase_83 : decode cX9_readsPhrase 83 = .ok (.getfield 109, 3) := by decide +kernel
theorem dX9_readsPhrase_86 : decode cX9_readsPhrase 86 = .ok (.iconst 1, 1) := by decide +kernel
theorem dX9_readsPhrase_87 : decode cX9_readsPhrase 87 = .ok (.iadd, 1) := by decide +kernel
theorem dX9_readsPhrase_88 : decode cX9_readsPhrase 88 = .ok (.putfield 109, 3) := by decide +kernel
theorem dX9_readsPhrase_91 : decode cX9_readsPhrase 91 = .ok (.iconst 1, 1) := by decide +kernel
theorem dX9_readsPhrase_92 : decode cX9_readsPhrase 92 = .ok (.ireturn, 1) := by decide +kernel
theorem dX9_readsPhrase_93 : decode cX9_readsPhrase 93 = .ok (.iconst 0, 1) := by decide +kernel
theorem dX9_readsPhrase_94 : decode cX9_readsPhrase 94 = .ok (.ireturn, 1) := by decide +kernel
set_option maxRecDepth 20000 in
theorem ggX9_errorOfText_X9_readsPhrase : GoodIn wsX9_errorOfText wsX9_readsPhrase := goodIn_r _ [10, 4, 1, 11, 12, 13, 14, 9, 15, 5, 16, 17, 18, 19, 3, 20, 21, 22, 23, 24, 25, 26, 27, 28, 29, 30, 31, 32, 33, 34] (by decide +kernel) (by decide +kernel)
set_option maxRecDepth 20000 in
theorem gX9_errorOfText_X9_readsPhrase : GoodIn wsX9_errorOfText (wsV RX9 126 RX9 yX9_readsPhrase wsX9_readsPhrase) := goodIn_app (goodIn_of _ (by decide +kernel)) ggX9_errorOfText_X9_readsPhrase
set_option maxRecDepth 20000 in
theorem ggX9_errorOfText_X9_isHere : GoodIn wsX9_errorOfText wsX9_isHere := goodIn_r _ [19, 1, 3, 11, 20, 21, 9, 22, 23, 24, 25, 26, 27, 28, 29, 30, 31, 32, 33, 34] (by decide +kernel) (by decide +kernel)
set_option maxRecDepth 20000 in
theorem gX9_errorOfText_X9_isHere : GoodIn wsX9_errorOfText (wsV RX9 115 RX9 yX9_isHere wsX9_isHere) := goodIn_app (goodIn_of _ (by decide +kernel)) ggX9_errorOfText_X9_isHere
theorem dX9_errorOfText_0 : decode cX9_errorOfText 0 = .ok (.aload_n 0, 1) := by decide +kernel
theorem dX9_errorOfText_1 : decode cX9_errorOfText 1 = .ok (.iconst 0, 1) := by decide +kernel
theorem dX9_errorOfText_2 : decode cX9_errorOfText 2 = .ok (.putfield 109, 3) := by decide +kernel
theorem dX9_errorOfText_5 : decode cX9_errorOfText 5 = .ok (.aload_n 0, 1) := by decide +kernel
theorem dX9_errorOfText_6 : decode cX9_errorOfText 6 = .ok (.iconst 0, 1) := by decide +kernel
theorem dX9_errorOfText_7 : decode cX9_errorOfText 7 = .ok (.putfield 79, 3) := by decide +kernel
theorem dX9_errorOfText_10 : decode cX9_errorOfText 10 = .ok (.iconst 1, 1) := by decide +kernel
theorem dX9_errorOfText_11 : decode cX9_errorOfText 11 = .ok (.istore_n 1, 1) := by decide +kernel
theorem dX9_errorOfText_12 : decode cX9_errorOfText 12 = .ok (.iload_n 1, 1) := by decide +kernel
theorem dX9_errorOfText_13 : decode cX9_errorOfText 13 = .ok (.ifCond .ne 14, 3) := by decide +kernel
theorem dX9_errorOfText_16 : decode cX9_errorOfText 16 = .ok (.aload_n 0, 1) := by decide +kernel
theorem dX9_errorOfText_17 : decode cX9_errorOfText 17 = .ok (.getfield 109, 3) := by decide +kernel
theorem dX9_errorOfText_20 : decode cX9_errorOfText 20 = .ok (.aload_n 0, 1) := by decide +kernel
theorem dX9_errorOfText_21 : decode cX9_errorOfText 21 = .ok (.getfield 106, 3) := by decide +kernel
theorem dX9_errorOfText_24 : decode cX9_errorOfText 24 = .ok (.if_icmp .ge 123, 3) := by decide +kernel
theorem dX9_errorOfText_27 : decode cX9_errorOfText 27 = .ok (.iconst 0, 1) := by decide +kernel
theorem dX9_errorOfText_28 : decode cX9_errorOfText 28 = .ok (.istore_n 1, 1) := by decide +kernel
theorem dX9_errorOfText_29 : decode cX9_errorOfText 29 = .ok (.aload_n 0, 1) := by decide +kernel
theorem dX9_errorOfText_30 : decode cX9_errorOfText 30 = .ok (.iconst 1, 1) := by decide +kernel
theorem dX9_errorOfText_31 : decode cX9_errorOfText 31 = .ok (.invokevirtual 126, 3) := by decide +kernel
theorem dX9_errorOfText_34 : decode cX9_errorOfText 34 = .ok (.ifCond .ne 8, 3) := by decide +kernel
theorem dX9_errorOfText_37 : decode cX9_errorOfText 37 = .ok (.aload_n 0, 1) := by decide +kernel
theorem dX9_errorOfText_38 : decode cX9_errorOfText 38 = .ok (.getfield 109, 3) := by decide +kernel
theorem dX9_errorOfText_41 : decode cX9_errorOfText 41 = .ok (.ireturn, 1) := by decide +kernel
theorem dX9_errorOfText_42 : decode cX9_errorOfText 42 = .ok (.aload_n 0, 1) := by decide +kernel
theorem dX9_errorOfText_43 : decode cX9_errorOfText 43 = .ok (.getfield 119, 3) := by decide +kernel
theorem dX9_errorOfText_46 : decode cX9_errorOfText 46 = .ok (.iconst (-1), 1) := by decide +kernel
theorem dX9_errorOfText_47 : decode cX9_errorOfText 47 = .ok (.if_icmp .eq 19, 3) := by decide +kernel
theorem dX9_errorOfText_50 : decode cX9_errorOfText 50 = .ok (.aload_n 0, 1) := by decide +kernel
theorem dX9_errorOfText_51 : decode cX9_errorOfText 51 = .ok (.dup, 1) := by decide +kernel
theorem dX9_errorOfText_52 : decode cX9_errorOfText 52 = .ok (.getfield 79, 3) := by decide +kernel
theorem dX9_errorOfText_55 : decode cX9_errorOfText 55 = .ok (.aload_n 0, 1) := by decide +kernel
theorem dX9_errorOfText_56 : decode cX9_errorOfText 56 = .ok (.getfield 112, 3) := by decide +kernel
theorem dX9_errorOfText_59 : decode cX9_errorOfText 59 = .ok (.iadd, 1) := by decide +kernel
theorem dX9_errorOfText_60 : decode cX9_errorOfText 60 = .ok (.putfield 79, 3) := by decide +kernel
theorem dX9_errorOfText_63 : decode cX9_errorOfText 63 = .ok (.goto (-51), 3) := by decide +kernel
theorem dX9_errorOfText_66 : decode cX9_errorOfText 66 = .ok (.aload_n 0, 1) := by decide +kernel
theorem dX9_errorOfText_67 : decode cX9_errorOfText 67 = .ok (.getfield 112, 3) := by decide +kernel
theorem dX9_errorOfText_70 : decode cX9_errorOfText 70 = .ok (.istore_n 2, 1) := by decide +kernel
theorem dX9_errorOfText_71 : decode cX9_errorOfText 71 = .ok (.iconst 0, 1) := by decide +kernel
theorem dX9_errorOfText_72 : decode cX9_errorOfText 72 = .ok (.istore_n 3, 1) := by decide +kernel
theorem dX9_errorOfText_73 : decode cX9_errorOfText 73 = .ok (.iconst 1, 1) := by decide +kernel
theorem dX9_errorOfText_74 : decode cX9_errorOfText 74 = .ok (.istore 4, 2) := by decide +kernel
theorem dX9_errorOfText_76 : decode cX9_errorOfText 76 = .ok (.iload 4, 2) := by decide +kernel
theorem dX9_errorOfText_78 : decode cX9_errorOfText 78 = .ok (.ifCond .eq 44, 3) := by decide +kernel
theorem dX9_errorOfText_81 : decode cX9_errorOfText 81 = .ok (.aload_n 0, 1) := by decide +kernel
theorem dX9_errorOfText_82 : decode cX9_errorOfText 82 = .ok (.iconst 0, 1) := by decide +kernel
theorem dX9_errorOfText_83 : decode cX9_errorOfText 83 = .ok (.invokevirtual 126, 3) := by decide +kernel
theorem dX9_errorOfText_86 : decode cX9_errorOfText 86 = .ok (.ifCond .ne 8, 3) := by decide +kernel
theorem dX9_errorOfText_89 : decode cX9_errorOfText 89 = .ok (.aload_n 0, 1) := by decide +kernel
theorem dX9_errorOfText_90 : decode cX9_errorOfText 90 = .ok (.getfield 109, 3) := by decide +kernel
theorem dX9_errorOfText_93 : decode cX9_errorOfText 93 = .ok (.ireturn, 1) := by decide +kernel
theorem dX9_errorOfText_94 : decode cX9_errorOfText 94 = .ok (.iload_n 3, 1) := by decide +kernel
theorem dX9_errorOfText_95 : decode cX9_errorOfText 95 = .ok (.aload_n 0, 1) := by decide +kernel
theorem dX9_errorOfText_96 : decode cX9_errorOfText 96 = .ok (.getfield 112, 3) := by decide +kernel
theorem dX9_errorOfText_99 : decode cX9_errorOfText 99 = .ok (.iadd, 1) := by decide +kernel
theorem dX9_errorOfText_100 : decode cX9_errorOfText 100 = .ok (.istore_n 3, 1) := by decide +kernel
theorem dX9_errorOfText_101 : decode cX9_errorOfText 101 = .ok (.aload_n 0, 1) := by decide +kernel
theorem dX9_errorOfText_102 : decode cX9_errorOfText 102 = .ok (.bipush 41, 2) := by decide +kernel
theorem dX9_errorOfText_104 : decode cX9_errorOfText 104 = .ok (.bipush 41, 2) := by decide +kernel
theorem dX9_errorOfText_106 : decode cX9_errorOfText 106 = .ok (.invokevirtual 115, 3) := by decide +kernel
theorem dX9_errorOfText_109 : decode cX9_errorOfText 109 = .ok (.ifCond .ne 7, 3) := by decide +kernel
theorem dX9_errorOfText_112 : decode cX9_errorOfText 112 = .ok (.iconst 1, 1) := by decide +kernel
theorem dX9_errorOfText_113 : decode cX9_errorOfText 113 = .ok (.goto 4, 3) := by decide +kernel
theorem dX9_errorOfText_116 : decode cX9_errorOfText 116 = .ok (.iconst 0, 1) := by decide +kernel
theorem dX9_errorOfText_117 : decode cX9_errorOfText 117 = .ok (.istore 4, 2) := by decide +kernel
theorem dX9_errorOfText_119 : decode cX9_errorOfText 119 = .ok (.goto (-43), 3) := by decide +kernel
theorem dX9_errorOfText_122 : decode cX9_errorOfText 122 = .ok (.aload_n 0, 1) := by decide +kernel
theorem dX9_errorOfText_123 : decode cX9_errorOfText 123 = .ok (.dup, 1) := by decide +kernel
theorem dX9_errorOfText_124 : decode cX9_errorOfText 124 = .ok (.getfield 109, 3) := by decide +kernel
theorem dX9_errorOfText_127 : decode cX9_errorOfText 127 = .ok (.iconst 1, 1) := by decide +kernel
theorem dX9_errorOfText_128 : decode cX9_errorOfText 128 = .ok (.iadd, 1) := by decide +kernel
theorem dX9_errorOfText_129 : decode cX9_errorOfText 129 = .ok (.putfield 109, 3) := by decide +kernel
theorem dX9_errorOfText_132 : decode cX9_errorOfText 132 = .ok (.aload_n 0, 1) := by decide +kernel
theorem dX9_errorOfText_133 : decode cX9_errorOfText 133 = .ok (.dup, 1) := by decide +kernel
theorem dX9_errorOfText_134 : decode cX9_errorOfText 134 = .ok (.getfield 79, 3) := by decide +kernel
theorem dX9_errorOfText_137 : decode cX9_errorOfText 137 = .ok (.iload_n 2, 1) := by decide +kernel
theorem dX9_errorOfText_138 : decode cX9_errorOfText 138 = .ok (.iload_n 3, 1) := by decide +kernel
theorem dX9_errorOfText_139 : decode cX9_errorOfText 139 = .ok (.imul, 1) := by decide +kernel
theorem dX9_errorOfText_140 : decode cX9_errorOfText 140 = .ok (.iadd, 1) := by decide +kernel
theorem dX9_errorOfText_141 : decode cX9_errorOfText 141 = .ok (.putfield 79, 3) := by decide +kernel
theorem dX9_errorOfText_144 : decode cX9_errorOfText 144 = .ok (.goto (-132), 3) := by decide +kernel
theorem dX9_errorOfText_147 : decode cX9_errorOfText 147 = .ok (.iconst (-1), 1) := by decide +kernel
theorem dX9_errorOfText_148 : decode cX9_errorOfText 148 = .ok (.ireturn, 1) := by decide +kernel
set_option maxRecDepth 20000 in
theorem ggX9_sings_X9_isHere : GoodIn wsX9_sings wsX9_isHere := goodIn_r _ [9, 1, 2, 10, 11, 12, 8, 13, 43, 44, 45, 46, 47, 48, 49, 50, 51, 52, 53, 54] (by decide +kernel) (by decide +kernel)
set_option maxRecDepth 20000 in
theorem gX9_sings_X9_isHere : GoodIn wsX9_sings (wsV RX9 115 RX9 yX9_isHere wsX9_isHere) := goodIn_app (goodIn_of _ (by decide +kernel)) ggX9_sings_X9_isHere
set_option maxRecDepth 20000 in
theorem ggX9_sings_X9_readsPhrase : GoodIn wsX9_sings wsX9_readsPhrase := goodIn_r _ [17, 3, 1, 10, 18, 19, 20, 8, 21, 4, 5, 6, 7, 9, 2, 11, 12, 13, 43, 44, 45, 46, 47, 48, 49, 50, 51, 52, 53, 54] (by decide +kernel) (by decide +kernel)
set_option maxRecDepth 20000 in
theorem gX9_sings_X9_readsPhrase : GoodIn wsX9_sings (wsV RX9 126 RX9 yX9_readsPhrase wsX9_readsPhrase) := goodIn_app (goodIn_of _ (by decide +kernel)) ggX9_sings_X9_readsPhrase
set_option maxRecDepth 20000 in
theorem ggX9_sings_X9_hears : GoodIn wsX9_sings wsX9_hears := goodIn_r _ [25, 26, 27, 28, 29, 8, 30, 31, 32, 33, 34, 35, 36, 37, 38, 39, 40, 41, 42, 43, 44, 45, 46, 47, 48, 49, 50, 51, 52, 53, 54] (by decide +kernel) (by decide +kernel)
set_option maxRecDepth 20000 in
theorem gX9_sings_X9_hears : GoodIn wsX9_sings (wsV RX9 73 RX9 yX9_hears wsX9_hears) := goodIn_app (goodIn_of _ (by decide +kernel)) ggX9_sings_X9_hears
theorem dX9_sings_0 : decode cX9_sings 0 = .ok (.aload_n 0, 1) := by decide +kernel
theorem dX9_sings_1 : decode cX9_sings 1 = .ok (.iconst 0, 1) := by decide +kernel
theorem dX9_sings_2 : decode cX9_sings 2 = .ok (.putfield 109, 3) := by decide +kernel
theorem dX9_sings_5 : decode cX9_sings 5 = .ok (.iconst 0, 1) := by decide +kernel
theorem dX9_sings_6 : decode cX9_sings 6 = .ok (.istore_n 1, 1) := by decide +kernel
theorem dX9_sings_7 : decode cX9_sings 7 = .ok (.iconst 0, 1) := by decide +kernel
theorem dX9_sings_8 : decode cX9_sings 8 = .ok (.istore_n 2, 1) := by decide +kernel
theorem dX9_sings_9 : decode cX9_sings 9 = .ok (.aload_n 0, 1) := by decide +kernel
theorem dX9_sings_10 : decode cX9_sings 10 = .ok (.getfield 109, 3) := by decide +kernel
theorem dX9_sings_13 : decode cX9_sings 13 = .ok (.aload_n 0, 1) := by decide +kernel
theorem dX9_sings_14 : decode cX9_sings 14 = .ok (.getfield 106, 3) := by decide +kernel
theorem dX9_sings_17 : decode cX9_sings 17 = .ok (.if_icmp .ge 127, 3) := by decide +kernel
theorem dX9_sings_20 : decode cX9_sings 20 = .ok (.iload_n 1, 1) := by decide +kernel
theorem dX9_sings_21 : decode cX9_sings 21 = .ok (.ifCond .le 38, 3) := by decide +kernel
theorem dX9_sings_24 : decode cX9_sings 24 = .ok (.aload_n 0, 1) := by decide +kernel
theorem dX9_sings_25 : decode cX9_sings 25 = .ok (.bipush 41, 2) := by decide +kernel
theorem dX9_sings_27 : decode cX9_sings 27 = .ok (.bipush 41, 2) := by decide +kernel
theorem dX9_sings_29 : decode cX9_sings 29 = .ok (.invokevirtual 115, 3) := by decide +kernel
theorem dX9_sings_32 : decode cX9_sings 32 = .ok (.ifCond .eq 27, 3) := by decide +kernel
theorem dX9_sings_35 : decode cX9_sings 35 = .ok (.iinc 1 (-1), 3) := by decide +kernel
theorem dX9_sings_38 : decode cX9_sings 38 = .ok (.aload_n 0, 1) := by decide +kernel
theorem dX9_sings_39 : decode cX9_sings 39 = .ok (.iload_n 1, 1) := by decide +kernel
theorem dX9_sings_40 : decode cX9_sings 40 = .ok (.ifCond .le 7, 3) := by decide +kernel
theorem dX9_sings_43 : decode cX9_sings 43 = .ok (.iload_n 2, 1) := by decide +kernel
theorem dX9_sings_44 : decode cX9_sings 44 = .ok (.goto 9, 3) := by decide +kernel
theorem dX9_sings_47 : decode cX9_sings 47 = .ok (.aload_n 0, 1) := by decide +kernel
theorem dX9_sings_48 : decode cX9_sings 48 = .ok (.getfield 109, 3) := by decide +kernel
theorem dX9_sings_51 : decode cX9_sings 51 = .ok (.iconst 1, 1) := by decide +kernel
theorem dX9_sings_52 : decode cX9_sings 52 = .ok (.iadd, 1) := by decide +kernel
theorem dX9_sings_53 : decode cX9_sings 53 = .ok (.putfield 109, 3) := by decide +kernel
theorem dX9_sings_56 : decode cX9_sings 56 = .ok (.goto (-47), 3) := by decide +kernel
theorem dX9_sings_59 : decode cX9_sings 59 = .ok (.aload_n 0, 1) := by decide +kernel
theorem dX9_sings_60 : decode cX9_sings 60 = .ok (.iload_n 1, 1) := by decide +kernel
theorem dX9_sings_61 : decode cX9_sings 61 = .ok (.ifCond .ne 7, 3) := by decide +kernel
theorem dX9_sings_64 : decode cX9_sings 64 = .ok (.iconst 1, 1) := by decide +kernel
theorem dX9_sings_65 : decode cX9_sings 65 = .ok (.goto 4, 3) := by decide +kernel
theorem dX9_sings_68 : decode cX9_sings 68 = .ok (.iconst 0, 1) := by decide +kernel
theorem dX9_sings_69 : decode cX9_sings 69 = .ok (.invokevirtual 126, 3) := by decide +kernel
theorem dX9_sings_72 : decode cX9_sings 72 = .ok (.istore_n 3, 1) := by decide +kernel
theorem dX9_sings_73 : decode cX9_sings 73 = .ok (.aload_n 0, 1) := by decide +kernel
theorem dX9_sings_74 : decode cX9_sings 74 = .ok (.getfield 119, 3) := by decide +kernel
theorem dX9_sings_77 : decode cX9_sings 77 = .ok (.iconst (-1), 1) := by decide +kernel
theorem dX9_sings_78 : decode cX9_sings 78 = .ok (.if_icmp .ne 10, 3) := by decide +kernel
theorem dX9_sings_81 : decode cX9_sings 81 = .ok (.aload_n 0, 1) := by decide +kernel
theorem dX9_sings_82 : decode cX9_sings 82 = .ok (.getfield 112, 3) := by decide +kernel
theorem dX9_sings_85 : decode cX9_sings 85 = .ok (.goto 4, 3) := by decide +kernel
theorem dX9_sings_88 : decode cX9_sings 88 = .ok (.iload_n 1, 1) := by decide +kernel
theorem dX9_sings_89 : decode cX9_sings 89 = .ok (.istore_n 1, 1) := by decide +kernel
theorem dX9_sings_90 : decode cX9_sings 90 = .ok (.aload_n 0, 1) := by decide +kernel
theorem dX9_sings_91 : decode cX9_sings 91 = .ok (.getfield 119, 3) := by decide +kernel
theorem dX9_sings_94 : decode cX9_sings 94 = .ok (.iconst (-1), 1) := by decide +kernel
theorem dX9_sings_95 : decode cX9_sings 95 = .ok (.if_icmp .ne 10, 3) := by decide +kernel
theorem dX9_sings_98 : decode cX9_sings 98 = .ok (.aload_n 0, 1) := by decide +kernel
theorem dX9_sings_99 : decode cX9_sings 99 = .ok (.getfield 109, 3) := by decide +kernel
theorem dX9_sings_102 : decode cX9_sings 102 = .ok (.goto 4, 3) := by decide +kernel
theorem dX9_sings_105 : decode cX9_sings 105 = .ok (.iload_n 2, 1) := by decide +kernel
theorem dX9_sings_106 : decode cX9_sings 106 = .ok (.istore_n 2, 1) := by decide +kernel
theorem dX9_sings_107 : decode cX9_sings 107 = .ok (.iconst 0, 1) := by decide +kernel
theorem dX9_sings_108 : decode cX9_sings 108 = .ok (.istore 4, 2) := by decide +kernel
theorem dX9_sings_110 : decode cX9_sings 110 = .ok (.iload 4, 2) := by decide +kernel
theorem dX9_sings_112 : decode cX9_sings 112 = .ok (.aload_n 0, 1) := by decide +kernel
theorem dX9_sings_113 : decode cX9_sings 113 = .ok (.getfield 112, 3) := by decide +kernel
theorem dX9_sings_116 : decode cX9_sings 116 = .ok (.if_icmp .ge 25, 3) := by decide +kernel
theorem dX9_sings_119 : decode cX9_sings 119 = .ok (.aload_n 0, 1) := by decide +kernel
theorem dX9_sings_120 : decode cX9_sings 120 = .ok (.getfield 119, 3) := by decide +kernel
theorem dX9_sings_123 : decode cX9_sings 123 = .ok (.iconst (-1), 1) := by decide +kernel
theorem dX9_sings_124 : decode cX9_sings 124 = .ok (.if_icmp .eq 17, 3) := by decide +kernel
theorem dX9_sings_127 : decode cX9_sings 127 = .ok (.aload_n 0, 1) := by decide +kernel
theorem dX9_sings_128 : decode cX9_sings 128 = .ok (.aload_n 0, 1) := by decide +kernel
theorem dX9_sings_129 : decode cX9_sings 129 = .ok (.getfield 119, 3) := by decide +kernel
theorem dX9_sings_132 : decode cX9_sings 132 = .ok (.invokevirtual 73, 3) := by decide +kernel
theorem dX9_sings_135 : decode cX9_sings 135 = .ok (.iinc 4 1, 3) := by decide +kernel
theorem dX9_sings_138 : decode cX9_sings 138 = .ok (.goto (-28), 3) := by decide +kernel
theorem dX9_sings_141 : decode cX9_sings 141 = .ok (.goto (-132), 3) := by decide +kernel
theorem dX9_sings_144 : decode cX9_sings 144 = .ok (.return_, 1) := by decide +kernel
set_option maxRecDepth 20000 in
theorem ggX9_isValid_X9_errorOfText : GoodIn wsX9_isValid wsX9_errorOfText := goodIn_r _ [6, 7, 8, 9, 10, 11, 12, 13, 14, 5, 15, 16, 17, 18, 19, 20, 21, 22, 23, 24, 25, 26, 27, 28, 29, 30, 31, 32, 33, 34, 35, 36, 37, 38, 39] (by decide +kernel) (by decide +kernel)
set_option maxRecDepth 20000 in
theorem gX9_isValid_X9_errorOfText : GoodIn wsX9_isValid (wsV RX9 76 RX9 yX9_errorOfText wsX9_errorOfText) := goodIn_app (goodIn_of _ (by decide +kernel)) ggX9_isValid_X9_errorOfText
theorem dX9_isValid_0 : decode cX9_isValid 0 = .ok (.aload_n 0, 1) := by decide +kernel
theorem dX9_isValid_1 : decode cX9_isValid 1 = .ok (.iconst 0, 1) := by decide +kernel
theorem dX9_isValid_2 : decode cX9_isValid 2 = .ok (.putfield 25, 3) := by decide +kernel
theorem dX9_isValid_5 : decode cX9_isValid 5 = .ok (.aload_n 0, 1) := by decide +kernel
theorem dX9_isValid_6 : decode cX9_isValid 6 = .ok (.invokevirtual 76, 3) := by decide +kernel
theorem dX9_isValid_9 : decode cX9_isValid 9 = .ok (.iconst (-1), 1) := by decide +kernel
theorem dX9_isValid_10 : decode cX9_isValid 10 = .ok (.if_icmp .ne 7, 3) := by decide +kernel
theorem dX9_isValid_13 : decode cX9_isValid 13 = .ok (.iconst 1, 1) := by decide +kernel
theorem dX9_isValid_14 : decode cX9_isValid 14 = .ok (.goto 4, 3) := by decide +kernel
theorem dX9_isValid_17 : decode cX9_isValid 17 = .ok (.iconst 0, 1) := by decide +kernel
theorem dX9_isValid_18 : decode cX9_isValid 18 = .ok (.ireturn, 1) := by decide +kernel
set_option maxRecDepth 20000 in
theorem ggX9_firstError_X9_errorOfText : GoodIn wsX9_firstError wsX9_errorOfText := goodIn_r _ [5, 6, 7, 8, 9, 10, 11, 12, 13, 4, 14, 15, 16, 17, 18, 19, 20, 21, 22, 23, 24, 25, 26, 36, 37, 38, 39, 40, 41, 42, 43, 44, 45, 46, 47] (by decide +kernel) (by decide +kernel)
set_option maxRecDepth 20000 in
theorem gX9_firstError_X9_errorOfText : GoodIn wsX9_firstError (wsV RX9 76 RX9 yX9_errorOfText wsX9_errorOfText) := goodIn_app (goodIn_of _ (by decide +kernel)) ggX9_firstError_X9_errorOfText
set_option maxRecDepth 20000 in
theorem ggX9_firstError_X9_fails : GoodIn wsX9_firstError wsX9_fails := goodIn_r _ [30, 31, 36, 37, 38, 39, 40, 41, 42, 43, 44, 45, 46, 47] (by decide +kernel) (by decide +kernel)
set_option maxRecDepth 20000 in
theorem gX9_firstError_X9_fails : GoodIn wsX9_firstError (wsV RX9 62 RX9 yX9_fails wsX9_fails) := goodIn_app (goodIn_of _ (by decide +kernel)) ggX9_firstError_X9_fails
set_option maxRecDepth 20000 in
theorem ggX9_firstError_X9_told : GoodIn wsX9_firstError wsX9_told := goodIn_r _ [35, 31, 36, 37, 38, 39, 40, 41, 42, 43, 44, 45, 46, 47] (by decide +kernel) (by decide +kernel)
set_option maxRecDepth 20000 in
theorem gX9_firstError_X9_told : GoodIn wsX9_firstError (wsV RX9 130 RX9 yX9_told wsX9_told) := goodIn_app (goodIn_of _ (by decide +kernel)) ggX9_firstError_X9_told
theorem dX9_firstError_0 : decode cX9_firstError 0 = .ok (.aload_n 0, 1) := by decide +kernel
theorem dX9_firstError_1 : decode cX9_firstError 1 = .ok (.invokevirtual 76, 3) := by decide +kernel
theorem dX9_firstError_4 : decode cX9_firstError 4 = .ok (.istore_n 1, 1) := by decide +kernel
theorem dX9_firstError_5 : decode cX9_firstError 5 = .ok (.iload_n 1, 1) := by decide +kernel
theorem dX9_firstError_6 : decode cX9_firstError 6 = .ok (.iconst (-1), 1) := by decide +kernel
theorem dX9_firstError_7 : decode cX9_firstError 7 = .ok (.if_icmp .ne 11, 3) := by decide +kernel
theorem dX9_firstError_10 : decode cX9_firstError 10 = .ok (.aload_n 0, 1) := by decide +kernel
theorem dX9_firstError_11 : decode cX9_firstError 11 = .ok (.iconst 1, 1) := by decide +kernel
theorem dX9_firstError_12 : decode cX9_firstError 12 = .ok (.invokevirtual 62, 3) := by decide +kernel
theorem dX9_firstError_15 : decode cX9_firstError 15 = .ok (.goto 8, 3) := by decide +kernel
theorem dX9_firstError_18 : decode cX9_firstError 18 = .ok (.aload_n 0, 1) := by decide +kernel
theorem dX9_firstError_19 : decode cX9_firstError 19 = .ok (.iload_n 1, 1) := by decide +kernel
theorem dX9_firstError_20 : decode cX9_firstError 20 = .ok (.invokevirtual 130, 3) := by decide +kernel
theorem dX9_firstError_23 : decode cX9_firstError 23 = .ok (.ireturn, 1) := by decide +kernel
set_option maxRecDepth 20000 in
theorem ggX9_callsOfSong_X9_errorOfText : GoodIn wsX9_callsOfSong wsX9_errorOfText := goodIn_r _ [6, 7, 1, 8, 9, 10, 11, 12, 13, 5, 14, 15, 16, 17, 18, 19, 20, 21, 22, 23, 24, 25, 26, 36, 37, 38, 39, 40, 41, 42, 43, 44, 45, 46, 47] (by decide +kernel) (by decide +kernel)
set_option maxRecDepth 20000 in
theorem gX9_callsOfSong_X9_errorOfText : GoodIn wsX9_callsOfSong (wsV RX9 76 RX9 yX9_errorOfText wsX9_errorOfText) := goodIn_app (goodIn_of _ (by decide +kernel)) ggX9_callsOfSong_X9_errorOfText
set_option maxRecDepth 20000 in
theorem ggX9_callsOfSong_X9_told : GoodIn wsX9_callsOfSong wsX9_told := goodIn_r _ [30, 31, 36, 37, 38, 39, 40, 41, 42, 43, 44, 45, 46, 47] (by decide +kernel) (by decide +kernel)
set_option maxRecDepth 20000 in
theorem gX9_callsOfSong_X9_told : GoodIn wsX9_callsOfSong (wsV RX9 130 RX9 yX9_told wsX9_told) := goodIn_app (goodIn_of _ (by decide +kernel)) ggX9_callsOfSong_X9_told
set_option maxRecDepth 20000 in
theorem ggX9_callsOfSong_X9_fails : GoodIn wsX9_callsOfSong wsX9_fails := goodIn_r _ [35, 31, 36, 37, 38, 39, 40, 41, 42, 43, 44, 45, 46, 47] (by decide +kernel) (by decide +kernel)
set_option maxRecDepth 20000 in
theorem gX9_callsOfSong_X9_fails : GoodIn wsX9_callsOfSong (wsV RX9 62 RX9 yX9_fails wsX9_fails) := goodIn_app (goodIn_of _ (by decide +kernel)) ggX9_callsOfSong_X9_fails
theorem dX9_callsOfSong_0 : decode cX9_callsOfSong 0 = .ok (.aload_n 0, 1) := by decide +kernel
theorem dX9_callsOfSong_1 : decode cX9_callsOfSong 1 = .ok (.invokevirtual 76, 3) := by decide +kernel
theorem dX9_callsOfSong_4 : decode cX9_callsOfSong 4 = .ok (.iconst (-1), 1) := by decide +kernel
theorem dX9_callsOfSong_5 : decode cX9_callsOfSong 5 = .ok (.if_icmp .ne 14, 3) := by decide +kernel
theorem dX9_callsOfSong_8 : decode cX9_callsOfSong 8 = .ok (.aload_n 0, 1) := by decide +kernel
theorem dX9_callsOfSong_9 : decode cX9_callsOfSong 9 = .ok (.aload_n 0, 1) := by decide +kernel
theorem dX9_callsOfSong_10 : decode cX9_callsOfSong 10 = .ok (.getfield 79, 3) := by decide +kernel
theorem dX9_callsOfSong_13 : decode cX9_callsOfSong 13 = .ok (.invokevirtual 130, 3) := by decide +kernel
theorem dX9_callsOfSong_16 : decode cX9_callsOfSong 16 = .ok (.goto 8, 3) := by decide +kernel
theorem dX9_callsOfSong_19 : decode cX9_callsOfSong 19 = .ok (.aload_n 0, 1) := by decide +kernel
theorem dX9_callsOfSong_20 : decode cX9_callsOfSong 20 = .ok (.iconst 1, 1) := by decide +kernel
theorem dX9_callsOfSong_21 : decode cX9_callsOfSong 21 = .ok (.invokevirtual 62, 3) := by decide +kernel
theorem dX9_callsOfSong_24 : decode cX9_callsOfSong 24 = .ok (.ireturn, 1) := by decide +kernel
set_option maxRecDepth 20000 in
theorem ggX9_undo_X9_fails : GoodIn wsX9_undo wsX9_fails := goodIn_r _ [9, 2, 10, 11, 12, 13, 14, 15, 16, 17, 18, 19, 20, 21] (by decide +kernel) (by decide +kernel)
set_option maxRecDepth 20000 in
theorem gX9_undo_X9_fails : GoodIn wsX9_undo (wsV RX9 62 RX9 yX9_fails wsX9_fails) := goodIn_app (goodIn_of _ (by decide +kernel)) ggX9_undo_X9_fails
theorem dX9_undo_0 : decode cX9_undo 0 = .ok (.aload_n 0, 1) := by decide +kernel
theorem dX9_undo_1 : decode cX9_undo 1 = .ok (.getfield 29, 3) := by decide +kernel
theorem dX9_undo_4 : decode cX9_undo 4 = .ok (.ifCond .ne 9, 3) := by decide +kernel
theorem dX9_undo_7 : decode cX9_undo 7 = .ok (.aload_n 0, 1) := by decide +kernel
theorem dX9_undo_8 : decode cX9_undo 8 = .ok (.iconst 1, 1) := by decide +kernel
theorem dX9_undo_9 : decode cX9_undo 9 = .ok (.invokevirtual 62, 3) := by decide +kernel
theorem dX9_undo_12 : decode cX9_undo 12 = .ok (.ireturn, 1) := by decide +kernel
theorem dX9_undo_13 : decode cX9_undo 13 = .ok (.aload_n 0, 1) := by decide +kernel
theorem dX9_undo_14 : decode cX9_undo 14 = .ok (.iconst 0, 1) := by decide +kernel
theorem dX9_undo_15 : decode cX9_undo 15 = .ok (.putfield 25, 3) := by decide +kernel
theorem dX9_undo_18 : decode cX9_undo 18 = .ok (.aload_n 0, 1) := by decide +kernel
theorem dX9_undo_19 : decode cX9_undo 19 = .ok (.dup, 1) := by decide +kernel
theorem dX9_undo_20 : decode cX9_undo 20 = .ok (.getfield 29, 3) := by decide +kernel
theorem dX9_undo_23 : decode cX9_undo 23 = .ok (.iconst 1, 1) := by decide +kernel
theorem dX9_undo_24 : decode cX9_undo 24 = .ok (.isub, 1) := by decide +kernel
theorem dX9_undo_25 : decode cX9_undo 25 = .ok (.putfield 29, 3) := by decide +kernel
theorem dX9_undo_28 : decode cX9_undo 28 = .ok (.iconst 0, 1) := by decide +kernel
theorem dX9_undo_29 : decode cX9_undo 29 = .ok (.istore_n 1, 1) := by decide +kernel
theorem dX9_undo_30 : decode cX9_undo 30 = .ok (.iload_n 1, 1) := by decide +kernel
theorem dX9_undo_31 : decode cX9_undo 31 = .ok (.sipush 266, 3) := by decide +kernel
theorem dX9_undo_34 : decode cX9_undo 34 = .ok (.if_icmp .ge 30, 3) := by decide +kernel
theorem dX9_undo_37 : decode cX9_undo 37 = .ok (.aload_n 0, 1) := by decide +kernel
theorem dX9_undo_38 : decode cX9_undo 38 = .ok (.getfield 7, 3) := by decide +kernel
theorem dX9_undo_41 : decode cX9_undo 41 = .ok (.iload_n 1, 1) := by decide +kernel
theorem dX9_undo_42 : decode cX9_undo 42 = .ok (.aload_n 0, 1) := by decide +kernel
theorem dX9_undo_43 : decode cX9_undo 43 = .ok (.getfield 13, 3) := by decide +kernel
theorem dX9_undo_46 : decode cX9_undo 46 = .ok (.sipush 266, 3) := by decide +kernel
theorem dX9_undo_49 : decode cX9_undo 49 = .ok (.aload_n 0, 1) := by decide +kernel
theorem dX9_undo_50 : decode cX9_undo 50 = .ok (.getfield 29, 3) := by decide +kernel
theorem dX9_undo_53 : decode cX9_undo 53 = .ok (.imul, 1) := by decide +kernel
theorem dX9_undo_54 : decode cX9_undo 54 = .ok (.iload_n 1, 1) := by decide +kernel
theorem dX9_undo_55 : decode cX9_undo 55 = .ok (.iadd, 1) := by decide +kernel
theorem dX9_undo_56 : decode cX9_undo 56 = .ok (.iaload, 1) := by decide +kernel
theorem dX9_undo_57 : decode cX9_undo 57 = .ok (.iastore, 1) := by decide +kernel
theorem dX9_undo_58 : decode cX9_undo 58 = .ok (.iinc 1 1, 3) := by decide +kernel
theorem dX9_undo_61 : decode cX9_undo 61 = .ok (.goto (-31), 3) := by decide +kernel
theorem dX9_undo_64 : decode cX9_undo 64 = .ok (.aload_n 0, 1) := by decide +kernel
theorem dX9_undo_65 : decode cX9_undo 65 = .ok (.getfield 29, 3) := by decide +kernel
theorem dX9_undo_68 : decode cX9_undo 68 = .ok (.ireturn, 1) := by decide +kernel
set_option maxRecDepth 20000 in
theorem ggX9_counters_X9_many : GoodIn wsX9_counters wsX9_many := goodIn_r _ [5, 6, 12, 13, 14, 15, 16, 17, 18, 19, 20, 21, 22, 23] (by decide +kernel) (by decide +kernel)
set_option maxRecDepth 20000 in
theorem gX9_counters_X9_many : GoodIn wsX9_counters (wsV RX9 38 RX9 yX9_many wsX9_many) := goodIn_app (goodIn_of _ (by decide +kernel)) ggX9_counters_X9_many
set_option maxRecDepth 20000 in
theorem ggX9_counters_X9_told : GoodIn wsX9_counters wsX9_told := goodIn_r _ [10, 11, 12, 13, 14, 15, 16, 17, 18, 19, 20, 21, 22, 23] (by decide +kernel) (by decide +kernel)
set_option maxRecDepth 20000 in
theorem gX9_counters_X9_told : GoodIn wsX9_counters (wsV RX9 130 RX9 yX9_told wsX9_told) := goodIn_app (goodIn_of _ (by decide +kernel)) ggX9_counters_X9_told
theorem dX9_counters_0 : decode cX9_counters 0 = .ok (.aload_n 0, 1) := by decide +kernel
theorem dX9_counters_1 : decode cX9_counters 1 = .ok (.aload_n 0, 1) := by decide +kernel
theorem dX9_counters_2 : decode cX9_counters 2 = .ok (.bipush 26, 2) := by decide +kernel
theorem dX9_counters_4 : decode cX9_counters 4 = .ok (.invokevirtual 38, 3) := by decide +kernel
theorem dX9_counters_7 : decode cX9_counters 7 = .ok (.invokevirtual 130, 3) := by decide +kernel
theorem dX9_counters_10 : decode cX9_counters 10 = .ok (.ireturn, 1) := by decide +kernel
set_option maxRecDepth 20000 in
theorem ggX9_estimate_X9_isParrot : GoodIn wsX9_estimate wsX9_isParrot := goodIn_r _ [4, 5, 6, 7, 3, 8] (by decide +kernel) (by decide +kernel)
set_option maxRecDepth 20000 in
theorem gX9_estimate_X9_isParrot : GoodIn wsX9_estimate (va_wsS RX9 59 yX9_isParrot wsX9_isParrot) := goodIn_app (goodIn_of _ (by decide +kernel)) ggX9_estimate_X9_isParrot
set_option maxRecDepth 20000 in
theorem ggX9_estimate_X9_estimateBy : GoodIn wsX9_estimate wsX9_estimateBy := goodIn_r _ [12, 13, 14, 15, 16, 3, 17, 18, 19, 20, 21, 22, 23, 24, 25, 26, 27, 28, 29, 39, 40, 41, 42, 43, 44, 45, 46, 47, 48, 49, 50] (by decide +kernel) (by decide +kernel)
set_option maxRecDepth 20000 in
theorem gX9_estimate_X9_estimateBy : GoodIn wsX9_estimate (wsV RX9 90 RX9 yX9_estimateBy wsX9_estimateBy) := goodIn_app (goodIn_of _ (by decide +kernel)) ggX9_estimate_X9_estimateBy
set_option maxRecDepth 20000 in
theorem ggX9_estimate_X9_told : GoodIn wsX9_estimate wsX9_told := goodIn_r _ [33, 34, 39, 40, 41, 42, 43, 44, 45, 46, 47, 48, 49, 50] (by decide +kernel) (by decide +kernel)
set_option maxRecDepth 20000 in
theorem gX9_estimate_X9_told : GoodIn wsX9_estimate (wsV RX9 130 RX9 yX9_told wsX9_told) := goodIn_app (goodIn_of _ (by decide +kernel)) ggX9_estimate_X9_told
set_option maxRecDepth 20000 in
theorem ggX9_estimate_X9_fails : GoodIn wsX9_estimate wsX9_fails := goodIn_r _ [38, 34, 39, 40, 41, 42, 43, 44, 45, 46, 47, 48, 49, 50] (by decide +kernel) (by decide +kernel)
set_option maxRecDepth 20000 in
theorem gX9_estimate_X9_fails : GoodIn wsX9_estimate (wsV RX9 62 RX9 yX9_fails wsX9_fails) := goodIn_app (goodIn_of _ (by decide +kernel)) ggX9_estimate_X9_fails
theorem dX9_estimate_0 : decode cX9_estimate 0 = .ok (.iload_n 1, 1) := by decide +kernel
theorem dX9_estimate_1 : decode cX9_estimate 1 = .ok (.invokestatic 59, 3) := by decide +kernel
theorem dX9_estimate_4 : decode cX9_estimate 4 = .ok (.ifCond .eq 16, 3) := by decide +kernel
theorem dX9_estimate_7 : decode cX9_estimate 7 = .ok (.aload_n 0, 1) := by decide +kernel
theorem dX9_estimate_8 : decode cX9_estimate 8 = .ok (.aload_n 0, 1) := by decide +kernel
theorem dX9_estimate_9 : decode cX9_estimate 9 = .ok (.iconst 0, 1) := by decide +kernel
theorem dX9_estimate_10 : decode cX9_estimate 10 = .ok (.iload_n 1, 1) := by decide +kernel
theorem dX9_estimate_11 : decode cX9_estimate 11 = .ok (.invokevirtual 90, 3) := by decide +kernel
theorem dX9_estimate_14 : decode cX9_estimate 14 = .ok (.invokevirtual 130, 3) := by decide +kernel
theorem dX9_estimate_17 : decode cX9_estimate 17 = .ok (.goto 8, 3) := by decide +kernel
theorem dX9_estimate_20 : decode cX9_estimate 20 = .ok (.aload_n 0, 1) := by decide +kernel
theorem dX9_estimate_21 : decode cX9_estimate 21 = .ok (.iconst 1, 1) := by decide +kernel
theorem dX9_estimate_22 : decode cX9_estimate 22 = .ok (.invokevirtual 62, 3) := by decide +kernel
theorem dX9_estimate_25 : decode cX9_estimate 25 = .ok (.ireturn, 1) := by decide +kernel
set_option maxRecDepth 20000 in
theorem ggX9_sureCount_X9_isParrot : GoodIn wsX9_sureCount wsX9_isParrot := goodIn_r _ [4, 5, 6, 7, 3, 8] (by decide +kernel) (by decide +kernel)
set_option maxRecDepth 20000 in
theorem gX9_sureCount_X9_isParrot : GoodIn wsX9_sureCount (va_wsS RX9 59 yX9_isParrot wsX9_isParrot) := goodIn_app (goodIn_of _ (by decide +kernel)) ggX9_sureCount_X9_isParrot
set_option maxRecDepth 20000 in
theorem ggX9_sureCount_X9_sureBy : GoodIn wsX9_sureCount wsX9_sureBy := goodIn_r _ [12, 13, 23, 24, 25, 26, 27, 28, 29, 30, 31, 32, 33, 34] (by decide +kernel) (by decide +kernel)
set_option maxRecDepth 20000 in
theorem gX9_sureCount_X9_sureBy : GoodIn wsX9_sureCount (wsV RX9 94 RX9 yX9_sureBy wsX9_sureBy) := goodIn_app (goodIn_of _ (by decide +kernel)) ggX9_sureCount_X9_sureBy
set_option maxRecDepth 20000 in
theorem ggX9_sureCount_X9_told : GoodIn wsX9_sureCount wsX9_told := goodIn_r _ [17, 18, 23, 24, 25, 26, 27, 28, 29, 30, 31, 32, 33, 34] (by decide +kernel) (by decide +kernel)
set_option maxRecDepth 20000 in
theorem gX9_sureCount_X9_told : GoodIn wsX9_sureCount (wsV RX9 130 RX9 yX9_told wsX9_told) := goodIn_app (goodIn_of _ (by decide +kernel)) ggX9_sureCount_X9_told
set_option maxRecDepth 20000 in
theorem ggX9_sureCount_X9_fails : GoodIn wsX9_sureCount wsX9_fails := goodIn_r _ [22, 18, 23, 24, 25, 26, 27, 28, 29, 30, 31, 32, 33, 34] (by decide +kernel) (by decide +kernel)
set_option maxRecDepth 20000 in
theorem gX9_sureCount_X9_fails : GoodIn wsX9_sureCount (wsV RX9 62 RX9 yX9_fails wsX9_fails) := goodIn_app (goodIn_of _ (by decide +kernel)) ggX9_sureCount_X9_fails
theorem dX9_sureCount_0 : decode cX9_sureCount 0 = .ok (.iload_n 1, 1) := by decide +kernel
theorem dX9_sureCount_1 : decode cX9_sureCount 1 = .ok (.invokestatic 59, 3) := by decide +kernel
theorem dX9_sureCount_4 : decode cX9_sureCount 4 = .ok (.ifCond .eq 16, 3) := by decide +kernel
theorem dX9_sureCount_7 : decode cX9_sureCount 7 = .ok (.aload_n 0, 1) := by decide +kernel
theorem dX9_sureCount_8 : decode cX9_sureCount 8 = .ok (.aload_n 0, 1) := by decide +kernel
theorem dX9_sureCount_9 : decode cX9_sureCount 9 = .ok (.iconst 0, 1) := by decide +kernel
theorem dX9_sureCount_10 : decode cX9_sureCount 10 = .ok (.iload_n 1, 1) := by decide +kernel
theorem dX9_sureCount_11 : decode cX9_sureCount 11 = .ok (.invokevirtual 94, 3) := by decide +kernel
theorem dX9_sureCount_14 : decode cX9_sureCount 14 = .ok (.invokevirtual 130, 3) := by decide +kernel
theorem dX9_sureCount_17 : decode cX9_sureCount 17 = .ok (.goto 8, 3) := by decide +kernel
theorem dX9_sureCount_20 : decode cX9_sureCount 20 = .ok (.aload_n 0, 1) := by decide +kernel
theorem dX9_sureCount_21 : decode cX9_sureCount 21 = .ok (.iconst 1, 1) := by decide +kernel
theorem dX9_sureCount_22 : decode cX9_sureCount 22 = .ok (.invokevirtual 62, 3) := by decide +kernel
theorem dX9_sureCount_25 : decode cX9_sureCount 25 = .ok (.ireturn, 1) := by decide +kernel
set_option maxRecDepth 20000 in
theorem ggX9_surplus_X9_isParrot : GoodIn wsX9_surplus wsX9_isParrot := goodIn_r _ [5, 6, 7, 8, 4, 9] (by decide +kernel) (by decide +kernel)
set_option maxRecDepth 20000 in
theorem gX9_surplus_X9_isParrot : GoodIn wsX9_surplus (va_wsS RX9 59 yX9_isParrot wsX9_isParrot) := goodIn_app (goodIn_of _ (by decide +kernel)) ggX9_surplus_X9_isParrot
set_option maxRecDepth 20000 in
theorem ggX9_surplus_X9_fails : GoodIn wsX9_surplus wsX9_fails := goodIn_r _ [13, 14, 19, 20, 21, 22, 23, 24, 25, 26, 27, 28, 29, 30] (by decide +kernel) (by decide +kernel)
set_option maxRecDepth 20000 in
theorem gX9_surplus_X9_fails : GoodIn wsX9_surplus (wsV RX9 62 RX9 yX9_fails wsX9_fails) := goodIn_app (goodIn_of _ (by decide +kernel)) ggX9_surplus_X9_fails
set_option maxRecDepth 20000 in
theorem ggX9_surplus_X9_told : GoodIn wsX9_surplus wsX9_told := goodIn_r _ [18, 14, 19, 20, 21, 22, 23, 24, 25, 26, 27, 28, 29, 30] (by decide +kernel) (by decide +kernel)
set_option maxRecDepth 20000 in
theorem gX9_surplus_X9_told : GoodIn wsX9_surplus (wsV RX9 130 RX9 yX9_told wsX9_told) := goodIn_app (goodIn_of _ (by decide +kernel)) ggX9_surplus_X9_told
theorem dX9_surplus_0 : decode cX9_surplus 0 = .ok (.iload_n 1, 1) := by decide +kernel
theorem dX9_surplus_1 : decode cX9_surplus 1 = .ok (.invokestatic 59, 3) := by decide +kernel
theorem dX9_surplus_4 : decode cX9_surplus 4 = .ok (.ifCond .ne 9, 3) := by decide +kernel
theorem dX9_surplus_7 : decode cX9_surplus 7 = .ok (.aload_n 0, 1) := by decide +kernel
theorem dX9_surplus_8 : decode cX9_surplus 8 = .ok (.iconst 1, 1) := by decide +kernel
theorem dX9_surplus_9 : decode cX9_surplus 9 = .ok (.invokevirtual 62, 3) := by decide +kernel
theorem dX9_surplus_12 : decode cX9_surplus 12 = .ok (.ireturn, 1) := by decide +kernel
theorem dX9_surplus_13 : decode cX9_surplus 13 = .ok (.aload_n 0, 1) := by decide +kernel
theorem dX9_surplus_14 : decode cX9_surplus 14 = .ok (.getfield 7, 3) := by decide +kernel
theorem dX9_surplus_17 : decode cX9_surplus 17 = .ok (.bipush 26, 2) := by decide +kernel
theorem dX9_surplus_19 : decode cX9_surplus 19 = .ok (.iload_n 1, 1) := by decide +kernel
theorem dX9_surplus_20 : decode cX9_surplus 20 = .ok (.iadd, 1) := by decide +kernel
theorem dX9_surplus_21 : decode cX9_surplus 21 = .ok (.iaload, 1) := by decide +kernel
theorem dX9_surplus_22 : decode cX9_surplus 22 = .ok (.ifCond .le 19, 3) := by decide +kernel
theorem dX9_surplus_25 : decode cX9_surplus 25 = .ok (.aload_n 0, 1) := by decide +kernel
theorem dX9_surplus_26 : decode cX9_surplus 26 = .ok (.aload_n 0, 1) := by decide +kernel
theorem dX9_surplus_27 : decode cX9_surplus 27 = .ok (.getfield 7, 3) := by decide +kernel
theorem dX9_surplus_30 : decode cX9_surplus 30 = .ok (.bipush 52, 2) := by decide +kernel
theorem dX9_surplus_32 : decode cX9_surplus 32 = .ok (.iload_n 1, 1) := by decide +kernel
theorem dX9_surplus_33 : decode cX9_surplus 33 = .ok (.iadd, 1) := by decide +kernel
theorem dX9_surplus_34 : decode cX9_surplus 34 = .ok (.iaload, 1) := by decide +kernel
theorem dX9_surplus_35 : decode cX9_surplus 35 = .ok (.invokevirtual 130, 3) := by decide +kernel
theorem dX9_surplus_38 : decode cX9_surplus 38 = .ok (.goto 8, 3) := by decide +kernel
theorem dX9_surplus_41 : decode cX9_surplus 41 = .ok (.aload_n 0, 1) := by decide +kernel
theorem dX9_surplus_42 : decode cX9_surplus 42 = .ok (.iconst 2, 1) := by decide +kernel
theorem dX9_surplus_43 : decode cX9_surplus 43 = .ok (.invokevirtual 62, 3) := by decide +kernel
theorem dX9_surplus_46 : decode cX9_surplus 46 = .ok (.ireturn, 1) := by decide +kernel
set_option maxRecDepth 20000 in
theorem ggX9_floor_X9_floorOf : GoodIn wsX9_floor wsX9_floorOf := goodIn_r _ [5, 6, 7, 8, 9, 4, 10, 11, 12, 13, 14, 15, 16, 17, 18, 24, 25, 26, 27, 28, 29, 30, 31, 32, 33, 34, 35] (by decide +kernel) (by decide +kernel)
set_option maxRecDepth 20000 in
theorem gX9_floor_X9_floorOf : GoodIn wsX9_floor (wsV RX9 49 RX9 yX9_floorOf wsX9_floorOf) := goodIn_app (goodIn_of _ (by decide +kernel)) ggX9_floor_X9_floorOf
set_option maxRecDepth 20000 in
theorem ggX9_floor_X9_told : GoodIn wsX9_floor wsX9_told := goodIn_r _ [22, 23, 24, 25, 26, 27, 28, 29, 30, 31, 32, 33, 34, 35] (by decide +kernel) (by decide +kernel)
set_option maxRecDepth 20000 in
theorem gX9_floor_X9_told : GoodIn wsX9_floor (wsV RX9 130 RX9 yX9_told wsX9_told) := goodIn_app (goodIn_of _ (by decide +kernel)) ggX9_floor_X9_told
theorem dX9_floor_0 : decode cX9_floor 0 = .ok (.aload_n 0, 1) := by decide +kernel
theorem dX9_floor_1 : decode cX9_floor 1 = .ok (.aload_n 0, 1) := by decide +kernel
theorem dX9_floor_2 : decode cX9_floor 2 = .ok (.iconst 0, 1) := by decide +kernel
theorem dX9_floor_3 : decode cX9_floor 3 = .ok (.invokevirtual 49, 3) := by decide +kernel
theorem dX9_floor_6 : decode cX9_floor 6 = .ok (.invokevirtual 130, 3) := by decide +kernel
theorem dX9_floor_9 : decode cX9_floor 9 = .ok (.ireturn, 1) := by decide +kernel
set_option maxRecDepth 20000 in
theorem ggX9_nextTakenOver_X9_isFull : GoodIn wsX9_nextTakenOver wsX9_isFull := goodIn_r _ [5, 6, 7, 8, 9, 4, 10, 24, 25, 26, 27, 28, 29, 30, 31, 32, 33, 34, 35] (by decide +kernel) (by decide +kernel)
set_option maxRecDepth 20000 in
theorem gX9_nextTakenOver_X9_isFull : GoodIn wsX9_nextTakenOver (wsV RX9 42 RX9 yX9_isFull wsX9_isFull) := goodIn_app (goodIn_of _ (by decide +kernel)) ggX9_nextTakenOver_X9_isFull
set_option maxRecDepth 20000 in
theorem ggX9_nextTakenOver_X9_leastOf : GoodIn wsX9_nextTakenOver wsX9_leastOf := goodIn_r _ [14, 6, 24, 25, 26, 27, 28, 29, 30, 31, 32, 33, 34, 35] (by decide +kernel) (by decide +kernel)
set_option maxRecDepth 20000 in
theorem gX9_nextTakenOver_X9_leastOf : GoodIn wsX9_nextTakenOver (wsV RX9 46 RX9 yX9_leastOf wsX9_leastOf) := goodIn_app (goodIn_of _ (by decide +kernel)) ggX9_nextTakenOver_X9_leastOf
set_option maxRecDepth 20000 in
theorem ggX9_nextTakenOver_X9_told : GoodIn wsX9_nextTakenOver wsX9_told := goodIn_r _ [18, 19, 24, 25, 26, 27, 28, 29, 30, 31, 32, 33, 34, 35] (by decide +kernel) (by decide +kernel)
set_option maxRecDepth 20000 in
theorem gX9_nextTakenOver_X9_told : GoodIn wsX9_nextTakenOver (wsV RX9 130 RX9 yX9_told wsX9_told) := goodIn_app (goodIn_of _ (by decide +kernel)) ggX9_nextTakenOver_X9_told
set_option maxRecDepth 20000 in
theorem ggX9_nextTakenOver_X9_fails : GoodIn wsX9_nextTakenOver wsX9_fails := goodIn_r _ [23, 19, 24, 25, 26, 27, 28, 29, 30, 31, 32, 33, 34, 35] (by decide +kernel) (by decide +kernel)
set_option maxRecDepth 20000 in
theorem gX9_nextTakenOver_X9_fails : GoodIn wsX9_nextTakenOver (wsV RX9 62 RX9 yX9_fails wsX9_fails) := goodIn_app (goodIn_of _ (by decide +kernel)) ggX9_nextTakenOver_X9_fails
theorem dX9_nextTakenOver_0 : decode cX9_nextTakenOver 0 = .ok (.aload_n 0, 1) := by decide +kernel
theorem dX9_nextTakenOver_1 : decode cX9_nextTakenOver 1 = .ok (.iconst 0, 1) := by decide +kernel
theorem dX9_nextTakenOver_2 : decode cX9_nextTakenOver 2 = .ok (.invokevirtual 42, 3) := by decide +kernel
theorem dX9_nextTakenOver_5 : decode cX9_nextTakenOver 5 = .ok (.ifCond .eq 15, 3) := by decide +kernel
theorem dX9_nextTakenOver_8 : decode cX9_nextTakenOver 8 = .ok (.aload_n 0, 1) := by decide +kernel
theorem dX9_nextTakenOver_9 : decode cX9_nextTakenOver 9 = .ok (.aload_n 0, 1) := by decide +kernel
theorem dX9_nextTakenOver_10 : decode cX9_nextTakenOver 10 = .ok (.iconst 0, 1) := by decide +kernel
theorem dX9_nextTakenOver_11 : decode cX9_nextTakenOver 11 = .ok (.invokevirtual 46, 3) := by decide +kernel
theorem dX9_nextTakenOver_14 : decode cX9_nextTakenOver 14 = .ok (.invokevirtual 130, 3) := by decide +kernel
theorem dX9_nextTakenOver_17 : decode cX9_nextTakenOver 17 = .ok (.goto 8, 3) := by decide +kernel
theorem dX9_nextTakenOver_20 : decode cX9_nextTakenOver 20 = .ok (.aload_n 0, 1) := by decide +kernel
theorem dX9_nextTakenOver_21 : decode cX9_nextTakenOver 21 = .ok (.iconst 1, 1) := by decide +kernel
theorem dX9_nextTakenOver_22 : decode cX9_nextTakenOver 22 = .ok (.invokevirtual 62, 3) := by decide +kernel
theorem dX9_nextTakenOver_25 : decode cX9_nextTakenOver 25 = .ok (.ireturn, 1) := by decide +kernel
set_option maxRecDepth 20000 in
theorem ggX9_loudestAt_X9_aheadOf : GoodIn wsX9_loudestAt wsX9_aheadOf := goodIn_r _ [7, 1, 8, 9, 10, 11, 12, 13, 14, 15, 16, 17, 18, 19] (by decide +kernel) (by decide +kernel)
set_option maxRecDepth 20000 in
theorem gX9_loudestAt_X9_aheadOf : GoodIn wsX9_loudestAt (wsV RX9 97 RX9 yX9_aheadOf wsX9_aheadOf) := goodIn_app (goodIn_of _ (by decide +kernel)) ggX9_loudestAt_X9_aheadOf
theorem dX9_loudestAt_0 : decode cX9_loudestAt 0 = .ok (.iconst 0, 1) := by decide +kernel
theorem dX9_loudestAt_1 : decode cX9_loudestAt 1 = .ok (.istore_n 2, 1) := by decide +kernel
theorem dX9_loudestAt_2 : decode cX9_loudestAt 2 = .ok (.iload_n 2, 1) := by decide +kernel
theorem dX9_loudestAt_3 : decode cX9_loudestAt 3 = .ok (.bipush 26, 2) := by decide +kernel
theorem dX9_loudestAt_5 : decode cX9_loudestAt 5 = .ok (.if_icmp .ge 24, 3) := by decide +kernel
theorem dX9_loudestAt_8 : decode cX9_loudestAt 8 = .ok (.aload_n 0, 1) := by decide +kernel
theorem dX9_loudestAt_9 : decode cX9_loudestAt 9 = .ok (.getfield 16, 3) := by decide +kernel
theorem dX9_loudestAt_12 : decode cX9_loudestAt 12 = .ok (.iload_n 2, 1) := by decide +kernel
theorem dX9_loudestAt_13 : decode cX9_loudestAt 13 = .ok (.aload_n 0, 1) := by decide +kernel
theorem dX9_loudestAt_14 : decode cX9_loudestAt 14 = .ok (.getfield 7, 3) := by decide +kernel
theorem dX9_loudestAt_17 : decode cX9_loudestAt 17 = .ok (.bipush 26, 2) := by decide +kernel
theorem dX9_loudestAt_19 : decode cX9_loudestAt 19 = .ok (.iload_n 2, 1) := by decide +kernel
theorem dX9_loudestAt_20 : decode cX9_loudestAt 20 = .ok (.iadd, 1) := by decide +kernel
theorem dX9_loudestAt_21 : decode cX9_loudestAt 21 = .ok (.iaload, 1) := by decide +kernel
theorem dX9_loudestAt_22 : decode cX9_loudestAt 22 = .ok (.iastore, 1) := by decide +kernel
theorem dX9_loudestAt_23 : decode cX9_loudestAt 23 = .ok (.iinc 2 1, 3) := by decide +kernel
theorem dX9_loudestAt_26 : decode cX9_loudestAt 26 = .ok (.goto (-24), 3) := by decide +kernel
theorem dX9_loudestAt_29 : decode cX9_loudestAt 29 = .ok (.iconst 0, 1) := by decide +kernel
theorem dX9_loudestAt_30 : decode cX9_loudestAt 30 = .ok (.istore_n 2, 1) := by decide +kernel
theorem dX9_loudestAt_31 : decode cX9_loudestAt 31 = .ok (.iload_n 2, 1) := by decide +kernel
theorem dX9_loudestAt_32 : decode cX9_loudestAt 32 = .ok (.bipush 26, 2) := by decide +kernel
theorem dX9_loudestAt_34 : decode cX9_loudestAt 34 = .ok (.if_icmp .ge 29, 3) := by decide +kernel
theorem dX9_loudestAt_37 : decode cX9_loudestAt 37 = .ok (.aload_n 0, 1) := by decide +kernel
theorem dX9_loudestAt_38 : decode cX9_loudestAt 38 = .ok (.getfield 16, 3) := by decide +kernel
theorem dX9_loudestAt_41 : decode cX9_loudestAt 41 = .ok (.iload_n 2, 1) := by decide +kernel
theorem dX9_loudestAt_42 : decode cX9_loudestAt 42 = .ok (.iaload, 1) := by decide +kernel
theorem dX9_loudestAt_43 : decode cX9_loudestAt 43 = .ok (.ifCond .le 14, 3) := by decide +kernel
theorem dX9_loudestAt_46 : decode cX9_loudestAt 46 = .ok (.aload_n 0, 1) := by decide +kernel
theorem dX9_loudestAt_47 : decode cX9_loudestAt 47 = .ok (.iload_n 2, 1) := by decide +kernel
theorem dX9_loudestAt_48 : decode cX9_loudestAt 48 = .ok (.invokevirtual 97, 3) := by decide +kernel
theorem dX9_loudestAt_51 : decode cX9_loudestAt 51 = .ok (.iload_n 1, 1) := by decide +kernel
theorem dX9_loudestAt_52 : decode cX9_loudestAt 52 = .ok (.if_icmp .ne 5, 3) := by decide +kernel
theorem dX9_loudestAt_55 : decode cX9_loudestAt 55 = .ok (.iload_n 2, 1) := by decide +kernel
theorem dX9_loudestAt_56 : decode cX9_loudestAt 56 = .ok (.ireturn, 1) := by decide +kernel
theorem dX9_loudestAt_57 : decode cX9_loudestAt 57 = .ok (.iinc 2 1, 3) := by decide +kernel
theorem dX9_loudestAt_60 : decode cX9_loudestAt 60 = .ok (.goto (-29), 3) := by decide +kernel
theorem dX9_loudestAt_63 : decode cX9_loudestAt 63 = .ok (.iconst (-1), 1) := by decide +kernel
theorem dX9_loudestAt_64 : decode cX9_loudestAt 64 = .ok (.ireturn, 1) := by decide +kernel
set_option maxRecDepth 20000 in
theorem ggX9_loudest_X9_fails : GoodIn wsX9_loudest wsX9_fails := goodIn_r _ [5, 6, 21, 22, 23, 24, 25, 26, 27, 28, 29, 30, 31, 32] (by decide +kernel) (by decide +kernel)
set_option maxRecDepth 20000 in
theorem gX9_loudest_X9_fails : GoodIn wsX9_loudest (wsV RX9 62 RX9 yX9_fails wsX9_fails) := goodIn_app (goodIn_of _ (by decide +kernel)) ggX9_loudest_X9_fails
set_option maxRecDepth 20000 in
theorem ggX9_loudest_X9_loudestAt : GoodIn wsX9_loudest wsX9_loudestAt := goodIn_r _ [10, 11, 12, 13, 14, 15, 4, 16, 21, 22, 23, 24, 25, 26, 27, 28, 29, 30, 31, 32] (by decide +kernel) (by decide +kernel)
set_option maxRecDepth 20000 in
theorem gX9_loudest_X9_loudestAt : GoodIn wsX9_loudest (wsV RX9 133 RX9 yX9_loudestAt wsX9_loudestAt) := goodIn_app (goodIn_of _ (by decide +kernel)) ggX9_loudest_X9_loudestAt
set_option maxRecDepth 20000 in
theorem ggX9_loudest_X9_told : GoodIn wsX9_loudest wsX9_told := goodIn_r _ [20, 6, 21, 22, 23, 24, 25, 26, 27, 28, 29, 30, 31, 32] (by decide +kernel) (by decide +kernel)
set_option maxRecDepth 20000 in
theorem gX9_loudest_X9_told : GoodIn wsX9_loudest (wsV RX9 130 RX9 yX9_told wsX9_told) := goodIn_app (goodIn_of _ (by decide +kernel)) ggX9_loudest_X9_told
theorem dX9_loudest_0 : decode cX9_loudest 0 = .ok (.iload_n 1, 1) := by decide +kernel
theorem dX9_loudest_1 : decode cX9_loudest 1 = .ok (.ifCond .ge 9, 3) := by decide +kernel
theorem dX9_loudest_4 : decode cX9_loudest 4 = .ok (.aload_n 0, 1) := by decide +kernel
theorem dX9_loudest_5 : decode cX9_loudest 5 = .ok (.iconst 1, 1) := by decide +kernel
theorem dX9_loudest_6 : decode cX9_loudest 6 = .ok (.invokevirtual 62, 3) := by decide +kernel
theorem dX9_loudest_9 : decode cX9_loudest 9 = .ok (.ireturn, 1) := by decide +kernel
theorem dX9_loudest_10 : decode cX9_loudest 10 = .ok (.aload_n 0, 1) := by decide +kernel
theorem dX9_loudest_11 : decode cX9_loudest 11 = .ok (.iload_n 1, 1) := by decide +kernel
theorem dX9_loudest_12 : decode cX9_loudest 12 = .ok (.invokevirtual 133, 3) := by decide +kernel
theorem dX9_loudest_15 : decode cX9_loudest 15 = .ok (.istore_n 2, 1) := by decide +kernel
theorem dX9_loudest_16 : decode cX9_loudest 16 = .ok (.iload_n 2, 1) := by decide +kernel
theorem dX9_loudest_17 : decode cX9_loudest 17 = .ok (.iconst (-1), 1) := by decide +kernel
theorem dX9_loudest_18 : decode cX9_loudest 18 = .ok (.if_icmp .ne 11, 3) := by decide +kernel
theorem dX9_loudest_21 : decode cX9_loudest 21 = .ok (.aload_n 0, 1) := by decide +kernel
theorem dX9_loudest_22 : decode cX9_loudest 22 = .ok (.iconst 2, 1) := by decide +kernel
theorem dX9_loudest_23 : decode cX9_loudest 23 = .ok (.invokevirtual 62, 3) := by decide +kernel
theorem dX9_loudest_26 : decode cX9_loudest 26 = .ok (.goto 8, 3) := by decide +kernel
theorem dX9_loudest_29 : decode cX9_loudest 29 = .ok (.aload_n 0, 1) := by decide +kernel
theorem dX9_loudest_30 : decode cX9_loudest 30 = .ok (.iload_n 2, 1) := by decide +kernel
theorem dX9_loudest_31 : decode cX9_loudest 31 = .ok (.invokevirtual 130, 3) := by decide +kernel
theorem dX9_loudest_34 : decode cX9_loudest 34 = .ok (.ireturn, 1) := by decide +kernel
set_option maxRecDepth 20000 in
theorem ggX9_above_X9_in : GoodIn wsX9_above wsX9_in := goodIn_r _ [7] (by decide +kernel) (by decide +kernel)
set_option maxRecDepth 20000 in
theorem gX9_above_X9_in : GoodIn wsX9_above (va_wsS RX9 34 yX9_in wsX9_in) := goodIn_app (goodIn_of _ (by decide +kernel)) ggX9_above_X9_in
set_option maxRecDepth 20000 in
theorem ggX9_above_X9_fails : GoodIn wsX9_above wsX9_fails := goodIn_r _ [11, 2, 44, 45, 46, 47, 48, 49, 50, 51, 52, 53, 54, 55] (by decide +kernel) (by decide +kernel)
set_option maxRecDepth 20000 in
theorem gX9_above_X9_fails : GoodIn wsX9_above (wsV RX9 62 RX9 yX9_fails wsX9_fails) := goodIn_app (goodIn_of _ (by decide +kernel)) ggX9_above_X9_fails
set_option maxRecDepth 20000 in
theorem ggX9_above_X9_sureBy : GoodIn wsX9_above wsX9_sureBy := goodIn_r _ [15, 3, 44, 45, 46, 47, 48, 49, 50, 51, 52, 53, 54, 55] (by decide +kernel) (by decide +kernel)
set_option maxRecDepth 20000 in
theorem gX9_above_X9_sureBy : GoodIn wsX9_above (wsV RX9 94 RX9 yX9_sureBy wsX9_sureBy) := goodIn_app (goodIn_of _ (by decide +kernel)) ggX9_above_X9_sureBy
set_option maxRecDepth 20000 in
theorem ggX9_above_X9_estimateBy : GoodIn wsX9_above wsX9_estimateBy := goodIn_r _ [19, 3, 20, 21, 22, 6, 23, 24, 25, 26, 27, 28, 29, 30, 31, 32, 33, 34, 35, 44, 45, 46, 47, 48, 49, 50, 51, 52, 53, 54, 55] (by decide +kernel) (by decide +kernel)
set_option maxRecDepth 20000 in
theorem gX9_above_X9_estimateBy : GoodIn wsX9_above (wsV RX9 90 RX9 yX9_estimateBy wsX9_estimateBy) := goodIn_app (goodIn_of _ (by decide +kernel)) ggX9_above_X9_estimateBy
set_option maxRecDepth 20000 in
theorem ggX9_above_X9_callsNow : GoodIn wsX9_above wsX9_callsNow := goodIn_r _ [39, 40, 41, 42, 6, 43, 3, 44, 45, 46, 47, 48, 49, 50, 51, 52, 53, 54, 55] (by decide +kernel) (by decide +kernel)
set_option maxRecDepth 20000 in
theorem gX9_above_X9_callsNow : GoodIn wsX9_above (wsV RX9 65 RX9 yX9_callsNow wsX9_callsNow) := goodIn_app (goodIn_of _ (by decide +kernel)) ggX9_above_X9_callsNow
theorem dX9_above_0 : decode cX9_above 0 = .ok (.iload_n 1, 1) := by decide +kernel
theorem dX9_above_1 : decode cX9_above 1 = .ok (.i2l, 1) := by decide +kernel
theorem dX9_above_2 : decode cX9_above 2 = .ok (.lconst 0, 1) := by decide +kernel
theorem dX9_above_3 : decode cX9_above 3 = .ok (.ldc2_w 136, 3) := by decide +kernel
theorem dX9_above_6 : decode cX9_above 6 = .ok (.invokestatic 34, 3) := by decide +kernel
theorem dX9_above_9 : decode cX9_above 9 = .ok (.ifCond .ne 9, 3) := by decide +kernel
theorem dX9_above_12 : decode cX9_above 12 = .ok (.aload_n 0, 1) := by decide +kernel
theorem dX9_above_13 : decode cX9_above 13 = .ok (.iconst 1, 1) := by decide +kernel
theorem dX9_above_14 : decode cX9_above 14 = .ok (.invokevirtual 62, 3) := by decide +kernel
theorem dX9_above_17 : decode cX9_above 17 = .ok (.ireturn, 1) := by decide +kernel
theorem dX9_above_18 : decode cX9_above 18 = .ok (.aload_n 0, 1) := by decide +kernel
theorem dX9_above_19 : decode cX9_above 19 = .ok (.iconst 0, 1) := by decide +kernel
theorem dX9_above_20 : decode cX9_above 20 = .ok (.putfield 25, 3) := by decide +kernel
theorem dX9_above_23 : decode cX9_above 23 = .ok (.iconst 0, 1) := by decide +kernel
theorem dX9_above_24 : decode cX9_above 24 = .ok (.istore_n 3, 1) := by decide +kernel
theorem dX9_above_25 : decode cX9_above 25 = .ok (.iconst 0, 1) := by decide +kernel
theorem dX9_above_26 : decode cX9_above 26 = .ok (.istore 4, 2) := by decide +kernel
theorem dX9_above_28 : decode cX9_above 28 = .ok (.iload 4, 2) := by decide +kernel
theorem dX9_above_30 : decode cX9_above 30 = .ok (.bipush 26, 2) := by decide +kernel
theorem dX9_above_32 : decode cX9_above 32 = .ok (.if_icmp .ge 79, 3) := by decide +kernel
theorem dX9_above_35 : decode cX9_above 35 = .ok (.iload_n 2, 1) := by decide +kernel
theorem dX9_above_36 : decode cX9_above 36 = .ok (.ifCond .ne 15, 3) := by decide +kernel
theorem dX9_above_39 : decode cX9_above 39 = .ok (.aload_n 0, 1) := by decide +kernel
theorem dX9_above_40 : decode cX9_above 40 = .ok (.getfield 7, 3) := by decide +kernel
theorem dX9_above_43 : decode cX9_above 43 = .ok (.iconst 0, 1) := by decide +kernel
theorem dX9_above_44 : decode cX9_above 44 = .ok (.iload 4, 2) := by decide +kernel
theorem dX9_above_46 : decode cX9_above 46 = .ok (.iadd, 1) := by decide +kernel
theorem dX9_above_47 : decode cX9_above 47 = .ok (.iaload, 1) := by decide +kernel
theorem dX9_above_48 : decode cX9_above 48 = .ok (.goto 25, 3) := by decide +kernel
theorem dX9_above_51 : decode cX9_above 51 = .ok (.iload_n 2, 1) := by decide +kernel
theorem dX9_above_52 : decode cX9_above 52 = .ok (.iconst 1, 1) := by decide +kernel
theorem dX9_above_53 : decode cX9_above 53 = .ok (.if_icmp .ne 13, 3) := by decide +kernel
theorem dX9_above_56 : decode cX9_above 56 = .ok (.aload_n 0, 1) := by decide +kernel
theorem dX9_above_57 : decode cX9_above 57 = .ok (.iconst 0, 1) := by decide +kernel
theorem dX9_above_58 : decode cX9_above 58 = .ok (.iload 4, 2) := by decide +kernel
theorem dX9_above_60 : decode cX9_above 60 = .ok (.invokevirtual 94, 3) := by decide +kernel
theorem dX9_above_63 : decode cX9_above 63 = .ok (.goto 10, 3) := by decide +kernel
theorem dX9_above_66 : decode cX9_above 66 = .ok (.aload_n 0, 1) := by decide +kernel
theorem dX9_above_67 : decode cX9_above 67 = .ok (.iconst 0, 1) := by decide +kernel
theorem dX9_above_68 : decode cX9_above 68 = .ok (.iload 4, 2) := by decide +kernel
theorem dX9_above_70 : decode cX9_above 70 = .ok (.invokevirtual 90, 3) := by decide +kernel
theorem dX9_above_73 : decode cX9_above 73 = .ok (.istore 5, 2) := by decide +kernel
theorem dX9_above_75 : decode cX9_above 75 = .ok (.iload_n 3, 1) := by decide +kernel
theorem dX9_above_76 : decode cX9_above 76 = .ok (.ldc2_w 136, 3) := by decide +kernel
theorem dX9_above_79 : decode cX9_above 79 = .ok (.iload 5, 2) := by decide +kernel
theorem dX9_above_81 : decode cX9_above 81 = .ok (.i2l, 1) := by decide +kernel
theorem dX9_above_82 : decode cX9_above 82 = .ok (.lmul, 1) := by decide +kernel
theorem dX9_above_83 : decode cX9_above 83 = .ok (.iload_n 1, 1) := by decide +kernel
theorem dX9_above_84 : decode cX9_above 84 = .ok (.i2l, 1) := by decide +kernel
theorem dX9_above_85 : decode cX9_above 85 = .ok (.aload_n 0, 1) := by decide +kernel
theorem dX9_above_86 : decode cX9_above 86 = .ok (.invokevirtual 65, 3) := by decide +kernel
theorem dX9_above_89 : decode cX9_above 89 = .ok (.i2l, 1) := by decide +kernel
theorem dX9_above_90 : decode cX9_above 90 = .ok (.lmul, 1) := by decide +kernel
theorem dX9_above_91 : decode cX9_above 91 = .ok (.lcmp, 1) := by decide +kernel
theorem dX9_above_92 : decode cX9_above 92 = .ok (.ifCond .le 10, 3) := by decide +kernel
theorem dX9_above_95 : decode cX9_above 95 = .ok (.iconst 1, 1) := by decide +kernel
theorem dX9_above_96 : decode cX9_above 96 = .ok (.iload 4, 2) := by decide +kernel
theorem dX9_above_98 : decode cX9_above 98 = .ok (.ishl, 1) := by decide +kernel
theorem dX9_above_99 : decode cX9_above 99 = .ok (.goto 4, 3) := by decide +kernel
theorem dX9_above_102 : decode cX9_above 102 = .ok (.iconst 0, 1) := by decide +kernel
theorem dX9_above_103 : decode cX9_above 103 = .ok (.ior, 1) := by decide +kernel
theorem dX9_above_104 : decode cX9_above 104 = .ok (.istore_n 3, 1) := by decide +kernel
theorem dX9_above_105 : decode cX9_above 105 = .ok (.iinc 4 1, 3) := by decide +kernel
theorem dX9_above_108 : decode cX9_above 108 = .ok (.goto (-80), 3) := by decide +kernel
theorem dX9_above_111 : decode cX9_above 111 = .ok (.iload_n 3, 1) := by decide +kernel
theorem dX9_above_112 : decode cX9_above 112 = .ok (.ireturn, 1) := by decide +kernel
set_option maxRecDepth 20000 in
theorem ggX9_surelyAbove_X9_above : GoodIn wsX9_surelyAbove wsX9_above := goodIn_r _ [5, 6, 7, 8, 9, 10, 4, 11, 12, 13, 14, 15, 16, 17, 18, 19, 20, 21, 22, 23, 24, 25, 26, 27, 28, 29, 30, 31, 32, 33, 34, 35, 36, 37, 38, 39, 40, 41, 42, 43, 44, 45, 46, 47, 48, 49, 50, 51, 52, 53, 54, 55, 56, 57, 58, 59] (by decide +kernel) (by decide +kernel)
set_option maxRecDepth 20000 in
theorem gX9_surelyAbove_X9_above : GoodIn wsX9_surelyAbove (wsV RX9 138 RX9 yX9_above wsX9_above) := goodIn_app (goodIn_of _ (by decide +kernel)) ggX9_surelyAbove_X9_above
theorem dX9_surelyAbove_0 : decode cX9_surelyAbove 0 = .ok (.aload_n 0, 1) := by decide +kernel
theorem dX9_surelyAbove_1 : decode cX9_surelyAbove 1 = .ok (.iload_n 1, 1) := by decide +kernel
theorem dX9_surelyAbove_2 : decode cX9_surelyAbove 2 = .ok (.iconst 1, 1) := by decide +kernel
theorem dX9_surelyAbove_3 : decode cX9_surelyAbove 3 = .ok (.invokevirtual 138, 3) := by decide +kernel
theorem dX9_surelyAbove_6 : decode cX9_surelyAbove 6 = .ok (.ireturn, 1) := by decide +kernel
set_option maxRecDepth 20000 in
theorem ggX9_perhapsAbove_X9_above : GoodIn wsX9_perhapsAbove wsX9_above := goodIn_r _ [5, 6, 7, 8, 9, 10, 4, 11, 12, 13, 14, 15, 16, 17, 18, 19, 20, 21, 22, 23, 24, 25, 26, 27, 28, 29, 30, 31, 32, 33, 34, 35, 36, 37, 38, 39, 40, 41, 42, 43, 44, 45, 46, 47, 48, 49, 50, 51, 52, 53, 54, 55, 56, 57, 58, 59] (by decide +kernel) (by decide +kernel)
set_option maxRecDepth 20000 in
theorem gX9_perhapsAbove_X9_above : GoodIn wsX9_perhapsAbove (wsV RX9 138 RX9 yX9_above wsX9_above) := goodIn_app (goodIn_of _ (by decide +kernel)) ggX9_perhapsAbove_X9_above
theorem dX9_perhapsAbove_0 : decode cX9_perhapsAbove 0 = .ok (.aload_n 0, 1) := by decide +kernel
theorem dX9_perhapsAbove_1 : decode cX9_perhapsAbove 1 = .ok (.iload_n 1, 1) := by decide +kernel
theorem dX9_perhapsAbove_2 : decode cX9_perhapsAbove 2 = .ok (.iconst 2, 1) := by decide +kernel
theorem dX9_perhapsAbove_3 : decode cX9_perhapsAbove 3 = .ok (.invokevirtual 138, 3) := by decide +kernel
theorem dX9_perhapsAbove_6 : decode cX9_perhapsAbove 6 = .ok (.ireturn, 1) := by decide +kernel
set_option maxRecDepth 20000 in
theorem ggX9_trulyAbove_X9_above : GoodIn wsX9_trulyAbove wsX9_above := goodIn_r _ [5, 6, 7, 8, 9, 10, 4, 11, 12, 13, 14, 15, 16, 17, 18, 19, 20, 21, 22, 23, 24, 25, 26, 27, 28, 29, 30, 31, 32, 33, 34, 35, 36, 37, 38, 39, 40, 41, 42, 43, 44, 45, 46, 47, 48, 49, 50, 51, 52, 53, 54, 55, 56, 57, 58, 59] (by decide +kernel) (by decide +kernel)
set_option maxRecDepth 20000 in
theorem gX9_trulyAbove_X9_above : GoodIn wsX9_trulyAbove (wsV RX9 138 RX9 yX9_above wsX9_above) := goodIn_app (goodIn_of _ (by decide +kernel)) ggX9_trulyAbove_X9_above
theorem dX9_trulyAbove_0 : decode cX9_trulyAbove 0 = .ok (.aload_n 0, 1) := by decide +kernel
theorem dX9_trulyAbove_1 : decode cX9_trulyAbove 1 = .ok (.iload_n 1, 1) := by decide +kernel
theorem dX9_trulyAbove_2 : decode cX9_trulyAbove 2 = .ok (.iconst 0, 1) := by decide +kernel
theorem dX9_trulyAbove_3 : decode cX9_trulyAbove 3 = .ok (.invokevirtual 138, 3) := by decide +kernel
theorem dX9_trulyAbove_6 : decode cX9_trulyAbove 6 = .ok (.ireturn, 1) := by decide +kernel
set_option maxRecDepth 20000 in
theorem ggX9_wornCounters_X9_many : GoodIn wsX9_wornCounters wsX9_many := goodIn_r _ [5, 6, 12, 13, 14, 15, 16, 17, 18, 19, 20, 21, 22, 23] (by decide +kernel) (by decide +kernel)
set_option maxRecDepth 20000 in
theorem gX9_wornCounters_X9_many : GoodIn wsX9_wornCounters (wsV RX9 38 RX9 yX9_many wsX9_many) := goodIn_app (goodIn_of _ (by decide +kernel)) ggX9_wornCounters_X9_many
set_option maxRecDepth 20000 in
theorem ggX9_wornCounters_X9_told : GoodIn wsX9_wornCounters wsX9_told := goodIn_r _ [10, 11, 12, 13, 14, 15, 16, 17, 18, 19, 20, 21, 22, 23] (by decide +kernel) (by decide +kernel)
set_option maxRecDepth 20000 in
theorem gX9_wornCounters_X9_told : GoodIn wsX9_wornCounters (wsV RX9 130 RX9 yX9_told wsX9_told) := goodIn_app (goodIn_of _ (by decide +kernel)) ggX9_wornCounters_X9_told
theorem dX9_wornCounters_0 : decode cX9_wornCounters 0 = .ok (.aload_n 0, 1) := by decide +kernel
theorem dX9_wornCounters_1 : decode cX9_wornCounters 1 = .ok (.aload_n 0, 1) := by decide +kernel
theorem dX9_wornCounters_2 : decode cX9_wornCounters 2 = .ok (.bipush 104, 2) := by decide +kernel
theorem dX9_wornCounters_4 : decode cX9_wornCounters 4 = .ok (.invokevirtual 38, 3) := by decide +kernel
theorem dX9_wornCounters_7 : decode cX9_wornCounters 7 = .ok (.invokevirtual 130, 3) := by decide +kernel
theorem dX9_wornCounters_10 : decode cX9_wornCounters 10 = .ok (.ireturn, 1) := by decide +kernel
set_option maxRecDepth 20000 in
theorem ggX9_wornCount_X9_isParrot : GoodIn wsX9_wornCount wsX9_isParrot := goodIn_r _ [5, 6, 7, 8, 4, 9] (by decide +kernel) (by decide +kernel)
set_option maxRecDepth 20000 in
theorem gX9_wornCount_X9_isParrot : GoodIn wsX9_wornCount (va_wsS RX9 59 yX9_isParrot wsX9_isParrot) := goodIn_app (goodIn_of _ (by decide +kernel)) ggX9_wornCount_X9_isParrot
set_option maxRecDepth 20000 in
theorem ggX9_wornCount_X9_told : GoodIn wsX9_wornCount wsX9_told := goodIn_r _ [13, 14, 19, 20, 21, 22, 23, 24, 25, 26, 27, 28, 29, 30] (by decide +kernel) (by decide +kernel)
set_option maxRecDepth 20000 in
theorem gX9_wornCount_X9_told : GoodIn wsX9_wornCount (wsV RX9 130 RX9 yX9_told wsX9_told) := goodIn_app (goodIn_of _ (by decide +kernel)) ggX9_wornCount_X9_told
set_option maxRecDepth 20000 in
theorem ggX9_wornCount_X9_fails : GoodIn wsX9_wornCount wsX9_fails := goodIn_r _ [18, 14, 19, 20, 21, 22, 23, 24, 25, 26, 27, 28, 29, 30] (by decide +kernel) (by decide +kernel)
set_option maxRecDepth 20000 in
theorem gX9_wornCount_X9_fails : GoodIn wsX9_wornCount (wsV RX9 62 RX9 yX9_fails wsX9_fails) := goodIn_app (goodIn_of _ (by decide +kernel)) ggX9_wornCount_X9_fails
theorem dX9_wornCount_0 : decode cX9_wornCount 0 = .ok (.iload_n 1, 1) := by decide +kernel
theorem dX9_wornCount_1 : decode cX9_wornCount 1 = .ok (.invokestatic 59, 3) := by decide +kernel
theorem dX9_wornCount_4 : decode cX9_wornCount 4 = .ok (.ifCond .eq 19, 3) := by decide +kernel
theorem dX9_wornCount_7 : decode cX9_wornCount 7 = .ok (.aload_n 0, 1) := by decide +kernel
theorem dX9_wornCount_8 : decode cX9_wornCount 8 = .ok (.aload_n 0, 1) := by decide +kernel
theorem dX9_wornCount_9 : decode cX9_wornCount 9 = .ok (.getfield 7, 3) := by decide +kernel
theorem dX9_wornCount_12 : decode cX9_wornCount 12 = .ok (.bipush 104, 2) := by decide +kernel
theorem dX9_wornCount_14 : decode cX9_wornCount 14 = .ok (.iload_n 1, 1) := by decide +kernel
theorem dX9_wornCount_15 : decode cX9_wornCount 15 = .ok (.iadd, 1) := by decide +kernel
theorem dX9_wornCount_16 : decode cX9_wornCount 16 = .ok (.iaload, 1) := by decide +kernel
theorem dX9_wornCount_17 : decode cX9_wornCount 17 = .ok (.invokevirtual 130, 3) := by decide +kernel
theorem dX9_wornCount_20 : decode cX9_wornCount 20 = .ok (.goto 8, 3) := by decide +kernel
theorem dX9_wornCount_23 : decode cX9_wornCount 23 = .ok (.aload_n 0, 1) := by decide +kernel
theorem dX9_wornCount_24 : decode cX9_wornCount 24 = .ok (.iconst 1, 1) := by decide +kernel
theorem dX9_wornCount_25 : decode cX9_wornCount 25 = .ok (.invokevirtual 62, 3) := by decide +kernel
theorem dX9_wornCount_28 : decode cX9_wornCount 28 = .ok (.ireturn, 1) := by decide +kernel
set_option maxRecDepth 20000 in
theorem ggX9_aboveFloor_X9_isParrot : GoodIn wsX9_aboveFloor wsX9_isParrot := goodIn_r _ [4, 5, 6, 7, 3, 8] (by decide +kernel) (by decide +kernel)
set_option maxRecDepth 20000 in
theorem gX9_aboveFloor_X9_isParrot : GoodIn wsX9_aboveFloor (va_wsS RX9 59 yX9_isParrot wsX9_isParrot) := goodIn_app (goodIn_of _ (by decide +kernel)) ggX9_aboveFloor_X9_isParrot
set_option maxRecDepth 20000 in
theorem ggX9_aboveFloor_X9_estimateBy : GoodIn wsX9_aboveFloor wsX9_estimateBy := goodIn_r _ [12, 13, 14, 15, 16, 3, 17, 18, 19, 20, 21, 22, 23, 24, 25, 26, 27, 28, 29, 39, 40, 41, 42, 43, 44, 45, 46, 47, 48, 49, 50] (by decide +kernel) (by decide +kernel)
set_option maxRecDepth 20000 in
theorem gX9_aboveFloor_X9_estimateBy : GoodIn wsX9_aboveFloor (wsV RX9 90 RX9 yX9_estimateBy wsX9_estimateBy) := goodIn_app (goodIn_of _ (by decide +kernel)) ggX9_aboveFloor_X9_estimateBy
set_option maxRecDepth 20000 in
theorem ggX9_aboveFloor_X9_floorOf : GoodIn wsX9_aboveFloor wsX9_floorOf := goodIn_r _ [17, 13, 18, 19, 20, 3, 21, 22, 23, 24, 25, 26, 27, 28, 29, 39, 40, 41, 42, 43, 44, 45, 46, 47, 48, 49, 50] (by decide +kernel) (by decide +kernel)
set_option maxRecDepth 20000 in
theorem gX9_aboveFloor_X9_floorOf : GoodIn wsX9_aboveFloor (wsV RX9 49 RX9 yX9_floorOf wsX9_floorOf) := goodIn_app (goodIn_of _ (by decide +kernel)) ggX9_aboveFloor_X9_floorOf
set_option maxRecDepth 20000 in
theorem ggX9_aboveFloor_X9_told : GoodIn wsX9_aboveFloor wsX9_told := goodIn_r _ [33, 34, 39, 40, 41, 42, 43, 44, 45, 46, 47, 48, 49, 50] (by decide +kernel) (by decide +kernel)
set_option maxRecDepth 20000 in
theorem gX9_aboveFloor_X9_told : GoodIn wsX9_aboveFloor (wsV RX9 130 RX9 yX9_told wsX9_told) := goodIn_app (goodIn_of _ (by decide +kernel)) ggX9_aboveFloor_X9_told
set_option maxRecDepth 20000 in
theorem ggX9_aboveFloor_X9_fails : GoodIn wsX9_aboveFloor wsX9_fails := goodIn_r _ [38, 34, 39, 40, 41, 42, 43, 44, 45, 46, 47, 48, 49, 50] (by decide +kernel) (by decide +kernel)
set_option maxRecDepth 20000 in
theorem gX9_aboveFloor_X9_fails : GoodIn wsX9_aboveFloor (wsV RX9 62 RX9 yX9_fails wsX9_fails) := goodIn_app (goodIn_of _ (by decide +kernel)) ggX9_aboveFloor_X9_fails
theorem dX9_aboveFloor_0 : decode cX9_aboveFloor 0 = .ok (.iload_n 1, 1) := by decide +kernel
theorem dX9_aboveFloor_1 : decode cX9_aboveFloor 1 = .ok (.invokestatic 59, 3) := by decide +kernel
theorem dX9_aboveFloor_4 : decode cX9_aboveFloor 4 = .ok (.ifCond .eq 22, 3) := by decide +kernel
theorem dX9_aboveFloor_7 : decode cX9_aboveFloor 7 = .ok (.aload_n 0, 1) := by decide +kernel
theorem dX9_aboveFloor_8 : decode cX9_aboveFloor 8 = .ok (.aload_n 0, 1) := by decide +kernel
theorem dX9_aboveFloor_9 : decode cX9_aboveFloor 9 = .ok (.iconst 0, 1) := by decide +kernel
theorem dX9_aboveFloor_10 : decode cX9_aboveFloor 10 = .ok (.iload_n 1, 1) := by decide +kernel
theorem dX9_aboveFloor_11 : decode cX9_aboveFloor 11 = .ok (.invokevirtual 90, 3) := by decide +kernel
theorem dX9_aboveFloor_14 : decode cX9_aboveFloor 14 = .ok (.aload_n 0, 1) := by decide +kernel
theorem dX9_aboveFloor_15 : decode cX9_aboveFloor 15 = .ok (.iconst 0, 1) := by decide +kernel
theorem dX9_aboveFloor_16 : decode cX9_aboveFloor 16 = .ok (.invokevirtual 49, 3) := by decide +kernel
theorem dX9_aboveFloor_19 : decode cX9_aboveFloor 19 = .ok (.isub, 1) := by decide +kernel
theorem dX9_aboveFloor_20 : decode cX9_aboveFloor 20 = .ok (.invokevirtual 130, 3) := by decide +kernel
theorem dX9_aboveFloor_23 : decode cX9_aboveFloor 23 = .ok (.goto 8, 3) := by decide +kernel
theorem dX9_aboveFloor_26 : decode cX9_aboveFloor 26 = .ok (.aload_n 0, 1) := by decide +kernel
theorem dX9_aboveFloor_27 : decode cX9_aboveFloor 27 = .ok (.iconst 1, 1) := by decide +kernel
theorem dX9_aboveFloor_28 : decode cX9_aboveFloor 28 = .ok (.invokevirtual 62, 3) := by decide +kernel
theorem dX9_aboveFloor_31 : decode cX9_aboveFloor 31 = .ok (.ireturn, 1) := by decide +kernel
set_option maxRecDepth 20000 in
theorem ggX9_wear_X9_told : GoodIn wsX9_wear wsX9_told := goodIn_r _ [6, 7, 8, 9, 10, 11, 12, 13, 14, 15, 16, 17, 18, 19] (by decide +kernel) (by decide +kernel)
set_option maxRecDepth 20000 in
theorem gX9_wear_X9_told : GoodIn wsX9_wear (wsV RX9 130 RX9 yX9_told wsX9_told) := goodIn_app (goodIn_of _ (by decide +kernel)) ggX9_wear_X9_told
theorem dX9_wear_0 : decode cX9_wear 0 = .ok (.aload_n 0, 1) := by decide +kernel
theorem dX9_wear_1 : decode cX9_wear 1 = .ok (.aload_n 0, 1) := by decide +kernel
theorem dX9_wear_2 : decode cX9_wear 2 = .ok (.getfield 7, 3) := by decide +kernel
theorem dX9_wear_5 : decode cX9_wear 5 = .ok (.sipush 130, 3) := by decide +kernel
theorem dX9_wear_8 : decode cX9_wear 8 = .ok (.iaload, 1) := by decide +kernel
theorem dX9_wear_9 : decode cX9_wear 9 = .ok (.invokevirtual 130, 3) := by decide +kernel
theorem dX9_wear_12 : decode cX9_wear 12 = .ok (.ireturn, 1) := by decide +kernel
set_option maxRecDepth 20000 in
theorem ggX9_capacity_X9_told : GoodIn wsX9_capacity wsX9_told := goodIn_r _ [6, 7, 8, 9, 10, 11, 12, 13, 14, 15, 16, 17, 18, 19] (by decide +kernel) (by decide +kernel)
set_option maxRecDepth 20000 in
theorem gX9_capacity_X9_told : GoodIn wsX9_capacity (wsV RX9 130 RX9 yX9_told wsX9_told) := goodIn_app (goodIn_of _ (by decide +kernel)) ggX9_capacity_X9_told
theorem dX9_capacity_0 : decode cX9_capacity 0 = .ok (.aload_n 0, 1) := by decide +kernel
theorem dX9_capacity_1 : decode cX9_capacity 1 = .ok (.aload_n 0, 1) := by decide +kernel
theorem dX9_capacity_2 : decode cX9_capacity 2 = .ok (.getfield 7, 3) := by decide +kernel
theorem dX9_capacity_5 : decode cX9_capacity 5 = .ok (.sipush 264, 3) := by decide +kernel
theorem dX9_capacity_8 : decode cX9_capacity 8 = .ok (.iaload, 1) := by decide +kernel
theorem dX9_capacity_9 : decode cX9_capacity 9 = .ok (.invokevirtual 130, 3) := by decide +kernel
theorem dX9_capacity_12 : decode cX9_capacity 12 = .ok (.ireturn, 1) := by decide +kernel
set_option maxRecDepth 20000 in
theorem ggX9_trueCount_X9_isParrot : GoodIn wsX9_trueCount wsX9_isParrot := goodIn_r _ [5, 6, 7, 8, 4, 9] (by decide +kernel) (by decide +kernel)
set_option maxRecDepth 20000 in
theorem gX9_trueCount_X9_isParrot : GoodIn wsX9_trueCount (va_wsS RX9 59 yX9_isParrot wsX9_isParrot) := goodIn_app (goodIn_of _ (by decide +kernel)) ggX9_trueCount_X9_isParrot
set_option maxRecDepth 20000 in
theorem ggX9_trueCount_X9_told : GoodIn wsX9_trueCount wsX9_told := goodIn_r _ [13, 14, 19, 20, 21, 22, 23, 24, 25, 26, 27, 28, 29, 30] (by decide +kernel) (by decide +kernel)
set_option maxRecDepth 20000 in
theorem gX9_trueCount_X9_told : GoodIn wsX9_trueCount (wsV RX9 130 RX9 yX9_told wsX9_told) := goodIn_app (goodIn_of _ (by decide +kernel)) ggX9_trueCount_X9_told
set_option maxRecDepth 20000 in
theorem ggX9_trueCount_X9_fails : GoodIn wsX9_trueCount wsX9_fails := goodIn_r _ [18, 14, 19, 20, 21, 22, 23, 24, 25, 26, 27, 28, 29, 30] (by decide +kernel) (by decide +kernel)
set_option maxRecDepth 20000 in
theorem gX9_trueCount_X9_fails : GoodIn wsX9_trueCount (wsV RX9 62 RX9 yX9_fails wsX9_fails) := goodIn_app (goodIn_of _ (by decide +kernel)) ggX9_trueCount_X9_fails
theorem dX9_trueCount_0 : decode cX9_trueCount 0 = .ok (.iload_n 1, 1) := by decide +kernel
theorem dX9_trueCount_1 : decode cX9_trueCount 1 = .ok (.invokestatic 59, 3) := by decide +kernel
theorem dX9_trueCount_4 : decode cX9_trueCount 4 = .ok (.ifCond .eq 18, 3) := by decide +kernel
theorem dX9_trueCount_7 : decode cX9_trueCount 7 = .ok (.aload_n 0, 1) := by decide +kernel
theorem dX9_trueCount_8 : decode cX9_trueCount 8 = .ok (.aload_n 0, 1) := by decide +kernel
theorem dX9_trueCount_9 : decode cX9_trueCount 9 = .ok (.getfield 7, 3) := by decide +kernel
theorem dX9_trueCount_12 : decode cX9_trueCount 12 = .ok (.iconst 0, 1) := by decide +kernel
theorem dX9_trueCount_13 : decode cX9_trueCount 13 = .ok (.iload_n 1, 1) := by decide +kernel
theorem dX9_trueCount_14 : decode cX9_trueCount 14 = .ok (.iadd, 1) := by decide +kernel
theorem dX9_trueCount_15 : decode cX9_trueCount 15 = .ok (.iaload, 1) := by decide +kernel
theorem dX9_trueCount_16 : decode cX9_trueCount 16 = .ok (.invokevirtual 130, 3) := by decide +kernel
theorem dX9_trueCount_19 : decode cX9_trueCount 19 = .ok (.goto 8, 3) := by decide +kernel
theorem dX9_trueCount_22 : decode cX9_trueCount 22 = .ok (.aload_n 0, 1) := by decide +kernel
theorem dX9_trueCount_23 : decode cX9_trueCount 23 = .ok (.iconst 1, 1) := by decide +kernel
theorem dX9_trueCount_24 : decode cX9_trueCount 24 = .ok (.invokevirtual 62, 3) := by decide +kernel
theorem dX9_trueCount_27 : decode cX9_trueCount 27 = .ok (.ireturn, 1) := by decide +kernel
set_option maxRecDepth 20000 in
theorem ggX9_calls_X9_callsNow : GoodIn wsX9_calls wsX9_callsNow := goodIn_r _ [5, 6, 7, 8, 4, 9, 10, 16, 17, 18, 19, 20, 21, 22, 23, 24, 25, 26, 27] (by decide +kernel) (by decide +kernel)
set_option maxRecDepth 20000 in
theorem gX9_calls_X9_callsNow : GoodIn wsX9_calls (wsV RX9 65 RX9 yX9_callsNow wsX9_callsNow) := goodIn_app (goodIn_of _ (by decide +kernel)) ggX9_calls_X9_callsNow
set_option maxRecDepth 20000 in
theorem ggX9_calls_X9_told : GoodIn wsX9_calls wsX9_told := goodIn_r _ [14, 15, 16, 17, 18, 19, 20, 21, 22, 23, 24, 25, 26, 27] (by decide +kernel) (by decide +kernel)
set_option maxRecDepth 20000 in
theorem gX9_calls_X9_told : GoodIn wsX9_calls (wsV RX9 130 RX9 yX9_told wsX9_told) := goodIn_app (goodIn_of _ (by decide +kernel)) ggX9_calls_X9_told
theorem dX9_calls_0 : decode cX9_calls 0 = .ok (.aload_n 0, 1) := by decide +kernel
theorem dX9_calls_1 : decode cX9_calls 1 = .ok (.aload_n 0, 1) := by decide +kernel
theorem dX9_calls_2 : decode cX9_calls 2 = .ok (.invokevirtual 65, 3) := by decide +kernel
theorem dX9_calls_5 : decode cX9_calls 5 = .ok (.invokevirtual 130, 3) := by decide +kernel
theorem dX9_calls_8 : decode cX9_calls 8 = .ok (.ireturn, 1) := by decide +kernel
set_option maxRecDepth 20000 in
theorem ggX9_callsByCounters_X9_sum : GoodIn wsX9_callsByCounters wsX9_sum := goodIn_r _ [5, 6, 12, 13, 14, 15, 16, 17, 18, 19, 20, 21, 22, 23] (by decide +kernel) (by decide +kernel)
set_option maxRecDepth 20000 in
theorem gX9_callsByCounters_X9_sum : GoodIn wsX9_callsByCounters (wsV RX9 56 RX9 yX9_sum wsX9_sum) := goodIn_app (goodIn_of _ (by decide +kernel)) ggX9_callsByCounters_X9_sum
set_option maxRecDepth 20000 in
theorem ggX9_callsByCounters_X9_told : GoodIn wsX9_callsByCounters wsX9_told := goodIn_r _ [10, 11, 12, 13, 14, 15, 16, 17, 18, 19, 20, 21, 22, 23] (by decide +kernel) (by decide +kernel)
set_option maxRecDepth 20000 in
theorem gX9_callsByCounters_X9_told : GoodIn wsX9_callsByCounters (wsV RX9 130 RX9 yX9_told wsX9_told) := goodIn_app (goodIn_of _ (by decide +kernel)) ggX9_callsByCounters_X9_told
theorem dX9_callsByCounters_0 : decode cX9_callsByCounters 0 = .ok (.aload_n 0, 1) := by decide +kernel
theorem dX9_callsByCounters_1 : decode cX9_callsByCounters 1 = .ok (.aload_n 0, 1) := by decide +kernel
theorem dX9_callsByCounters_2 : decode cX9_callsByCounters 2 = .ok (.bipush 26, 2) := by decide +kernel
theorem dX9_callsByCounters_4 : decode cX9_callsByCounters 4 = .ok (.invokevirtual 56, 3) := by decide +kernel
theorem dX9_callsByCounters_7 : decode cX9_callsByCounters 7 = .ok (.invokevirtual 130, 3) := by decide +kernel
theorem dX9_callsByCounters_10 : decode cX9_callsByCounters 10 = .ok (.ireturn, 1) := by decide +kernel
set_option maxRecDepth 20000 in
theorem ggX9_parrotsHeard_X9_many : GoodIn wsX9_parrotsHeard wsX9_many := goodIn_r _ [5, 6, 12, 13, 14, 15, 16, 17, 18, 19, 20, 21, 22, 23] (by decide +kernel) (by decide +kernel)
set_option maxRecDepth 20000 in
theorem gX9_parrotsHeard_X9_many : GoodIn wsX9_parrotsHeard (wsV RX9 38 RX9 yX9_many wsX9_many) := goodIn_app (goodIn_of _ (by decide +kernel)) ggX9_parrotsHeard_X9_many
set_option maxRecDepth 20000 in
theorem ggX9_parrotsHeard_X9_told : GoodIn wsX9_parrotsHeard wsX9_told := goodIn_r _ [10, 11, 12, 13, 14, 15, 16, 17, 18, 19, 20, 21, 22, 23] (by decide +kernel) (by decide +kernel)
set_option maxRecDepth 20000 in
theorem gX9_parrotsHeard_X9_told : GoodIn wsX9_parrotsHeard (wsV RX9 130 RX9 yX9_told wsX9_told) := goodIn_app (goodIn_of _ (by decide +kernel)) ggX9_parrotsHeard_X9_told
theorem dX9_parrotsHeard_0 : decode cX9_parrotsHeard 0 = .ok (.aload_n 0, 1) := by decide +kernel
theorem dX9_parrotsHeard_1 : decode cX9_parrotsHeard 1 = .ok (.aload_n 0, 1) := by decide +kernel
theorem dX9_parrotsHeard_2 : decode cX9_parrotsHeard 2 = .ok (.iconst 0, 1) := by decide +kernel
theorem dX9_parrotsHeard_3 : decode cX9_parrotsHeard 3 = .ok (.invokevirtual 38, 3) := by decide +kernel
theorem dX9_parrotsHeard_6 : decode cX9_parrotsHeard 6 = .ok (.invokevirtual 130, 3) := by decide +kernel
theorem dX9_parrotsHeard_9 : decode cX9_parrotsHeard 9 = .ok (.ireturn, 1) := by decide +kernel
set_option maxRecDepth 20000 in
theorem ggX9_greatestError_X9_estimateBy : GoodIn wsX9_greatestError wsX9_estimateBy := goodIn_r _ [7, 2, 8, 9, 10, 6, 11, 12, 13, 14, 15, 16, 17, 18, 19, 20, 21, 22, 23, 24, 25, 26, 27, 28, 29, 30, 31, 32, 33, 34, 35] (by decide +kernel) (by decide +kernel)
set_option maxRecDepth 20000 in
theorem gX9_greatestError_X9_estimateBy : GoodIn wsX9_greatestError (wsV RX9 90 RX9 yX9_estimateBy wsX9_estimateBy) := goodIn_app (goodIn_of _ (by decide +kernel)) ggX9_greatestError_X9_estimateBy
theorem dX9_greatestError_0 : decode cX9_greatestError 0 = .ok (.aload_n 0, 1) := by decide +kernel
theorem dX9_greatestError_1 : decode cX9_greatestError 1 = .ok (.iconst 0, 1) := by decide +kernel
theorem dX9_greatestError_2 : decode cX9_greatestError 2 = .ok (.putfield 25, 3) := by decide +kernel
theorem dX9_greatestError_5 : decode cX9_greatestError 5 = .ok (.aload_n 0, 1) := by decide +kernel
theorem dX9_greatestError_6 : decode cX9_greatestError 6 = .ok (.iconst 0, 1) := by decide +kernel
theorem dX9_greatestError_7 : decode cX9_greatestError 7 = .ok (.iconst 0, 1) := by decide +kernel
theorem dX9_greatestError_8 : decode cX9_greatestError 8 = .ok (.invokevirtual 90, 3) := by decide +kernel
theorem dX9_greatestError_11 : decode cX9_greatestError 11 = .ok (.aload_n 0, 1) := by decide +kernel
theorem dX9_greatestError_12 : decode cX9_greatestError 12 = .ok (.getfield 7, 3) := by decide +kernel
theorem dX9_greatestError_15 : decode cX9_greatestError 15 = .ok (.iconst 0, 1) := by decide +kernel
theorem dX9_greatestError_16 : decode cX9_greatestError 16 = .ok (.iaload, 1) := by decide +kernel
theorem dX9_greatestError_17 : decode cX9_greatestError 17 = .ok (.isub, 1) := by decide +kernel
theorem dX9_greatestError_18 : decode cX9_greatestError 18 = .ok (.istore_n 1, 1) := by decide +kernel
theorem dX9_greatestError_19 : decode cX9_greatestError 19 = .ok (.iconst 1, 1) := by decide +kernel
theorem dX9_greatestError_20 : decode cX9_greatestError 20 = .ok (.istore_n 2, 1) := by decide +kernel
theorem dX9_greatestError_21 : decode cX9_greatestError 21 = .ok (.iload_n 2, 1) := by decide +kernel
theorem dX9_greatestError_22 : decode cX9_greatestError 22 = .ok (.bipush 26, 2) := by decide +kernel
theorem dX9_greatestError_24 : decode cX9_greatestError 24 = .ok (.if_icmp .ge 36, 3) := by decide +kernel
theorem dX9_greatestError_27 : decode cX9_greatestError 27 = .ok (.aload_n 0, 1) := by decide +kernel
theorem dX9_greatestError_28 : decode cX9_greatestError 28 = .ok (.iconst 0, 1) := by decide +kernel
theorem dX9_greatestError_29 : decode cX9_greatestError 29 = .ok (.iload_n 2, 1) := by decide +kernel
theorem dX9_greatestError_30 : decode cX9_greatestError 30 = .ok (.invokevirtual 90, 3) := by decide +kernel
theorem dX9_greatestError_33 : decode cX9_greatestError 33 = .ok (.aload_n 0, 1) := by decide +kernel
theorem dX9_greatestError_34 : decode cX9_greatestError 34 = .ok (.getfield 7, 3) := by decide +kernel
theorem dX9_greatestError_37 : decode cX9_greatestError 37 = .ok (.iconst 0, 1) := by decide +kernel
theorem dX9_greatestError_38 : decode cX9_greatestError 38 = .ok (.iload_n 2, 1) := by decide +kernel
theorem dX9_greatestError_39 : decode cX9_greatestError 39 = .ok (.iadd, 1) := by decide +kernel
theorem dX9_greatestError_40 : decode cX9_greatestError 40 = .ok (.iaload, 1) := by decide +kernel
theorem dX9_greatestError_41 : decode cX9_greatestError 41 = .ok (.isub, 1) := by decide +kernel
theorem dX9_greatestError_42 : decode cX9_greatestError 42 = .ok (.istore_n 3, 1) := by decide +kernel
theorem dX9_greatestError_43 : decode cX9_greatestError 43 = .ok (.iload_n 3, 1) := by decide +kernel
theorem dX9_greatestError_44 : decode cX9_greatestError 44 = .ok (.iload_n 1, 1) := by decide +kernel
theorem dX9_greatestError_45 : decode cX9_greatestError 45 = .ok (.if_icmp .le 7, 3) := by decide +kernel
theorem dX9_greatestError_48 : decode cX9_greatestError 48 = .ok (.iload_n 3, 1) := by decide +kernel
theorem dX9_greatestError_49 : decode cX9_greatestError 49 = .ok (.goto 4, 3) := by decide +kernel
theorem dX9_greatestError_52 : decode cX9_greatestError 52 = .ok (.iload_n 1, 1) := by decide +kernel
theorem dX9_greatestError_53 : decode cX9_greatestError 53 = .ok (.istore_n 1, 1) := by decide +kernel
theorem dX9_greatestError_54 : decode cX9_greatestError 54 = .ok (.iinc 2 1, 3) := by decide +kernel
theorem dX9_greatestError_57 : decode cX9_greatestError 57 = .ok (.goto (-36), 3) := by decide +kernel
theorem dX9_greatestError_60 : decode cX9_greatestError 60 = .ok (.iload_n 1, 1) := by decide +kernel
theorem dX9_greatestError_61 : decode cX9_greatestError 61 = .ok (.ireturn, 1) := by decide +kernel
theorem dX9_hasAside_0 : decode cX9_hasAside 0 = .ok (.aload_n 0, 1) := by decide +kernel
theorem dX9_hasAside_1 : decode cX9_hasAside 1 = .ok (.iconst 0, 1) := by decide +kernel
theorem dX9_hasAside_2 : decode cX9_hasAside 2 = .ok (.putfield 25, 3) := by decide +kernel
theorem dX9_hasAside_5 : decode cX9_hasAside 5 = .ok (.aload_n 0, 1) := by decide +kernel
theorem dX9_hasAside_6 : decode cX9_hasAside 6 = .ok (.getfield 7, 3) := by decide +kernel
theorem dX9_hasAside_9 : decode cX9_hasAside 9 = .ok (.sipush 265, 3) := by decide +kernel
theorem dX9_hasAside_12 : decode cX9_hasAside 12 = .ok (.iaload, 1) := by decide +kernel
theorem dX9_hasAside_13 : decode cX9_hasAside 13 = .ok (.iconst 1, 1) := by decide +kernel
theorem dX9_hasAside_14 : decode cX9_hasAside 14 = .ok (.if_icmp .ne 7, 3) := by decide +kernel
theorem dX9_hasAside_17 : decode cX9_hasAside 17 = .ok (.iconst 1, 1) := by decide +kernel
theorem dX9_hasAside_18 : decode cX9_hasAside 18 = .ok (.goto 4, 3) := by decide +kernel
theorem dX9_hasAside_21 : decode cX9_hasAside 21 = .ok (.iconst 0, 1) := by decide +kernel
theorem dX9_hasAside_22 : decode cX9_hasAside 22 = .ok (.ireturn, 1) := by decide +kernel
set_option maxRecDepth 20000 in
theorem ggX9_loudestShare_X9_callsNow : GoodIn wsX9_loudestShare wsX9_callsNow := goodIn_r _ [7, 8, 9, 10, 6, 11, 2, 21, 22, 23, 24, 25, 26, 27, 28, 29, 30, 31, 32] (by decide +kernel) (by decide +kernel)
set_option maxRecDepth 20000 in
theorem gX9_loudestShare_X9_callsNow : GoodIn wsX9_loudestShare (wsV RX9 65 RX9 yX9_callsNow wsX9_callsNow) := goodIn_app (goodIn_of _ (by decide +kernel)) ggX9_loudestShare_X9_callsNow
set_option maxRecDepth 20000 in
theorem ggX9_loudestShare_X9_loudestAt : GoodIn wsX9_loudestShare wsX9_loudestAt := goodIn_r _ [15, 16, 2, 17, 18, 19, 6, 20, 21, 22, 23, 24, 25, 26, 27, 28, 29, 30, 31, 32] (by decide +kernel) (by decide +kernel)
set_option maxRecDepth 20000 in
theorem gX9_loudestShare_X9_loudestAt : GoodIn wsX9_loudestShare (wsV RX9 133 RX9 yX9_loudestAt wsX9_loudestAt) := goodIn_app (goodIn_of _ (by decide +kernel)) ggX9_loudestShare_X9_loudestAt
theorem dX9_loudestShare_0 : decode cX9_loudestShare 0 = .ok (.aload_n 0, 1) := by decide +kernel
theorem dX9_loudestShare_1 : decode cX9_loudestShare 1 = .ok (.iconst 0, 1) := by decide +kernel
theorem dX9_loudestShare_2 : decode cX9_loudestShare 2 = .ok (.putfield 25, 3) := by decide +kernel
theorem dX9_loudestShare_5 : decode cX9_loudestShare 5 = .ok (.aload_n 0, 1) := by decide +kernel
theorem dX9_loudestShare_6 : decode cX9_loudestShare 6 = .ok (.invokevirtual 65, 3) := by decide +kernel
theorem dX9_loudestShare_9 : decode cX9_loudestShare 9 = .ok (.istore_n 1, 1) := by decide +kernel
theorem dX9_loudestShare_10 : decode cX9_loudestShare 10 = .ok (.iload_n 1, 1) := by decide +kernel
theorem dX9_loudestShare_11 : decode cX9_loudestShare 11 = .ok (.ifCond .ne 7, 3) := by decide +kernel
theorem dX9_loudestShare_14 : decode cX9_loudestShare 14 = .ok (.dconst 0, 1) := by decide +kernel
theorem dX9_loudestShare_15 : decode cX9_loudestShare 15 = .ok (.goto 20, 3) := by decide +kernel
theorem dX9_loudestShare_18 : decode cX9_loudestShare 18 = .ok (.aload_n 0, 1) := by decide +kernel
theorem dX9_loudestShare_19 : decode cX9_loudestShare 19 = .ok (.getfield 7, 3) := by decide +kernel
theorem dX9_loudestShare_22 : decode cX9_loudestShare 22 = .ok (.bipush 26, 2) := by decide +kernel
theorem dX9_loudestShare_24 : decode cX9_loudestShare 24 = .ok (.aload_n 0, 1) := by decide +kernel
theorem dX9_loudestShare_25 : decode cX9_loudestShare 25 = .ok (.iconst 0, 1) := by decide +kernel
theorem dX9_loudestShare_26 : decode cX9_loudestShare 26 = .ok (.invokevirtual 133, 3) := by decide +kernel
theorem dX9_loudestShare_29 : decode cX9_loudestShare 29 = .ok (.iadd, 1) := by decide +kernel
theorem dX9_loudestShare_30 : decode cX9_loudestShare 30 = .ok (.iaload, 1) := by decide +kernel
theorem dX9_loudestShare_31 : decode cX9_loudestShare 31 = .ok (.i2d, 1) := by decide +kernel
theorem dX9_loudestShare_32 : decode cX9_loudestShare 32 = .ok (.iload_n 1, 1) := by decide +kernel
theorem dX9_loudestShare_33 : decode cX9_loudestShare 33 = .ok (.i2d, 1) := by decide +kernel
theorem dX9_loudestShare_34 : decode cX9_loudestShare 34 = .ok (.ddiv, 1) := by decide +kernel
theorem dX9_loudestShare_35 : decode cX9_loudestShare 35 = .ok (.dreturn, 1) := by decide +kernel
set_option maxRecDepth 20000 in
theorem ggX9_historySize_X9_told : GoodIn wsX9_historySize wsX9_told := goodIn_r _ [6, 7, 8, 9, 10, 11, 12, 13, 14, 15, 16, 17, 18, 19] (by decide +kernel) (by decide +kernel)
set_option maxRecDepth 20000 in
theorem gX9_historySize_X9_told : GoodIn wsX9_historySize (wsV RX9 130 RX9 yX9_told wsX9_told) := goodIn_app (goodIn_of _ (by decide +kernel)) ggX9_historySize_X9_told
theorem dX9_historySize_0 : decode cX9_historySize 0 = .ok (.aload_n 0, 1) := by decide +kernel
theorem dX9_historySize_1 : decode cX9_historySize 1 = .ok (.aload_n 0, 1) := by decide +kernel
theorem dX9_historySize_2 : decode cX9_historySize 2 = .ok (.getfield 29, 3) := by decide +kernel
theorem dX9_historySize_5 : decode cX9_historySize 5 = .ok (.invokevirtual 130, 3) := by decide +kernel
theorem dX9_historySize_8 : decode cX9_historySize 8 = .ok (.ireturn, 1) := by decide +kernel
theorem dJ9_max_7cf53_0 : decode cJ9_max_7cf53 0 = .ok (.iload_n 0, 1) := by decide +kernel
theorem dJ9_max_7cf53_1 : decode cJ9_max_7cf53 1 = .ok (.iload_n 1, 1) := by decide +kernel
theorem dJ9_max_7cf53_2 : decode cJ9_max_7cf53 2 = .ok (.if_icmp .lt 7, 3) := by decide +kernel
theorem dJ9_max_7cf53_5 : decode cJ9_max_7cf53 5 = .ok (.iload_n 0, 1) := by decide +kernel
theorem dJ9_max_7cf53_6 : decode cJ9_max_7cf53 6 = .ok (.goto 4, 3) := by decide +kernel
theorem dJ9_max_7cf53_9 : decode cJ9_max_7cf53 9 = .ok (.iload_n 1, 1) := by decide +kernel
theorem dJ9_max_7cf53_10 : decode cJ9_max_7cf53 10 = .ok (.ireturn, 1) := by decide +kernel
theorem dJ9_min_7cf53_0 : decode cJ9_min_7cf53 0 = .ok (.iload_n 0, 1) := by decide +kernel
theorem dJ9_min_7cf53_1 : decode cJ9_min_7cf53 1 = .ok (.iload_n 1, 1) := by decide +kernel
theorem dJ9_min_7cf53_2 : decode cJ9_min_7cf53 2 = .ok (.if_icmp .gt 7, 3) := by decide +kernel
theorem dJ9_min_7cf53_5 : decode cJ9_min_7cf53 5 = .ok (.iload_n 0, 1) := by decide +kernel
theorem dJ9_min_7cf53_6 : decode cJ9_min_7cf53 6 = .ok (.goto 4, 3) := by decide +kernel
theorem dJ9_min_7cf53_9 : decode cJ9_min_7cf53 9 = .ok (.iload_n 1, 1) := by decide +kernel
theorem dJ9_min_7cf53_10 : decode cJ9_min_7cf53 10 = .ok (.ireturn, 1) := by decide +kernel
theorem dJ7_fill_53178_0 : decode cJ7_fill_53178 0 = .ok (.iconst 0, 1) := by decide +kernel
theorem dJ7_fill_53178_1 : decode cJ7_fill_53178 1 = .ok (.istore_n 2, 1) := by decide +kernel
theorem dJ7_fill_53178_2 : decode cJ7_fill_53178 2 = .ok (.aload_n 0, 1) := by decide +kernel
theorem dJ7_fill_53178_3 : decode cJ7_fill_53178 3 = .ok (.arraylength, 1) := by decide +kernel
theorem dJ7_fill_53178_4 : decode cJ7_fill_53178 4 = .ok (.istore_n 3, 1) := by decide +kernel
theorem dJ7_fill_53178_5 : decode cJ7_fill_53178 5 = .ok (.iload_n 2, 1) := by decide +kernel
theorem dJ7_fill_53178_6 : decode cJ7_fill_53178 6 = .ok (.iload_n 3, 1) := by decide +kernel
theorem dJ7_fill_53178_7 : decode cJ7_fill_53178 7 = .ok (.if_icmp .ge 13, 3) := by decide +kernel
theorem dJ7_fill_53178_10 : decode cJ7_fill_53178 10 = .ok (.aload_n 0, 1) := by decide +kernel
theorem dJ7_fill_53178_11 : decode cJ7_fill_53178 11 = .ok (.iload_n 2, 1) := by decide +kernel
theorem dJ7_fill_53178_12 : decode cJ7_fill_53178 12 = .ok (.iload_n 1, 1) := by decide +kernel
theorem dJ7_fill_53178_13 : decode cJ7_fill_53178 13 = .ok (.iastore, 1) := by decide +kernel
theorem dJ7_fill_53178_14 : decode cJ7_fill_53178 14 = .ok (.iinc 2 1, 3) := by decide +kernel
theorem dJ7_fill_53178_17 : decode cJ7_fill_53178 17 = .ok (.goto (-12), 3) := by decide +kernel
theorem dJ7_fill_53178_20 : decode cJ7_fill_53178 20 = .ok (.return_, 1) := by decide +kernel
