theorem dX0_init_0 : decode cX0_init 0 = .ok (.aload_n 0, 1) := by decide +kernel
theorem dX0_init_1 : decode cX0_init 1 = .ok (.invokespecial 3, 3) := by decide +kernel
theorem dX0_init_4 : decode cX0_init 4 = .ok (.aload_n 0, 1) := by decide +kernel
theorem dX0_init_5 : decode cX0_init 5 = .ok (.bipush 26, 2) := by decide +kernel
theorem dX0_init_7 : decode cX0_init 7 = .ok (.newarray .int, 2) := by decide +kernel
theorem dX0_init_9 : decode cX0_init 9 = .ok (.putfield 9, 3) := by decide +kernel
theorem dX0_init_12 : decode cX0_init 12 = .ok (.aload_n 0, 1) := by decide +kernel
theorem dX0_init_13 : decode cX0_init 13 = .ok (.bipush 26, 2) := by decide +kernel
theorem dX0_init_15 : decode cX0_init 15 = .ok (.newarray .int, 2) := by decide +kernel
theorem dX0_init_17 : decode cX0_init 17 = .ok (.putfield 15, 3) := by decide +kernel
theorem dX0_init_20 : decode cX0_init 20 = .ok (.aload_n 0, 1) := by decide +kernel
theorem dX0_init_21 : decode cX0_init 21 = .ok (.bipush 26, 2) := by decide +kernel
theorem dX0_init_23 : decode cX0_init 23 = .ok (.newarray .int, 2) := by decide +kernel
theorem dX0_init_25 : decode cX0_init 25 = .ok (.putfield 18, 3) := by decide +kernel
theorem dX0_init_28 : decode cX0_init 28 = .ok (.return_, 1) := by decide +kernel
set_option maxRecDepth 20000 in
theorem ggX0_beginAnew_J7_fill_53178 : GoodIn wsX0_beginAnew wsJ7_fill_53178 := goodIn_r _ [8] (by decide +kernel) (by decide +kernel)
set_option maxRecDepth 20000 in
theorem gX0_beginAnew_J7_fill_53178 : GoodIn wsX0_beginAnew (va_wsS RX0 21 yJ7_fill_53178 wsJ7_fill_53178) := goodIn_app (goodIn_of _ (by decide +kernel)) ggX0_beginAnew_J7_fill_53178
theorem dX0_beginAnew_0 : decode cX0_beginAnew 0 = .ok (.aload_n 0, 1) := by decide +kernel
theorem dX0_beginAnew_1 : decode cX0_beginAnew 1 = .ok (.getfield 9, 3) := by decide +kernel
theorem dX0_beginAnew_4 : decode cX0_beginAnew 4 = .ok (.iconst 0, 1) := by decide +kernel
theorem dX0_beginAnew_5 : decode cX0_beginAnew 5 = .ok (.invokestatic 21, 3) := by decide +kernel
theorem dX0_beginAnew_8 : decode cX0_beginAnew 8 = .ok (.aload_n 0, 1) := by decide +kernel
theorem dX0_beginAnew_9 : decode cX0_beginAnew 9 = .ok (.iconst 0, 1) := by decide +kernel
theorem dX0_beginAnew_10 : decode cX0_beginAnew 10 = .ok (.putfield 27, 3) := by decide +kernel
theorem dX0_beginAnew_13 : decode cX0_beginAnew 13 = .ok (.aload_n 0, 1) := by decide +kernel
theorem dX0_beginAnew_14 : decode cX0_beginAnew 14 = .ok (.iconst 0, 1) := by decide +kernel
theorem dX0_beginAnew_15 : decode cX0_beginAnew 15 = .ok (.putfield 31, 3) := by decide +kernel
theorem dX0_beginAnew_18 : decode cX0_beginAnew 18 = .ok (.aload_n 0, 1) := by decide +kernel
theorem dX0_beginAnew_19 : decode cX0_beginAnew 19 = .ok (.iload_n 1, 1) := by decide +kernel
theorem dX0_beginAnew_20 : decode cX0_beginAnew 20 = .ok (.putfield 34, 3) := by decide +kernel
theorem dX0_beginAnew_23 : decode cX0_beginAnew 23 = .ok (.return_, 1) := by decide +kernel
set_option maxRecDepth 20000 in
theorem ggX0_copyFrom_X8_copyRow : GoodIn wsX0_copyFrom wsX8_copyRow := goodIn_r _ [9, 10, 11, 12, 13, 14, 15, 16, 17] (by decide +kernel) (by decide +kernel)
set_option maxRecDepth 20000 in
theorem gX0_copyFrom_X8_copyRow_n37 : GoodIn wsX0_copyFrom (wsX8_copyRow) := ggX0_copyFrom_X8_copyRow
theorem dX0_copyFrom_0 : decode cX0_copyFrom 0 = .ok (.aload_n 1, 1) := by decide +kernel
theorem dX0_copyFrom_1 : decode cX0_copyFrom 1 = .ok (.getfield 9, 3) := by decide +kernel
theorem dX0_copyFrom_4 : decode cX0_copyFrom 4 = .ok (.aload_n 0, 1) := by decide +kernel
theorem dX0_copyFrom_5 : decode cX0_copyFrom 5 = .ok (.getfield 9, 3) := by decide +kernel
theorem dX0_copyFrom_8 : decode cX0_copyFrom 8 = .ok (.invokestatic 37, 3) := by decide +kernel
theorem dX0_copyFrom_11 : decode cX0_copyFrom 11 = .ok (.aload_n 1, 1) := by decide +kernel
theorem dX0_copyFrom_12 : decode cX0_copyFrom 12 = .ok (.getfield 15, 3) := by decide +kernel
theorem dX0_copyFrom_15 : decode cX0_copyFrom 15 = .ok (.aload_n 0, 1) := by decide +kernel
theorem dX0_copyFrom_16 : decode cX0_copyFrom 16 = .ok (.getfield 15, 3) := by decide +kernel
theorem dX0_copyFrom_19 : decode cX0_copyFrom 19 = .ok (.invokestatic 37, 3) := by decide +kernel
theorem dX0_copyFrom_22 : decode cX0_copyFrom 22 = .ok (.aload_n 1, 1) := by decide +kernel
theorem dX0_copyFrom_23 : decode cX0_copyFrom 23 = .ok (.getfield 18, 3) := by decide +kernel
theorem dX0_copyFrom_26 : decode cX0_copyFrom 26 = .ok (.aload_n 0, 1) := by decide +kernel
theorem dX0_copyFrom_27 : decode cX0_copyFrom 27 = .ok (.getfield 18, 3) := by decide +kernel
theorem dX0_copyFrom_30 : decode cX0_copyFrom 30 = .ok (.invokestatic 37, 3) := by decide +kernel
theorem dX0_copyFrom_33 : decode cX0_copyFrom 33 = .ok (.aload_n 0, 1) := by decide +kernel
theorem dX0_copyFrom_34 : decode cX0_copyFrom 34 = .ok (.aload_n 1, 1) := by decide +kernel
theorem dX0_copyFrom_35 : decode cX0_copyFrom 35 = .ok (.getfield 27, 3) := by decide +kernel
theorem dX0_copyFrom_38 : decode cX0_copyFrom 38 = .ok (.putfield 27, 3) := by decide +kernel
theorem dX0_copyFrom_41 : decode cX0_copyFrom 41 = .ok (.aload_n 0, 1) := by decide +kernel
theorem dX0_copyFrom_42 : decode cX0_copyFrom 42 = .ok (.aload_n 1, 1) := by decide +kernel
theorem dX0_copyFrom_43 : decode cX0_copyFrom 43 = .ok (.getfield 31, 3) := by decide +kernel
theorem dX0_copyFrom_46 : decode cX0_copyFrom 46 = .ok (.putfield 31, 3) := by decide +kernel
theorem dX0_copyFrom_49 : decode cX0_copyFrom 49 = .ok (.aload_n 0, 1) := by decide +kernel
theorem dX0_copyFrom_50 : decode cX0_copyFrom 50 = .ok (.aload_n 1, 1) := by decide +kernel
theorem dX0_copyFrom_51 : decode cX0_copyFrom 51 = .ok (.getfield 34, 3) := by decide +kernel
theorem dX0_copyFrom_54 : decode cX0_copyFrom 54 = .ok (.putfield 34, 3) := by decide +kernel
theorem dX0_copyFrom_57 : decode cX0_copyFrom 57 = .ok (.return_, 1) := by decide +kernel
theorem dX0_isFull_0 : decode cX0_isFull 0 = .ok (.aload_n 0, 1) := by decide +kernel
theorem dX0_isFull_1 : decode cX0_isFull 1 = .ok (.getfield 31, 3) := by decide +kernel
theorem dX0_isFull_4 : decode cX0_isFull 4 = .ok (.aload_n 0, 1) := by decide +kernel
theorem dX0_isFull_5 : decode cX0_isFull 5 = .ok (.getfield 34, 3) := by decide +kernel
theorem dX0_isFull_8 : decode cX0_isFull 8 = .ok (.if_icmp .lt 7, 3) := by decide +kernel
theorem dX0_isFull_11 : decode cX0_isFull 11 = .ok (.iconst 1, 1) := by decide +kernel
theorem dX0_isFull_12 : decode cX0_isFull 12 = .ok (.goto 4, 3) := by decide +kernel
theorem dX0_isFull_15 : decode cX0_isFull 15 = .ok (.iconst 0, 1) := by decide +kernel
theorem dX0_isFull_16 : decode cX0_isFull 16 = .ok (.ireturn, 1) := by decide +kernel
set_option maxRecDepth 20000 in
theorem ggX0_take_X0_giveCounter : GoodIn wsX0_take wsX0_giveCounter := goodIn_r _ [8, 1, 9, 10, 11, 12, 13, 7, 14, 15, 16, 17, 18, 19, 20, 21, 22, 3, 23, 24, 25, 26, 27, 28, 29, 30, 31, 32, 33, 34, 35, 36, 37] (by decide +kernel) (by decide +kernel)
set_option maxRecDepth 20000 in
theorem gX0_take_X0_giveCounter : GoodIn wsX0_take (wsV RX0 41 RX0 yX0_giveCounter wsX0_giveCounter) := goodIn_app (goodIn_of _ (by decide +kernel)) ggX0_take_X0_giveCounter
theorem dX0_take_0 : decode cX0_take 0 = .ok (.aload_n 0, 1) := by decide +kernel
theorem dX0_take_1 : decode cX0_take 1 = .ok (.getfield 9, 3) := by decide +kernel
theorem dX0_take_4 : decode cX0_take 4 = .ok (.iload_n 1, 1) := by decide +kernel
theorem dX0_take_5 : decode cX0_take 5 = .ok (.iaload, 1) := by decide +kernel
theorem dX0_take_6 : decode cX0_take 6 = .ok (.ifCond .ne 8, 3) := by decide +kernel
theorem dX0_take_9 : decode cX0_take 9 = .ok (.aload_n 0, 1) := by decide +kernel
theorem dX0_take_10 : decode cX0_take 10 = .ok (.iload_n 1, 1) := by decide +kernel
theorem dX0_take_11 : decode cX0_take 11 = .ok (.invokevirtual 41, 3) := by decide +kernel
theorem dX0_take_14 : decode cX0_take 14 = .ok (.aload_n 0, 1) := by decide +kernel
theorem dX0_take_15 : decode cX0_take 15 = .ok (.getfield 9, 3) := by decide +kernel
theorem dX0_take_18 : decode cX0_take 18 = .ok (.iload_n 1, 1) := by decide +kernel
theorem dX0_take_19 : decode cX0_take 19 = .ok (.dup2, 1) := by decide +kernel
theorem dX0_take_20 : decode cX0_take 20 = .ok (.iaload, 1) := by decide +kernel
theorem dX0_take_21 : decode cX0_take 21 = .ok (.iconst 1, 1) := by decide +kernel
theorem dX0_take_22 : decode cX0_take 22 = .ok (.iadd, 1) := by decide +kernel
theorem dX0_take_23 : decode cX0_take 23 = .ok (.iastore, 1) := by decide +kernel
theorem dX0_take_24 : decode cX0_take 24 = .ok (.aload_n 0, 1) := by decide +kernel
theorem dX0_take_25 : decode cX0_take 25 = .ok (.dup, 1) := by decide +kernel
theorem dX0_take_26 : decode cX0_take 26 = .ok (.getfield 27, 3) := by decide +kernel
theorem dX0_take_29 : decode cX0_take 29 = .ok (.iconst 1, 1) := by decide +kernel
theorem dX0_take_30 : decode cX0_take 30 = .ok (.iadd, 1) := by decide +kernel
theorem dX0_take_31 : decode cX0_take 31 = .ok (.putfield 27, 3) := by decide +kernel
theorem dX0_take_34 : decode cX0_take 34 = .ok (.aload_n 0, 1) := by decide +kernel
theorem dX0_take_35 : decode cX0_take 35 = .ok (.getfield 18, 3) := by decide +kernel
theorem dX0_take_38 : decode cX0_take 38 = .ok (.iload_n 1, 1) := by decide +kernel
theorem dX0_take_39 : decode cX0_take 39 = .ok (.aload_n 0, 1) := by decide +kernel
theorem dX0_take_40 : decode cX0_take 40 = .ok (.getfield 27, 3) := by decide +kernel
theorem dX0_take_43 : decode cX0_take 43 = .ok (.iastore, 1) := by decide +kernel
theorem dX0_take_44 : decode cX0_take 44 = .ok (.return_, 1) := by decide +kernel
set_option maxRecDepth 20000 in
theorem ggX0_giveCounter_X0_leastCount : GoodIn wsX0_giveCounter wsX0_leastCount := goodIn_r _ [8, 1, 9, 10, 11, 7, 12, 13, 14, 15, 16, 17, 18, 19, 20, 21, 3, 22, 27, 28, 29, 30, 31, 32] (by decide +kernel) (by decide +kernel)
set_option maxRecDepth 20000 in
theorem gX0_giveCounter_X0_leastCount : GoodIn wsX0_giveCounter (wsV RX0 45 RX0 yX0_leastCount wsX0_leastCount) := goodIn_app (goodIn_of _ (by decide +kernel)) ggX0_giveCounter_X0_leastCount
set_option maxRecDepth 20000 in
theorem ggX0_giveCounter_X0_isFull : GoodIn wsX0_giveCounter wsX0_isFull := goodIn_r _ [21, 3, 22, 27, 28, 29, 30, 31, 32] (by decide +kernel) (by decide +kernel)
set_option maxRecDepth 20000 in
theorem gX0_giveCounter_X0_isFull : GoodIn wsX0_giveCounter (wsV RX0 49 RX0 yX0_isFull wsX0_isFull) := goodIn_app (goodIn_of _ (by decide +kernel)) ggX0_giveCounter_X0_isFull
set_option maxRecDepth 20000 in
theorem ggX0_giveCounter_X0_weakest : GoodIn wsX0_giveCounter wsX0_weakest := goodIn_r _ [12, 1, 13, 14, 15, 7, 16, 17, 27, 28, 29, 30, 31, 32] (by decide +kernel) (by decide +kernel)
set_option maxRecDepth 20000 in
theorem gX0_giveCounter_X0_weakest : GoodIn wsX0_giveCounter (wsV RX0 53 RX0 yX0_weakest wsX0_weakest) := goodIn_app (goodIn_of _ (by decide +kernel)) ggX0_giveCounter_X0_weakest
set_option maxRecDepth 20000 in
theorem ggX0_giveCounter_X0_remove : GoodIn wsX0_giveCounter wsX0_remove := goodIn_r _ [26, 1, 3, 27, 28, 29, 30, 31, 32] (by decide +kernel) (by decide +kernel)
set_option maxRecDepth 20000 in
theorem gX0_giveCounter_X0_remove : GoodIn wsX0_giveCounter (wsV RX0 56 RX0 yX0_remove wsX0_remove) := goodIn_app (goodIn_of _ (by decide +kernel)) ggX0_giveCounter_X0_remove
theorem dX0_giveCounter_0 : decode cX0_giveCounter 0 = .ok (.aload_n 0, 1) := by decide +kernel
theorem dX0_giveCounter_1 : decode cX0_giveCounter 1 = .ok (.invokevirtual 45, 3) := by decide +kernel
theorem dX0_giveCounter_4 : decode cX0_giveCounter 4 = .ok (.istore_n 2, 1) := by decide +kernel
theorem dX0_giveCounter_5 : decode cX0_giveCounter 5 = .ok (.aload_n 0, 1) := by decide +kernel
theorem dX0_giveCounter_6 : decode cX0_giveCounter 6 = .ok (.invokevirtual 49, 3) := by decide +kernel
theorem dX0_giveCounter_9 : decode cX0_giveCounter 9 = .ok (.ifCond .eq 11, 3) := by decide +kernel
theorem dX0_giveCounter_12 : decode cX0_giveCounter 12 = .ok (.aload_n 0, 1) := by decide +kernel
theorem dX0_giveCounter_13 : decode cX0_giveCounter 13 = .ok (.aload_n 0, 1) := by decide +kernel
theorem dX0_giveCounter_14 : decode cX0_giveCounter 14 = .ok (.invokevirtual 53, 3) := by decide +kernel
theorem dX0_giveCounter_17 : decode cX0_giveCounter 17 = .ok (.invokevirtual 56, 3) := by decide +kernel
theorem dX0_giveCounter_20 : decode cX0_giveCounter 20 = .ok (.aload_n 0, 1) := by decide +kernel
theorem dX0_giveCounter_21 : decode cX0_giveCounter 21 = .ok (.getfield 9, 3) := by decide +kernel
theorem dX0_giveCounter_24 : decode cX0_giveCounter 24 = .ok (.iload_n 1, 1) := by decide +kernel
theorem dX0_giveCounter_25 : decode cX0_giveCounter 25 = .ok (.iload_n 2, 1) := by decide +kernel
theorem dX0_giveCounter_26 : decode cX0_giveCounter 26 = .ok (.iastore, 1) := by decide +kernel
theorem dX0_giveCounter_27 : decode cX0_giveCounter 27 = .ok (.aload_n 0, 1) := by decide +kernel
theorem dX0_giveCounter_28 : decode cX0_giveCounter 28 = .ok (.getfield 15, 3) := by decide +kernel
theorem dX0_giveCounter_31 : decode cX0_giveCounter 31 = .ok (.iload_n 1, 1) := by decide +kernel
theorem dX0_giveCounter_32 : decode cX0_giveCounter 32 = .ok (.iload_n 2, 1) := by decide +kernel
theorem dX0_giveCounter_33 : decode cX0_giveCounter 33 = .ok (.iastore, 1) := by decide +kernel
theorem dX0_giveCounter_34 : decode cX0_giveCounter 34 = .ok (.aload_n 0, 1) := by decide +kernel
theorem dX0_giveCounter_35 : decode cX0_giveCounter 35 = .ok (.dup, 1) := by decide +kernel
theorem dX0_giveCounter_36 : decode cX0_giveCounter 36 = .ok (.getfield 31, 3) := by decide +kernel
theorem dX0_giveCounter_39 : decode cX0_giveCounter 39 = .ok (.iconst 1, 1) := by decide +kernel
theorem dX0_giveCounter_40 : decode cX0_giveCounter 40 = .ok (.iadd, 1) := by decide +kernel
theorem dX0_giveCounter_41 : decode cX0_giveCounter 41 = .ok (.putfield 31, 3) := by decide +kernel
theorem dX0_giveCounter_44 : decode cX0_giveCounter 44 = .ok (.return_, 1) := by decide +kernel
theorem dX0_remove_0 : decode cX0_remove 0 = .ok (.iload_n 1, 1) := by decide +kernel
theorem dX0_remove_1 : decode cX0_remove 1 = .ok (.iconst (-1), 1) := by decide +kernel
theorem dX0_remove_2 : decode cX0_remove 2 = .ok (.if_icmp .eq 20, 3) := by decide +kernel
theorem dX0_remove_5 : decode cX0_remove 5 = .ok (.aload_n 0, 1) := by decide +kernel
theorem dX0_remove_6 : decode cX0_remove 6 = .ok (.getfield 9, 3) := by decide +kernel
theorem dX0_remove_9 : decode cX0_remove 9 = .ok (.iload_n 1, 1) := by decide +kernel
theorem dX0_remove_10 : decode cX0_remove 10 = .ok (.iconst 0, 1) := by decide +kernel
theorem dX0_remove_11 : decode cX0_remove 11 = .ok (.iastore, 1) := by decide +kernel
theorem dX0_remove_12 : decode cX0_remove 12 = .ok (.aload_n 0, 1) := by decide +kernel
theorem dX0_remove_13 : decode cX0_remove 13 = .ok (.dup, 1) := by decide +kernel
theorem dX0_remove_14 : decode cX0_remove 14 = .ok (.getfield 31, 3) := by decide +kernel
theorem dX0_remove_17 : decode cX0_remove 17 = .ok (.iconst 1, 1) := by decide +kernel
theorem dX0_remove_18 : decode cX0_remove 18 = .ok (.isub, 1) := by decide +kernel
theorem dX0_remove_19 : decode cX0_remove 19 = .ok (.putfield 31, 3) := by decide +kernel
theorem dX0_remove_22 : decode cX0_remove 22 = .ok (.return_, 1) := by decide +kernel
set_option maxRecDepth 20000 in
theorem ggX0_weakest_X0_isWeaker : GoodIn wsX0_weakest wsX0_isWeaker := goodIn_r _ [6, 1, 7, 8, 9, 10, 11, 12, 13] (by decide +kernel) (by decide +kernel)
set_option maxRecDepth 20000 in
theorem gX0_weakest_X0_isWeaker : GoodIn wsX0_weakest (wsV RX0 59 RX0 yX0_isWeaker wsX0_isWeaker) := goodIn_app (goodIn_of _ (by decide +kernel)) ggX0_weakest_X0_isWeaker
theorem dX0_weakest_0 : decode cX0_weakest 0 = .ok (.iconst (-1), 1) := by decide +kernel
theorem dX0_weakest_1 : decode cX0_weakest 1 = .ok (.istore_n 1, 1) := by decide +kernel
theorem dX0_weakest_2 : decode cX0_weakest 2 = .ok (.iconst 0, 1) := by decide +kernel
theorem dX0_weakest_3 : decode cX0_weakest 3 = .ok (.istore_n 2, 1) := by decide +kernel
theorem dX0_weakest_4 : decode cX0_weakest 4 = .ok (.iload_n 2, 1) := by decide +kernel
theorem dX0_weakest_5 : decode cX0_weakest 5 = .ok (.bipush 26, 2) := by decide +kernel
theorem dX0_weakest_7 : decode cX0_weakest 7 = .ok (.if_icmp .ge 34, 3) := by decide +kernel
theorem dX0_weakest_10 : decode cX0_weakest 10 = .ok (.aload_n 0, 1) := by decide +kernel
theorem dX0_weakest_11 : decode cX0_weakest 11 = .ok (.getfield 9, 3) := by decide +kernel
theorem dX0_weakest_14 : decode cX0_weakest 14 = .ok (.iload_n 2, 1) := by decide +kernel
theorem dX0_weakest_15 : decode cX0_weakest 15 = .ok (.iaload, 1) := by decide +kernel
theorem dX0_weakest_16 : decode cX0_weakest 16 = .ok (.ifCond .le 19, 3) := by decide +kernel
theorem dX0_weakest_19 : decode cX0_weakest 19 = .ok (.iload_n 1, 1) := by decide +kernel
theorem dX0_weakest_20 : decode cX0_weakest 20 = .ok (.iconst (-1), 1) := by decide +kernel
theorem dX0_weakest_21 : decode cX0_weakest 21 = .ok (.if_icmp .eq 12, 3) := by decide +kernel
theorem dX0_weakest_24 : decode cX0_weakest 24 = .ok (.aload_n 0, 1) := by decide +kernel
theorem dX0_weakest_25 : decode cX0_weakest 25 = .ok (.iload_n 2, 1) := by decide +kernel
theorem dX0_weakest_26 : decode cX0_weakest 26 = .ok (.iload_n 1, 1) := by decide +kernel
theorem dX0_weakest_27 : decode cX0_weakest 27 = .ok (.invokevirtual 59, 3) := by decide +kernel
theorem dX0_weakest_30 : decode cX0_weakest 30 = .ok (.ifCond .eq 5, 3) := by decide +kernel
theorem dX0_weakest_33 : decode cX0_weakest 33 = .ok (.iload_n 2, 1) := by decide +kernel
theorem dX0_weakest_34 : decode cX0_weakest 34 = .ok (.istore_n 1, 1) := by decide +kernel
theorem dX0_weakest_35 : decode cX0_weakest 35 = .ok (.iinc 2 1, 3) := by decide +kernel
theorem dX0_weakest_38 : decode cX0_weakest 38 = .ok (.goto (-34), 3) := by decide +kernel
theorem dX0_weakest_41 : decode cX0_weakest 41 = .ok (.iload_n 1, 1) := by decide +kernel
theorem dX0_weakest_42 : decode cX0_weakest 42 = .ok (.ireturn, 1) := by decide +kernel
theorem dX0_isWeaker_0 : decode cX0_isWeaker 0 = .ok (.aload_n 0, 1) := by decide +kernel
theorem dX0_isWeaker_1 : decode cX0_isWeaker 1 = .ok (.getfield 9, 3) := by decide +kernel
theorem dX0_isWeaker_4 : decode cX0_isWeaker 4 = .ok (.iload_n 1, 1) := by decide +kernel
theorem dX0_isWeaker_5 : decode cX0_isWeaker 5 = .ok (.iaload, 1) := by decide +kernel
theorem dX0_isWeaker_6 : decode cX0_isWeaker 6 = .ok (.aload_n 0, 1) := by decide +kernel
theorem dX0_isWeaker_7 : decode cX0_isWeaker 7 = .ok (.getfield 9, 3) := by decide +kernel
theorem dX0_isWeaker_10 : decode cX0_isWeaker 10 = .ok (.iload_n 2, 1) := by decide +kernel
theorem dX0_isWeaker_11 : decode cX0_isWeaker 11 = .ok (.iaload, 1) := by decide +kernel
theorem dX0_isWeaker_12 : decode cX0_isWeaker 12 = .ok (.if_icmp .eq 24, 3) := by decide +kernel
theorem dX0_isWeaker_15 : decode cX0_isWeaker 15 = .ok (.aload_n 0, 1) := by decide +kernel
theorem dX0_isWeaker_16 : decode cX0_isWeaker 16 = .ok (.getfield 9, 3) := by decide +kernel
theorem dX0_isWeaker_19 : decode cX0_isWeaker 19 = .ok (.iload_n 1, 1) := by decide +kernel
theorem dX0_isWeaker_20 : decode cX0_isWeaker 20 = .ok (.iaload, 1) := by decide +kernel
theorem dX0_isWeaker_21 : decode cX0_isWeaker 21 = .ok (.aload_n 0, 1) := by decide +kernel
theorem dX0_isWeaker_22 : decode cX0_isWeaker 22 = .ok (.getfield 9, 3) := by decide +kernel
theorem dX0_isWeaker_25 : decode cX0_isWeaker 25 = .ok (.iload_n 2, 1) := by decide +kernel
theorem dX0_isWeaker_26 : decode cX0_isWeaker 26 = .ok (.iaload, 1) := by decide +kernel
theorem dX0_isWeaker_27 : decode cX0_isWeaker 27 = .ok (.if_icmp .ge 7, 3) := by decide +kernel
theorem dX0_isWeaker_30 : decode cX0_isWeaker 30 = .ok (.iconst 1, 1) := by decide +kernel
theorem dX0_isWeaker_31 : decode cX0_isWeaker 31 = .ok (.goto 4, 3) := by decide +kernel
theorem dX0_isWeaker_34 : decode cX0_isWeaker 34 = .ok (.iconst 0, 1) := by decide +kernel
theorem dX0_isWeaker_35 : decode cX0_isWeaker 35 = .ok (.ireturn, 1) := by decide +kernel
theorem dX0_isWeaker_36 : decode cX0_isWeaker 36 = .ok (.aload_n 0, 1) := by decide +kernel
theorem dX0_isWeaker_37 : decode cX0_isWeaker 37 = .ok (.getfield 18, 3) := by decide +kernel
theorem dX0_isWeaker_40 : decode cX0_isWeaker 40 = .ok (.iload_n 1, 1) := by decide +kernel
theorem dX0_isWeaker_41 : decode cX0_isWeaker 41 = .ok (.iaload, 1) := by decide +kernel
theorem dX0_isWeaker_42 : decode cX0_isWeaker 42 = .ok (.aload_n 0, 1) := by decide +kernel
theorem dX0_isWeaker_43 : decode cX0_isWeaker 43 = .ok (.getfield 18, 3) := by decide +kernel
theorem dX0_isWeaker_46 : decode cX0_isWeaker 46 = .ok (.iload_n 2, 1) := by decide +kernel
theorem dX0_isWeaker_47 : decode cX0_isWeaker 47 = .ok (.iaload, 1) := by decide +kernel
theorem dX0_isWeaker_48 : decode cX0_isWeaker 48 = .ok (.if_icmp .ge 7, 3) := by decide +kernel
theorem dX0_isWeaker_51 : decode cX0_isWeaker 51 = .ok (.iconst 1, 1) := by decide +kernel
theorem dX0_isWeaker_52 : decode cX0_isWeaker 52 = .ok (.goto 4, 3) := by decide +kernel
theorem dX0_isWeaker_55 : decode cX0_isWeaker 55 = .ok (.iconst 0, 1) := by decide +kernel
theorem dX0_isWeaker_56 : decode cX0_isWeaker 56 = .ok (.ireturn, 1) := by decide +kernel
set_option maxRecDepth 20000 in
theorem ggX0_leastCount_X0_weakest : GoodIn wsX0_leastCount wsX0_weakest := goodIn_r _ [6, 1, 7, 8, 9, 5, 10, 11, 18, 19, 20, 21, 22, 23] (by decide +kernel) (by decide +kernel)
set_option maxRecDepth 20000 in
theorem gX0_leastCount_X0_weakest : GoodIn wsX0_leastCount (wsV RX0 53 RX0 yX0_weakest wsX0_weakest) := goodIn_app (goodIn_of _ (by decide +kernel)) ggX0_leastCount_X0_weakest
set_option maxRecDepth 20000 in
theorem ggX0_leastCount_X0_isFull : GoodIn wsX0_leastCount wsX0_isFull := goodIn_r _ [15, 16, 17, 18, 19, 20, 21, 22, 23] (by decide +kernel) (by decide +kernel)
set_option maxRecDepth 20000 in
theorem gX0_leastCount_X0_isFull : GoodIn wsX0_leastCount (wsV RX0 49 RX0 yX0_isFull wsX0_isFull) := goodIn_app (goodIn_of _ (by decide +kernel)) ggX0_leastCount_X0_isFull
theorem dX0_leastCount_0 : decode cX0_leastCount 0 = .ok (.aload_n 0, 1) := by decide +kernel
theorem dX0_leastCount_1 : decode cX0_leastCount 1 = .ok (.invokevirtual 53, 3) := by decide +kernel
theorem dX0_leastCount_4 : decode cX0_leastCount 4 = .ok (.istore_n 1, 1) := by decide +kernel
theorem dX0_leastCount_5 : decode cX0_leastCount 5 = .ok (.aload_n 0, 1) := by decide +kernel
theorem dX0_leastCount_6 : decode cX0_leastCount 6 = .ok (.invokevirtual 49, 3) := by decide +kernel
theorem dX0_leastCount_9 : decode cX0_leastCount 9 = .ok (.ifCond .eq 17, 3) := by decide +kernel
theorem dX0_leastCount_12 : decode cX0_leastCount 12 = .ok (.iload_n 1, 1) := by decide +kernel
theorem dX0_leastCount_13 : decode cX0_leastCount 13 = .ok (.iconst (-1), 1) := by decide +kernel
theorem dX0_leastCount_14 : decode cX0_leastCount 14 = .ok (.if_icmp .eq 12, 3) := by decide +kernel
theorem dX0_leastCount_17 : decode cX0_leastCount 17 = .ok (.aload_n 0, 1) := by decide +kernel
theorem dX0_leastCount_18 : decode cX0_leastCount 18 = .ok (.getfield 9, 3) := by decide +kernel
theorem dX0_leastCount_21 : decode cX0_leastCount 21 = .ok (.iload_n 1, 1) := by decide +kernel
theorem dX0_leastCount_22 : decode cX0_leastCount 22 = .ok (.iaload, 1) := by decide +kernel
theorem dX0_leastCount_23 : decode cX0_leastCount 23 = .ok (.goto 4, 3) := by decide +kernel
theorem dX0_leastCount_26 : decode cX0_leastCount 26 = .ok (.iconst 0, 1) := by decide +kernel
theorem dX0_leastCount_27 : decode cX0_leastCount 27 = .ok (.ireturn, 1) := by decide +kernel
set_option maxRecDepth 20000 in
theorem ggX0_estimateOf_X0_leastCount : GoodIn wsX0_estimateOf wsX0_leastCount := goodIn_r _ [6, 1, 7, 8, 9, 5, 10, 11, 12, 13, 14, 15, 16, 17, 18, 19, 20, 21, 22, 23, 24, 25, 26, 27] (by decide +kernel) (by decide +kernel)
set_option maxRecDepth 20000 in
theorem gX0_estimateOf_X0_leastCount : GoodIn wsX0_estimateOf (wsV RX0 45 RX0 yX0_leastCount wsX0_leastCount) := goodIn_app (goodIn_of _ (by decide +kernel)) ggX0_estimateOf_X0_leastCount
theorem dX0_estimateOf_0 : decode cX0_estimateOf 0 = .ok (.aload_n 0, 1) := by decide +kernel
theorem dX0_estimateOf_1 : decode cX0_estimateOf 1 = .ok (.getfield 9, 3) := by decide +kernel
theorem dX0_estimateOf_4 : decode cX0_estimateOf 4 = .ok (.iload_n 1, 1) := by decide +kernel
theorem dX0_estimateOf_5 : decode cX0_estimateOf 5 = .ok (.iaload, 1) := by decide +kernel
theorem dX0_estimateOf_6 : decode cX0_estimateOf 6 = .ok (.ifCond .le 12, 3) := by decide +kernel
theorem dX0_estimateOf_9 : decode cX0_estimateOf 9 = .ok (.aload_n 0, 1) := by decide +kernel
theorem dX0_estimateOf_10 : decode cX0_estimateOf 10 = .ok (.getfield 9, 3) := by decide +kernel
theorem dX0_estimateOf_13 : decode cX0_estimateOf 13 = .ok (.iload_n 1, 1) := by decide +kernel
theorem dX0_estimateOf_14 : decode cX0_estimateOf 14 = .ok (.iaload, 1) := by decide +kernel
theorem dX0_estimateOf_15 : decode cX0_estimateOf 15 = .ok (.goto 7, 3) := by decide +kernel
theorem dX0_estimateOf_18 : decode cX0_estimateOf 18 = .ok (.aload_n 0, 1) := by decide +kernel
theorem dX0_estimateOf_19 : decode cX0_estimateOf 19 = .ok (.invokevirtual 45, 3) := by decide +kernel
theorem dX0_estimateOf_22 : decode cX0_estimateOf 22 = .ok (.ireturn, 1) := by decide +kernel
theorem dX0_sureOf_0 : decode cX0_sureOf 0 = .ok (.aload_n 0, 1) := by decide +kernel
theorem dX0_sureOf_1 : decode cX0_sureOf 1 = .ok (.getfield 9, 3) := by decide +kernel
theorem dX0_sureOf_4 : decode cX0_sureOf 4 = .ok (.iload_n 1, 1) := by decide +kernel
theorem dX0_sureOf_5 : decode cX0_sureOf 5 = .ok (.iaload, 1) := by decide +kernel
theorem dX0_sureOf_6 : decode cX0_sureOf 6 = .ok (.ifCond .le 19, 3) := by decide +kernel
theorem dX0_sureOf_9 : decode cX0_sureOf 9 = .ok (.aload_n 0, 1) := by decide +kernel
theorem dX0_sureOf_10 : decode cX0_sureOf 10 = .ok (.getfield 9, 3) := by decide +kernel
theorem dX0_sureOf_13 : decode cX0_sureOf 13 = .ok (.iload_n 1, 1) := by decide +kernel
theorem dX0_sureOf_14 : decode cX0_sureOf 14 = .ok (.iaload, 1) := by decide +kernel
theorem dX0_sureOf_15 : decode cX0_sureOf 15 = .ok (.aload_n 0, 1) := by decide +kernel
theorem dX0_sureOf_16 : decode cX0_sureOf 16 = .ok (.getfield 15, 3) := by decide +kernel
theorem dX0_sureOf_19 : decode cX0_sureOf 19 = .ok (.iload_n 1, 1) := by decide +kernel
theorem dX0_sureOf_20 : decode cX0_sureOf 20 = .ok (.iaload, 1) := by decide +kernel
theorem dX0_sureOf_21 : decode cX0_sureOf 21 = .ok (.isub, 1) := by decide +kernel
theorem dX0_sureOf_22 : decode cX0_sureOf 22 = .ok (.goto 4, 3) := by decide +kernel
theorem dX0_sureOf_25 : decode cX0_sureOf 25 = .ok (.iconst 0, 1) := by decide +kernel
theorem dX0_sureOf_26 : decode cX0_sureOf 26 = .ok (.ireturn, 1) := by decide +kernel
set_option maxRecDepth 20000 in
theorem ggX0_mergeWith_X0_addCounters : GoodIn wsX0_mergeWith wsX0_addCounters := goodIn_r _ [10, 1, 11, 12, 13, 14, 9, 15, 16, 17, 18, 19, 20, 21, 22, 23, 4, 24, 25, 26, 27, 2, 3, 28, 29, 30, 31, 44, 45, 46, 47, 48, 49] (by decide +kernel) (by decide +kernel)
set_option maxRecDepth 20000 in
theorem gX0_mergeWith_X0_addCounters : GoodIn wsX0_mergeWith (wsV RX0 63 RX0 yX0_addCounters wsX0_addCounters) := goodIn_app (goodIn_of _ (by decide +kernel)) ggX0_mergeWith_X0_addCounters
set_option maxRecDepth 20000 in
theorem ggX0_mergeWith_X8_countersIn : GoodIn wsX0_mergeWith wsX8_countersIn := goodIn_r _ [34] (by decide +kernel) (by decide +kernel)
set_option maxRecDepth 20000 in
theorem gX0_mergeWith_X8_countersIn_n67 : GoodIn wsX0_mergeWith (wsX8_countersIn) := ggX0_mergeWith_X8_countersIn
set_option maxRecDepth 20000 in
theorem ggX0_mergeWith_X8_parrotAt : GoodIn wsX0_mergeWith wsX8_parrotAt := goodIn_r _ [36, 37, 38, 33, 39] (by decide +kernel) (by decide +kernel)
set_option maxRecDepth 20000 in
theorem gX0_mergeWith_X8_parrotAt_n71 : GoodIn wsX0_mergeWith (wsX8_parrotAt) := ggX0_mergeWith_X8_parrotAt
set_option maxRecDepth 20000 in
theorem ggX0_mergeWith_X0_remove : GoodIn wsX0_mergeWith wsX0_remove := goodIn_r _ [43, 1, 2, 44, 45, 46, 47, 48, 49] (by decide +kernel) (by decide +kernel)
set_option maxRecDepth 20000 in
theorem gX0_mergeWith_X0_remove : GoodIn wsX0_mergeWith (wsV RX0 56 RX0 yX0_remove wsX0_remove) := goodIn_app (goodIn_of _ (by decide +kernel)) ggX0_mergeWith_X0_remove
theorem dX0_mergeWith_0 : decode cX0_mergeWith 0 = .ok (.aload_n 0, 1) := by decide +kernel
theorem dX0_mergeWith_1 : decode cX0_mergeWith 1 = .ok (.aload_n 1, 1) := by decide +kernel
theorem dX0_mergeWith_2 : decode cX0_mergeWith 2 = .ok (.invokevirtual 63, 3) := by decide +kernel
theorem dX0_mergeWith_5 : decode cX0_mergeWith 5 = .ok (.aload_n 0, 1) := by decide +kernel
theorem dX0_mergeWith_6 : decode cX0_mergeWith 6 = .ok (.aload_n 0, 1) := by decide +kernel
theorem dX0_mergeWith_7 : decode cX0_mergeWith 7 = .ok (.getfield 9, 3) := by decide +kernel
theorem dX0_mergeWith_10 : decode cX0_mergeWith 10 = .ok (.invokestatic 67, 3) := by decide +kernel
theorem dX0_mergeWith_13 : decode cX0_mergeWith 13 = .ok (.putfield 31, 3) := by decide +kernel
theorem dX0_mergeWith_16 : decode cX0_mergeWith 16 = .ok (.aload_n 0, 1) := by decide +kernel
theorem dX0_mergeWith_17 : decode cX0_mergeWith 17 = .ok (.getfield 31, 3) := by decide +kernel
theorem dX0_mergeWith_20 : decode cX0_mergeWith 20 = .ok (.iconst 1, 1) := by decide +kernel
theorem dX0_mergeWith_21 : decode cX0_mergeWith 21 = .ok (.isub, 1) := by decide +kernel
theorem dX0_mergeWith_22 : decode cX0_mergeWith 22 = .ok (.istore_n 2, 1) := by decide +kernel
theorem dX0_mergeWith_23 : decode cX0_mergeWith 23 = .ok (.iload_n 2, 1) := by decide +kernel
theorem dX0_mergeWith_24 : decode cX0_mergeWith 24 = .ok (.aload_n 0, 1) := by decide +kernel
theorem dX0_mergeWith_25 : decode cX0_mergeWith 25 = .ok (.getfield 34, 3) := by decide +kernel
theorem dX0_mergeWith_28 : decode cX0_mergeWith 28 = .ok (.if_icmp .lt 21, 3) := by decide +kernel
theorem dX0_mergeWith_31 : decode cX0_mergeWith 31 = .ok (.aload_n 0, 1) := by decide +kernel
theorem dX0_mergeWith_32 : decode cX0_mergeWith 32 = .ok (.aload_n 0, 1) := by decide +kernel
theorem dX0_mergeWith_33 : decode cX0_mergeWith 33 = .ok (.getfield 9, 3) := by decide +kernel
theorem dX0_mergeWith_36 : decode cX0_mergeWith 36 = .ok (.iload_n 2, 1) := by decide +kernel
theorem dX0_mergeWith_37 : decode cX0_mergeWith 37 = .ok (.invokestatic 71, 3) := by decide +kernel
theorem dX0_mergeWith_40 : decode cX0_mergeWith 40 = .ok (.invokevirtual 56, 3) := by decide +kernel
theorem dX0_mergeWith_43 : decode cX0_mergeWith 43 = .ok (.iinc 2 (-1), 3) := by decide +kernel
theorem dX0_mergeWith_46 : decode cX0_mergeWith 46 = .ok (.goto (-23), 3) := by decide +kernel
theorem dX0_mergeWith_49 : decode cX0_mergeWith 49 = .ok (.iconst 0, 1) := by decide +kernel
theorem dX0_mergeWith_50 : decode cX0_mergeWith 50 = .ok (.istore_n 2, 1) := by decide +kernel
theorem dX0_mergeWith_51 : decode cX0_mergeWith 51 = .ok (.iload_n 2, 1) := by decide +kernel
theorem dX0_mergeWith_52 : decode cX0_mergeWith 52 = .ok (.bipush 26, 2) := by decide +kernel
theorem dX0_mergeWith_54 : decode cX0_mergeWith 54 = .ok (.if_icmp .ge 16, 3) := by decide +kernel
theorem dX0_mergeWith_57 : decode cX0_mergeWith 57 = .ok (.aload_n 0, 1) := by decide +kernel
theorem dX0_mergeWith_58 : decode cX0_mergeWith 58 = .ok (.getfield 18, 3) := by decide +kernel
theorem dX0_mergeWith_61 : decode cX0_mergeWith 61 = .ok (.iload_n 2, 1) := by decide +kernel
theorem dX0_mergeWith_62 : decode cX0_mergeWith 62 = .ok (.iload_n 2, 1) := by decide +kernel
theorem dX0_mergeWith_63 : decode cX0_mergeWith 63 = .ok (.iastore, 1) := by decide +kernel
theorem dX0_mergeWith_64 : decode cX0_mergeWith 64 = .ok (.iinc 2 1, 3) := by decide +kernel
theorem dX0_mergeWith_67 : decode cX0_mergeWith 67 = .ok (.goto (-16), 3) := by decide +kernel
theorem dX0_mergeWith_70 : decode cX0_mergeWith 70 = .ok (.aload_n 0, 1) := by decide +kernel
theorem dX0_mergeWith_71 : decode cX0_mergeWith 71 = .ok (.bipush 26, 2) := by decide +kernel
theorem dX0_mergeWith_73 : decode cX0_mergeWith 73 = .ok (.putfield 27, 3) := by decide +kernel
theorem dX0_mergeWith_76 : decode cX0_mergeWith 76 = .ok (.return_, 1) := by decide +kernel
set_option maxRecDepth 20000 in
theorem ggX0_addCounters_X0_leastCount : GoodIn wsX0_addCounters wsX0_leastCount := goodIn_r _ [7, 1, 8, 9, 10, 6, 11, 12, 13, 14, 15, 16, 17, 18, 19, 20, 21, 22, 27, 28, 29, 30, 31, 32] (by decide +kernel) (by decide +kernel)
set_option maxRecDepth 20000 in
theorem gX0_addCounters_X0_leastCount : GoodIn wsX0_addCounters (wsV RX0 45 RX0 yX0_leastCount wsX0_leastCount) := goodIn_app (goodIn_of _ (by decide +kernel)) ggX0_addCounters_X0_leastCount
set_option maxRecDepth 20000 in
theorem ggX0_addCounters_X0_sureOf : GoodIn wsX0_addCounters wsX0_sureOf := goodIn_r _ [26, 1, 2, 27, 28, 29, 30, 31, 32] (by decide +kernel) (by decide +kernel)
set_option maxRecDepth 20000 in
theorem gX0_addCounters_X0_sureOf : GoodIn wsX0_addCounters (wsV RX0 75 RX0 yX0_sureOf wsX0_sureOf) := goodIn_app (goodIn_of _ (by decide +kernel)) ggX0_addCounters_X0_sureOf
theorem dX0_addCounters_0 : decode cX0_addCounters 0 = .ok (.aload_n 0, 1) := by decide +kernel
theorem dX0_addCounters_1 : decode cX0_addCounters 1 = .ok (.invokevirtual 45, 3) := by decide +kernel
theorem dX0_addCounters_4 : decode cX0_addCounters 4 = .ok (.istore_n 2, 1) := by decide +kernel
theorem dX0_addCounters_5 : decode cX0_addCounters 5 = .ok (.aload_n 1, 1) := by decide +kernel
theorem dX0_addCounters_6 : decode cX0_addCounters 6 = .ok (.invokevirtual 45, 3) := by decide +kernel
theorem dX0_addCounters_9 : decode cX0_addCounters 9 = .ok (.istore_n 3, 1) := by decide +kernel
theorem dX0_addCounters_10 : decode cX0_addCounters 10 = .ok (.iconst 0, 1) := by decide +kernel
theorem dX0_addCounters_11 : decode cX0_addCounters 11 = .ok (.istore 4, 2) := by decide +kernel
theorem dX0_addCounters_13 : decode cX0_addCounters 13 = .ok (.iload 4, 2) := by decide +kernel
theorem dX0_addCounters_15 : decode cX0_addCounters 15 = .ok (.bipush 26, 2) := by decide +kernel
theorem dX0_addCounters_17 : decode cX0_addCounters 17 = .ok (.if_icmp .ge 119, 3) := by decide +kernel
theorem dX0_addCounters_20 : decode cX0_addCounters 20 = .ok (.aload_n 0, 1) := by decide +kernel
theorem dX0_addCounters_21 : decode cX0_addCounters 21 = .ok (.getfield 9, 3) := by decide +kernel
theorem dX0_addCounters_24 : decode cX0_addCounters 24 = .ok (.iload 4, 2) := by decide +kernel
theorem dX0_addCounters_26 : decode cX0_addCounters 26 = .ok (.iaload, 1) := by decide +kernel
theorem dX0_addCounters_27 : decode cX0_addCounters 27 = .ok (.ifCond .gt 13, 3) := by decide +kernel
theorem dX0_addCounters_30 : decode cX0_addCounters 30 = .ok (.aload_n 1, 1) := by decide +kernel
theorem dX0_addCounters_31 : decode cX0_addCounters 31 = .ok (.getfield 9, 3) := by decide +kernel
theorem dX0_addCounters_34 : decode cX0_addCounters 34 = .ok (.iload 4, 2) := by decide +kernel
theorem dX0_addCounters_36 : decode cX0_addCounters 36 = .ok (.iaload, 1) := by decide +kernel
theorem dX0_addCounters_37 : decode cX0_addCounters 37 = .ok (.ifCond .le 93, 3) := by decide +kernel
theorem dX0_addCounters_40 : decode cX0_addCounters 40 = .ok (.aload_n 0, 1) := by decide +kernel
theorem dX0_addCounters_41 : decode cX0_addCounters 41 = .ok (.iload 4, 2) := by decide +kernel
theorem dX0_addCounters_43 : decode cX0_addCounters 43 = .ok (.invokevirtual 75, 3) := by decide +kernel
theorem dX0_addCounters_46 : decode cX0_addCounters 46 = .ok (.aload_n 1, 1) := by decide +kernel
theorem dX0_addCounters_47 : decode cX0_addCounters 47 = .ok (.iload 4, 2) := by decide +kernel
theorem dX0_addCounters_49 : decode cX0_addCounters 49 = .ok (.invokevirtual 75, 3) := by decide +kernel
theorem dX0_addCounters_52 : decode cX0_addCounters 52 = .ok (.iadd, 1) := by decide +kernel
theorem dX0_addCounters_53 : decode cX0_addCounters 53 = .ok (.istore 5, 2) := by decide +kernel
theorem dX0_addCounters_55 : decode cX0_addCounters 55 = .ok (.aload_n 0, 1) := by decide +kernel
theorem dX0_addCounters_56 : decode cX0_addCounters 56 = .ok (.getfield 9, 3) := by decide +kernel
theorem dX0_addCounters_59 : decode cX0_addCounters 59 = .ok (.iload 4, 2) := by decide +kernel
theorem dX0_addCounters_61 : decode cX0_addCounters 61 = .ok (.iaload, 1) := by decide +kernel
theorem dX0_addCounters_62 : decode cX0_addCounters 62 = .ok (.ifCond .le 13, 3) := by decide +kernel
theorem dX0_addCounters_65 : decode cX0_addCounters 65 = .ok (.aload_n 0, 1) := by decide +kernel
theorem dX0_addCounters_66 : decode cX0_addCounters 66 = .ok (.getfield 9, 3) := by decide +kernel
theorem dX0_addCounters_69 : decode cX0_addCounters 69 = .ok (.iload 4, 2) := by decide +kernel
theorem dX0_addCounters_71 : decode cX0_addCounters 71 = .ok (.iaload, 1) := by decide +kernel
theorem dX0_addCounters_72 : decode cX0_addCounters 72 = .ok (.goto 4, 3) := by decide +kernel
theorem dX0_addCounters_75 : decode cX0_addCounters 75 = .ok (.iload_n 2, 1) := by decide +kernel
theorem dX0_addCounters_76 : decode cX0_addCounters 76 = .ok (.istore 6, 2) := by decide +kernel
theorem dX0_addCounters_78 : decode cX0_addCounters 78 = .ok (.aload_n 1, 1) := by decide +kernel
theorem dX0_addCounters_79 : decode cX0_addCounters 79 = .ok (.getfield 9, 3) := by decide +kernel
theorem dX0_addCounters_82 : decode cX0_addCounters 82 = .ok (.iload 4, 2) := by decide +kernel
theorem dX0_addCounters_84 : decode cX0_addCounters 84 = .ok (.iaload, 1) := by decide +kernel
theorem dX0_addCounters_85 : decode cX0_addCounters 85 = .ok (.ifCond .le 13, 3) := by decide +kernel
theorem dX0_addCounters_88 : decode cX0_addCounters 88 = .ok (.aload_n 1, 1) := by decide +kernel
theorem dX0_addCounters_89 : decode cX0_addCounters 89 = .ok (.getfield 9, 3) := by decide +kernel
theorem dX0_addCounters_92 : decode cX0_addCounters 92 = .ok (.iload 4, 2) := by decide +kernel
theorem dX0_addCounters_94 : decode cX0_addCounters 94 = .ok (.iaload, 1) := by decide +kernel
theorem dX0_addCounters_95 : decode cX0_addCounters 95 = .ok (.goto 4, 3) := by decide +kernel
theorem dX0_addCounters_98 : decode cX0_addCounters 98 = .ok (.iload_n 3, 1) := by decide +kernel
theorem dX0_addCounters_99 : decode cX0_addCounters 99 = .ok (.istore 7, 2) := by decide +kernel
theorem dX0_addCounters_101 : decode cX0_addCounters 101 = .ok (.aload_n 0, 1) := by decide +kernel
theorem dX0_addCounters_102 : decode cX0_addCounters 102 = .ok (.getfield 9, 3) := by decide +kernel
theorem dX0_addCounters_105 : decode cX0_addCounters 105 = .ok (.iload 4, 2) := by decide +kernel
theorem dX0_addCounters_107 : decode cX0_addCounters 107 = .ok (.iload 6, 2) := by decide +kernel
theorem dX0_addCounters_109 : decode cX0_addCounters 109 = .ok (.iload 7, 2) := by decide +kernel
theorem dX0_addCounters_111 : decode cX0_addCounters 111 = .ok (.iadd, 1) := by decide +kernel
theorem dX0_addCounters_112 : decode cX0_addCounters 112 = .ok (.iastore, 1) := by decide +kernel
theorem dX0_addCounters_113 : decode cX0_addCounters 113 = .ok (.aload_n 0, 1) := by decide +kernel
theorem dX0_addCounters_114 : decode cX0_addCounters 114 = .ok (.getfield 15, 3) := by decide +kernel
theorem dX0_addCounters_117 : decode cX0_addCounters 117 = .ok (.iload 4, 2) := by decide +kernel
theorem dX0_addCounters_119 : decode cX0_addCounters 119 = .ok (.aload_n 0, 1) := by decide +kernel
theorem dX0_addCounters_120 : decode cX0_addCounters 120 = .ok (.getfield 9, 3) := by decide +kernel
theorem dX0_addCounters_123 : decode cX0_addCounters 123 = .ok (.iload 4, 2) := by decide +kernel
theorem dX0_addCounters_125 : decode cX0_addCounters 125 = .ok (.iaload, 1) := by decide +kernel
theorem dX0_addCounters_126 : decode cX0_addCounters 126 = .ok (.iload 5, 2) := by decide +kernel
theorem dX0_addCounters_128 : decode cX0_addCounters 128 = .ok (.isub, 1) := by decide +kernel
theorem dX0_addCounters_129 : decode cX0_addCounters 129 = .ok (.iastore, 1) := by decide +kernel
theorem dX0_addCounters_130 : decode cX0_addCounters 130 = .ok (.iinc 4 1, 3) := by decide +kernel
theorem dX0_addCounters_133 : decode cX0_addCounters 133 = .ok (.goto (-120), 3) := by decide +kernel
theorem dX0_addCounters_136 : decode cX0_addCounters 136 = .ok (.return_, 1) := by decide +kernel
set_option maxRecDepth 20000 in
theorem ggX1_init_X7_init : GoodIn wsX1_init wsX7_init := goodIn_r _ [9, 10, 2, 3, 11, 12, 13, 14, 15, 16, 17, 18, 19, 20, 21, 22, 23, 24, 25, 26, 27, 28, 29, 30, 31, 32, 33, 34, 35, 36, 37, 38, 46, 47, 48, 42, 43, 44, 45, 49, 50, 51, 52, 53, 54, 55, 56, 57, 58] (by decide +kernel) (by decide +kernel)
set_option maxRecDepth 20000 in
theorem gX1_init_X7_init_n17 : GoodIn wsX1_init (wsX7_init) := ggX1_init_X7_init
theorem dX1_init_0 : decode cX1_init 0 = .ok (.aload_n 0, 1) := by decide +kernel
theorem dX1_init_1 : decode cX1_init 1 = .ok (.invokespecial 3, 3) := by decide +kernel
theorem dX1_init_4 : decode cX1_init 4 = .ok (.aload_n 0, 1) := by decide +kernel
theorem dX1_init_5 : decode cX1_init 5 = .ok (.iconst 5, 1) := by decide +kernel
theorem dX1_init_6 : decode cX1_init 6 = .ok (.anewarray 9, 3) := by decide +kernel
theorem dX1_init_9 : decode cX1_init 9 = .ok (.putfield 11, 3) := by decide +kernel
theorem dX1_init_12 : decode cX1_init 12 = .ok (.iconst 0, 1) := by decide +kernel
theorem dX1_init_13 : decode cX1_init 13 = .ok (.istore_n 1, 1) := by decide +kernel
theorem dX1_init_14 : decode cX1_init 14 = .ok (.iload_n 1, 1) := by decide +kernel
theorem dX1_init_15 : decode cX1_init 15 = .ok (.iconst 5, 1) := by decide +kernel
theorem dX1_init_16 : decode cX1_init 16 = .ok (.if_icmp .ge 22, 3) := by decide +kernel
theorem dX1_init_19 : decode cX1_init 19 = .ok (.aload_n 0, 1) := by decide +kernel
theorem dX1_init_20 : decode cX1_init 20 = .ok (.getfield 11, 3) := by decide +kernel
theorem dX1_init_23 : decode cX1_init 23 = .ok (.iload_n 1, 1) := by decide +kernel
theorem dX1_init_24 : decode cX1_init 24 = .ok (.new 9, 3) := by decide +kernel
theorem dX1_init_27 : decode cX1_init 27 = .ok (.dup, 1) := by decide +kernel
theorem dX1_init_28 : decode cX1_init 28 = .ok (.invokespecial 17, 3) := by decide +kernel
theorem dX1_init_31 : decode cX1_init 31 = .ok (.aastore, 1) := by decide +kernel
theorem dX1_init_32 : decode cX1_init 32 = .ok (.iinc 1 1, 3) := by decide +kernel
theorem dX1_init_35 : decode cX1_init 35 = .ok (.goto (-21), 3) := by decide +kernel
theorem dX1_init_38 : decode cX1_init 38 = .ok (.return_, 1) := by decide +kernel
set_option maxRecDepth 20000 in
theorem ggX1_record_X7_copyFrom : GoodIn wsX1_record wsX7_copyFrom := goodIn_r _ [12, 13, 14, 15, 16, 17, 18, 19, 20, 21, 22, 23, 24, 25, 26, 27, 28, 29, 30, 31, 32, 33, 34, 35, 36, 37, 38, 39, 5, 6, 7, 40, 41, 42, 43, 44, 45, 46, 47, 48, 49, 50, 51, 52, 56, 57, 58, 59, 60, 61, 62, 63, 64, 65, 66, 67, 68, 69, 70, 71, 72] (by decide +kernel) (by decide +kernel)
set_option maxRecDepth 20000 in
theorem gX1_record_X7_copyFrom : GoodIn wsX1_record (wsV RX1 22 RX7 yX7_copyFrom wsX7_copyFrom) := goodIn_app (goodIn_of _ (by decide +kernel)) ggX1_record_X7_copyFrom
theorem dX1_record_0 : decode cX1_record 0 = .ok (.aload_n 0, 1) := by decide +kernel
theorem dX1_record_1 : decode cX1_record 1 = .ok (.getfield 11, 3) := by decide +kernel
theorem dX1_record_4 : decode cX1_record 4 = .ok (.aload_n 0, 1) := by decide +kernel
theorem dX1_record_5 : decode cX1_record 5 = .ok (.getfield 18, 3) := by decide +kernel
theorem dX1_record_8 : decode cX1_record 8 = .ok (.aaload, 1) := by decide +kernel
theorem dX1_record_9 : decode cX1_record 9 = .ok (.aload_n 1, 1) := by decide +kernel
theorem dX1_record_10 : decode cX1_record 10 = .ok (.invokevirtual 22, 3) := by decide +kernel
theorem dX1_record_13 : decode cX1_record 13 = .ok (.aload_n 0, 1) := by decide +kernel
theorem dX1_record_14 : decode cX1_record 14 = .ok (.aload_n 0, 1) := by decide +kernel
theorem dX1_record_15 : decode cX1_record 15 = .ok (.getfield 18, 3) := by decide +kernel
theorem dX1_record_18 : decode cX1_record 18 = .ok (.iconst 1, 1) := by decide +kernel
theorem dX1_record_19 : decode cX1_record 19 = .ok (.iadd, 1) := by decide +kernel
theorem dX1_record_20 : decode cX1_record 20 = .ok (.iconst 5, 1) := by decide +kernel
theorem dX1_record_21 : decode cX1_record 21 = .ok (.if_icmp .ge 12, 3) := by decide +kernel
theorem dX1_record_24 : decode cX1_record 24 = .ok (.aload_n 0, 1) := by decide +kernel
theorem dX1_record_25 : decode cX1_record 25 = .ok (.getfield 18, 3) := by decide +kernel
theorem dX1_record_28 : decode cX1_record 28 = .ok (.iconst 1, 1) := by decide +kernel
theorem dX1_record_29 : decode cX1_record 29 = .ok (.iadd, 1) := by decide +kernel
theorem dX1_record_30 : decode cX1_record 30 = .ok (.goto 4, 3) := by decide +kernel
theorem dX1_record_33 : decode cX1_record 33 = .ok (.iconst 0, 1) := by decide +kernel
theorem dX1_record_34 : decode cX1_record 34 = .ok (.putfield 18, 3) := by decide +kernel
theorem dX1_record_37 : decode cX1_record 37 = .ok (.aload_n 0, 1) := by decide +kernel
theorem dX1_record_38 : decode cX1_record 38 = .ok (.aload_n 0, 1) := by decide +kernel
theorem dX1_record_39 : decode cX1_record 39 = .ok (.getfield 26, 3) := by decide +kernel
theorem dX1_record_42 : decode cX1_record 42 = .ok (.iconst 1, 1) := by decide +kernel
theorem dX1_record_43 : decode cX1_record 43 = .ok (.iadd, 1) := by decide +kernel
theorem dX1_record_44 : decode cX1_record 44 = .ok (.iconst 5, 1) := by decide +kernel
theorem dX1_record_45 : decode cX1_record 45 = .ok (.invokestatic 29, 3) := by decide +kernel
theorem dX1_record_48 : decode cX1_record 48 = .ok (.putfield 26, 3) := by decide +kernel
theorem dX1_record_51 : decode cX1_record 51 = .ok (.return_, 1) := by decide +kernel
set_option maxRecDepth 20000 in
theorem ggX1_restoreLatest_X7_copyFrom : GoodIn wsX1_restoreLatest wsX7_copyFrom := goodIn_r _ [8, 9, 10, 11, 12, 13, 14, 15, 16, 17, 18, 19, 20, 21, 22, 23, 24, 25, 26, 27, 28, 29, 30, 31, 32, 33, 34, 35, 36, 37, 38, 39, 40, 41, 42, 43, 44, 45, 46, 47, 48, 49, 50, 51, 55, 56, 57, 58, 59, 60, 61, 62, 63, 64, 65, 66, 67, 68, 69, 70, 71] (by decide +kernel) (by decide +kernel)
set_option maxRecDepth 20000 in
theorem gX1_restoreLatest_X7_copyFrom : GoodIn wsX1_restoreLatest (wsV RX1 22 RX7 yX7_copyFrom wsX7_copyFrom) := goodIn_app (goodIn_of _ (by decide +kernel)) ggX1_restoreLatest_X7_copyFrom
theorem dX1_restoreLatest_0 : decode cX1_restoreLatest 0 = .ok (.aload_n 0, 1) := by decide +kernel
theorem dX1_restoreLatest_1 : decode cX1_restoreLatest 1 = .ok (.aload_n 0, 1) := by decide +kernel
theorem dX1_restoreLatest_2 : decode cX1_restoreLatest 2 = .ok (.getfield 18, 3) := by decide +kernel
theorem dX1_restoreLatest_5 : decode cX1_restoreLatest 5 = .ok (.ifCond .le 12, 3) := by decide +kernel
theorem dX1_restoreLatest_8 : decode cX1_restoreLatest 8 = .ok (.aload_n 0, 1) := by decide +kernel
theorem dX1_restoreLatest_9 : decode cX1_restoreLatest 9 = .ok (.getfield 18, 3) := by decide +kernel
theorem dX1_restoreLatest_12 : decode cX1_restoreLatest 12 = .ok (.iconst 1, 1) := by decide +kernel
theorem dX1_restoreLatest_13 : decode cX1_restoreLatest 13 = .ok (.isub, 1) := by decide +kernel
theorem dX1_restoreLatest_14 : decode cX1_restoreLatest 14 = .ok (.goto 4, 3) := by decide +kernel
theorem dX1_restoreLatest_17 : decode cX1_restoreLatest 17 = .ok (.iconst 4, 1) := by decide +kernel
theorem dX1_restoreLatest_18 : decode cX1_restoreLatest 18 = .ok (.putfield 18, 3) := by decide +kernel
theorem dX1_restoreLatest_21 : decode cX1_restoreLatest 21 = .ok (.aload_n 0, 1) := by decide +kernel
theorem dX1_restoreLatest_22 : decode cX1_restoreLatest 22 = .ok (.dup, 1) := by decide +kernel
theorem dX1_restoreLatest_23 : decode cX1_restoreLatest 23 = .ok (.getfield 26, 3) := by decide +kernel
theorem dX1_restoreLatest_26 : decode cX1_restoreLatest 26 = .ok (.iconst 1, 1) := by decide +kernel
theorem dX1_restoreLatest_27 : decode cX1_restoreLatest 27 = .ok (.isub, 1) := by decide +kernel
theorem dX1_restoreLatest_28 : decode cX1_restoreLatest 28 = .ok (.putfield 26, 3) := by decide +kernel
theorem dX1_restoreLatest_31 : decode cX1_restoreLatest 31 = .ok (.aload_n 1, 1) := by decide +kernel
theorem dX1_restoreLatest_32 : decode cX1_restoreLatest 32 = .ok (.aload_n 0, 1) := by decide +kernel
theorem dX1_restoreLatest_33 : decode cX1_restoreLatest 33 = .ok (.getfield 11, 3) := by decide +kernel
theorem dX1_restoreLatest_36 : decode cX1_restoreLatest 36 = .ok (.aload_n 0, 1) := by decide +kernel
theorem dX1_restoreLatest_37 : decode cX1_restoreLatest 37 = .ok (.getfield 18, 3) := by decide +kernel
theorem dX1_restoreLatest_40 : decode cX1_restoreLatest 40 = .ok (.aaload, 1) := by decide +kernel
theorem dX1_restoreLatest_41 : decode cX1_restoreLatest 41 = .ok (.invokevirtual 22, 3) := by decide +kernel
theorem dX1_restoreLatest_44 : decode cX1_restoreLatest 44 = .ok (.return_, 1) := by decide +kernel
set_option maxRecDepth 20000 in
theorem ggX2_init_X0_init : GoodIn wsX2_init wsX0_init := goodIn_r _ [15, 16, 2, 3, 12, 17, 18, 19, 24, 25, 26, 27, 28, 29] (by decide +kernel) (by decide +kernel)
set_option maxRecDepth 20000 in
theorem gX2_init_X0_init_n11 : GoodIn wsX2_init (wsX0_init) := ggX2_init_X0_init
set_option maxRecDepth 20000 in
theorem ggX2_init_X5_init : GoodIn wsX2_init wsX5_init := goodIn_r _ [21, 22, 2, 3, 12, 23, 33, 34, 35, 36] (by decide +kernel) (by decide +kernel)
set_option maxRecDepth 20000 in
theorem gX2_init_X5_init_n20 : GoodIn wsX2_init (wsX5_init) := ggX2_init_X5_init
theorem dX2_init_0 : decode cX2_init 0 = .ok (.aload_n 0, 1) := by decide +kernel
theorem dX2_init_1 : decode cX2_init 1 = .ok (.invokespecial 3, 3) := by decide +kernel
theorem dX2_init_4 : decode cX2_init 4 = .ok (.aload_n 0, 1) := by decide +kernel
theorem dX2_init_5 : decode cX2_init 5 = .ok (.new 9, 3) := by decide +kernel
theorem dX2_init_8 : decode cX2_init 8 = .ok (.dup, 1) := by decide +kernel
theorem dX2_init_9 : decode cX2_init 9 = .ok (.invokespecial 11, 3) := by decide +kernel
theorem dX2_init_12 : decode cX2_init 12 = .ok (.putfield 12, 3) := by decide +kernel
theorem dX2_init_15 : decode cX2_init 15 = .ok (.aload_n 0, 1) := by decide +kernel
theorem dX2_init_16 : decode cX2_init 16 = .ok (.new 18, 3) := by decide +kernel
theorem dX2_init_19 : decode cX2_init 19 = .ok (.dup, 1) := by decide +kernel
theorem dX2_init_20 : decode cX2_init 20 = .ok (.invokespecial 20, 3) := by decide +kernel
theorem dX2_init_23 : decode cX2_init 23 = .ok (.putfield 21, 3) := by decide +kernel
theorem dX2_init_26 : decode cX2_init 26 = .ok (.aload_n 0, 1) := by decide +kernel
theorem dX2_init_27 : decode cX2_init 27 = .ok (.bipush 26, 2) := by decide +kernel
theorem dX2_init_29 : decode cX2_init 29 = .ok (.newarray .int, 2) := by decide +kernel
theorem dX2_init_31 : decode cX2_init 31 = .ok (.putfield 25, 3) := by decide +kernel
theorem dX2_init_34 : decode cX2_init 34 = .ok (.return_, 1) := by decide +kernel
set_option maxRecDepth 20000 in
theorem ggX2_beginAnew_X0_beginAnew : GoodIn wsX2_beginAnew wsX0_beginAnew := goodIn_r _ [8, 9, 10, 11, 12, 13, 14, 15, 16, 31, 32, 33, 34, 35, 36] (by decide +kernel) (by decide +kernel)
set_option maxRecDepth 20000 in
theorem gX2_beginAnew_X0_beginAnew : GoodIn wsX2_beginAnew (wsV RX2 29 RX0 yX0_beginAnew wsX0_beginAnew) := goodIn_app (goodIn_of _ (by decide +kernel)) ggX2_beginAnew_X0_beginAnew
set_option maxRecDepth 20000 in
theorem ggX2_beginAnew_X5_beginAnew : GoodIn wsX2_beginAnew wsX5_beginAnew := goodIn_r _ [21, 22, 23, 24, 25, 26, 14, 15, 16, 37, 38, 39, 40] (by decide +kernel) (by decide +kernel)
set_option maxRecDepth 20000 in
theorem gX2_beginAnew_X5_beginAnew : GoodIn wsX2_beginAnew (wsV RX2 33 RX5 yX5_beginAnew wsX5_beginAnew) := goodIn_app (goodIn_of _ (by decide +kernel)) ggX2_beginAnew_X5_beginAnew
set_option maxRecDepth 20000 in
theorem ggX2_beginAnew_J7_fill_53178 : GoodIn wsX2_beginAnew wsJ7_fill_53178 := goodIn_r _ [16] (by decide +kernel) (by decide +kernel)
set_option maxRecDepth 20000 in
theorem gX2_beginAnew_J7_fill_53178 : GoodIn wsX2_beginAnew (va_wsS RX2 34 yJ7_fill_53178 wsJ7_fill_53178) := goodIn_app (goodIn_of _ (by decide +kernel)) ggX2_beginAnew_J7_fill_53178
theorem dX2_beginAnew_0 : decode cX2_beginAnew 0 = .ok (.aload_n 0, 1) := by decide +kernel
theorem dX2_beginAnew_1 : decode cX2_beginAnew 1 = .ok (.getfield 12, 3) := by decide +kernel
theorem dX2_beginAnew_4 : decode cX2_beginAnew 4 = .ok (.iload_n 1, 1) := by decide +kernel
theorem dX2_beginAnew_5 : decode cX2_beginAnew 5 = .ok (.iconst 1, 1) := by decide +kernel
theorem dX2_beginAnew_6 : decode cX2_beginAnew 6 = .ok (.iadd, 1) := by decide +kernel
theorem dX2_beginAnew_7 : decode cX2_beginAnew 7 = .ok (.invokevirtual 29, 3) := by decide +kernel
theorem dX2_beginAnew_10 : decode cX2_beginAnew 10 = .ok (.aload_n 0, 1) := by decide +kernel
theorem dX2_beginAnew_11 : decode cX2_beginAnew 11 = .ok (.getfield 21, 3) := by decide +kernel
theorem dX2_beginAnew_14 : decode cX2_beginAnew 14 = .ok (.iload_n 1, 1) := by decide +kernel
theorem dX2_beginAnew_15 : decode cX2_beginAnew 15 = .ok (.invokevirtual 33, 3) := by decide +kernel
theorem dX2_beginAnew_18 : decode cX2_beginAnew 18 = .ok (.aload_n 0, 1) := by decide +kernel
theorem dX2_beginAnew_19 : decode cX2_beginAnew 19 = .ok (.getfield 25, 3) := by decide +kernel
theorem dX2_beginAnew_22 : decode cX2_beginAnew 22 = .ok (.iconst 0, 1) := by decide +kernel
theorem dX2_beginAnew_23 : decode cX2_beginAnew 23 = .ok (.invokestatic 34, 3) := by decide +kernel
theorem dX2_beginAnew_26 : decode cX2_beginAnew 26 = .ok (.return_, 1) := by decide +kernel
set_option maxRecDepth 20000 in
theorem ggX2_copyFrom_X0_copyFrom : GoodIn wsX2_copyFrom wsX0_copyFrom := goodIn_r _ [8, 9, 10, 11, 12, 13, 14, 15, 16, 17, 18, 19, 20, 21, 22, 23, 24, 25, 38, 39, 40, 41, 42, 43] (by decide +kernel) (by decide +kernel)
set_option maxRecDepth 20000 in
theorem gX2_copyFrom_X0_copyFrom : GoodIn wsX2_copyFrom (wsV RX2 40 RX0 yX0_copyFrom wsX0_copyFrom) := goodIn_app (goodIn_of _ (by decide +kernel)) ggX2_copyFrom_X0_copyFrom
set_option maxRecDepth 20000 in
theorem ggX2_copyFrom_X5_copyFrom : GoodIn wsX2_copyFrom wsX5_copyFrom := goodIn_r _ [30, 31, 32, 33, 34, 15, 16, 17, 18, 19, 20, 21, 22, 23, 24, 25, 44, 45, 46, 47] (by decide +kernel) (by decide +kernel)
set_option maxRecDepth 20000 in
theorem gX2_copyFrom_X5_copyFrom : GoodIn wsX2_copyFrom (wsV RX2 44 RX5 yX5_copyFrom wsX5_copyFrom) := goodIn_app (goodIn_of _ (by decide +kernel)) ggX2_copyFrom_X5_copyFrom
set_option maxRecDepth 20000 in
theorem ggX2_copyFrom_X8_copyRow : GoodIn wsX2_copyFrom wsX8_copyRow := goodIn_r _ [17, 18, 19, 20, 21, 22, 23, 24, 25] (by decide +kernel) (by decide +kernel)
set_option maxRecDepth 20000 in
theorem gX2_copyFrom_X8_copyRow_n47 : GoodIn wsX2_copyFrom (wsX8_copyRow) := ggX2_copyFrom_X8_copyRow
theorem dX2_copyFrom_0 : decode cX2_copyFrom 0 = .ok (.aload_n 0, 1) := by decide +kernel
theorem dX2_copyFrom_1 : decode cX2_copyFrom 1 = .ok (.getfield 12, 3) := by decide +kernel
theorem dX2_copyFrom_4 : decode cX2_copyFrom 4 = .ok (.aload_n 1, 1) := by decide +kernel
theorem dX2_copyFrom_5 : decode cX2_copyFrom 5 = .ok (.getfield 12, 3) := by decide +kernel
theorem dX2_copyFrom_8 : decode cX2_copyFrom 8 = .ok (.invokevirtual 40, 3) := by decide +kernel
theorem dX2_copyFrom_11 : decode cX2_copyFrom 11 = .ok (.aload_n 0, 1) := by decide +kernel
theorem dX2_copyFrom_12 : decode cX2_copyFrom 12 = .ok (.getfield 21, 3) := by decide +kernel
theorem dX2_copyFrom_15 : decode cX2_copyFrom 15 = .ok (.aload_n 1, 1) := by decide +kernel
theorem dX2_copyFrom_16 : decode cX2_copyFrom 16 = .ok (.getfield 21, 3) := by decide +kernel
theorem dX2_copyFrom_19 : decode cX2_copyFrom 19 = .ok (.invokevirtual 44, 3) := by decide +kernel
theorem dX2_copyFrom_22 : decode cX2_copyFrom 22 = .ok (.aload_n 1, 1) := by decide +kernel
theorem dX2_copyFrom_23 : decode cX2_copyFrom 23 = .ok (.getfield 25, 3) := by decide +kernel
theorem dX2_copyFrom_26 : decode cX2_copyFrom 26 = .ok (.aload_n 0, 1) := by decide +kernel
theorem dX2_copyFrom_27 : decode cX2_copyFrom 27 = .ok (.getfield 25, 3) := by decide +kernel
theorem dX2_copyFrom_30 : decode cX2_copyFrom 30 = .ok (.invokestatic 47, 3) := by decide +kernel
theorem dX2_copyFrom_33 : decode cX2_copyFrom 33 = .ok (.return_, 1) := by decide +kernel
set_option maxRecDepth 20000 in
theorem ggX2_take_X0_take : GoodIn wsX2_take wsX0_take := goodIn_r _ [8, 9, 10, 11, 12, 13, 14, 7, 15, 16, 17, 18, 19, 20, 21, 22, 23, 24, 25, 26, 27, 28, 29, 30, 31, 32, 33, 34, 35, 36, 37, 38, 62, 63, 64, 65, 66, 67] (by decide +kernel) (by decide +kernel)
set_option maxRecDepth 20000 in
theorem gX2_take_X0_take : GoodIn wsX2_take (wsV RX2 51 RX0 yX0_take wsX0_take) := goodIn_app (goodIn_of _ (by decide +kernel)) ggX2_take_X0_take
set_option maxRecDepth 20000 in
theorem ggX2_take_X5_take : GoodIn wsX2_take wsX5_take := goodIn_r _ [43, 44, 45, 46, 47, 48, 49, 42, 50, 51, 52, 53, 54, 55, 56, 57, 58, 68, 69, 70, 71] (by decide +kernel) (by decide +kernel)
set_option maxRecDepth 20000 in
theorem gX2_take_X5_take : GoodIn wsX2_take (wsV RX2 54 RX5 yX5_take wsX5_take) := goodIn_app (goodIn_of _ (by decide +kernel)) ggX2_take_X5_take
theorem dX2_take_0 : decode cX2_take 0 = .ok (.aload_n 0, 1) := by decide +kernel
theorem dX2_take_1 : decode cX2_take 1 = .ok (.getfield 12, 3) := by decide +kernel
theorem dX2_take_4 : decode cX2_take 4 = .ok (.iload_n 1, 1) := by decide +kernel
theorem dX2_take_5 : decode cX2_take 5 = .ok (.invokevirtual 51, 3) := by decide +kernel
theorem dX2_take_8 : decode cX2_take 8 = .ok (.aload_n 0, 1) := by decide +kernel
theorem dX2_take_9 : decode cX2_take 9 = .ok (.getfield 21, 3) := by decide +kernel
theorem dX2_take_12 : decode cX2_take 12 = .ok (.iload_n 1, 1) := by decide +kernel
theorem dX2_take_13 : decode cX2_take 13 = .ok (.invokevirtual 54, 3) := by decide +kernel
theorem dX2_take_16 : decode cX2_take 16 = .ok (.aload_n 0, 1) := by decide +kernel
theorem dX2_take_17 : decode cX2_take 17 = .ok (.getfield 25, 3) := by decide +kernel
theorem dX2_take_20 : decode cX2_take 20 = .ok (.iload_n 1, 1) := by decide +kernel
theorem dX2_take_21 : decode cX2_take 21 = .ok (.dup2, 1) := by decide +kernel
theorem dX2_take_22 : decode cX2_take 22 = .ok (.iaload, 1) := by decide +kernel
theorem dX2_take_23 : decode cX2_take 23 = .ok (.iconst 1, 1) := by decide +kernel
theorem dX2_take_24 : decode cX2_take 24 = .ok (.iadd, 1) := by decide +kernel
theorem dX2_take_25 : decode cX2_take 25 = .ok (.iastore, 1) := by decide +kernel
theorem dX2_take_26 : decode cX2_take 26 = .ok (.return_, 1) := by decide +kernel
set_option maxRecDepth 20000 in
theorem ggX2_mergeWith_X0_mergeWith : GoodIn wsX2_mergeWith wsX0_mergeWith := goodIn_r _ [8, 9, 10, 11, 12, 13, 14, 15, 16, 7, 17, 18, 19, 20, 21, 22, 23, 24, 25, 26, 27, 28, 29, 30, 31, 32, 33, 34, 35, 36, 37, 38, 39, 40, 41, 42, 43, 44, 45, 46, 47, 48, 49, 50, 71, 72, 73, 74, 75, 76] (by decide +kernel) (by decide +kernel)
set_option maxRecDepth 20000 in
theorem gX2_mergeWith_X0_mergeWith : GoodIn wsX2_mergeWith (wsV RX2 55 RX0 yX0_mergeWith wsX0_mergeWith) := goodIn_app (goodIn_of _ (by decide +kernel)) ggX2_mergeWith_X0_mergeWith
set_option maxRecDepth 20000 in
theorem ggX2_mergeWith_X5_mergeWith : GoodIn wsX2_mergeWith wsX5_mergeWith := goodIn_r _ [55, 56, 57, 58, 59, 39, 40, 41, 42, 43, 44, 45, 46, 60, 61, 62, 54, 63, 64, 65, 66, 67, 77, 78, 79, 80] (by decide +kernel) (by decide +kernel)
set_option maxRecDepth 20000 in
theorem gX2_mergeWith_X5_mergeWith : GoodIn wsX2_mergeWith (wsV RX2 58 RX5 yX5_mergeWith wsX5_mergeWith) := goodIn_app (goodIn_of _ (by decide +kernel)) ggX2_mergeWith_X5_mergeWith
theorem dX2_mergeWith_0 : decode cX2_mergeWith 0 = .ok (.aload_n 0, 1) := by decide +kernel
theorem dX2_mergeWith_1 : decode cX2_mergeWith 1 = .ok (.getfield 12, 3) := by decide +kernel
theorem dX2_mergeWith_4 : decode cX2_mergeWith 4 = .ok (.aload_n 1, 1) := by decide +kernel
theorem dX2_mergeWith_5 : decode cX2_mergeWith 5 = .ok (.getfield 12, 3) := by decide +kernel
theorem dX2_mergeWith_8 : decode cX2_mergeWith 8 = .ok (.invokevirtual 55, 3) := by decide +kernel
theorem dX2_mergeWith_11 : decode cX2_mergeWith 11 = .ok (.aload_n 0, 1) := by decide +kernel
theorem dX2_mergeWith_12 : decode cX2_mergeWith 12 = .ok (.getfield 21, 3) := by decide +kernel
theorem dX2_mergeWith_15 : decode cX2_mergeWith 15 = .ok (.aload_n 1, 1) := by decide +kernel
theorem dX2_mergeWith_16 : decode cX2_mergeWith 16 = .ok (.getfield 21, 3) := by decide +kernel
theorem dX2_mergeWith_19 : decode cX2_mergeWith 19 = .ok (.invokevirtual 58, 3) := by decide +kernel
theorem dX2_mergeWith_22 : decode cX2_mergeWith 22 = .ok (.iconst 0, 1) := by decide +kernel
theorem dX2_mergeWith_23 : decode cX2_mergeWith 23 = .ok (.istore_n 2, 1) := by decide +kernel
theorem dX2_mergeWith_24 : decode cX2_mergeWith 24 = .ok (.iload_n 2, 1) := by decide +kernel
theorem dX2_mergeWith_25 : decode cX2_mergeWith 25 = .ok (.bipush 26, 2) := by decide +kernel
theorem dX2_mergeWith_27 : decode cX2_mergeWith 27 = .ok (.if_icmp .ge 24, 3) := by decide +kernel
theorem dX2_mergeWith_30 : decode cX2_mergeWith 30 = .ok (.aload_n 0, 1) := by decide +kernel
theorem dX2_mergeWith_31 : decode cX2_mergeWith 31 = .ok (.getfield 25, 3) := by decide +kernel
theorem dX2_mergeWith_34 : decode cX2_mergeWith 34 = .ok (.iload_n 2, 1) := by decide +kernel
theorem dX2_mergeWith_35 : decode cX2_mergeWith 35 = .ok (.dup2, 1) := by decide +kernel
theorem dX2_mergeWith_36 : decode cX2_mergeWith 36 = .ok (.iaload, 1) := by decide +kernel
theorem dX2_mergeWith_37 : decode cX2_mergeWith 37 = .ok (.aload_n 1, 1) := by decide +kernel
theorem dX2_mergeWith_38 : decode cX2_mergeWith 38 = .ok (.getfield 25, 3) := by decide +kernel
theorem dX2_mergeWith_41 : decode cX2_mergeWith 41 = .ok (.iload_n 2, 1) := by decide +kernel
theorem dX2_mergeWith_42 : decode cX2_mergeWith 42 = .ok (.iaload, 1) := by decide +kernel
theorem dX2_mergeWith_43 : decode cX2_mergeWith 43 = .ok (.iadd, 1) := by decide +kernel
theorem dX2_mergeWith_44 : decode cX2_mergeWith 44 = .ok (.iastore, 1) := by decide +kernel
theorem dX2_mergeWith_45 : decode cX2_mergeWith 45 = .ok (.iinc 2 1, 3) := by decide +kernel
theorem dX2_mergeWith_48 : decode cX2_mergeWith 48 = .ok (.goto (-24), 3) := by decide +kernel
theorem dX2_mergeWith_51 : decode cX2_mergeWith 51 = .ok (.return_, 1) := by decide +kernel
set_option maxRecDepth 20000 in
theorem ggX2_sumOfCalls_X8_sumOf : GoodIn wsX2_sumOfCalls wsX8_sumOf := goodIn_r _ [4] (by decide +kernel) (by decide +kernel)
set_option maxRecDepth 20000 in
theorem gX2_sumOfCalls_X8_sumOf_n60 : GoodIn wsX2_sumOfCalls (wsX8_sumOf) := ggX2_sumOfCalls_X8_sumOf
theorem dX2_sumOfCalls_0 : decode cX2_sumOfCalls 0 = .ok (.aload_n 0, 1) := by decide +kernel
theorem dX2_sumOfCalls_1 : decode cX2_sumOfCalls 1 = .ok (.getfield 25, 3) := by decide +kernel
theorem dX2_sumOfCalls_4 : decode cX2_sumOfCalls 4 = .ok (.invokestatic 60, 3) := by decide +kernel
theorem dX2_sumOfCalls_7 : decode cX2_sumOfCalls 7 = .ok (.ireturn, 1) := by decide +kernel
set_option maxRecDepth 20000 in
theorem ggX2_measured_X0_sureOf : GoodIn wsX2_measured wsX0_sureOf := goodIn_r _ [9, 10, 11, 38, 39, 40, 41, 42, 43] (by decide +kernel) (by decide +kernel)
set_option maxRecDepth 20000 in
theorem gX2_measured_X0_sureOf : GoodIn wsX2_measured (wsV RX2 70 RX0 yX0_sureOf wsX0_sureOf) := goodIn_app (goodIn_of _ (by decide +kernel)) ggX2_measured_X0_sureOf
set_option maxRecDepth 20000 in
theorem ggX2_measured_X0_estimateOf : GoodIn wsX2_measured wsX0_estimateOf := goodIn_r _ [15, 10, 16, 17, 18, 8, 19, 20, 21, 22, 23, 24, 25, 26, 27, 28, 29, 30, 31, 32, 33, 34, 38, 39, 40, 41, 42, 43] (by decide +kernel) (by decide +kernel)
set_option maxRecDepth 20000 in
theorem gX2_measured_X0_estimateOf : GoodIn wsX2_measured (wsV RX2 77 RX0 yX0_estimateOf wsX0_estimateOf) := goodIn_app (goodIn_of _ (by decide +kernel)) ggX2_measured_X0_estimateOf
theorem dX2_measured_0 : decode cX2_measured 0 = .ok (.aload_n 2, 1) := by decide +kernel
theorem dX2_measured_1 : decode cX2_measured 1 = .ok (.getstatic 64, 3) := by decide +kernel
theorem dX2_measured_4 : decode cX2_measured 4 = .ok (.if_acmp .ne 12, 3) := by decide +kernel
theorem dX2_measured_7 : decode cX2_measured 7 = .ok (.aload_n 0, 1) := by decide +kernel
theorem dX2_measured_8 : decode cX2_measured 8 = .ok (.getfield 12, 3) := by decide +kernel
theorem dX2_measured_11 : decode cX2_measured 11 = .ok (.iload_n 1, 1) := by decide +kernel
theorem dX2_measured_12 : decode cX2_measured 12 = .ok (.invokevirtual 70, 3) := by decide +kernel
theorem dX2_measured_15 : decode cX2_measured 15 = .ok (.ireturn, 1) := by decide +kernel
theorem dX2_measured_16 : decode cX2_measured 16 = .ok (.aload_n 2, 1) := by decide +kernel
theorem dX2_measured_17 : decode cX2_measured 17 = .ok (.getstatic 74, 3) := by decide +kernel
theorem dX2_measured_20 : decode cX2_measured 20 = .ok (.if_acmp .ne 14, 3) := by decide +kernel
theorem dX2_measured_23 : decode cX2_measured 23 = .ok (.aload_n 0, 1) := by decide +kernel
theorem dX2_measured_24 : decode cX2_measured 24 = .ok (.getfield 12, 3) := by decide +kernel
theorem dX2_measured_27 : decode cX2_measured 27 = .ok (.iload_n 1, 1) := by decide +kernel
theorem dX2_measured_28 : decode cX2_measured 28 = .ok (.invokevirtual 77, 3) := by decide +kernel
theorem dX2_measured_31 : decode cX2_measured 31 = .ok (.goto 9, 3) := by decide +kernel
theorem dX2_measured_34 : decode cX2_measured 34 = .ok (.aload_n 0, 1) := by decide +kernel
theorem dX2_measured_35 : decode cX2_measured 35 = .ok (.getfield 25, 3) := by decide +kernel
theorem dX2_measured_38 : decode cX2_measured 38 = .ok (.iload_n 1, 1) := by decide +kernel
theorem dX2_measured_39 : decode cX2_measured 39 = .ok (.iaload, 1) := by decide +kernel
theorem dX2_measured_40 : decode cX2_measured 40 = .ok (.ireturn, 1) := by decide +kernel
theorem dX4_init_0 : decode cX4_init 0 = .ok (.aload_n 0, 1) := by decide +kernel
theorem dX4_init_1 : decode cX4_init 1 = .ok (.invokespecial 3, 3) := by decide +kernel
theorem dX4_init_4 : decode cX4_init 4 = .ok (.return_, 1) := by decide +kernel
theorem dX4_beginAnew_0 : decode cX4_beginAnew 0 = .ok (.aload_n 0, 1) := by decide +kernel
theorem dX4_beginAnew_1 : decode cX4_beginAnew 1 = .ok (.iconst 0, 1) := by decide +kernel
theorem dX4_beginAnew_2 : decode cX4_beginAnew 2 = .ok (.putfield 9, 3) := by decide +kernel
theorem dX4_beginAnew_5 : decode cX4_beginAnew 5 = .ok (.aload_n 0, 1) := by decide +kernel
theorem dX4_beginAnew_6 : decode cX4_beginAnew 6 = .ok (.iconst 1, 1) := by decide +kernel
theorem dX4_beginAnew_7 : decode cX4_beginAnew 7 = .ok (.putfield 15, 3) := by decide +kernel
theorem dX4_beginAnew_10 : decode cX4_beginAnew 10 = .ok (.aload_n 0, 1) := by decide +kernel
theorem dX4_beginAnew_11 : decode cX4_beginAnew 11 = .ok (.iconst 0, 1) := by decide +kernel
theorem dX4_beginAnew_12 : decode cX4_beginAnew 12 = .ok (.putfield 18, 3) := by decide +kernel
theorem dX4_beginAnew_15 : decode cX4_beginAnew 15 = .ok (.aload_n 0, 1) := by decide +kernel
theorem dX4_beginAnew_16 : decode cX4_beginAnew 16 = .ok (.iconst 0, 1) := by decide +kernel
theorem dX4_beginAnew_17 : decode cX4_beginAnew 17 = .ok (.putfield 22, 3) := by decide +kernel
theorem dX4_beginAnew_20 : decode cX4_beginAnew 20 = .ok (.aload_n 0, 1) := by decide +kernel
theorem dX4_beginAnew_21 : decode cX4_beginAnew 21 = .ok (.iconst 0, 1) := by decide +kernel
theorem dX4_beginAnew_22 : decode cX4_beginAnew 22 = .ok (.putfield 25, 3) := by decide +kernel
theorem dX4_beginAnew_25 : decode cX4_beginAnew 25 = .ok (.return_, 1) := by decide +kernel
set_option maxRecDepth 20000 in
theorem ggX4_accept_X8_isDigit : GoodIn wsX4_accept wsX8_isDigit := goodIn_r _ [3] (by decide +kernel) (by decide +kernel)
set_option maxRecDepth 20000 in
theorem gX4_accept_X8_isDigit_n28 : GoodIn wsX4_accept (wsX8_isDigit) := ggX4_accept_X8_isDigit
set_option maxRecDepth 20000 in
theorem ggX4_accept_X4_acceptDigit : GoodIn wsX4_accept wsX4_acceptDigit := goodIn_r _ [8, 9, 32, 33, 34, 35, 36] (by decide +kernel) (by decide +kernel)
set_option maxRecDepth 20000 in
theorem gX4_accept_X4_acceptDigit : GoodIn wsX4_accept (wsV RX4 32 RX4 yX4_acceptDigit wsX4_acceptDigit) := goodIn_app (goodIn_of _ (by decide +kernel)) ggX4_accept_X4_acceptDigit
set_option maxRecDepth 20000 in
theorem ggX4_accept_X8_isName : GoodIn wsX4_accept wsX8_isName := goodIn_r _ [11] (by decide +kernel) (by decide +kernel)
set_option maxRecDepth 20000 in
theorem gX4_accept_X8_isName_n36 : GoodIn wsX4_accept (wsX8_isName) := ggX4_accept_X8_isName
set_option maxRecDepth 20000 in
theorem ggX4_accept_X4_acceptName : GoodIn wsX4_accept wsX4_acceptName := goodIn_r _ [15, 9, 16, 17, 18, 19, 20, 21, 22, 32, 33, 34, 35, 36] (by decide +kernel) (by decide +kernel)
set_option maxRecDepth 20000 in
theorem gX4_accept_X4_acceptName : GoodIn wsX4_accept (wsV RX4 39 RX4 yX4_acceptName wsX4_acceptName) := goodIn_app (goodIn_of _ (by decide +kernel)) ggX4_accept_X4_acceptName
set_option maxRecDepth 20000 in
theorem ggX4_accept_X4_acceptOpening : GoodIn wsX4_accept wsX4_acceptOpening := goodIn_r _ [26, 27, 9, 17, 22, 32, 33, 34, 35, 36] (by decide +kernel) (by decide +kernel)
set_option maxRecDepth 20000 in
theorem gX4_accept_X4_acceptOpening : GoodIn wsX4_accept (wsV RX4 43 RX4 yX4_acceptOpening wsX4_acceptOpening) := goodIn_app (goodIn_of _ (by decide +kernel)) ggX4_accept_X4_acceptOpening
set_option maxRecDepth 20000 in
theorem ggX4_accept_X4_acceptClosing : GoodIn wsX4_accept wsX4_acceptClosing := goodIn_r _ [31, 27, 9, 22, 17, 32, 33, 34, 35, 36] (by decide +kernel) (by decide +kernel)
set_option maxRecDepth 20000 in
theorem gX4_accept_X4_acceptClosing : GoodIn wsX4_accept (wsV RX4 46 RX4 yX4_acceptClosing wsX4_acceptClosing) := goodIn_app (goodIn_of _ (by decide +kernel)) ggX4_accept_X4_acceptClosing
theorem dX4_accept_0 : decode cX4_accept 0 = .ok (.iload_n 1, 1) := by decide +kernel
theorem dX4_accept_1 : decode cX4_accept 1 = .ok (.invokestatic 28, 3) := by decide +kernel
theorem dX4_accept_4 : decode cX4_accept 4 = .ok (.ifCond .eq 12, 3) := by decide +kernel
theorem dX4_accept_7 : decode cX4_accept 7 = .ok (.aload_n 0, 1) := by decide +kernel
theorem dX4_accept_8 : decode cX4_accept 8 = .ok (.iload_n 1, 1) := by decide +kernel
theorem dX4_accept_9 : decode cX4_accept 9 = .ok (.bipush 48, 2) := by decide +kernel
theorem dX4_accept_11 : decode cX4_accept 11 = .ok (.isub, 1) := by decide +kernel
theorem dX4_accept_12 : decode cX4_accept 12 = .ok (.invokevirtual 32, 3) := by decide +kernel
theorem dX4_accept_15 : decode cX4_accept 15 = .ok (.ireturn, 1) := by decide +kernel
theorem dX4_accept_16 : decode cX4_accept 16 = .ok (.iload_n 1, 1) := by decide +kernel
theorem dX4_accept_17 : decode cX4_accept 17 = .ok (.invokestatic 36, 3) := by decide +kernel
theorem dX4_accept_20 : decode cX4_accept 20 = .ok (.ifCond .eq 8, 3) := by decide +kernel
theorem dX4_accept_23 : decode cX4_accept 23 = .ok (.aload_n 0, 1) := by decide +kernel
theorem dX4_accept_24 : decode cX4_accept 24 = .ok (.invokevirtual 39, 3) := by decide +kernel
theorem dX4_accept_27 : decode cX4_accept 27 = .ok (.ireturn, 1) := by decide +kernel
theorem dX4_accept_28 : decode cX4_accept 28 = .ok (.iload_n 1, 1) := by decide +kernel
theorem dX4_accept_29 : decode cX4_accept 29 = .ok (.bipush 40, 2) := by decide +kernel
theorem dX4_accept_31 : decode cX4_accept 31 = .ok (.if_icmp .ne 8, 3) := by decide +kernel
theorem dX4_accept_34 : decode cX4_accept 34 = .ok (.aload_n 0, 1) := by decide +kernel
theorem dX4_accept_35 : decode cX4_accept 35 = .ok (.invokevirtual 43, 3) := by decide +kernel
theorem dX4_accept_38 : decode cX4_accept 38 = .ok (.ireturn, 1) := by decide +kernel
theorem dX4_accept_39 : decode cX4_accept 39 = .ok (.iload_n 1, 1) := by decide +kernel
theorem dX4_accept_40 : decode cX4_accept 40 = .ok (.bipush 41, 2) := by decide +kernel
theorem dX4_accept_42 : decode cX4_accept 42 = .ok (.if_icmp .ne 14, 3) := by decide +kernel
theorem dX4_accept_45 : decode cX4_accept 45 = .ok (.aload_n 0, 1) := by decide +kernel
theorem dX4_accept_46 : decode cX4_accept 46 = .ok (.invokevirtual 46, 3) := by decide +kernel
theorem dX4_accept_49 : decode cX4_accept 49 = .ok (.ifCond .eq 7, 3) := by decide +kernel
theorem dX4_accept_52 : decode cX4_accept 52 = .ok (.iconst 1, 1) := by decide +kernel
theorem dX4_accept_53 : decode cX4_accept 53 = .ok (.goto 4, 3) := by decide +kernel
theorem dX4_accept_56 : decode cX4_accept 56 = .ok (.iconst 0, 1) := by decide +kernel
theorem dX4_accept_57 : decode cX4_accept 57 = .ok (.ireturn, 1) := by decide +kernel
theorem dX4_acceptDigit_0 : decode cX4_acceptDigit 0 = .ok (.aload_n 0, 1) := by decide +kernel
theorem dX4_acceptDigit_1 : decode cX4_acceptDigit 1 = .ok (.getfield 9, 3) := by decide +kernel
theorem dX4_acceptDigit_4 : decode cX4_acceptDigit 4 = .ok (.ifCond .ne 11, 3) := by decide +kernel
theorem dX4_acceptDigit_7 : decode cX4_acceptDigit 7 = .ok (.iload_n 1, 1) := by decide +kernel
theorem dX4_acceptDigit_8 : decode cX4_acceptDigit 8 = .ok (.ifCond .ne 7, 3) := by decide +kernel
theorem dX4_acceptDigit_11 : decode cX4_acceptDigit 11 = .ok (.iconst 1, 1) := by decide +kernel
theorem dX4_acceptDigit_12 : decode cX4_acceptDigit 12 = .ok (.goto 4, 3) := by decide +kernel
theorem dX4_acceptDigit_15 : decode cX4_acceptDigit 15 = .ok (.iconst 0, 1) := by decide +kernel
theorem dX4_acceptDigit_16 : decode cX4_acceptDigit 16 = .ok (.istore_n 2, 1) := by decide +kernel
theorem dX4_acceptDigit_17 : decode cX4_acceptDigit 17 = .ok (.iload_n 2, 1) := by decide +kernel
theorem dX4_acceptDigit_18 : decode cX4_acceptDigit 18 = .ok (.ifCond .ne 12, 3) := by decide +kernel
theorem dX4_acceptDigit_21 : decode cX4_acceptDigit 21 = .ok (.aload_n 0, 1) := by decide +kernel
theorem dX4_acceptDigit_22 : decode cX4_acceptDigit 22 = .ok (.getfield 9, 3) := by decide +kernel
theorem dX4_acceptDigit_25 : decode cX4_acceptDigit 25 = .ok (.bipush 9, 2) := by decide +kernel
theorem dX4_acceptDigit_27 : decode cX4_acceptDigit 27 = .ok (.if_icmp .le 5, 3) := by decide +kernel
theorem dX4_acceptDigit_30 : decode cX4_acceptDigit 30 = .ok (.iconst 0, 1) := by decide +kernel
theorem dX4_acceptDigit_31 : decode cX4_acceptDigit 31 = .ok (.ireturn, 1) := by decide +kernel
theorem dX4_acceptDigit_32 : decode cX4_acceptDigit 32 = .ok (.aload_n 0, 1) := by decide +kernel
theorem dX4_acceptDigit_33 : decode cX4_acceptDigit 33 = .ok (.bipush 10, 2) := by decide +kernel
theorem dX4_acceptDigit_35 : decode cX4_acceptDigit 35 = .ok (.aload_n 0, 1) := by decide +kernel
theorem dX4_acceptDigit_36 : decode cX4_acceptDigit 36 = .ok (.getfield 9, 3) := by decide +kernel
theorem dX4_acceptDigit_39 : decode cX4_acceptDigit 39 = .ok (.imul, 1) := by decide +kernel
theorem dX4_acceptDigit_40 : decode cX4_acceptDigit 40 = .ok (.iload_n 1, 1) := by decide +kernel
theorem dX4_acceptDigit_41 : decode cX4_acceptDigit 41 = .ok (.iadd, 1) := by decide +kernel
theorem dX4_acceptDigit_42 : decode cX4_acceptDigit 42 = .ok (.putfield 9, 3) := by decide +kernel
theorem dX4_acceptDigit_45 : decode cX4_acceptDigit 45 = .ok (.iconst 1, 1) := by decide +kernel
theorem dX4_acceptDigit_46 : decode cX4_acceptDigit 46 = .ok (.ireturn, 1) := by decide +kernel
theorem dX4_acceptName_0 : decode cX4_acceptName 0 = .ok (.aload_n 0, 1) := by decide +kernel
theorem dX4_acceptName_1 : decode cX4_acceptName 1 = .ok (.getfield 9, 3) := by decide +kernel
theorem dX4_acceptName_4 : decode cX4_acceptName 4 = .ok (.ifCond .eq 13, 3) := by decide +kernel
theorem dX4_acceptName_7 : decode cX4_acceptName 7 = .ok (.aload_n 0, 1) := by decide +kernel
theorem dX4_acceptName_8 : decode cX4_acceptName 8 = .ok (.getfield 9, 3) := by decide +kernel
theorem dX4_acceptName_11 : decode cX4_acceptName 11 = .ok (.iconst 2, 1) := by decide +kernel
theorem dX4_acceptName_12 : decode cX4_acceptName 12 = .ok (.if_icmp .ge 5, 3) := by decide +kernel
theorem dX4_acceptName_15 : decode cX4_acceptName 15 = .ok (.iconst 0, 1) := by decide +kernel
theorem dX4_acceptName_16 : decode cX4_acceptName 16 = .ok (.ireturn, 1) := by decide +kernel
theorem dX4_acceptName_17 : decode cX4_acceptName 17 = .ok (.aload_n 0, 1) := by decide +kernel
theorem dX4_acceptName_18 : decode cX4_acceptName 18 = .ok (.dup, 1) := by decide +kernel
theorem dX4_acceptName_19 : decode cX4_acceptName 19 = .ok (.getfield 25, 3) := by decide +kernel
theorem dX4_acceptName_22 : decode cX4_acceptName 22 = .ok (.aload_n 0, 1) := by decide +kernel
theorem dX4_acceptName_23 : decode cX4_acceptName 23 = .ok (.getfield 15, 3) := by decide +kernel
theorem dX4_acceptName_26 : decode cX4_acceptName 26 = .ok (.aload_n 0, 1) := by decide +kernel
theorem dX4_acceptName_27 : decode cX4_acceptName 27 = .ok (.getfield 9, 3) := by decide +kernel
theorem dX4_acceptName_30 : decode cX4_acceptName 30 = .ok (.iconst 1, 1) := by decide +kernel
theorem dX4_acceptName_31 : decode cX4_acceptName 31 = .ok (.invokestatic 49, 3) := by decide +kernel
theorem dX4_acceptName_34 : decode cX4_acceptName 34 = .ok (.imul, 1) := by decide +kernel
theorem dX4_acceptName_35 : decode cX4_acceptName 35 = .ok (.iadd, 1) := by decide +kernel
theorem dX4_acceptName_36 : decode cX4_acceptName 36 = .ok (.putfield 25, 3) := by decide +kernel
theorem dX4_acceptName_39 : decode cX4_acceptName 39 = .ok (.aload_n 0, 1) := by decide +kernel
theorem dX4_acceptName_40 : decode cX4_acceptName 40 = .ok (.iconst 0, 1) := by decide +kernel
theorem dX4_acceptName_41 : decode cX4_acceptName 41 = .ok (.putfield 9, 3) := by decide +kernel
theorem dX4_acceptName_44 : decode cX4_acceptName 44 = .ok (.aload_n 0, 1) := by decide +kernel
theorem dX4_acceptName_45 : decode cX4_acceptName 45 = .ok (.iconst 1, 1) := by decide +kernel
theorem dX4_acceptName_46 : decode cX4_acceptName 46 = .ok (.putfield 22, 3) := by decide +kernel
theorem dX4_acceptName_49 : decode cX4_acceptName 49 = .ok (.iconst 1, 1) := by decide +kernel
theorem dX4_acceptName_50 : decode cX4_acceptName 50 = .ok (.ireturn, 1) := by decide +kernel
theorem dX4_acceptOpening_0 : decode cX4_acceptOpening 0 = .ok (.aload_n 0, 1) := by decide +kernel
theorem dX4_acceptOpening_1 : decode cX4_acceptOpening 1 = .ok (.getfield 18, 3) := by decide +kernel
theorem dX4_acceptOpening_4 : decode cX4_acceptOpening 4 = .ok (.ifCond .ne 11, 3) := by decide +kernel
theorem dX4_acceptOpening_7 : decode cX4_acceptOpening 7 = .ok (.aload_n 0, 1) := by decide +kernel
theorem dX4_acceptOpening_8 : decode cX4_acceptOpening 8 = .ok (.getfield 9, 3) := by decide +kernel
theorem dX4_acceptOpening_11 : decode cX4_acceptOpening 11 = .ok (.iconst 2, 1) := by decide +kernel
theorem dX4_acceptOpening_12 : decode cX4_acceptOpening 12 = .ok (.if_icmp .ge 5, 3) := by decide +kernel
theorem dX4_acceptOpening_15 : decode cX4_acceptOpening 15 = .ok (.iconst 0, 1) := by decide +kernel
theorem dX4_acceptOpening_16 : decode cX4_acceptOpening 16 = .ok (.ireturn, 1) := by decide +kernel
theorem dX4_acceptOpening_17 : decode cX4_acceptOpening 17 = .ok (.aload_n 0, 1) := by decide +kernel
theorem dX4_acceptOpening_18 : decode cX4_acceptOpening 18 = .ok (.aload_n 0, 1) := by decide +kernel
theorem dX4_acceptOpening_19 : decode cX4_acceptOpening 19 = .ok (.getfield 9, 3) := by decide +kernel
theorem dX4_acceptOpening_22 : decode cX4_acceptOpening 22 = .ok (.putfield 15, 3) := by decide +kernel
theorem dX4_acceptOpening_25 : decode cX4_acceptOpening 25 = .ok (.aload_n 0, 1) := by decide +kernel
theorem dX4_acceptOpening_26 : decode cX4_acceptOpening 26 = .ok (.iconst 0, 1) := by decide +kernel
theorem dX4_acceptOpening_27 : decode cX4_acceptOpening 27 = .ok (.putfield 9, 3) := by decide +kernel
theorem dX4_acceptOpening_30 : decode cX4_acceptOpening 30 = .ok (.aload_n 0, 1) := by decide +kernel
theorem dX4_acceptOpening_31 : decode cX4_acceptOpening 31 = .ok (.iconst 1, 1) := by decide +kernel
theorem dX4_acceptOpening_32 : decode cX4_acceptOpening 32 = .ok (.putfield 18, 3) := by decide +kernel
theorem dX4_acceptOpening_35 : decode cX4_acceptOpening 35 = .ok (.aload_n 0, 1) := by decide +kernel
theorem dX4_acceptOpening_36 : decode cX4_acceptOpening 36 = .ok (.iconst 0, 1) := by decide +kernel
theorem dX4_acceptOpening_37 : decode cX4_acceptOpening 37 = .ok (.putfield 22, 3) := by decide +kernel
theorem dX4_acceptOpening_40 : decode cX4_acceptOpening 40 = .ok (.iconst 1, 1) := by decide +kernel
theorem dX4_acceptOpening_41 : decode cX4_acceptOpening 41 = .ok (.ireturn, 1) := by decide +kernel
theorem dX4_acceptClosing_0 : decode cX4_acceptClosing 0 = .ok (.aload_n 0, 1) := by decide +kernel
theorem dX4_acceptClosing_1 : decode cX4_acceptClosing 1 = .ok (.getfield 18, 3) := by decide +kernel
theorem dX4_acceptClosing_4 : decode cX4_acceptClosing 4 = .ok (.ifCond .eq 17, 3) := by decide +kernel
theorem dX4_acceptClosing_7 : decode cX4_acceptClosing 7 = .ok (.aload_n 0, 1) := by decide +kernel
theorem dX4_acceptClosing_8 : decode cX4_acceptClosing 8 = .ok (.getfield 9, 3) := by decide +kernel
theorem dX4_acceptClosing_11 : decode cX4_acceptClosing 11 = .ok (.ifCond .ne 10, 3) := by decide +kernel
theorem dX4_acceptClosing_14 : decode cX4_acceptClosing 14 = .ok (.aload_n 0, 1) := by decide +kernel
theorem dX4_acceptClosing_15 : decode cX4_acceptClosing 15 = .ok (.getfield 22, 3) := by decide +kernel
theorem dX4_acceptClosing_18 : decode cX4_acceptClosing 18 = .ok (.ifCond .ne 5, 3) := by decide +kernel
theorem dX4_acceptClosing_21 : decode cX4_acceptClosing 21 = .ok (.iconst 0, 1) := by decide +kernel
theorem dX4_acceptClosing_22 : decode cX4_acceptClosing 22 = .ok (.ireturn, 1) := by decide +kernel
theorem dX4_acceptClosing_23 : decode cX4_acceptClosing 23 = .ok (.aload_n 0, 1) := by decide +kernel
theorem dX4_acceptClosing_24 : decode cX4_acceptClosing 24 = .ok (.iconst 1, 1) := by decide +kernel
theorem dX4_acceptClosing_25 : decode cX4_acceptClosing 25 = .ok (.putfield 15, 3) := by decide +kernel
theorem dX4_acceptClosing_28 : decode cX4_acceptClosing 28 = .ok (.aload_n 0, 1) := by decide +kernel
theorem dX4_acceptClosing_29 : decode cX4_acceptClosing 29 = .ok (.iconst 0, 1) := by decide +kernel
theorem dX4_acceptClosing_30 : decode cX4_acceptClosing 30 = .ok (.putfield 18, 3) := by decide +kernel
theorem dX4_acceptClosing_33 : decode cX4_acceptClosing 33 = .ok (.iconst 1, 1) := by decide +kernel
theorem dX4_acceptClosing_34 : decode cX4_acceptClosing 34 = .ok (.ireturn, 1) := by decide +kernel
theorem dX4_isWhole_0 : decode cX4_isWhole 0 = .ok (.aload_n 0, 1) := by decide +kernel
theorem dX4_isWhole_1 : decode cX4_isWhole 1 = .ok (.getfield 22, 3) := by decide +kernel
theorem dX4_isWhole_4 : decode cX4_isWhole 4 = .ok (.ifCond .eq 21, 3) := by decide +kernel
theorem dX4_isWhole_7 : decode cX4_isWhole 7 = .ok (.aload_n 0, 1) := by decide +kernel
theorem dX4_isWhole_8 : decode cX4_isWhole 8 = .ok (.getfield 9, 3) := by decide +kernel
theorem dX4_isWhole_11 : decode cX4_isWhole 11 = .ok (.ifCond .ne 14, 3) := by decide +kernel
theorem dX4_isWhole_14 : decode cX4_isWhole 14 = .ok (.aload_n 0, 1) := by decide +kernel
theorem dX4_isWhole_15 : decode cX4_isWhole 15 = .ok (.getfield 18, 3) := by decide +kernel
theorem dX4_isWhole_18 : decode cX4_isWhole 18 = .ok (.ifCond .ne 7, 3) := by decide +kernel
theorem dX4_isWhole_21 : decode cX4_isWhole 21 = .ok (.iconst 1, 1) := by decide +kernel
theorem dX4_isWhole_22 : decode cX4_isWhole 22 = .ok (.goto 4, 3) := by decide +kernel
theorem dX4_isWhole_25 : decode cX4_isWhole 25 = .ok (.iconst 0, 1) := by decide +kernel
theorem dX4_isWhole_26 : decode cX4_isWhole 26 = .ok (.ireturn, 1) := by decide +kernel
theorem dX5_init_0 : decode cX5_init 0 = .ok (.aload_n 0, 1) := by decide +kernel
theorem dX5_init_1 : decode cX5_init 1 = .ok (.invokespecial 3, 3) := by decide +kernel
theorem dX5_init_4 : decode cX5_init 4 = .ok (.aload_n 0, 1) := by decide +kernel
theorem dX5_init_5 : decode cX5_init 5 = .ok (.bipush 26, 2) := by decide +kernel
theorem dX5_init_7 : decode cX5_init 7 = .ok (.newarray .int, 2) := by decide +kernel
theorem dX5_init_9 : decode cX5_init 9 = .ok (.putfield 9, 3) := by decide +kernel
theorem dX5_init_12 : decode cX5_init 12 = .ok (.return_, 1) := by decide +kernel
set_option maxRecDepth 20000 in
theorem ggX5_beginAnew_J7_fill_53178 : GoodIn wsX5_beginAnew wsJ7_fill_53178 := goodIn_r _ [8] (by decide +kernel) (by decide +kernel)
set_option maxRecDepth 20000 in
theorem gX5_beginAnew_J7_fill_53178 : GoodIn wsX5_beginAnew (va_wsS RX5 15 yJ7_fill_53178 wsJ7_fill_53178) := goodIn_app (goodIn_of _ (by decide +kernel)) ggX5_beginAnew_J7_fill_53178
theorem dX5_beginAnew_0 : decode cX5_beginAnew 0 = .ok (.aload_n 0, 1) := by decide +kernel
theorem dX5_beginAnew_1 : decode cX5_beginAnew 1 = .ok (.getfield 9, 3) := by decide +kernel
theorem dX5_beginAnew_4 : decode cX5_beginAnew 4 = .ok (.iconst 0, 1) := by decide +kernel
theorem dX5_beginAnew_5 : decode cX5_beginAnew 5 = .ok (.invokestatic 15, 3) := by decide +kernel
theorem dX5_beginAnew_8 : decode cX5_beginAnew 8 = .ok (.aload_n 0, 1) := by decide +kernel
theorem dX5_beginAnew_9 : decode cX5_beginAnew 9 = .ok (.iconst 0, 1) := by decide +kernel
theorem dX5_beginAnew_10 : decode cX5_beginAnew 10 = .ok (.putfield 21, 3) := by decide +kernel
theorem dX5_beginAnew_13 : decode cX5_beginAnew 13 = .ok (.aload_n 0, 1) := by decide +kernel
theorem dX5_beginAnew_14 : decode cX5_beginAnew 14 = .ok (.iconst 0, 1) := by decide +kernel
theorem dX5_beginAnew_15 : decode cX5_beginAnew 15 = .ok (.putfield 25, 3) := by decide +kernel
theorem dX5_beginAnew_18 : decode cX5_beginAnew 18 = .ok (.aload_n 0, 1) := by decide +kernel
theorem dX5_beginAnew_19 : decode cX5_beginAnew 19 = .ok (.iload_n 1, 1) := by decide +kernel
theorem dX5_beginAnew_20 : decode cX5_beginAnew 20 = .ok (.putfield 28, 3) := by decide +kernel
theorem dX5_beginAnew_23 : decode cX5_beginAnew 23 = .ok (.return_, 1) := by decide +kernel
set_option maxRecDepth 20000 in
theorem ggX5_copyFrom_X8_copyRow : GoodIn wsX5_copyFrom wsX8_copyRow := goodIn_r _ [7, 8, 9, 10, 11, 12, 13, 14, 15] (by decide +kernel) (by decide +kernel)
set_option maxRecDepth 20000 in
theorem gX5_copyFrom_X8_copyRow_n31 : GoodIn wsX5_copyFrom (wsX8_copyRow) := ggX5_copyFrom_X8_copyRow
theorem dX5_copyFrom_0 : decode cX5_copyFrom 0 = .ok (.aload_n 1, 1) := by decide +kernel
theorem dX5_copyFrom_1 : decode cX5_copyFrom 1 = .ok (.getfield 9, 3) := by decide +kernel
theorem dX5_copyFrom_4 : decode cX5_copyFrom 4 = .ok (.aload_n 0, 1) := by decide +kernel
theorem dX5_copyFrom_5 : decode cX5_copyFrom 5 = .ok (.getfield 9, 3) := by decide +kernel
theorem dX5_copyFrom_8 : decode cX5_copyFrom 8 = .ok (.invokestatic 31, 3) := by decide +kernel
theorem dX5_copyFrom_11 : decode cX5_copyFrom 11 = .ok (.aload_n 0, 1) := by decide +kernel
theorem dX5_copyFrom_12 : decode cX5_copyFrom 12 = .ok (.aload_n 1, 1) := by decide +kernel
theorem dX5_copyFrom_13 : decode cX5_copyFrom 13 = .ok (.getfield 21, 3) := by decide +kernel
theorem dX5_copyFrom_16 : decode cX5_copyFrom 16 = .ok (.putfield 21, 3) := by decide +kernel
theorem dX5_copyFrom_19 : decode cX5_copyFrom 19 = .ok (.aload_n 0, 1) := by decide +kernel
theorem dX5_copyFrom_20 : decode cX5_copyFrom 20 = .ok (.aload_n 1, 1) := by decide +kernel
theorem dX5_copyFrom_21 : decode cX5_copyFrom 21 = .ok (.getfield 25, 3) := by decide +kernel
theorem dX5_copyFrom_24 : decode cX5_copyFrom 24 = .ok (.putfield 25, 3) := by decide +kernel
theorem dX5_copyFrom_27 : decode cX5_copyFrom 27 = .ok (.aload_n 0, 1) := by decide +kernel
theorem dX5_copyFrom_28 : decode cX5_copyFrom 28 = .ok (.aload_n 1, 1) := by decide +kernel
theorem dX5_copyFrom_29 : decode cX5_copyFrom 29 = .ok (.getfield 28, 3) := by decide +kernel
theorem dX5_copyFrom_32 : decode cX5_copyFrom 32 = .ok (.putfield 28, 3) := by decide +kernel
theorem dX5_copyFrom_35 : decode cX5_copyFrom 35 = .ok (.return_, 1) := by decide +kernel
set_option maxRecDepth 20000 in
theorem ggX5_take_X5_wearDown : GoodIn wsX5_take wsX5_wearDown := goodIn_r _ [8, 1, 9, 10, 11, 12, 2, 13, 14, 15, 16, 17, 18, 19, 20] (by decide +kernel) (by decide +kernel)
set_option maxRecDepth 20000 in
theorem gX5_take_X5_wearDown : GoodIn wsX5_take (wsV RX5 35 RX5 yX5_wearDown wsX5_wearDown) := goodIn_app (goodIn_of _ (by decide +kernel)) ggX5_take_X5_wearDown
theorem dX5_take_0 : decode cX5_take 0 = .ok (.aload_n 0, 1) := by decide +kernel
theorem dX5_take_1 : decode cX5_take 1 = .ok (.getfield 9, 3) := by decide +kernel
theorem dX5_take_4 : decode cX5_take 4 = .ok (.iload_n 1, 1) := by decide +kernel
theorem dX5_take_5 : decode cX5_take 5 = .ok (.iaload, 1) := by decide +kernel
theorem dX5_take_6 : decode cX5_take 6 = .ok (.ifCond .le 16, 3) := by decide +kernel
theorem dX5_take_9 : decode cX5_take 9 = .ok (.aload_n 0, 1) := by decide +kernel
theorem dX5_take_10 : decode cX5_take 10 = .ok (.getfield 9, 3) := by decide +kernel
theorem dX5_take_13 : decode cX5_take 13 = .ok (.iload_n 1, 1) := by decide +kernel
theorem dX5_take_14 : decode cX5_take 14 = .ok (.dup2, 1) := by decide +kernel
theorem dX5_take_15 : decode cX5_take 15 = .ok (.iaload, 1) := by decide +kernel
theorem dX5_take_16 : decode cX5_take 16 = .ok (.iconst 1, 1) := by decide +kernel
theorem dX5_take_17 : decode cX5_take 17 = .ok (.iadd, 1) := by decide +kernel
theorem dX5_take_18 : decode cX5_take 18 = .ok (.iastore, 1) := by decide +kernel
theorem dX5_take_19 : decode cX5_take 19 = .ok (.goto 39, 3) := by decide +kernel
theorem dX5_take_22 : decode cX5_take 22 = .ok (.aload_n 0, 1) := by decide +kernel
theorem dX5_take_23 : decode cX5_take 23 = .ok (.getfield 25, 3) := by decide +kernel
theorem dX5_take_26 : decode cX5_take 26 = .ok (.aload_n 0, 1) := by decide +kernel
theorem dX5_take_27 : decode cX5_take 27 = .ok (.getfield 28, 3) := by decide +kernel
theorem dX5_take_30 : decode cX5_take 30 = .ok (.if_icmp .ge 23, 3) := by decide +kernel
theorem dX5_take_33 : decode cX5_take 33 = .ok (.aload_n 0, 1) := by decide +kernel
theorem dX5_take_34 : decode cX5_take 34 = .ok (.getfield 9, 3) := by decide +kernel
theorem dX5_take_37 : decode cX5_take 37 = .ok (.iload_n 1, 1) := by decide +kernel
theorem dX5_take_38 : decode cX5_take 38 = .ok (.iconst 1, 1) := by decide +kernel
theorem dX5_take_39 : decode cX5_take 39 = .ok (.iastore, 1) := by decide +kernel
theorem dX5_take_40 : decode cX5_take 40 = .ok (.aload_n 0, 1) := by decide +kernel
theorem dX5_take_41 : decode cX5_take 41 = .ok (.dup, 1) := by decide +kernel
theorem dX5_take_42 : decode cX5_take 42 = .ok (.getfield 25, 3) := by decide +kernel
theorem dX5_take_45 : decode cX5_take 45 = .ok (.iconst 1, 1) := by decide +kernel
theorem dX5_take_46 : decode cX5_take 46 = .ok (.iadd, 1) := by decide +kernel
theorem dX5_take_47 : decode cX5_take 47 = .ok (.putfield 25, 3) := by decide +kernel
theorem dX5_take_50 : decode cX5_take 50 = .ok (.goto 8, 3) := by decide +kernel
theorem dX5_take_53 : decode cX5_take 53 = .ok (.aload_n 0, 1) := by decide +kernel
theorem dX5_take_54 : decode cX5_take 54 = .ok (.iconst 1, 1) := by decide +kernel
theorem dX5_take_55 : decode cX5_take 55 = .ok (.invokevirtual 35, 3) := by decide +kernel
theorem dX5_take_58 : decode cX5_take 58 = .ok (.return_, 1) := by decide +kernel
set_option maxRecDepth 20000 in
theorem ggX5_wearDown_X8_countersIn : GoodIn wsX5_wearDown wsX8_countersIn := goodIn_r _ [10] (by decide +kernel) (by decide +kernel)
set_option maxRecDepth 20000 in
theorem gX5_wearDown_X8_countersIn_n45 : GoodIn wsX5_wearDown (wsX8_countersIn) := ggX5_wearDown_X8_countersIn
theorem dX5_wearDown_0 : decode cX5_wearDown 0 = .ok (.iconst 0, 1) := by decide +kernel
theorem dX5_wearDown_1 : decode cX5_wearDown 1 = .ok (.istore_n 2, 1) := by decide +kernel
theorem dX5_wearDown_2 : decode cX5_wearDown 2 = .ok (.iload_n 2, 1) := by decide +kernel
theorem dX5_wearDown_3 : decode cX5_wearDown 3 = .ok (.bipush 26, 2) := by decide +kernel
theorem dX5_wearDown_5 : decode cX5_wearDown 5 = .ok (.if_icmp .ge 27, 3) := by decide +kernel
theorem dX5_wearDown_8 : decode cX5_wearDown 8 = .ok (.aload_n 0, 1) := by decide +kernel
theorem dX5_wearDown_9 : decode cX5_wearDown 9 = .ok (.getfield 9, 3) := by decide +kernel
theorem dX5_wearDown_12 : decode cX5_wearDown 12 = .ok (.iload_n 2, 1) := by decide +kernel
theorem dX5_wearDown_13 : decode cX5_wearDown 13 = .ok (.aload_n 0, 1) := by decide +kernel
theorem dX5_wearDown_14 : decode cX5_wearDown 14 = .ok (.getfield 9, 3) := by decide +kernel
theorem dX5_wearDown_17 : decode cX5_wearDown 17 = .ok (.iload_n 2, 1) := by decide +kernel
theorem dX5_wearDown_18 : decode cX5_wearDown 18 = .ok (.iaload, 1) := by decide +kernel
theorem dX5_wearDown_19 : decode cX5_wearDown 19 = .ok (.iload_n 1, 1) := by decide +kernel
theorem dX5_wearDown_20 : decode cX5_wearDown 20 = .ok (.isub, 1) := by decide +kernel
theorem dX5_wearDown_21 : decode cX5_wearDown 21 = .ok (.iconst 0, 1) := by decide +kernel
theorem dX5_wearDown_22 : decode cX5_wearDown 22 = .ok (.invokestatic 39, 3) := by decide +kernel
theorem dX5_wearDown_25 : decode cX5_wearDown 25 = .ok (.iastore, 1) := by decide +kernel
theorem dX5_wearDown_26 : decode cX5_wearDown 26 = .ok (.iinc 2 1, 3) := by decide +kernel
theorem dX5_wearDown_29 : decode cX5_wearDown 29 = .ok (.goto (-27), 3) := by decide +kernel
theorem dX5_wearDown_32 : decode cX5_wearDown 32 = .ok (.aload_n 0, 1) := by decide +kernel
theorem dX5_wearDown_33 : decode cX5_wearDown 33 = .ok (.aload_n 0, 1) := by decide +kernel
theorem dX5_wearDown_34 : decode cX5_wearDown 34 = .ok (.getfield 9, 3) := by decide +kernel
theorem dX5_wearDown_37 : decode cX5_wearDown 37 = .ok (.invokestatic 45, 3) := by decide +kernel
theorem dX5_wearDown_40 : decode cX5_wearDown 40 = .ok (.putfield 25, 3) := by decide +kernel
theorem dX5_wearDown_43 : decode cX5_wearDown 43 = .ok (.aload_n 0, 1) := by decide +kernel
theorem dX5_wearDown_44 : decode cX5_wearDown 44 = .ok (.dup, 1) := by decide +kernel
theorem dX5_wearDown_45 : decode cX5_wearDown 45 = .ok (.getfield 21, 3) := by decide +kernel
theorem dX5_wearDown_48 : decode cX5_wearDown 48 = .ok (.iload_n 1, 1) := by decide +kernel
theorem dX5_wearDown_49 : decode cX5_wearDown 49 = .ok (.iadd, 1) := by decide +kernel
theorem dX5_wearDown_50 : decode cX5_wearDown 50 = .ok (.putfield 21, 3) := by decide +kernel
theorem dX5_wearDown_53 : decode cX5_wearDown 53 = .ok (.return_, 1) := by decide +kernel
set_option maxRecDepth 20000 in
theorem ggX5_mergeWith_X8_countersIn : GoodIn wsX5_mergeWith wsX8_countersIn := goodIn_r _ [7] (by decide +kernel) (by decide +kernel)
set_option maxRecDepth 20000 in
theorem gX5_mergeWith_X8_countersIn_n45 : GoodIn wsX5_mergeWith (wsX8_countersIn) := ggX5_mergeWith_X8_countersIn
set_option maxRecDepth 20000 in
theorem ggX5_mergeWith_X8_parrotAt : GoodIn wsX5_mergeWith wsX8_parrotAt := goodIn_r _ [9, 10, 11, 6, 12] (by decide +kernel) (by decide +kernel)
set_option maxRecDepth 20000 in
theorem gX5_mergeWith_X8_parrotAt_n49 : GoodIn wsX5_mergeWith (wsX8_parrotAt) := ggX5_mergeWith_X8_parrotAt
set_option maxRecDepth 20000 in
theorem ggX5_mergeWith_X5_wearDown : GoodIn wsX5_mergeWith wsX5_wearDown := goodIn_r _ [17, 1, 18, 19, 20, 21, 2, 3, 5, 6, 7, 22, 23, 24, 25] (by decide +kernel) (by decide +kernel)
set_option maxRecDepth 20000 in
theorem gX5_mergeWith_X5_wearDown : GoodIn wsX5_mergeWith (wsV RX5 35 RX5 yX5_wearDown wsX5_wearDown) := goodIn_app (goodIn_of _ (by decide +kernel)) ggX5_mergeWith_X5_wearDown
theorem dX5_mergeWith_0 : decode cX5_mergeWith 0 = .ok (.iconst 0, 1) := by decide +kernel
theorem dX5_mergeWith_1 : decode cX5_mergeWith 1 = .ok (.istore_n 2, 1) := by decide +kernel
theorem dX5_mergeWith_2 : decode cX5_mergeWith 2 = .ok (.iload_n 2, 1) := by decide +kernel
theorem dX5_mergeWith_3 : decode cX5_mergeWith 3 = .ok (.bipush 26, 2) := by decide +kernel
theorem dX5_mergeWith_5 : decode cX5_mergeWith 5 = .ok (.if_icmp .ge 24, 3) := by decide +kernel
theorem dX5_mergeWith_8 : decode cX5_mergeWith 8 = .ok (.aload_n 0, 1) := by decide +kernel
theorem dX5_mergeWith_9 : decode cX5_mergeWith 9 = .ok (.getfield 9, 3) := by decide +kernel
theorem dX5_mergeWith_12 : decode cX5_mergeWith 12 = .ok (.iload_n 2, 1) := by decide +kernel
theorem dX5_mergeWith_13 : decode cX5_mergeWith 13 = .ok (.dup2, 1) := by decide +kernel
theorem dX5_mergeWith_14 : decode cX5_mergeWith 14 = .ok (.iaload, 1) := by decide +kernel
theorem dX5_mergeWith_15 : decode cX5_mergeWith 15 = .ok (.aload_n 1, 1) := by decide +kernel
theorem dX5_mergeWith_16 : decode cX5_mergeWith 16 = .ok (.getfield 9, 3) := by decide +kernel
theorem dX5_mergeWith_19 : decode cX5_mergeWith 19 = .ok (.iload_n 2, 1) := by decide +kernel
theorem dX5_mergeWith_20 : decode cX5_mergeWith 20 = .ok (.iaload, 1) := by decide +kernel
theorem dX5_mergeWith_21 : decode cX5_mergeWith 21 = .ok (.iadd, 1) := by decide +kernel
theorem dX5_mergeWith_22 : decode cX5_mergeWith 22 = .ok (.iastore, 1) := by decide +kernel
theorem dX5_mergeWith_23 : decode cX5_mergeWith 23 = .ok (.iinc 2 1, 3) := by decide +kernel
theorem dX5_mergeWith_26 : decode cX5_mergeWith 26 = .ok (.goto (-24), 3) := by decide +kernel
theorem dX5_mergeWith_29 : decode cX5_mergeWith 29 = .ok (.aload_n 0, 1) := by decide +kernel
theorem dX5_mergeWith_30 : decode cX5_mergeWith 30 = .ok (.aload_n 0, 1) := by decide +kernel
theorem dX5_mergeWith_31 : decode cX5_mergeWith 31 = .ok (.getfield 9, 3) := by decide +kernel
theorem dX5_mergeWith_34 : decode cX5_mergeWith 34 = .ok (.invokestatic 45, 3) := by decide +kernel
theorem dX5_mergeWith_37 : decode cX5_mergeWith 37 = .ok (.putfield 25, 3) := by decide +kernel
theorem dX5_mergeWith_40 : decode cX5_mergeWith 40 = .ok (.aload_n 0, 1) := by decide +kernel
theorem dX5_mergeWith_41 : decode cX5_mergeWith 41 = .ok (.dup, 1) := by decide +kernel
theorem dX5_mergeWith_42 : decode cX5_mergeWith 42 = .ok (.getfield 21, 3) := by decide +kernel
theorem dX5_mergeWith_45 : decode cX5_mergeWith 45 = .ok (.aload_n 1, 1) := by decide +kernel
theorem dX5_mergeWith_46 : decode cX5_mergeWith 46 = .ok (.getfield 21, 3) := by decide +kernel
theorem dX5_mergeWith_49 : decode cX5_mergeWith 49 = .ok (.iadd, 1) := by decide +kernel
theorem dX5_mergeWith_50 : decode cX5_mergeWith 50 = .ok (.putfield 21, 3) := by decide +kernel
theorem dX5_mergeWith_53 : decode cX5_mergeWith 53 = .ok (.aload_n 0, 1) := by decide +kernel
theorem dX5_mergeWith_54 : decode cX5_mergeWith 54 = .ok (.getfield 9, 3) := by decide +kernel
theorem dX5_mergeWith_57 : decode cX5_mergeWith 57 = .ok (.aload_n 0, 1) := by decide +kernel
theorem dX5_mergeWith_58 : decode cX5_mergeWith 58 = .ok (.getfield 28, 3) := by decide +kernel
theorem dX5_mergeWith_61 : decode cX5_mergeWith 61 = .ok (.invokestatic 49, 3) := by decide +kernel
theorem dX5_mergeWith_64 : decode cX5_mergeWith 64 = .ok (.istore_n 2, 1) := by decide +kernel
theorem dX5_mergeWith_65 : decode cX5_mergeWith 65 = .ok (.iload_n 2, 1) := by decide +kernel
theorem dX5_mergeWith_66 : decode cX5_mergeWith 66 = .ok (.iconst (-1), 1) := by decide +kernel
theorem dX5_mergeWith_67 : decode cX5_mergeWith 67 = .ok (.if_icmp .eq 13, 3) := by decide +kernel
theorem dX5_mergeWith_70 : decode cX5_mergeWith 70 = .ok (.aload_n 0, 1) := by decide +kernel
theorem dX5_mergeWith_71 : decode cX5_mergeWith 71 = .ok (.aload_n 0, 1) := by decide +kernel
theorem dX5_mergeWith_72 : decode cX5_mergeWith 72 = .ok (.getfield 9, 3) := by decide +kernel
theorem dX5_mergeWith_75 : decode cX5_mergeWith 75 = .ok (.iload_n 2, 1) := by decide +kernel
theorem dX5_mergeWith_76 : decode cX5_mergeWith 76 = .ok (.iaload, 1) := by decide +kernel
theorem dX5_mergeWith_77 : decode cX5_mergeWith 77 = .ok (.invokevirtual 35, 3) := by decide +kernel
theorem dX5_mergeWith_80 : decode cX5_mergeWith 80 = .ok (.return_, 1) := by decide +kernel
set_option maxRecDepth 20000 in
theorem ggX6_init_X4_init : GoodIn wsX6_init wsX4_init := goodIn_r _ [13, 14, 2, 3] (by decide +kernel) (by decide +kernel)
set_option maxRecDepth 20000 in
theorem gX6_init_X4_init_n17 : GoodIn wsX6_init (wsX4_init) := ggX6_init_X4_init
theorem dX6_init_0 : decode cX6_init 0 = .ok (.aload_n 0, 1) := by decide +kernel
theorem dX6_init_1 : decode cX6_init 1 = .ok (.invokespecial 3, 3) := by decide +kernel
theorem dX6_init_4 : decode cX6_init 4 = .ok (.aload_n 0, 1) := by decide +kernel
theorem dX6_init_5 : decode cX6_init 5 = .ok (.bipush 60, 2) := by decide +kernel
theorem dX6_init_7 : decode cX6_init 7 = .ok (.newarray .char, 2) := by decide +kernel
theorem dX6_init_9 : decode cX6_init 9 = .ok (.putfield 9, 3) := by decide +kernel
theorem dX6_init_12 : decode cX6_init 12 = .ok (.aload_n 0, 1) := by decide +kernel
theorem dX6_init_13 : decode cX6_init 13 = .ok (.new 15, 3) := by decide +kernel
theorem dX6_init_16 : decode cX6_init 16 = .ok (.dup, 1) := by decide +kernel
theorem dX6_init_17 : decode cX6_init 17 = .ok (.invokespecial 17, 3) := by decide +kernel
theorem dX6_init_20 : decode cX6_init 20 = .ok (.putfield 18, 3) := by decide +kernel
theorem dX6_init_23 : decode cX6_init 23 = .ok (.aload_n 0, 1) := by decide +kernel
theorem dX6_init_24 : decode cX6_init 24 = .ok (.sipush 1000, 3) := by decide +kernel
theorem dX6_init_27 : decode cX6_init 27 = .ok (.newarray .int, 2) := by decide +kernel
theorem dX6_init_29 : decode cX6_init 29 = .ok (.putfield 22, 3) := by decide +kernel
theorem dX6_init_32 : decode cX6_init 32 = .ok (.return_, 1) := by decide +kernel
theorem dX6_add_0 : decode cX6_add 0 = .ok (.aload_n 0, 1) := by decide +kernel
theorem dX6_add_1 : decode cX6_add 1 = .ok (.getfield 26, 3) := by decide +kernel
theorem dX6_add_4 : decode cX6_add 4 = .ok (.aload_n 0, 1) := by decide +kernel
theorem dX6_add_5 : decode cX6_add 5 = .ok (.getfield 9, 3) := by decide +kernel
theorem dX6_add_8 : decode cX6_add 8 = .ok (.arraylength, 1) := by decide +kernel
theorem dX6_add_9 : decode cX6_add 9 = .ok (.if_icmp .ge 23, 3) := by decide +kernel
theorem dX6_add_12 : decode cX6_add 12 = .ok (.aload_n 0, 1) := by decide +kernel
theorem dX6_add_13 : decode cX6_add 13 = .ok (.getfield 9, 3) := by decide +kernel
theorem dX6_add_16 : decode cX6_add 16 = .ok (.aload_n 0, 1) := by decide +kernel
theorem dX6_add_17 : decode cX6_add 17 = .ok (.getfield 26, 3) := by decide +kernel
theorem dX6_add_20 : decode cX6_add 20 = .ok (.iload_n 1, 1) := by decide +kernel
theorem dX6_add_21 : decode cX6_add 21 = .ok (.castore, 1) := by decide +kernel
theorem dX6_add_22 : decode cX6_add 22 = .ok (.aload_n 0, 1) := by decide +kernel
theorem dX6_add_23 : decode cX6_add 23 = .ok (.dup, 1) := by decide +kernel
theorem dX6_add_24 : decode cX6_add 24 = .ok (.getfield 26, 3) := by decide +kernel
theorem dX6_add_27 : decode cX6_add 27 = .ok (.iconst 1, 1) := by decide +kernel
theorem dX6_add_28 : decode cX6_add 28 = .ok (.iadd, 1) := by decide +kernel
theorem dX6_add_29 : decode cX6_add 29 = .ok (.putfield 26, 3) := by decide +kernel
theorem dX6_add_32 : decode cX6_add 32 = .ok (.return_, 1) := by decide +kernel
set_option maxRecDepth 20000 in
theorem ggX6_readLength_X4_beginAnew : GoodIn wsX6_readLength wsX4_beginAnew := goodIn_r _ [8, 9, 10, 11, 12, 13, 48, 49, 50, 51, 52] (by decide +kernel) (by decide +kernel)
set_option maxRecDepth 20000 in
theorem gX6_readLength_X4_beginAnew : GoodIn wsX6_readLength (wsV RX6 30 RX4 yX4_beginAnew wsX4_beginAnew) := goodIn_app (goodIn_of _ (by decide +kernel)) ggX6_readLength_X4_beginAnew
set_option maxRecDepth 20000 in
theorem ggX6_readLength_X4_accept : GoodIn wsX6_readLength wsX4_accept := goodIn_r _ [17, 18, 19, 20, 21, 22, 23, 7, 24, 9, 25, 26, 27, 28, 29, 30, 13, 10, 31, 32, 33, 34, 12, 35, 36, 37, 38, 11, 39, 40, 41, 42, 48, 49, 50, 51, 52] (by decide +kernel) (by decide +kernel)
set_option maxRecDepth 20000 in
theorem gX6_readLength_X4_accept : GoodIn wsX6_readLength (wsV RX6 33 RX4 yX4_accept wsX4_accept) := goodIn_app (goodIn_of _ (by decide +kernel)) ggX6_readLength_X4_accept
theorem dX6_readLength_0 : decode cX6_readLength 0 = .ok (.aload_n 0, 1) := by decide +kernel
theorem dX6_readLength_1 : decode cX6_readLength 1 = .ok (.getfield 18, 3) := by decide +kernel
theorem dX6_readLength_4 : decode cX6_readLength 4 = .ok (.invokevirtual 30, 3) := by decide +kernel
theorem dX6_readLength_7 : decode cX6_readLength 7 = .ok (.iconst 0, 1) := by decide +kernel
theorem dX6_readLength_8 : decode cX6_readLength 8 = .ok (.istore_n 1, 1) := by decide +kernel
theorem dX6_readLength_9 : decode cX6_readLength 9 = .ok (.iload_n 1, 1) := by decide +kernel
theorem dX6_readLength_10 : decode cX6_readLength 10 = .ok (.aload_n 0, 1) := by decide +kernel
theorem dX6_readLength_11 : decode cX6_readLength 11 = .ok (.getfield 26, 3) := by decide +kernel
theorem dX6_readLength_14 : decode cX6_readLength 14 = .ok (.if_icmp .ge 25, 3) := by decide +kernel
theorem dX6_readLength_17 : decode cX6_readLength 17 = .ok (.aload_n 0, 1) := by decide +kernel
theorem dX6_readLength_18 : decode cX6_readLength 18 = .ok (.getfield 18, 3) := by decide +kernel
theorem dX6_readLength_21 : decode cX6_readLength 21 = .ok (.aload_n 0, 1) := by decide +kernel
theorem dX6_readLength_22 : decode cX6_readLength 22 = .ok (.getfield 9, 3) := by decide +kernel
theorem dX6_readLength_25 : decode cX6_readLength 25 = .ok (.iload_n 1, 1) := by decide +kernel
theorem dX6_readLength_26 : decode cX6_readLength 26 = .ok (.caload, 1) := by decide +kernel
theorem dX6_readLength_27 : decode cX6_readLength 27 = .ok (.invokevirtual 33, 3) := by decide +kernel
theorem dX6_readLength_30 : decode cX6_readLength 30 = .ok (.ifCond .eq 9, 3) := by decide +kernel
theorem dX6_readLength_33 : decode cX6_readLength 33 = .ok (.iinc 1 1, 3) := by decide +kernel
theorem dX6_readLength_36 : decode cX6_readLength 36 = .ok (.goto (-27), 3) := by decide +kernel
theorem dX6_readLength_39 : decode cX6_readLength 39 = .ok (.iload_n 1, 1) := by decide +kernel
theorem dX6_readLength_40 : decode cX6_readLength 40 = .ok (.ireturn, 1) := by decide +kernel
set_option maxRecDepth 20000 in
theorem ggX6_isSong_X6_readLength : GoodIn wsX6_isSong wsX6_readLength := goodIn_r _ [7, 2, 1, 8, 9, 10, 11, 12, 13, 14, 15, 16, 17, 18, 19, 20, 21, 22, 23, 24, 25, 26, 27, 28, 29, 30, 31, 32, 33, 34, 35, 36, 37, 38, 39, 40, 41, 42, 43, 44, 45, 46, 47, 52, 53, 54, 55, 56, 57, 58, 59, 60, 61] (by decide +kernel) (by decide +kernel)
set_option maxRecDepth 20000 in
theorem gX6_isSong_X6_readLength : GoodIn wsX6_isSong (wsV RX6 37 RX6 yX6_readLength wsX6_readLength) := goodIn_app (goodIn_of _ (by decide +kernel)) ggX6_isSong_X6_readLength
set_option maxRecDepth 20000 in
theorem ggX6_isSong_X4_isWhole : GoodIn wsX6_isSong wsX4_isWhole := goodIn_r _ [51, 17, 14, 16, 57, 58, 59, 60, 61] (by decide +kernel) (by decide +kernel)
set_option maxRecDepth 20000 in
theorem gX6_isSong_X4_isWhole : GoodIn wsX6_isSong (wsV RX6 41 RX4 yX4_isWhole wsX4_isWhole) := goodIn_app (goodIn_of _ (by decide +kernel)) ggX6_isSong_X4_isWhole
theorem dX6_isSong_0 : decode cX6_isSong 0 = .ok (.aload_n 0, 1) := by decide +kernel
theorem dX6_isSong_1 : decode cX6_isSong 1 = .ok (.invokevirtual 37, 3) := by decide +kernel
theorem dX6_isSong_4 : decode cX6_isSong 4 = .ok (.aload_n 0, 1) := by decide +kernel
theorem dX6_isSong_5 : decode cX6_isSong 5 = .ok (.getfield 26, 3) := by decide +kernel
theorem dX6_isSong_8 : decode cX6_isSong 8 = .ok (.if_icmp .ne 17, 3) := by decide +kernel
theorem dX6_isSong_11 : decode cX6_isSong 11 = .ok (.aload_n 0, 1) := by decide +kernel
theorem dX6_isSong_12 : decode cX6_isSong 12 = .ok (.getfield 18, 3) := by decide +kernel
theorem dX6_isSong_15 : decode cX6_isSong 15 = .ok (.invokevirtual 41, 3) := by decide +kernel
theorem dX6_isSong_18 : decode cX6_isSong 18 = .ok (.ifCond .eq 7, 3) := by decide +kernel
theorem dX6_isSong_21 : decode cX6_isSong 21 = .ok (.iconst 1, 1) := by decide +kernel
theorem dX6_isSong_22 : decode cX6_isSong 22 = .ok (.goto 4, 3) := by decide +kernel
theorem dX6_isSong_25 : decode cX6_isSong 25 = .ok (.iconst 0, 1) := by decide +kernel
theorem dX6_isSong_26 : decode cX6_isSong 26 = .ok (.ireturn, 1) := by decide +kernel
set_option maxRecDepth 20000 in
theorem ggX6_unfold_X8_isDigit : GoodIn wsX6_unfold wsX8_isDigit := goodIn_r _ [10] (by decide +kernel) (by decide +kernel)
set_option maxRecDepth 20000 in
theorem gX6_unfold_X8_isDigit_n48 : GoodIn wsX6_unfold (wsX8_isDigit) := ggX6_unfold_X8_isDigit
set_option maxRecDepth 20000 in
theorem ggX6_unfold_X6_repeat : GoodIn wsX6_unfold wsX6_repeat := goodIn_r _ [15, 1, 16, 17, 18, 19, 14, 20, 27, 28, 29, 30, 31] (by decide +kernel) (by decide +kernel)
set_option maxRecDepth 20000 in
theorem gX6_unfold_X6_repeat : GoodIn wsX6_unfold (wsV RX6 51 RX6 yX6_repeat wsX6_repeat) := goodIn_app (goodIn_of _ (by decide +kernel)) ggX6_unfold_X6_repeat
set_option maxRecDepth 20000 in
theorem ggX6_unfold_X8_isName : GoodIn wsX6_unfold wsX8_isName := goodIn_r _ [22] (by decide +kernel) (by decide +kernel)
set_option maxRecDepth 20000 in
theorem gX6_unfold_X8_isName_n55 : GoodIn wsX6_unfold (wsX8_isName) := ggX6_unfold_X8_isName
set_option maxRecDepth 20000 in
theorem ggX6_unfold_X6_unfoldName : GoodIn wsX6_unfold wsX6_unfoldName := goodIn_r _ [26, 17, 18, 19, 14, 20, 1, 16, 27, 28, 29, 30, 31] (by decide +kernel) (by decide +kernel)
set_option maxRecDepth 20000 in
theorem gX6_unfold_X6_unfoldName : GoodIn wsX6_unfold (wsV RX6 64 RX6 yX6_unfoldName wsX6_unfoldName) := goodIn_app (goodIn_of _ (by decide +kernel)) ggX6_unfold_X6_unfoldName
theorem dX6_unfold_0 : decode cX6_unfold 0 = .ok (.iconst 0, 1) := by decide +kernel
theorem dX6_unfold_1 : decode cX6_unfold 1 = .ok (.istore_n 1, 1) := by decide +kernel
theorem dX6_unfold_2 : decode cX6_unfold 2 = .ok (.iconst 1, 1) := by decide +kernel
theorem dX6_unfold_3 : decode cX6_unfold 3 = .ok (.istore_n 2, 1) := by decide +kernel
theorem dX6_unfold_4 : decode cX6_unfold 4 = .ok (.iconst 0, 1) := by decide +kernel
theorem dX6_unfold_5 : decode cX6_unfold 5 = .ok (.istore_n 3, 1) := by decide +kernel
theorem dX6_unfold_6 : decode cX6_unfold 6 = .ok (.aload_n 0, 1) := by decide +kernel
theorem dX6_unfold_7 : decode cX6_unfold 7 = .ok (.iconst 0, 1) := by decide +kernel
theorem dX6_unfold_8 : decode cX6_unfold 8 = .ok (.putfield 45, 3) := by decide +kernel
theorem dX6_unfold_11 : decode cX6_unfold 11 = .ok (.iconst 0, 1) := by decide +kernel
theorem dX6_unfold_12 : decode cX6_unfold 12 = .ok (.istore 4, 2) := by decide +kernel
theorem dX6_unfold_14 : decode cX6_unfold 14 = .ok (.iload 4, 2) := by decide +kernel
theorem dX6_unfold_16 : decode cX6_unfold 16 = .ok (.aload_n 0, 1) := by decide +kernel
theorem dX6_unfold_17 : decode cX6_unfold 17 = .ok (.getfield 26, 3) := by decide +kernel
theorem dX6_unfold_20 : decode cX6_unfold 20 = .ok (.if_icmp .ge 99, 3) := by decide +kernel
theorem dX6_unfold_23 : decode cX6_unfold 23 = .ok (.aload_n 0, 1) := by decide +kernel
theorem dX6_unfold_24 : decode cX6_unfold 24 = .ok (.getfield 9, 3) := by decide +kernel
theorem dX6_unfold_27 : decode cX6_unfold 27 = .ok (.iload 4, 2) := by decide +kernel
theorem dX6_unfold_29 : decode cX6_unfold 29 = .ok (.caload, 1) := by decide +kernel
theorem dX6_unfold_30 : decode cX6_unfold 30 = .ok (.istore 5, 2) := by decide +kernel
theorem dX6_unfold_32 : decode cX6_unfold 32 = .ok (.iload 5, 2) := by decide +kernel
theorem dX6_unfold_34 : decode cX6_unfold 34 = .ok (.invokestatic 48, 3) := by decide +kernel
theorem dX6_unfold_37 : decode cX6_unfold 37 = .ok (.ifCond .eq 17, 3) := by decide +kernel
theorem dX6_unfold_40 : decode cX6_unfold 40 = .ok (.bipush 10, 2) := by decide +kernel
theorem dX6_unfold_42 : decode cX6_unfold 42 = .ok (.iload_n 1, 1) := by decide +kernel
theorem dX6_unfold_43 : decode cX6_unfold 43 = .ok (.imul, 1) := by decide +kernel
theorem dX6_unfold_44 : decode cX6_unfold 44 = .ok (.iload 5, 2) := by decide +kernel
theorem dX6_unfold_46 : decode cX6_unfold 46 = .ok (.bipush 48, 2) := by decide +kernel
theorem dX6_unfold_48 : decode cX6_unfold 48 = .ok (.isub, 1) := by decide +kernel
theorem dX6_unfold_49 : decode cX6_unfold 49 = .ok (.iadd, 1) := by decide +kernel
theorem dX6_unfold_50 : decode cX6_unfold 50 = .ok (.istore_n 1, 1) := by decide +kernel
theorem dX6_unfold_51 : decode cX6_unfold 51 = .ok (.goto 62, 3) := by decide +kernel
theorem dX6_unfold_54 : decode cX6_unfold 54 = .ok (.iload 5, 2) := by decide +kernel
theorem dX6_unfold_56 : decode cX6_unfold 56 = .ok (.bipush 40, 2) := by decide +kernel
theorem dX6_unfold_58 : decode cX6_unfold 58 = .ok (.if_icmp .ne 15, 3) := by decide +kernel
theorem dX6_unfold_61 : decode cX6_unfold 61 = .ok (.iload_n 1, 1) := by decide +kernel
theorem dX6_unfold_62 : decode cX6_unfold 62 = .ok (.istore_n 2, 1) := by decide +kernel
theorem dX6_unfold_63 : decode cX6_unfold 63 = .ok (.aload_n 0, 1) := by decide +kernel
theorem dX6_unfold_64 : decode cX6_unfold 64 = .ok (.getfield 45, 3) := by decide +kernel
theorem dX6_unfold_67 : decode cX6_unfold 67 = .ok (.istore_n 3, 1) := by decide +kernel
theorem dX6_unfold_68 : decode cX6_unfold 68 = .ok (.iconst 0, 1) := by decide +kernel
theorem dX6_unfold_69 : decode cX6_unfold 69 = .ok (.istore_n 1, 1) := by decide +kernel
theorem dX6_unfold_70 : decode cX6_unfold 70 = .ok (.goto 43, 3) := by decide +kernel
theorem dX6_unfold_73 : decode cX6_unfold 73 = .ok (.iload 5, 2) := by decide +kernel
theorem dX6_unfold_75 : decode cX6_unfold 75 = .ok (.bipush 41, 2) := by decide +kernel
theorem dX6_unfold_77 : decode cX6_unfold 77 = .ok (.if_icmp .ne 12, 3) := by decide +kernel
theorem dX6_unfold_80 : decode cX6_unfold 80 = .ok (.aload_n 0, 1) := by decide +kernel
theorem dX6_unfold_81 : decode cX6_unfold 81 = .ok (.iload_n 3, 1) := by decide +kernel
theorem dX6_unfold_82 : decode cX6_unfold 82 = .ok (.iload_n 2, 1) := by decide +kernel
theorem dX6_unfold_83 : decode cX6_unfold 83 = .ok (.invokevirtual 51, 3) := by decide +kernel
theorem dX6_unfold_86 : decode cX6_unfold 86 = .ok (.goto 27, 3) := by decide +kernel
theorem dX6_unfold_89 : decode cX6_unfold 89 = .ok (.iload 5, 2) := by decide +kernel
theorem dX6_unfold_91 : decode cX6_unfold 91 = .ok (.invokestatic 55, 3) := by decide +kernel
theorem dX6_unfold_94 : decode cX6_unfold 94 = .ok (.ifCond .eq 19, 3) := by decide +kernel
theorem dX6_unfold_97 : decode cX6_unfold 97 = .ok (.aload_n 0, 1) := by decide +kernel
theorem dX6_unfold_98 : decode cX6_unfold 98 = .ok (.iload 5, 2) := by decide +kernel
theorem dX6_unfold_100 : decode cX6_unfold 100 = .ok (.bipush 97, 2) := by decide +kernel
theorem dX6_unfold_102 : decode cX6_unfold 102 = .ok (.isub, 1) := by decide +kernel
theorem dX6_unfold_103 : decode cX6_unfold 103 = .ok (.iload_n 1, 1) := by decide +kernel
theorem dX6_unfold_104 : decode cX6_unfold 104 = .ok (.iconst 1, 1) := by decide +kernel
theorem dX6_unfold_105 : decode cX6_unfold 105 = .ok (.invokestatic 58, 3) := by decide +kernel
theorem dX6_unfold_108 : decode cX6_unfold 108 = .ok (.invokevirtual 64, 3) := by decide +kernel
theorem dX6_unfold_111 : decode cX6_unfold 111 = .ok (.iconst 0, 1) := by decide +kernel
theorem dX6_unfold_112 : decode cX6_unfold 112 = .ok (.istore_n 1, 1) := by decide +kernel
theorem dX6_unfold_113 : decode cX6_unfold 113 = .ok (.iinc 4 1, 3) := by decide +kernel
theorem dX6_unfold_116 : decode cX6_unfold 116 = .ok (.goto (-102), 3) := by decide +kernel
theorem dX6_unfold_119 : decode cX6_unfold 119 = .ok (.return_, 1) := by decide +kernel
set_option maxRecDepth 20000 in
theorem ggX6_unfoldName_X6_unfoldCall : GoodIn wsX6_unfoldName wsX6_unfoldCall := goodIn_r _ [5, 6, 7, 8, 9, 10, 11, 12] (by decide +kernel) (by decide +kernel)
set_option maxRecDepth 20000 in
theorem gX6_unfoldName_X6_unfoldCall : GoodIn wsX6_unfoldName (wsV RX6 67 RX6 yX6_unfoldCall wsX6_unfoldCall) := goodIn_app (goodIn_of _ (by decide +kernel)) ggX6_unfoldName_X6_unfoldCall
theorem dX6_unfoldName_0 : decode cX6_unfoldName 0 = .ok (.iconst 0, 1) := by decide +kernel
theorem dX6_unfoldName_1 : decode cX6_unfoldName 1 = .ok (.istore_n 3, 1) := by decide +kernel
theorem dX6_unfoldName_2 : decode cX6_unfoldName 2 = .ok (.iload_n 3, 1) := by decide +kernel
theorem dX6_unfoldName_3 : decode cX6_unfoldName 3 = .ok (.iload_n 2, 1) := by decide +kernel
theorem dX6_unfoldName_4 : decode cX6_unfoldName 4 = .ok (.if_icmp .ge 14, 3) := by decide +kernel
theorem dX6_unfoldName_7 : decode cX6_unfoldName 7 = .ok (.aload_n 0, 1) := by decide +kernel
theorem dX6_unfoldName_8 : decode cX6_unfoldName 8 = .ok (.iload_n 1, 1) := by decide +kernel
theorem dX6_unfoldName_9 : decode cX6_unfoldName 9 = .ok (.invokevirtual 67, 3) := by decide +kernel
theorem dX6_unfoldName_12 : decode cX6_unfoldName 12 = .ok (.iinc 3 1, 3) := by decide +kernel
theorem dX6_unfoldName_15 : decode cX6_unfoldName 15 = .ok (.goto (-13), 3) := by decide +kernel
theorem dX6_unfoldName_18 : decode cX6_unfoldName 18 = .ok (.return_, 1) := by decide +kernel
set_option maxRecDepth 20000 in
theorem ggX6_repeat_X6_unfoldCall : GoodIn wsX6_repeat wsX6_unfoldCall := goodIn_r _ [7, 1, 2, 8, 9, 10, 11, 12] (by decide +kernel) (by decide +kernel)
set_option maxRecDepth 20000 in
theorem gX6_repeat_X6_unfoldCall : GoodIn wsX6_repeat (wsV RX6 67 RX6 yX6_unfoldCall wsX6_unfoldCall) := goodIn_app (goodIn_of _ (by decide +kernel)) ggX6_repeat_X6_unfoldCall
theorem dX6_repeat_0 : decode cX6_repeat 0 = .ok (.aload_n 0, 1) := by decide +kernel
theorem dX6_repeat_1 : decode cX6_repeat 1 = .ok (.getfield 45, 3) := by decide +kernel
theorem dX6_repeat_4 : decode cX6_repeat 4 = .ok (.istore_n 3, 1) := by decide +kernel
theorem dX6_repeat_5 : decode cX6_repeat 5 = .ok (.iconst 1, 1) := by decide +kernel
theorem dX6_repeat_6 : decode cX6_repeat 6 = .ok (.istore 4, 2) := by decide +kernel
theorem dX6_repeat_8 : decode cX6_repeat 8 = .ok (.iload 4, 2) := by decide +kernel
theorem dX6_repeat_10 : decode cX6_repeat 10 = .ok (.iload_n 2, 1) := by decide +kernel
theorem dX6_repeat_11 : decode cX6_repeat 11 = .ok (.if_icmp .ge 35, 3) := by decide +kernel
theorem dX6_repeat_14 : decode cX6_repeat 14 = .ok (.iload_n 1, 1) := by decide +kernel
theorem dX6_repeat_15 : decode cX6_repeat 15 = .ok (.istore 5, 2) := by decide +kernel
theorem dX6_repeat_17 : decode cX6_repeat 17 = .ok (.iload 5, 2) := by decide +kernel
theorem dX6_repeat_19 : decode cX6_repeat 19 = .ok (.iload_n 3, 1) := by decide +kernel
theorem dX6_repeat_20 : decode cX6_repeat 20 = .ok (.if_icmp .ge 20, 3) := by decide +kernel
theorem dX6_repeat_23 : decode cX6_repeat 23 = .ok (.aload_n 0, 1) := by decide +kernel
theorem dX6_repeat_24 : decode cX6_repeat 24 = .ok (.aload_n 0, 1) := by decide +kernel
theorem dX6_repeat_25 : decode cX6_repeat 25 = .ok (.getfield 22, 3) := by decide +kernel
theorem dX6_repeat_28 : decode cX6_repeat 28 = .ok (.iload 5, 2) := by decide +kernel
theorem dX6_repeat_30 : decode cX6_repeat 30 = .ok (.iaload, 1) := by decide +kernel
theorem dX6_repeat_31 : decode cX6_repeat 31 = .ok (.invokevirtual 67, 3) := by decide +kernel
theorem dX6_repeat_34 : decode cX6_repeat 34 = .ok (.iinc 5 1, 3) := by decide +kernel
theorem dX6_repeat_37 : decode cX6_repeat 37 = .ok (.goto (-20), 3) := by decide +kernel
theorem dX6_repeat_40 : decode cX6_repeat 40 = .ok (.iinc 4 1, 3) := by decide +kernel
theorem dX6_repeat_43 : decode cX6_repeat 43 = .ok (.goto (-35), 3) := by decide +kernel
theorem dX6_repeat_46 : decode cX6_repeat 46 = .ok (.return_, 1) := by decide +kernel
theorem dX6_unfoldCall_0 : decode cX6_unfoldCall 0 = .ok (.aload_n 0, 1) := by decide +kernel
theorem dX6_unfoldCall_1 : decode cX6_unfoldCall 1 = .ok (.getfield 45, 3) := by decide +kernel
theorem dX6_unfoldCall_4 : decode cX6_unfoldCall 4 = .ok (.aload_n 0, 1) := by decide +kernel
theorem dX6_unfoldCall_5 : decode cX6_unfoldCall 5 = .ok (.getfield 22, 3) := by decide +kernel
theorem dX6_unfoldCall_8 : decode cX6_unfoldCall 8 = .ok (.arraylength, 1) := by decide +kernel
theorem dX6_unfoldCall_9 : decode cX6_unfoldCall 9 = .ok (.if_icmp .ge 23, 3) := by decide +kernel
theorem dX6_unfoldCall_12 : decode cX6_unfoldCall 12 = .ok (.aload_n 0, 1) := by decide +kernel
theorem dX6_unfoldCall_13 : decode cX6_unfoldCall 13 = .ok (.getfield 22, 3) := by decide +kernel
theorem dX6_unfoldCall_16 : decode cX6_unfoldCall 16 = .ok (.aload_n 0, 1) := by decide +kernel
theorem dX6_unfoldCall_17 : decode cX6_unfoldCall 17 = .ok (.getfield 45, 3) := by decide +kernel
theorem dX6_unfoldCall_20 : decode cX6_unfoldCall 20 = .ok (.iload_n 1, 1) := by decide +kernel
theorem dX6_unfoldCall_21 : decode cX6_unfoldCall 21 = .ok (.iastore, 1) := by decide +kernel
theorem dX6_unfoldCall_22 : decode cX6_unfoldCall 22 = .ok (.aload_n 0, 1) := by decide +kernel
theorem dX6_unfoldCall_23 : decode cX6_unfoldCall 23 = .ok (.dup, 1) := by decide +kernel
theorem dX6_unfoldCall_24 : decode cX6_unfoldCall 24 = .ok (.getfield 45, 3) := by decide +kernel
theorem dX6_unfoldCall_27 : decode cX6_unfoldCall 27 = .ok (.iconst 1, 1) := by decide +kernel
theorem dX6_unfoldCall_28 : decode cX6_unfoldCall 28 = .ok (.iadd, 1) := by decide +kernel
theorem dX6_unfoldCall_29 : decode cX6_unfoldCall 29 = .ok (.putfield 45, 3) := by decide +kernel
theorem dX6_unfoldCall_32 : decode cX6_unfoldCall 32 = .ok (.return_, 1) := by decide +kernel
set_option maxRecDepth 20000 in
theorem ggX7_init_X2_init : GoodIn wsX7_init wsX2_init := goodIn_r _ [10, 11, 2, 3, 12, 13, 14, 15, 16, 17, 18, 19, 20, 21, 22, 23, 24, 25, 26, 27, 28, 29, 30, 31, 39, 40, 41, 42, 43, 44, 32, 33, 34, 45, 46, 47, 48] (by decide +kernel) (by decide +kernel)
set_option maxRecDepth 20000 in
theorem gX7_init_X2_init_n9 : GoodIn wsX7_init (wsX2_init) := ggX7_init_X2_init
theorem dX7_init_0 : decode cX7_init 0 = .ok (.aload_n 0, 1) := by decide +kernel
theorem dX7_init_1 : decode cX7_init 1 = .ok (.invokespecial 1, 3) := by decide +kernel
theorem dX7_init_4 : decode cX7_init 4 = .ok (.aload_n 0, 1) := by decide +kernel
theorem dX7_init_5 : decode cX7_init 5 = .ok (.new 7, 3) := by decide +kernel
theorem dX7_init_8 : decode cX7_init 8 = .ok (.dup, 1) := by decide +kernel
theorem dX7_init_9 : decode cX7_init 9 = .ok (.invokespecial 9, 3) := by decide +kernel
theorem dX7_init_12 : decode cX7_init 12 = .ok (.putfield 10, 3) := by decide +kernel
theorem dX7_init_15 : decode cX7_init 15 = .ok (.aload_n 0, 1) := by decide +kernel
theorem dX7_init_16 : decode cX7_init 16 = .ok (.new 7, 3) := by decide +kernel
theorem dX7_init_19 : decode cX7_init 19 = .ok (.dup, 1) := by decide +kernel
theorem dX7_init_20 : decode cX7_init 20 = .ok (.invokespecial 9, 3) := by decide +kernel
theorem dX7_init_23 : decode cX7_init 23 = .ok (.putfield 16, 3) := by decide +kernel
theorem dX7_init_26 : decode cX7_init 26 = .ok (.return_, 1) := by decide +kernel
set_option maxRecDepth 20000 in
theorem ggX7_beginAnew_X2_beginAnew : GoodIn wsX7_beginAnew wsX2_beginAnew := goodIn_r _ [8, 9, 10, 11, 12, 13, 14, 15, 16, 17, 18, 19, 20, 21, 22, 23, 24, 25, 26, 27, 28, 29, 30, 31, 32, 33, 34, 35, 40, 41, 42, 43, 44, 45, 46, 47, 48, 49, 50, 51, 52] (by decide +kernel) (by decide +kernel)
set_option maxRecDepth 20000 in
theorem gX7_beginAnew_X2_beginAnew : GoodIn wsX7_beginAnew (wsV RX7 23 RX2 yX2_beginAnew wsX2_beginAnew) := goodIn_app (goodIn_of _ (by decide +kernel)) ggX7_beginAnew_X2_beginAnew
theorem dX7_beginAnew_0 : decode cX7_beginAnew 0 = .ok (.aload_n 0, 1) := by decide +kernel
theorem dX7_beginAnew_1 : decode cX7_beginAnew 1 = .ok (.iload_n 1, 1) := by decide +kernel
theorem dX7_beginAnew_2 : decode cX7_beginAnew 2 = .ok (.putfield 19, 3) := by decide +kernel
theorem dX7_beginAnew_5 : decode cX7_beginAnew 5 = .ok (.aload_n 0, 1) := by decide +kernel
theorem dX7_beginAnew_6 : decode cX7_beginAnew 6 = .ok (.getfield 10, 3) := by decide +kernel
theorem dX7_beginAnew_9 : decode cX7_beginAnew 9 = .ok (.iload_n 1, 1) := by decide +kernel
theorem dX7_beginAnew_10 : decode cX7_beginAnew 10 = .ok (.invokevirtual 23, 3) := by decide +kernel
theorem dX7_beginAnew_13 : decode cX7_beginAnew 13 = .ok (.aload_n 0, 1) := by decide +kernel
theorem dX7_beginAnew_14 : decode cX7_beginAnew 14 = .ok (.iconst 0, 1) := by decide +kernel
theorem dX7_beginAnew_15 : decode cX7_beginAnew 15 = .ok (.putfield 27, 3) := by decide +kernel
theorem dX7_beginAnew_18 : decode cX7_beginAnew 18 = .ok (.return_, 1) := by decide +kernel
set_option maxRecDepth 20000 in
theorem ggX7_copyFrom_X2_copyFrom : GoodIn wsX7_copyFrom wsX2_copyFrom := goodIn_r _ [9, 10, 11, 12, 13, 14, 15, 16, 17, 18, 19, 20, 21, 22, 23, 24, 25, 26, 27, 28, 29, 30, 31, 32, 33, 34, 35, 36, 37, 38, 39, 40, 41, 42, 43, 48, 49, 50, 51, 52, 53, 54, 55, 56, 57, 58, 59, 60] (by decide +kernel) (by decide +kernel)
set_option maxRecDepth 20000 in
theorem gX7_copyFrom_X2_copyFrom : GoodIn wsX7_copyFrom (wsV RX7 31 RX2 yX2_copyFrom wsX2_copyFrom) := goodIn_app (goodIn_of _ (by decide +kernel)) ggX7_copyFrom_X2_copyFrom
theorem dX7_copyFrom_0 : decode cX7_copyFrom 0 = .ok (.aload_n 0, 1) := by decide +kernel
theorem dX7_copyFrom_1 : decode cX7_copyFrom 1 = .ok (.getfield 10, 3) := by decide +kernel
theorem dX7_copyFrom_4 : decode cX7_copyFrom 4 = .ok (.aload_n 1, 1) := by decide +kernel
theorem dX7_copyFrom_5 : decode cX7_copyFrom 5 = .ok (.getfield 10, 3) := by decide +kernel
theorem dX7_copyFrom_8 : decode cX7_copyFrom 8 = .ok (.invokevirtual 31, 3) := by decide +kernel
theorem dX7_copyFrom_11 : decode cX7_copyFrom 11 = .ok (.aload_n 0, 1) := by decide +kernel
theorem dX7_copyFrom_12 : decode cX7_copyFrom 12 = .ok (.getfield 16, 3) := by decide +kernel
theorem dX7_copyFrom_15 : decode cX7_copyFrom 15 = .ok (.aload_n 1, 1) := by decide +kernel
theorem dX7_copyFrom_16 : decode cX7_copyFrom 16 = .ok (.getfield 16, 3) := by decide +kernel
theorem dX7_copyFrom_19 : decode cX7_copyFrom 19 = .ok (.invokevirtual 31, 3) := by decide +kernel
theorem dX7_copyFrom_22 : decode cX7_copyFrom 22 = .ok (.aload_n 0, 1) := by decide +kernel
theorem dX7_copyFrom_23 : decode cX7_copyFrom 23 = .ok (.aload_n 1, 1) := by decide +kernel
theorem dX7_copyFrom_24 : decode cX7_copyFrom 24 = .ok (.getfield 27, 3) := by decide +kernel
theorem dX7_copyFrom_27 : decode cX7_copyFrom 27 = .ok (.putfield 27, 3) := by decide +kernel
theorem dX7_copyFrom_30 : decode cX7_copyFrom 30 = .ok (.aload_n 0, 1) := by decide +kernel
theorem dX7_copyFrom_31 : decode cX7_copyFrom 31 = .ok (.aload_n 1, 1) := by decide +kernel
theorem dX7_copyFrom_32 : decode cX7_copyFrom 32 = .ok (.getfield 19, 3) := by decide +kernel
theorem dX7_copyFrom_35 : decode cX7_copyFrom 35 = .ok (.putfield 19, 3) := by decide +kernel
theorem dX7_copyFrom_38 : decode cX7_copyFrom 38 = .ok (.return_, 1) := by decide +kernel
set_option maxRecDepth 20000 in
theorem ggX7_ownToAside_X2_copyFrom : GoodIn wsX7_ownToAside wsX2_copyFrom := goodIn_r _ [9, 10, 11, 12, 13, 14, 15, 16, 17, 18, 19, 20, 21, 22, 23, 24, 25, 26, 27, 28, 29, 30, 31, 32, 33, 34, 35, 36, 37, 38, 39, 40, 41, 42, 43, 66, 67, 68, 69, 70, 71, 72, 73, 74, 75, 76, 77, 78] (by decide +kernel) (by decide +kernel)
set_option maxRecDepth 20000 in
theorem gX7_ownToAside_X2_copyFrom : GoodIn wsX7_ownToAside (wsV RX7 31 RX2 yX2_copyFrom wsX2_copyFrom) := goodIn_app (goodIn_of _ (by decide +kernel)) ggX7_ownToAside_X2_copyFrom
set_option maxRecDepth 20000 in
theorem ggX7_ownToAside_X2_beginAnew : GoodIn wsX7_ownToAside wsX2_beginAnew := goodIn_r _ [47, 10, 11, 12, 48, 49, 50, 16, 51, 18, 21, 22, 23, 52, 53, 54, 55, 56, 57, 58, 38, 59, 40, 41, 42, 43, 60, 61, 66, 67, 68, 69, 70, 71, 72, 73, 74, 75, 76, 77, 78] (by decide +kernel) (by decide +kernel)
set_option maxRecDepth 20000 in
theorem gX7_ownToAside_X2_beginAnew : GoodIn wsX7_ownToAside (wsV RX7 23 RX2 yX2_beginAnew wsX2_beginAnew) := goodIn_app (goodIn_of _ (by decide +kernel)) ggX7_ownToAside_X2_beginAnew
theorem dX7_ownToAside_0 : decode cX7_ownToAside 0 = .ok (.aload_n 0, 1) := by decide +kernel
theorem dX7_ownToAside_1 : decode cX7_ownToAside 1 = .ok (.getfield 16, 3) := by decide +kernel
theorem dX7_ownToAside_4 : decode cX7_ownToAside 4 = .ok (.aload_n 0, 1) := by decide +kernel
theorem dX7_ownToAside_5 : decode cX7_ownToAside 5 = .ok (.getfield 10, 3) := by decide +kernel
theorem dX7_ownToAside_8 : decode cX7_ownToAside 8 = .ok (.invokevirtual 31, 3) := by decide +kernel
theorem dX7_ownToAside_11 : decode cX7_ownToAside 11 = .ok (.aload_n 0, 1) := by decide +kernel
theorem dX7_ownToAside_12 : decode cX7_ownToAside 12 = .ok (.iconst 1, 1) := by decide +kernel
theorem dX7_ownToAside_13 : decode cX7_ownToAside 13 = .ok (.putfield 27, 3) := by decide +kernel
theorem dX7_ownToAside_16 : decode cX7_ownToAside 16 = .ok (.aload_n 0, 1) := by decide +kernel
theorem dX7_ownToAside_17 : decode cX7_ownToAside 17 = .ok (.getfield 10, 3) := by decide +kernel
theorem dX7_ownToAside_20 : decode cX7_ownToAside 20 = .ok (.aload_n 0, 1) := by decide +kernel
theorem dX7_ownToAside_21 : decode cX7_ownToAside 21 = .ok (.getfield 19, 3) := by decide +kernel
theorem dX7_ownToAside_24 : decode cX7_ownToAside 24 = .ok (.invokevirtual 23, 3) := by decide +kernel
theorem dX7_ownToAside_27 : decode cX7_ownToAside 27 = .ok (.return_, 1) := by decide +kernel
set_option maxRecDepth 20000 in
theorem ggX7_asideToOwn_X2_mergeWith : GoodIn wsX7_asideToOwn wsX2_mergeWith := goodIn_r _ [8, 9, 10, 11, 12, 13, 14, 15, 16, 17, 18, 19, 20, 21, 22, 23, 24, 25, 26, 27, 28, 29, 30, 31, 32, 33, 34, 35, 36, 37, 38, 39, 40, 41, 42, 43, 44, 45, 46, 47, 48, 49, 50, 51, 52, 53, 54, 55, 56, 57, 58, 59, 60, 61, 62, 63, 64, 65, 66, 67, 68, 69, 70, 71, 72, 73, 74, 75, 80, 81, 82, 83, 84, 85, 86, 87, 88, 89, 90, 91, 92] (by decide +kernel) (by decide +kernel)
set_option maxRecDepth 20000 in
theorem gX7_asideToOwn_X2_mergeWith : GoodIn wsX7_asideToOwn (wsV RX7 35 RX2 yX2_mergeWith wsX2_mergeWith) := goodIn_app (goodIn_of _ (by decide +kernel)) ggX7_asideToOwn_X2_mergeWith
theorem dX7_asideToOwn_0 : decode cX7_asideToOwn 0 = .ok (.aload_n 0, 1) := by decide +kernel
theorem dX7_asideToOwn_1 : decode cX7_asideToOwn 1 = .ok (.getfield 10, 3) := by decide +kernel
theorem dX7_asideToOwn_4 : decode cX7_asideToOwn 4 = .ok (.aload_n 0, 1) := by decide +kernel
theorem dX7_asideToOwn_5 : decode cX7_asideToOwn 5 = .ok (.getfield 16, 3) := by decide +kernel
theorem dX7_asideToOwn_8 : decode cX7_asideToOwn 8 = .ok (.invokevirtual 35, 3) := by decide +kernel
theorem dX7_asideToOwn_11 : decode cX7_asideToOwn 11 = .ok (.aload_n 0, 1) := by decide +kernel
theorem dX7_asideToOwn_12 : decode cX7_asideToOwn 12 = .ok (.iconst 0, 1) := by decide +kernel
theorem dX7_asideToOwn_13 : decode cX7_asideToOwn 13 = .ok (.putfield 27, 3) := by decide +kernel
theorem dX7_asideToOwn_16 : decode cX7_asideToOwn 16 = .ok (.return_, 1) := by decide +kernel
