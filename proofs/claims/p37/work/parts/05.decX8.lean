set_option maxRecDepth 20000 in
theorem ggX8_init_X7_init : GoodIn wsX8_init wsX7_init := goodIn_r _ [17, 18, 2, 3, 19, 20, 21, 22, 23, 24, 25, 26, 27, 28, 29, 30, 31, 32, 33, 34, 35, 36, 37, 38, 39, 40, 41, 42, 43, 44, 45, 46, 111, 112, 113, 96, 97, 98, 99, 114, 115, 116, 117, 118, 119, 120, 121, 122, 123] (by decide +kernel) (by decide +kernel)
set_option maxRecDepth 20000 in
theorem gX8_init_X7_init_n9 : GoodIn wsX8_init (wsX7_init) := ggX8_init_X7_init
set_option maxRecDepth 20000 in
theorem ggX8_init_X1_init : GoodIn wsX8_init wsX1_init := goodIn_r _ [49, 50, 2, 3, 51, 52, 5, 6, 16, 17, 18, 19, 20, 21, 22, 23, 24, 25, 26, 27, 28, 29, 30, 31, 32, 33, 34, 35, 36, 37, 38, 39, 40, 41, 42, 43, 44, 45, 46, 103, 104, 105, 96, 97, 98, 99, 111, 112, 113, 114, 115, 116, 117, 118, 119, 120, 121, 122, 123] (by decide +kernel) (by decide +kernel)
set_option maxRecDepth 20000 in
theorem gX8_init_X1_init : GoodIn wsX8_init (wsX1_init) := ggX8_init_X1_init
set_option maxRecDepth 20000 in
theorem ggX8_init_X6_init : GoodIn wsX8_init wsX6_init := goodIn_r _ [54, 55, 2, 3, 56, 57, 58, 59, 60, 61, 35, 62, 63, 64, 65, 106, 107, 108, 109, 110, 124, 125, 126, 127, 128] (by decide +kernel) (by decide +kernel)
set_option maxRecDepth 20000 in
theorem gX8_init_X6_init_n25 : GoodIn wsX8_init (wsX6_init) := ggX8_init_X6_init
set_option maxRecDepth 20000 in
theorem ggX8_init_X7_beginAnew : GoodIn wsX8_init wsX7_beginAnew := goodIn_r _ [69, 70, 22, 71, 72, 73, 74, 21, 75, 30, 34, 36, 76, 77, 78, 29, 79, 40, 80, 81, 82, 83, 84, 85, 86, 87, 88, 89, 33, 90, 46, 91, 92, 93, 94, 95, 96, 97, 98, 99, 111, 112, 113, 114, 115, 116, 117, 118, 119, 120, 121, 122, 123] (by decide +kernel) (by decide +kernel)
set_option maxRecDepth 20000 in
theorem gX8_init_X7_beginAnew : GoodIn wsX8_init (wsV RX8 30 RX7 yX7_beginAnew wsX7_beginAnew) := goodIn_app (goodIn_of _ (by decide +kernel)) ggX8_init_X7_beginAnew
theorem dX8_init_0 : decode cX8_init 0 = .ok (.aload_n 0, 1) := by decide +kernel
theorem dX8_init_1 : decode cX8_init 1 = .ok (.invokespecial 1, 3) := by decide +kernel
theorem dX8_init_4 : decode cX8_init 4 = .ok (.aload_n 0, 1) := by decide +kernel
theorem dX8_init_5 : decode cX8_init 5 = .ok (.new 7, 3) := by decide +kernel
theorem dX8_init_8 : decode cX8_init 8 = .ok (.dup, 1) := by decide +kernel
theorem dX8_init_9 : decode cX8_init 9 = .ok (.invokespecial 9, 3) := by decide +kernel
theorem dX8_init_12 : decode cX8_init 12 = .ok (.putfield 10, 3) := by decide +kernel
theorem dX8_init_15 : decode cX8_init 15 = .ok (.aload_n 0, 1) := by decide +kernel
theorem dX8_init_16 : decode cX8_init 16 = .ok (.new 16, 3) := by decide +kernel
theorem dX8_init_19 : decode cX8_init 19 = .ok (.dup, 1) := by decide +kernel
theorem dX8_init_20 : decode cX8_init 20 = .ok (.invokespecial 18, 3) := by decide +kernel
theorem dX8_init_23 : decode cX8_init 23 = .ok (.putfield 19, 3) := by decide +kernel
theorem dX8_init_26 : decode cX8_init 26 = .ok (.aload_n 0, 1) := by decide +kernel
theorem dX8_init_27 : decode cX8_init 27 = .ok (.new 23, 3) := by decide +kernel
theorem dX8_init_30 : decode cX8_init 30 = .ok (.dup, 1) := by decide +kernel
theorem dX8_init_31 : decode cX8_init 31 = .ok (.invokespecial 25, 3) := by decide +kernel
theorem dX8_init_34 : decode cX8_init 34 = .ok (.putfield 26, 3) := by decide +kernel
theorem dX8_init_37 : decode cX8_init 37 = .ok (.aload_n 0, 1) := by decide +kernel
theorem dX8_init_38 : decode cX8_init 38 = .ok (.getfield 10, 3) := by decide +kernel
theorem dX8_init_41 : decode cX8_init 41 = .ok (.iconst 4, 1) := by decide +kernel
theorem dX8_init_42 : decode cX8_init 42 = .ok (.invokevirtual 30, 3) := by decide +kernel
theorem dX8_init_45 : decode cX8_init 45 = .ok (.return_, 1) := by decide +kernel
set_option maxRecDepth 20000 in
theorem ggX8_hear_X8_requireParrot : GoodIn wsX8_hear wsX8_requireParrot := goodIn_ca (goodIn_r _ [8, 9, 10] (by decide +kernel) (by decide +kernel)) (goodIn_sub (fun _ h => List.mem_cons_of_mem _ (List.mem_append_left _ (List.mem_append_right _ h))) (by decide +kernel))
set_option maxRecDepth 20000 in
theorem gX8_hear_X8_requireParrot : GoodIn wsX8_hear (va_wsS RX8 34 yX8_requireParrot wsX8_requireParrot) := goodIn_app (goodIn_of _ (by decide +kernel)) ggX8_hear_X8_requireParrot
set_option maxRecDepth 20000 in
theorem ggX8_hear_X2_sumOfCalls : GoodIn wsX8_hear wsX2_sumOfCalls := goodIn_r _ [15, 16, 17, 7, 18, 135, 136, 137] (by decide +kernel) (by decide +kernel)
set_option maxRecDepth 20000 in
theorem gX8_hear_X2_sumOfCalls : GoodIn wsX8_hear (wsV RX8 41 RX2 yX2_sumOfCalls wsX2_sumOfCalls) := goodIn_app (goodIn_of _ (by decide +kernel)) ggX8_hear_X2_sumOfCalls
set_option maxRecDepth 20000 in
theorem ggX8_hear_X8_requireFewCalls : GoodIn wsX8_hear wsX8_requireFewCalls := goodIn_ca (goodIn_r _ [21, 22, 23, 24] (by decide +kernel) (by decide +kernel)) (goodIn_sub (fun _ h => List.mem_cons_of_mem _ (List.mem_append_right _ h)) (by decide +kernel))
set_option maxRecDepth 20000 in
theorem gX8_hear_X8_requireFewCalls : GoodIn wsX8_hear (va_wsS RX8 47 yX8_requireFewCalls wsX8_requireFewCalls) := goodIn_app (goodIn_of _ (by decide +kernel)) ggX8_hear_X8_requireFewCalls
set_option maxRecDepth 20000 in
theorem ggX8_hear_X1_record : GoodIn wsX8_hear wsX1_record := goodIn_r _ [29, 30, 31, 32, 33, 34, 35, 36, 37, 38, 39, 40, 41, 42, 43, 44, 45, 46, 47, 48, 14, 49, 50, 51, 16, 52, 53, 54, 55, 56, 57, 58, 59, 60, 61, 62, 63, 7, 64, 65, 66, 67, 68, 69, 70, 71, 72, 73, 74, 75, 76, 77, 78, 138, 139, 140, 131, 132, 133, 134, 135, 136, 137, 141, 142, 143, 144, 145, 146, 147, 148, 149, 150] (by decide +kernel) (by decide +kernel)
set_option maxRecDepth 20000 in
theorem gX8_hear_X1_record : GoodIn wsX8_hear (wsV RX8 50 RX1 yX1_record wsX1_record) := goodIn_app (goodIn_of _ (by decide +kernel)) ggX8_hear_X1_record
set_option maxRecDepth 20000 in
theorem ggX8_hear_X2_take : GoodIn wsX8_hear wsX2_take := goodIn_r _ [82, 50, 51, 16, 83, 84, 85, 55, 86, 57, 60, 59, 87, 88, 89, 90, 58, 61, 91, 92, 93, 94, 95, 96, 97, 98, 99, 100, 101, 102, 103, 104, 105, 106, 62, 107, 108, 109, 110, 111, 112, 113, 73, 114, 75, 77, 78, 115, 116, 117, 118, 119, 120, 35, 121, 76, 122, 7, 123, 135, 136, 137, 141, 142, 143, 144, 145, 146, 147, 148, 149, 150] (by decide +kernel) (by decide +kernel)
set_option maxRecDepth 20000 in
theorem gX8_hear_X2_take : GoodIn wsX8_hear (wsV RX8 54 RX2 yX2_take wsX2_take) := goodIn_app (goodIn_of _ (by decide +kernel)) ggX8_hear_X2_take
set_option maxRecDepth 20000 in
theorem ggX8_hear_X0_estimateOf : GoodIn wsX8_hear wsX0_estimateOf := goodIn_r _ [127, 57, 91, 92, 93, 55, 94, 95, 96, 97, 98, 99, 100, 101, 102, 59, 103, 104, 105, 106, 61, 62, 141, 142, 143, 144, 145, 146] (by decide +kernel) (by decide +kernel)
set_option maxRecDepth 20000 in
theorem gX8_hear_X0_estimateOf : GoodIn wsX8_hear (wsV RX8 61 RX0 yX0_estimateOf wsX0_estimateOf) := goodIn_app (goodIn_of _ (by decide +kernel)) ggX8_hear_X0_estimateOf
theorem dX8_hear_0 : decode cX8_hear 0 = .ok (.iload_n 1, 1) := by decide +kernel
theorem dX8_hear_1 : decode cX8_hear 1 = .ok (.invokestatic 34, 3) := by decide +kernel
theorem dX8_hear_4 : decode cX8_hear 4 = .ok (.aload_n 0, 1) := by decide +kernel
theorem dX8_hear_5 : decode cX8_hear 5 = .ok (.getfield 10, 3) := by decide +kernel
theorem dX8_hear_8 : decode cX8_hear 8 = .ok (.getfield 37, 3) := by decide +kernel
theorem dX8_hear_11 : decode cX8_hear 11 = .ok (.invokevirtual 41, 3) := by decide +kernel
theorem dX8_hear_14 : decode cX8_hear 14 = .ok (.iconst 1, 1) := by decide +kernel
theorem dX8_hear_15 : decode cX8_hear 15 = .ok (.iadd, 1) := by decide +kernel
theorem dX8_hear_16 : decode cX8_hear 16 = .ok (.invokestatic 47, 3) := by decide +kernel
theorem dX8_hear_19 : decode cX8_hear 19 = .ok (.aload_n 0, 1) := by decide +kernel
theorem dX8_hear_20 : decode cX8_hear 20 = .ok (.getfield 19, 3) := by decide +kernel
theorem dX8_hear_23 : decode cX8_hear 23 = .ok (.aload_n 0, 1) := by decide +kernel
theorem dX8_hear_24 : decode cX8_hear 24 = .ok (.getfield 10, 3) := by decide +kernel
theorem dX8_hear_27 : decode cX8_hear 27 = .ok (.invokevirtual 50, 3) := by decide +kernel
theorem dX8_hear_30 : decode cX8_hear 30 = .ok (.aload_n 0, 1) := by decide +kernel
theorem dX8_hear_31 : decode cX8_hear 31 = .ok (.getfield 10, 3) := by decide +kernel
theorem dX8_hear_34 : decode cX8_hear 34 = .ok (.getfield 37, 3) := by decide +kernel
theorem dX8_hear_37 : decode cX8_hear 37 = .ok (.iload_n 1, 1) := by decide +kernel
theorem dX8_hear_38 : decode cX8_hear 38 = .ok (.invokevirtual 54, 3) := by decide +kernel
theorem dX8_hear_41 : decode cX8_hear 41 = .ok (.aload_n 0, 1) := by decide +kernel
theorem dX8_hear_42 : decode cX8_hear 42 = .ok (.getfield 10, 3) := by decide +kernel
theorem dX8_hear_45 : decode cX8_hear 45 = .ok (.getfield 37, 3) := by decide +kernel
theorem dX8_hear_48 : decode cX8_hear 48 = .ok (.getfield 57, 3) := by decide +kernel
theorem dX8_hear_51 : decode cX8_hear 51 = .ok (.iload_n 1, 1) := by decide +kernel
theorem dX8_hear_52 : decode cX8_hear 52 = .ok (.invokevirtual 61, 3) := by decide +kernel
theorem dX8_hear_55 : decode cX8_hear 55 = .ok (.ireturn, 1) := by decide +kernel
set_option maxRecDepth 20000 in
theorem ggX8_hearSong_X8_requireSong : GoodIn wsX8_hearSong wsX8_requireSong := goodIn_ca (goodIn_r _ [13, 14, 15, 6, 16, 17, 18, 19, 20, 21, 22, 23, 24, 25, 26, 27, 28, 29, 30, 31, 32, 33, 34, 35, 36, 37, 38, 39, 40, 41, 42, 43, 44, 12, 45, 46, 47, 48, 49, 50, 51, 52, 53, 54, 55, 56, 57, 58, 59, 60, 61, 62, 63, 64, 65, 66, 67, 68, 69, 70, 71, 199, 200, 201, 206, 207, 208, 209, 210, 211, 212, 213, 214, 215] (by decide +kernel) (by decide +kernel)) (goodIn_sub (fun _ h => List.mem_cons_of_mem _ (List.mem_append_right _ h)) (by decide +kernel))
set_option maxRecDepth 20000 in
theorem gX8_hearSong_X8_requireSong : GoodIn wsX8_hearSong (wsV RX8 67 RX8 yX8_requireSong wsX8_requireSong) := goodIn_app (goodIn_of _ (by decide +kernel)) ggX8_hearSong_X8_requireSong
set_option maxRecDepth 20000 in
theorem ggX8_hearSong_X2_sumOfCalls : GoodIn wsX8_hearSong wsX2_sumOfCalls := goodIn_r _ [76, 77, 78, 12, 79, 216, 217, 218] (by decide +kernel) (by decide +kernel)
set_option maxRecDepth 20000 in
theorem gX8_hearSong_X2_sumOfCalls : GoodIn wsX8_hearSong (wsV RX8 41 RX2 yX2_sumOfCalls wsX2_sumOfCalls) := goodIn_app (goodIn_of _ (by decide +kernel)) ggX8_hearSong_X2_sumOfCalls
set_option maxRecDepth 20000 in
theorem ggX8_hearSong_X8_requireFewCalls : GoodIn wsX8_hearSong wsX8_requireFewCalls := goodIn_ca (goodIn_r _ [82, 1, 2, 83] (by decide +kernel) (by decide +kernel)) (goodIn_sub (fun _ h => List.mem_cons_of_mem _ (List.mem_append_left _ (List.mem_append_right _ h))) (by decide +kernel))
set_option maxRecDepth 20000 in
theorem gX8_hearSong_X8_requireFewCalls : GoodIn wsX8_hearSong (va_wsS RX8 47 yX8_requireFewCalls wsX8_requireFewCalls) := goodIn_app (goodIn_of _ (by decide +kernel)) ggX8_hearSong_X8_requireFewCalls
set_option maxRecDepth 20000 in
theorem ggX8_hearSong_X1_record : GoodIn wsX8_hearSong wsX1_record := goodIn_r _ [88, 89, 90, 91, 92, 93, 58, 94, 95, 96, 97, 98, 99, 100, 101, 102, 103, 104, 105, 106, 75, 107, 108, 109, 77, 110, 111, 112, 113, 114, 115, 116, 117, 118, 119, 120, 121, 12, 122, 123, 124, 125, 126, 127, 128, 129, 130, 131, 132, 133, 134, 135, 136, 219, 220, 221, 202, 203, 204, 205, 216, 217, 218, 222, 223, 224, 225, 226, 227, 228, 229, 230, 231] (by decide +kernel) (by decide +kernel)
set_option maxRecDepth 20000 in
theorem gX8_hearSong_X1_record : GoodIn wsX8_hearSong (wsV RX8 50 RX1 yX1_record wsX1_record) := goodIn_app (goodIn_of _ (by decide +kernel)) ggX8_hearSong_X1_record
set_option maxRecDepth 20000 in
theorem ggX8_hearSong_X6_unfold : GoodIn wsX8_hearSong wsX6_unfold := goodIn_r _ [140, 141, 23, 29, 142, 57, 58, 59, 44, 12, 45, 143, 144, 145, 21, 146, 147, 148, 149, 150, 151, 50, 51, 152, 153, 154, 155, 206, 207, 208, 209, 210] (by decide +kernel) (by decide +kernel)
set_option maxRecDepth 20000 in
theorem gX8_hearSong_X6_unfold : GoodIn wsX8_hearSong (wsV RX8 77 RX6 yX6_unfold wsX6_unfold) := goodIn_app (goodIn_of _ (by decide +kernel)) ggX8_hearSong_X6_unfold
set_option maxRecDepth 20000 in
theorem ggX8_hearSong_X2_take : GoodIn wsX8_hearSong wsX2_take := goodIn_r _ [159, 108, 109, 77, 160, 161, 162, 113, 163, 115, 118, 117, 164, 165, 166, 167, 116, 119, 168, 169, 170, 171, 172, 173, 174, 175, 176, 177, 178, 179, 180, 181, 182, 183, 120, 184, 185, 186, 187, 188, 189, 190, 131, 191, 133, 135, 136, 192, 193, 194, 195, 196, 57, 58, 59, 134, 197, 12, 198, 216, 217, 218, 222, 223, 224, 225, 226, 227, 228, 229, 230, 231] (by decide +kernel) (by decide +kernel)
set_option maxRecDepth 20000 in
theorem gX8_hearSong_X2_take : GoodIn wsX8_hearSong (wsV RX8 54 RX2 yX2_take wsX2_take) := goodIn_app (goodIn_of _ (by decide +kernel)) ggX8_hearSong_X2_take
theorem dX8_hearSong_0 : decode cX8_hearSong 0 = .ok (.aload_n 0, 1) := by decide +kernel
theorem dX8_hearSong_1 : decode cX8_hearSong 1 = .ok (.invokevirtual 67, 3) := by decide +kernel
theorem dX8_hearSong_4 : decode cX8_hearSong 4 = .ok (.istore_n 1, 1) := by decide +kernel
theorem dX8_hearSong_5 : decode cX8_hearSong 5 = .ok (.iload_n 1, 1) := by decide +kernel
theorem dX8_hearSong_6 : decode cX8_hearSong 6 = .ok (.sipush 1000, 3) := by decide +kernel
theorem dX8_hearSong_9 : decode cX8_hearSong 9 = .ok (.if_icmp .le 13, 3) := by decide +kernel
theorem dX8_hearSong_12 : decode cX8_hearSong 12 = .ok (.new 70, 3) := by decide +kernel
theorem dX8_hearSong_15 : decode cX8_hearSong 15 = .ok (.dup, 1) := by decide +kernel
theorem dX8_hearSong_16 : decode cX8_hearSong 16 = .ok (.ldc 72, 2) := by decide +kernel
theorem dX8_hearSong_18 : decode cX8_hearSong 18 = .ok (.invokespecial 74, 3) := by decide +kernel
theorem dX8_hearSong_21 : decode cX8_hearSong 21 = .ok (.athrow, 1) := by decide +kernel
theorem dX8_hearSong_22 : decode cX8_hearSong 22 = .ok (.aload_n 0, 1) := by decide +kernel
theorem dX8_hearSong_23 : decode cX8_hearSong 23 = .ok (.getfield 10, 3) := by decide +kernel
theorem dX8_hearSong_26 : decode cX8_hearSong 26 = .ok (.getfield 37, 3) := by decide +kernel
theorem dX8_hearSong_29 : decode cX8_hearSong 29 = .ok (.invokevirtual 41, 3) := by decide +kernel
theorem dX8_hearSong_32 : decode cX8_hearSong 32 = .ok (.iload_n 1, 1) := by decide +kernel
theorem dX8_hearSong_33 : decode cX8_hearSong 33 = .ok (.iadd, 1) := by decide +kernel
theorem dX8_hearSong_34 : decode cX8_hearSong 34 = .ok (.invokestatic 47, 3) := by decide +kernel
theorem dX8_hearSong_37 : decode cX8_hearSong 37 = .ok (.aload_n 0, 1) := by decide +kernel
theorem dX8_hearSong_38 : decode cX8_hearSong 38 = .ok (.getfield 19, 3) := by decide +kernel
theorem dX8_hearSong_41 : decode cX8_hearSong 41 = .ok (.aload_n 0, 1) := by decide +kernel
theorem dX8_hearSong_42 : decode cX8_hearSong 42 = .ok (.getfield 10, 3) := by decide +kernel
theorem dX8_hearSong_45 : decode cX8_hearSong 45 = .ok (.invokevirtual 50, 3) := by decide +kernel
theorem dX8_hearSong_48 : decode cX8_hearSong 48 = .ok (.aload_n 0, 1) := by decide +kernel
theorem dX8_hearSong_49 : decode cX8_hearSong 49 = .ok (.getfield 26, 3) := by decide +kernel
theorem dX8_hearSong_52 : decode cX8_hearSong 52 = .ok (.invokevirtual 77, 3) := by decide +kernel
theorem dX8_hearSong_55 : decode cX8_hearSong 55 = .ok (.iconst 0, 1) := by decide +kernel
theorem dX8_hearSong_56 : decode cX8_hearSong 56 = .ok (.istore_n 2, 1) := by decide +kernel
theorem dX8_hearSong_57 : decode cX8_hearSong 57 = .ok (.iload_n 2, 1) := by decide +kernel
theorem dX8_hearSong_58 : decode cX8_hearSong 58 = .ok (.aload_n 0, 1) := by decide +kernel
theorem dX8_hearSong_59 : decode cX8_hearSong 59 = .ok (.getfield 26, 3) := by decide +kernel
theorem dX8_hearSong_62 : decode cX8_hearSong 62 = .ok (.getfield 80, 3) := by decide +kernel
theorem dX8_hearSong_65 : decode cX8_hearSong 65 = .ok (.if_icmp .ge 28, 3) := by decide +kernel
theorem dX8_hearSong_68 : decode cX8_hearSong 68 = .ok (.aload_n 0, 1) := by decide +kernel
theorem dX8_hearSong_69 : decode cX8_hearSong 69 = .ok (.getfield 10, 3) := by decide +kernel
theorem dX8_hearSong_72 : decode cX8_hearSong 72 = .ok (.getfield 37, 3) := by decide +kernel
theorem dX8_hearSong_75 : decode cX8_hearSong 75 = .ok (.aload_n 0, 1) := by decide +kernel
theorem dX8_hearSong_76 : decode cX8_hearSong 76 = .ok (.getfield 26, 3) := by decide +kernel
theorem dX8_hearSong_79 : decode cX8_hearSong 79 = .ok (.getfield 84, 3) := by decide +kernel
theorem dX8_hearSong_82 : decode cX8_hearSong 82 = .ok (.iload_n 2, 1) := by decide +kernel
theorem dX8_hearSong_83 : decode cX8_hearSong 83 = .ok (.iaload, 1) := by decide +kernel
theorem dX8_hearSong_84 : decode cX8_hearSong 84 = .ok (.invokevirtual 54, 3) := by decide +kernel
theorem dX8_hearSong_87 : decode cX8_hearSong 87 = .ok (.iinc 2 1, 3) := by decide +kernel
theorem dX8_hearSong_90 : decode cX8_hearSong 90 = .ok (.goto (-33), 3) := by decide +kernel
theorem dX8_hearSong_93 : decode cX8_hearSong 93 = .ok (.aload_n 0, 1) := by decide +kernel
theorem dX8_hearSong_94 : decode cX8_hearSong 94 = .ok (.getfield 10, 3) := by decide +kernel
theorem dX8_hearSong_97 : decode cX8_hearSong 97 = .ok (.getfield 37, 3) := by decide +kernel
theorem dX8_hearSong_100 : decode cX8_hearSong 100 = .ok (.invokevirtual 41, 3) := by decide +kernel
theorem dX8_hearSong_103 : decode cX8_hearSong 103 = .ok (.ireturn, 1) := by decide +kernel
set_option maxRecDepth 20000 in
theorem ggX8_empty_X1_record : GoodIn wsX8_empty wsX1_record := goodIn_r _ [10, 11, 12, 13, 14, 15, 16, 17, 18, 19, 20, 21, 22, 23, 24, 25, 26, 27, 28, 29, 30, 31, 32, 33, 34, 35, 36, 37, 38, 39, 40, 41, 42, 43, 44, 45, 46, 47, 48, 49, 50, 51, 52, 53, 54, 55, 56, 57, 58, 59, 60, 61, 62, 92, 93, 94, 88, 89, 90, 91, 95, 96, 97, 98, 99, 100, 101, 102, 103, 104, 105, 106, 107] (by decide +kernel) (by decide +kernel)
set_option maxRecDepth 20000 in
theorem gX8_empty_X1_record : GoodIn wsX8_empty (wsV RX8 50 RX1 yX1_record wsX1_record) := goodIn_app (goodIn_of _ (by decide +kernel)) ggX8_empty_X1_record
set_option maxRecDepth 20000 in
theorem ggX8_empty_X7_beginAnew : GoodIn wsX8_empty wsX7_beginAnew := goodIn_r _ [66, 26, 23, 25, 67, 68, 69, 30, 70, 32, 33, 34, 71, 72, 73, 38, 74, 40, 43, 44, 45, 75, 76, 77, 78, 79, 80, 81, 57, 82, 59, 60, 61, 62, 83, 84, 88, 89, 90, 91, 95, 96, 97, 98, 99, 100, 101, 102, 103, 104, 105, 106, 107] (by decide +kernel) (by decide +kernel)
set_option maxRecDepth 20000 in
theorem gX8_empty_X7_beginAnew : GoodIn wsX8_empty (wsV RX8 30 RX7 yX7_beginAnew wsX7_beginAnew) := goodIn_app (goodIn_of _ (by decide +kernel)) ggX8_empty_X7_beginAnew
theorem dX8_empty_0 : decode cX8_empty 0 = .ok (.iload_n 1, 1) := by decide +kernel
theorem dX8_empty_1 : decode cX8_empty 1 = .ok (.iconst 1, 1) := by decide +kernel
theorem dX8_empty_2 : decode cX8_empty 2 = .ok (.if_icmp .lt 9, 3) := by decide +kernel
theorem dX8_empty_5 : decode cX8_empty 5 = .ok (.iload_n 1, 1) := by decide +kernel
theorem dX8_empty_6 : decode cX8_empty 6 = .ok (.bipush 9, 2) := by decide +kernel
theorem dX8_empty_8 : decode cX8_empty 8 = .ok (.if_icmp .le 13, 3) := by decide +kernel
theorem dX8_empty_11 : decode cX8_empty 11 = .ok (.new 88, 3) := by decide +kernel
theorem dX8_empty_14 : decode cX8_empty 14 = .ok (.dup, 1) := by decide +kernel
theorem dX8_empty_15 : decode cX8_empty 15 = .ok (.ldc 90, 2) := by decide +kernel
theorem dX8_empty_17 : decode cX8_empty 17 = .ok (.invokespecial 92, 3) := by decide +kernel
theorem dX8_empty_20 : decode cX8_empty 20 = .ok (.athrow, 1) := by decide +kernel
theorem dX8_empty_21 : decode cX8_empty 21 = .ok (.aload_n 0, 1) := by decide +kernel
theorem dX8_empty_22 : decode cX8_empty 22 = .ok (.getfield 19, 3) := by decide +kernel
theorem dX8_empty_25 : decode cX8_empty 25 = .ok (.aload_n 0, 1) := by decide +kernel
theorem dX8_empty_26 : decode cX8_empty 26 = .ok (.getfield 10, 3) := by decide +kernel
theorem dX8_empty_29 : decode cX8_empty 29 = .ok (.invokevirtual 50, 3) := by decide +kernel
theorem dX8_empty_32 : decode cX8_empty 32 = .ok (.aload_n 0, 1) := by decide +kernel
theorem dX8_empty_33 : decode cX8_empty 33 = .ok (.getfield 10, 3) := by decide +kernel
theorem dX8_empty_36 : decode cX8_empty 36 = .ok (.getfield 93, 3) := by decide +kernel
theorem dX8_empty_39 : decode cX8_empty 39 = .ok (.istore_n 2, 1) := by decide +kernel
theorem dX8_empty_40 : decode cX8_empty 40 = .ok (.aload_n 0, 1) := by decide +kernel
theorem dX8_empty_41 : decode cX8_empty 41 = .ok (.getfield 10, 3) := by decide +kernel
theorem dX8_empty_44 : decode cX8_empty 44 = .ok (.iload_n 1, 1) := by decide +kernel
theorem dX8_empty_45 : decode cX8_empty 45 = .ok (.invokevirtual 30, 3) := by decide +kernel
theorem dX8_empty_48 : decode cX8_empty 48 = .ok (.iload_n 2, 1) := by decide +kernel
theorem dX8_empty_49 : decode cX8_empty 49 = .ok (.ireturn, 1) := by decide +kernel
set_option maxRecDepth 20000 in
theorem ggX8_putAside_X1_record : GoodIn wsX8_putAside wsX1_record := goodIn_r _ [8, 9, 10, 11, 12, 13, 14, 15, 16, 17, 18, 19, 20, 21, 22, 23, 24, 25, 26, 27, 28, 29, 30, 31, 32, 33, 34, 35, 36, 37, 38, 39, 40, 41, 42, 43, 44, 45, 46, 47, 48, 49, 50, 51, 52, 53, 54, 55, 56, 57, 58, 59, 60, 96, 97, 98, 92, 93, 94, 95, 99, 100, 101, 102, 103, 104, 105, 106, 107, 108, 109, 110, 111] (by decide +kernel) (by decide +kernel)
set_option maxRecDepth 20000 in
theorem gX8_putAside_X1_record : GoodIn wsX8_putAside (wsV RX8 50 RX1 yX1_record wsX1_record) := goodIn_app (goodIn_of _ (by decide +kernel)) ggX8_putAside_X1_record
set_option maxRecDepth 20000 in
theorem ggX8_putAside_X7_ownToAside : GoodIn wsX8_putAside wsX7_ownToAside := goodIn_r _ [64, 22, 21, 23, 24, 25, 26, 27, 28, 29, 30, 31, 32, 33, 34, 35, 36, 37, 38, 39, 40, 41, 42, 43, 44, 45, 46, 47, 13, 14, 15, 48, 49, 50, 51, 52, 53, 54, 55, 56, 57, 58, 59, 60, 65, 66, 67, 68, 69, 70, 71, 72, 73, 74, 75, 76, 77, 78, 79, 80, 81, 82, 92, 93, 94, 95, 99, 100, 101, 102, 103, 104, 105, 106, 107, 108, 109, 110, 111] (by decide +kernel) (by decide +kernel)
set_option maxRecDepth 20000 in
theorem gX8_putAside_X7_ownToAside : GoodIn wsX8_putAside (wsV RX8 96 RX7 yX7_ownToAside wsX7_ownToAside) := goodIn_app (goodIn_of _ (by decide +kernel)) ggX8_putAside_X7_ownToAside
set_option maxRecDepth 20000 in
theorem ggX8_putAside_X2_sumOfCalls : GoodIn wsX8_putAside wsX2_sumOfCalls := goodIn_r _ [86, 32, 87, 45, 88, 99, 100, 101] (by decide +kernel) (by decide +kernel)
set_option maxRecDepth 20000 in
theorem gX8_putAside_X2_sumOfCalls : GoodIn wsX8_putAside (wsV RX8 41 RX2 yX2_sumOfCalls wsX2_sumOfCalls) := goodIn_app (goodIn_of _ (by decide +kernel)) ggX8_putAside_X2_sumOfCalls
theorem dX8_putAside_0 : decode cX8_putAside 0 = .ok (.aload_n 0, 1) := by decide +kernel
theorem dX8_putAside_1 : decode cX8_putAside 1 = .ok (.getfield 19, 3) := by decide +kernel
theorem dX8_putAside_4 : decode cX8_putAside 4 = .ok (.aload_n 0, 1) := by decide +kernel
theorem dX8_putAside_5 : decode cX8_putAside 5 = .ok (.getfield 10, 3) := by decide +kernel
theorem dX8_putAside_8 : decode cX8_putAside 8 = .ok (.invokevirtual 50, 3) := by decide +kernel
theorem dX8_putAside_11 : decode cX8_putAside 11 = .ok (.aload_n 0, 1) := by decide +kernel
theorem dX8_putAside_12 : decode cX8_putAside 12 = .ok (.getfield 10, 3) := by decide +kernel
theorem dX8_putAside_15 : decode cX8_putAside 15 = .ok (.invokevirtual 96, 3) := by decide +kernel
theorem dX8_putAside_18 : decode cX8_putAside 18 = .ok (.aload_n 0, 1) := by decide +kernel
theorem dX8_putAside_19 : decode cX8_putAside 19 = .ok (.getfield 10, 3) := by decide +kernel
theorem dX8_putAside_22 : decode cX8_putAside 22 = .ok (.getfield 99, 3) := by decide +kernel
theorem dX8_putAside_25 : decode cX8_putAside 25 = .ok (.invokevirtual 41, 3) := by decide +kernel
theorem dX8_putAside_28 : decode cX8_putAside 28 = .ok (.ireturn, 1) := by decide +kernel
set_option maxRecDepth 20000 in
theorem ggX8_mergeIn_X2_sumOfCalls : GoodIn wsX8_mergeIn wsX2_sumOfCalls := goodIn_r _ [12, 13, 14, 15, 16, 140, 141, 142] (by decide +kernel) (by decide +kernel)
set_option maxRecDepth 20000 in
theorem gX8_mergeIn_X2_sumOfCalls : GoodIn wsX8_mergeIn (wsV RX8 41 RX2 yX2_sumOfCalls wsX2_sumOfCalls) := goodIn_app (goodIn_of _ (by decide +kernel)) ggX8_mergeIn_X2_sumOfCalls
set_option maxRecDepth 20000 in
theorem ggX8_mergeIn_X8_requireFewCalls : GoodIn wsX8_mergeIn wsX8_requireFewCalls := goodIn_ca (goodIn_r _ [19, 1, 2, 20] (by decide +kernel) (by decide +kernel)) (goodIn_sub (fun _ h => List.mem_cons_of_mem _ (List.mem_append_right _ h)) (by decide +kernel))
set_option maxRecDepth 20000 in
theorem gX8_mergeIn_X8_requireFewCalls : GoodIn wsX8_mergeIn (va_wsS RX8 47 yX8_requireFewCalls wsX8_requireFewCalls) := goodIn_app (goodIn_of _ (by decide +kernel)) ggX8_mergeIn_X8_requireFewCalls
set_option maxRecDepth 20000 in
theorem ggX8_mergeIn_X1_record : GoodIn wsX8_mergeIn wsX1_record := goodIn_r _ [25, 26, 27, 28, 29, 30, 31, 32, 33, 34, 35, 36, 37, 38, 39, 40, 41, 42, 43, 44, 11, 45, 46, 47, 13, 48, 49, 50, 51, 52, 53, 54, 55, 56, 57, 58, 59, 15, 60, 61, 62, 63, 64, 65, 66, 67, 68, 69, 70, 71, 72, 73, 74, 143, 144, 145, 136, 137, 138, 139, 140, 141, 142, 146, 147, 148, 149, 150, 151, 152, 153, 154, 155] (by decide +kernel) (by decide +kernel)
set_option maxRecDepth 20000 in
theorem gX8_mergeIn_X1_record : GoodIn wsX8_mergeIn (wsV RX8 50 RX1 yX1_record wsX1_record) := goodIn_app (goodIn_of _ (by decide +kernel)) ggX8_mergeIn_X1_record
set_option maxRecDepth 20000 in
theorem ggX8_mergeIn_X7_asideToOwn : GoodIn wsX8_mergeIn wsX7_asideToOwn := goodIn_r _ [78, 38, 39, 40, 79, 80, 81, 11, 82, 46, 47, 13, 83, 84, 85, 51, 86, 53, 57, 58, 55, 56, 87, 88, 89, 90, 54, 91, 92, 93, 94, 95, 96, 97, 98, 99, 100, 101, 102, 103, 104, 105, 106, 107, 108, 109, 110, 111, 15, 112, 113, 114, 115, 116, 117, 118, 119, 120, 121, 122, 123, 124, 69, 125, 71, 73, 72, 74, 126, 127, 128, 129, 130, 131, 31, 132, 136, 137, 138, 139, 140, 141, 142, 146, 147, 148, 149, 150, 151, 152, 153, 154, 155] (by decide +kernel) (by decide +kernel)
set_option maxRecDepth 20000 in
theorem gX8_mergeIn_X7_asideToOwn : GoodIn wsX8_mergeIn (wsV RX8 108 RX7 yX7_asideToOwn wsX7_asideToOwn) := goodIn_app (goodIn_of _ (by decide +kernel)) ggX8_mergeIn_X7_asideToOwn
theorem dX8_mergeIn_0 : decode cX8_mergeIn 0 = .ok (.aload_n 0, 1) := by decide +kernel
theorem dX8_mergeIn_1 : decode cX8_mergeIn 1 = .ok (.getfield 10, 3) := by decide +kernel
theorem dX8_mergeIn_4 : decode cX8_mergeIn 4 = .ok (.getfield 102, 3) := by decide +kernel
theorem dX8_mergeIn_7 : decode cX8_mergeIn 7 = .ok (.ifCond .ne 13, 3) := by decide +kernel
theorem dX8_mergeIn_10 : decode cX8_mergeIn 10 = .ok (.new 70, 3) := by decide +kernel
theorem dX8_mergeIn_13 : decode cX8_mergeIn 13 = .ok (.dup, 1) := by decide +kernel
theorem dX8_mergeIn_14 : decode cX8_mergeIn 14 = .ok (.ldc 106, 2) := by decide +kernel
theorem dX8_mergeIn_16 : decode cX8_mergeIn 16 = .ok (.invokespecial 74, 3) := by decide +kernel
theorem dX8_mergeIn_19 : decode cX8_mergeIn 19 = .ok (.athrow, 1) := by decide +kernel
theorem dX8_mergeIn_20 : decode cX8_mergeIn 20 = .ok (.aload_n 0, 1) := by decide +kernel
theorem dX8_mergeIn_21 : decode cX8_mergeIn 21 = .ok (.getfield 10, 3) := by decide +kernel
theorem dX8_mergeIn_24 : decode cX8_mergeIn 24 = .ok (.getfield 37, 3) := by decide +kernel
theorem dX8_mergeIn_27 : decode cX8_mergeIn 27 = .ok (.invokevirtual 41, 3) := by decide +kernel
theorem dX8_mergeIn_30 : decode cX8_mergeIn 30 = .ok (.aload_n 0, 1) := by decide +kernel
theorem dX8_mergeIn_31 : decode cX8_mergeIn 31 = .ok (.getfield 10, 3) := by decide +kernel
theorem dX8_mergeIn_34 : decode cX8_mergeIn 34 = .ok (.getfield 99, 3) := by decide +kernel
theorem dX8_mergeIn_37 : decode cX8_mergeIn 37 = .ok (.invokevirtual 41, 3) := by decide +kernel
theorem dX8_mergeIn_40 : decode cX8_mergeIn 40 = .ok (.iadd, 1) := by decide +kernel
theorem dX8_mergeIn_41 : decode cX8_mergeIn 41 = .ok (.invokestatic 47, 3) := by decide +kernel
theorem dX8_mergeIn_44 : decode cX8_mergeIn 44 = .ok (.aload_n 0, 1) := by decide +kernel
theorem dX8_mergeIn_45 : decode cX8_mergeIn 45 = .ok (.getfield 19, 3) := by decide +kernel
theorem dX8_mergeIn_48 : decode cX8_mergeIn 48 = .ok (.aload_n 0, 1) := by decide +kernel
theorem dX8_mergeIn_49 : decode cX8_mergeIn 49 = .ok (.getfield 10, 3) := by decide +kernel
theorem dX8_mergeIn_52 : decode cX8_mergeIn 52 = .ok (.invokevirtual 50, 3) := by decide +kernel
theorem dX8_mergeIn_55 : decode cX8_mergeIn 55 = .ok (.aload_n 0, 1) := by decide +kernel
theorem dX8_mergeIn_56 : decode cX8_mergeIn 56 = .ok (.getfield 10, 3) := by decide +kernel
theorem dX8_mergeIn_59 : decode cX8_mergeIn 59 = .ok (.invokevirtual 108, 3) := by decide +kernel
theorem dX8_mergeIn_62 : decode cX8_mergeIn 62 = .ok (.aload_n 0, 1) := by decide +kernel
theorem dX8_mergeIn_63 : decode cX8_mergeIn 63 = .ok (.getfield 10, 3) := by decide +kernel
theorem dX8_mergeIn_66 : decode cX8_mergeIn 66 = .ok (.getfield 37, 3) := by decide +kernel
theorem dX8_mergeIn_69 : decode cX8_mergeIn 69 = .ok (.invokevirtual 41, 3) := by decide +kernel
theorem dX8_mergeIn_72 : decode cX8_mergeIn 72 = .ok (.ireturn, 1) := by decide +kernel
set_option maxRecDepth 20000 in
theorem ggX8_append_X6_add : GoodIn wsX8_append wsX6_add := goodIn_r _ [9, 10, 11, 15, 16, 17, 18, 19] (by decide +kernel) (by decide +kernel)
set_option maxRecDepth 20000 in
theorem gX8_append_X6_add : GoodIn wsX8_append (wsV RX8 116 RX6 yX6_add wsX6_add) := goodIn_app (goodIn_of _ (by decide +kernel)) ggX8_append_X6_add
theorem dX8_append_0 : decode cX8_append 0 = .ok (.aload_n 0, 1) := by decide +kernel
theorem dX8_append_1 : decode cX8_append 1 = .ok (.getfield 26, 3) := by decide +kernel
theorem dX8_append_4 : decode cX8_append 4 = .ok (.getfield 111, 3) := by decide +kernel
theorem dX8_append_7 : decode cX8_append 7 = .ok (.bipush 60, 2) := by decide +kernel
theorem dX8_append_9 : decode cX8_append 9 = .ok (.if_icmp .lt 13, 3) := by decide +kernel
theorem dX8_append_12 : decode cX8_append 12 = .ok (.new 70, 3) := by decide +kernel
theorem dX8_append_15 : decode cX8_append 15 = .ok (.dup, 1) := by decide +kernel
theorem dX8_append_16 : decode cX8_append 16 = .ok (.ldc 114, 2) := by decide +kernel
theorem dX8_append_18 : decode cX8_append 18 = .ok (.invokespecial 74, 3) := by decide +kernel
theorem dX8_append_21 : decode cX8_append 21 = .ok (.athrow, 1) := by decide +kernel
theorem dX8_append_22 : decode cX8_append 22 = .ok (.aload_n 0, 1) := by decide +kernel
theorem dX8_append_23 : decode cX8_append 23 = .ok (.getfield 26, 3) := by decide +kernel
theorem dX8_append_26 : decode cX8_append 26 = .ok (.iload_n 1, 1) := by decide +kernel
theorem dX8_append_27 : decode cX8_append 27 = .ok (.invokevirtual 116, 3) := by decide +kernel
theorem dX8_append_30 : decode cX8_append 30 = .ok (.aload_n 0, 1) := by decide +kernel
theorem dX8_append_31 : decode cX8_append 31 = .ok (.getfield 26, 3) := by decide +kernel
theorem dX8_append_34 : decode cX8_append 34 = .ok (.getfield 111, 3) := by decide +kernel
theorem dX8_append_37 : decode cX8_append 37 = .ok (.ireturn, 1) := by decide +kernel
theorem dX8_clearText_0 : decode cX8_clearText 0 = .ok (.aload_n 0, 1) := by decide +kernel
theorem dX8_clearText_1 : decode cX8_clearText 1 = .ok (.getfield 26, 3) := by decide +kernel
theorem dX8_clearText_4 : decode cX8_clearText 4 = .ok (.getfield 111, 3) := by decide +kernel
theorem dX8_clearText_7 : decode cX8_clearText 7 = .ok (.istore_n 1, 1) := by decide +kernel
theorem dX8_clearText_8 : decode cX8_clearText 8 = .ok (.aload_n 0, 1) := by decide +kernel
theorem dX8_clearText_9 : decode cX8_clearText 9 = .ok (.getfield 26, 3) := by decide +kernel
theorem dX8_clearText_12 : decode cX8_clearText 12 = .ok (.iconst 0, 1) := by decide +kernel
theorem dX8_clearText_13 : decode cX8_clearText 13 = .ok (.putfield 111, 3) := by decide +kernel
theorem dX8_clearText_16 : decode cX8_clearText 16 = .ok (.iload_n 1, 1) := by decide +kernel
theorem dX8_clearText_17 : decode cX8_clearText 17 = .ok (.ireturn, 1) := by decide +kernel
set_option maxRecDepth 20000 in
theorem ggX8_undo_X1_restoreLatest : GoodIn wsX8_undo wsX1_restoreLatest := goodIn_r _ [10, 11, 12, 13, 14, 15, 16, 17, 18, 19, 20, 21, 22, 23, 24, 25, 26, 27, 28, 29, 30, 31, 32, 33, 34, 35, 36, 37, 38, 39, 40, 41, 42, 43, 44, 45, 46, 47, 48, 49, 50, 51, 52, 53, 54, 55, 56, 57, 58, 59, 60, 61, 65, 66, 67, 68, 69, 70, 71, 72, 73, 74, 75, 76, 77, 78, 79, 80, 81, 82, 83, 84] (by decide +kernel) (by decide +kernel)
set_option maxRecDepth 20000 in
theorem gX8_undo_X1_restoreLatest : GoodIn wsX8_undo (wsV RX8 134 RX1 yX1_restoreLatest wsX1_restoreLatest) := goodIn_app (goodIn_of _ (by decide +kernel)) ggX8_undo_X1_restoreLatest
theorem dX8_undo_0 : decode cX8_undo 0 = .ok (.aload_n 0, 1) := by decide +kernel
theorem dX8_undo_1 : decode cX8_undo 1 = .ok (.getfield 19, 3) := by decide +kernel
theorem dX8_undo_4 : decode cX8_undo 4 = .ok (.getfield 129, 3) := by decide +kernel
theorem dX8_undo_7 : decode cX8_undo 7 = .ok (.ifCond .ne 13, 3) := by decide +kernel
theorem dX8_undo_10 : decode cX8_undo 10 = .ok (.new 70, 3) := by decide +kernel
theorem dX8_undo_13 : decode cX8_undo 13 = .ok (.dup, 1) := by decide +kernel
theorem dX8_undo_14 : decode cX8_undo 14 = .ok (.ldc 132, 2) := by decide +kernel
theorem dX8_undo_16 : decode cX8_undo 16 = .ok (.invokespecial 74, 3) := by decide +kernel
theorem dX8_undo_19 : decode cX8_undo 19 = .ok (.athrow, 1) := by decide +kernel
theorem dX8_undo_20 : decode cX8_undo 20 = .ok (.aload_n 0, 1) := by decide +kernel
theorem dX8_undo_21 : decode cX8_undo 21 = .ok (.getfield 19, 3) := by decide +kernel
theorem dX8_undo_24 : decode cX8_undo 24 = .ok (.aload_n 0, 1) := by decide +kernel
theorem dX8_undo_25 : decode cX8_undo 25 = .ok (.getfield 10, 3) := by decide +kernel
theorem dX8_undo_28 : decode cX8_undo 28 = .ok (.invokevirtual 134, 3) := by decide +kernel
theorem dX8_undo_31 : decode cX8_undo 31 = .ok (.aload_n 0, 1) := by decide +kernel
theorem dX8_undo_32 : decode cX8_undo 32 = .ok (.getfield 19, 3) := by decide +kernel
theorem dX8_undo_35 : decode cX8_undo 35 = .ok (.getfield 129, 3) := by decide +kernel
theorem dX8_undo_38 : decode cX8_undo 38 = .ok (.ireturn, 1) := by decide +kernel
theorem dX8_counters_0 : decode cX8_counters 0 = .ok (.aload_n 0, 1) := by decide +kernel
theorem dX8_counters_1 : decode cX8_counters 1 = .ok (.getfield 10, 3) := by decide +kernel
theorem dX8_counters_4 : decode cX8_counters 4 = .ok (.getfield 37, 3) := by decide +kernel
theorem dX8_counters_7 : decode cX8_counters 7 = .ok (.getfield 57, 3) := by decide +kernel
theorem dX8_counters_10 : decode cX8_counters 10 = .ok (.getfield 137, 3) := by decide +kernel
theorem dX8_counters_13 : decode cX8_counters 13 = .ok (.ireturn, 1) := by decide +kernel
set_option maxRecDepth 20000 in
theorem ggX8_estimate_X8_requireParrot : GoodIn wsX8_estimate wsX8_requireParrot := goodIn_ca (goodIn_r _ [7, 8, 9] (by decide +kernel) (by decide +kernel)) (goodIn_sub (fun _ h => List.mem_cons_of_mem _ (List.mem_append_right _ h)) (by decide +kernel))
set_option maxRecDepth 20000 in
theorem gX8_estimate_X8_requireParrot : GoodIn wsX8_estimate (va_wsS RX8 34 yX8_requireParrot wsX8_requireParrot) := goodIn_app (goodIn_of _ (by decide +kernel)) ggX8_estimate_X8_requireParrot
set_option maxRecDepth 20000 in
theorem ggX8_estimate_X0_estimateOf : GoodIn wsX8_estimate wsX0_estimateOf := goodIn_r _ [14, 15, 16, 17, 18, 13, 19, 20, 21, 22, 23, 24, 25, 26, 27, 28, 29, 30, 31, 32, 33, 34, 45, 46, 47, 48, 49, 50] (by decide +kernel) (by decide +kernel)
set_option maxRecDepth 20000 in
theorem gX8_estimate_X0_estimateOf : GoodIn wsX8_estimate (wsV RX8 61 RX0 yX0_estimateOf wsX0_estimateOf) := goodIn_app (goodIn_of _ (by decide +kernel)) ggX8_estimate_X0_estimateOf
theorem dX8_estimate_0 : decode cX8_estimate 0 = .ok (.iload_n 1, 1) := by decide +kernel
theorem dX8_estimate_1 : decode cX8_estimate 1 = .ok (.invokestatic 34, 3) := by decide +kernel
theorem dX8_estimate_4 : decode cX8_estimate 4 = .ok (.aload_n 0, 1) := by decide +kernel
theorem dX8_estimate_5 : decode cX8_estimate 5 = .ok (.getfield 10, 3) := by decide +kernel
theorem dX8_estimate_8 : decode cX8_estimate 8 = .ok (.getfield 37, 3) := by decide +kernel
theorem dX8_estimate_11 : decode cX8_estimate 11 = .ok (.getfield 57, 3) := by decide +kernel
theorem dX8_estimate_14 : decode cX8_estimate 14 = .ok (.iload_n 1, 1) := by decide +kernel
theorem dX8_estimate_15 : decode cX8_estimate 15 = .ok (.invokevirtual 61, 3) := by decide +kernel
theorem dX8_estimate_18 : decode cX8_estimate 18 = .ok (.ireturn, 1) := by decide +kernel
set_option maxRecDepth 20000 in
theorem ggX8_sureCount_X8_requireParrot : GoodIn wsX8_sureCount wsX8_requireParrot := goodIn_ca (goodIn_r _ [7, 8, 9] (by decide +kernel) (by decide +kernel)) (goodIn_sub (fun _ h => List.mem_cons_of_mem _ (List.mem_append_right _ h)) (by decide +kernel))
set_option maxRecDepth 20000 in
theorem gX8_sureCount_X8_requireParrot : GoodIn wsX8_sureCount (va_wsS RX8 34 yX8_requireParrot wsX8_requireParrot) := goodIn_app (goodIn_of _ (by decide +kernel)) ggX8_sureCount_X8_requireParrot
set_option maxRecDepth 20000 in
theorem ggX8_sureCount_X0_sureOf : GoodIn wsX8_sureCount wsX0_sureOf := goodIn_r _ [14, 15, 16, 27, 28, 29, 30, 31, 32] (by decide +kernel) (by decide +kernel)
set_option maxRecDepth 20000 in
theorem gX8_sureCount_X0_sureOf : GoodIn wsX8_sureCount (wsV RX8 138 RX0 yX0_sureOf wsX0_sureOf) := goodIn_app (goodIn_of _ (by decide +kernel)) ggX8_sureCount_X0_sureOf
theorem dX8_sureCount_0 : decode cX8_sureCount 0 = .ok (.iload_n 1, 1) := by decide +kernel
theorem dX8_sureCount_1 : decode cX8_sureCount 1 = .ok (.invokestatic 34, 3) := by decide +kernel
theorem dX8_sureCount_4 : decode cX8_sureCount 4 = .ok (.aload_n 0, 1) := by decide +kernel
theorem dX8_sureCount_5 : decode cX8_sureCount 5 = .ok (.getfield 10, 3) := by decide +kernel
theorem dX8_sureCount_8 : decode cX8_sureCount 8 = .ok (.getfield 37, 3) := by decide +kernel
theorem dX8_sureCount_11 : decode cX8_sureCount 11 = .ok (.getfield 57, 3) := by decide +kernel
theorem dX8_sureCount_14 : decode cX8_sureCount 14 = .ok (.iload_n 1, 1) := by decide +kernel
theorem dX8_sureCount_15 : decode cX8_sureCount 15 = .ok (.invokevirtual 138, 3) := by decide +kernel
theorem dX8_sureCount_18 : decode cX8_sureCount 18 = .ok (.ireturn, 1) := by decide +kernel
set_option maxRecDepth 20000 in
theorem ggX8_surplus_X8_requireParrot : GoodIn wsX8_surplus wsX8_requireParrot := goodIn_ca (goodIn_r _ [11, 12, 13] (by decide +kernel) (by decide +kernel)) (goodIn_sub (fun _ h => List.mem_cons_of_mem _ (List.mem_append_right _ h)) (by decide +kernel))
set_option maxRecDepth 20000 in
theorem gX8_surplus_X8_requireParrot : GoodIn wsX8_surplus (va_wsS RX8 34 yX8_requireParrot wsX8_requireParrot) := goodIn_app (goodIn_of _ (by decide +kernel)) ggX8_surplus_X8_requireParrot
theorem dX8_surplus_0 : decode cX8_surplus 0 = .ok (.iload_n 1, 1) := by decide +kernel
theorem dX8_surplus_1 : decode cX8_surplus 1 = .ok (.invokestatic 34, 3) := by decide +kernel
theorem dX8_surplus_4 : decode cX8_surplus 4 = .ok (.aload_n 0, 1) := by decide +kernel
theorem dX8_surplus_5 : decode cX8_surplus 5 = .ok (.getfield 10, 3) := by decide +kernel
theorem dX8_surplus_8 : decode cX8_surplus 8 = .ok (.getfield 37, 3) := by decide +kernel
theorem dX8_surplus_11 : decode cX8_surplus 11 = .ok (.getfield 57, 3) := by decide +kernel
theorem dX8_surplus_14 : decode cX8_surplus 14 = .ok (.getfield 141, 3) := by decide +kernel
theorem dX8_surplus_17 : decode cX8_surplus 17 = .ok (.iload_n 1, 1) := by decide +kernel
theorem dX8_surplus_18 : decode cX8_surplus 18 = .ok (.iaload, 1) := by decide +kernel
theorem dX8_surplus_19 : decode cX8_surplus 19 = .ok (.ifCond .ne 13, 3) := by decide +kernel
theorem dX8_surplus_22 : decode cX8_surplus 22 = .ok (.new 144, 3) := by decide +kernel
theorem dX8_surplus_25 : decode cX8_surplus 25 = .ok (.dup, 1) := by decide +kernel
theorem dX8_surplus_26 : decode cX8_surplus 26 = .ok (.ldc 146, 2) := by decide +kernel
theorem dX8_surplus_28 : decode cX8_surplus 28 = .ok (.invokespecial 148, 3) := by decide +kernel
theorem dX8_surplus_31 : decode cX8_surplus 31 = .ok (.athrow, 1) := by decide +kernel
theorem dX8_surplus_32 : decode cX8_surplus 32 = .ok (.aload_n 0, 1) := by decide +kernel
theorem dX8_surplus_33 : decode cX8_surplus 33 = .ok (.getfield 10, 3) := by decide +kernel
theorem dX8_surplus_36 : decode cX8_surplus 36 = .ok (.getfield 37, 3) := by decide +kernel
theorem dX8_surplus_39 : decode cX8_surplus 39 = .ok (.getfield 57, 3) := by decide +kernel
theorem dX8_surplus_42 : decode cX8_surplus 42 = .ok (.getfield 149, 3) := by decide +kernel
theorem dX8_surplus_45 : decode cX8_surplus 45 = .ok (.iload_n 1, 1) := by decide +kernel
theorem dX8_surplus_46 : decode cX8_surplus 46 = .ok (.iaload, 1) := by decide +kernel
theorem dX8_surplus_47 : decode cX8_surplus 47 = .ok (.ireturn, 1) := by decide +kernel
set_option maxRecDepth 20000 in
theorem ggX8_floor_X0_leastCount : GoodIn wsX8_floor wsX0_leastCount := goodIn_r _ [8, 9, 10, 11, 12, 7, 13, 14, 15, 16, 17, 18, 19, 20, 21, 22, 23, 24, 35, 36, 37, 38, 39, 40] (by decide +kernel) (by decide +kernel)
set_option maxRecDepth 20000 in
theorem gX8_floor_X0_leastCount : GoodIn wsX8_floor (wsV RX8 152 RX0 yX0_leastCount wsX0_leastCount) := goodIn_app (goodIn_of _ (by decide +kernel)) ggX8_floor_X0_leastCount
theorem dX8_floor_0 : decode cX8_floor 0 = .ok (.aload_n 0, 1) := by decide +kernel
theorem dX8_floor_1 : decode cX8_floor 1 = .ok (.getfield 10, 3) := by decide +kernel
theorem dX8_floor_4 : decode cX8_floor 4 = .ok (.getfield 37, 3) := by decide +kernel
theorem dX8_floor_7 : decode cX8_floor 7 = .ok (.getfield 57, 3) := by decide +kernel
theorem dX8_floor_10 : decode cX8_floor 10 = .ok (.invokevirtual 152, 3) := by decide +kernel
theorem dX8_floor_13 : decode cX8_floor 13 = .ok (.ireturn, 1) := by decide +kernel
set_option maxRecDepth 20000 in
theorem ggX8_nextTakenOver_X0_isFull : GoodIn wsX8_nextTakenOver wsX0_isFull := goodIn_r _ [10, 11, 12, 33, 34, 35, 36, 37, 38] (by decide +kernel) (by decide +kernel)
set_option maxRecDepth 20000 in
theorem gX8_nextTakenOver_X0_isFull : GoodIn wsX8_nextTakenOver (wsV RX8 155 RX0 yX0_isFull wsX0_isFull) := goodIn_app (goodIn_of _ (by decide +kernel)) ggX8_nextTakenOver_X0_isFull
set_option maxRecDepth 20000 in
theorem ggX8_nextTakenOver_X0_weakest : GoodIn wsX8_nextTakenOver wsX0_weakest := goodIn_r _ [16, 17, 18, 19, 20, 9, 21, 22, 33, 34, 35, 36, 37, 38] (by decide +kernel) (by decide +kernel)
set_option maxRecDepth 20000 in
theorem gX8_nextTakenOver_X0_weakest : GoodIn wsX8_nextTakenOver (wsV RX8 160 RX0 yX0_weakest wsX0_weakest) := goodIn_app (goodIn_of _ (by decide +kernel)) ggX8_nextTakenOver_X0_weakest
theorem dX8_nextTakenOver_0 : decode cX8_nextTakenOver 0 = .ok (.aload_n 0, 1) := by decide +kernel
theorem dX8_nextTakenOver_1 : decode cX8_nextTakenOver 1 = .ok (.getfield 10, 3) := by decide +kernel
theorem dX8_nextTakenOver_4 : decode cX8_nextTakenOver 4 = .ok (.getfield 37, 3) := by decide +kernel
theorem dX8_nextTakenOver_7 : decode cX8_nextTakenOver 7 = .ok (.getfield 57, 3) := by decide +kernel
theorem dX8_nextTakenOver_10 : decode cX8_nextTakenOver 10 = .ok (.invokevirtual 155, 3) := by decide +kernel
theorem dX8_nextTakenOver_13 : decode cX8_nextTakenOver 13 = .ok (.ifCond .ne 13, 3) := by decide +kernel
theorem dX8_nextTakenOver_16 : decode cX8_nextTakenOver 16 = .ok (.new 144, 3) := by decide +kernel
theorem dX8_nextTakenOver_19 : decode cX8_nextTakenOver 19 = .ok (.dup, 1) := by decide +kernel
theorem dX8_nextTakenOver_20 : decode cX8_nextTakenOver 20 = .ok (.ldc 158, 2) := by decide +kernel
theorem dX8_nextTakenOver_22 : decode cX8_nextTakenOver 22 = .ok (.invokespecial 148, 3) := by decide +kernel
theorem dX8_nextTakenOver_25 : decode cX8_nextTakenOver 25 = .ok (.athrow, 1) := by decide +kernel
theorem dX8_nextTakenOver_26 : decode cX8_nextTakenOver 26 = .ok (.aload_n 0, 1) := by decide +kernel
theorem dX8_nextTakenOver_27 : decode cX8_nextTakenOver 27 = .ok (.getfield 10, 3) := by decide +kernel
theorem dX8_nextTakenOver_30 : decode cX8_nextTakenOver 30 = .ok (.getfield 37, 3) := by decide +kernel
theorem dX8_nextTakenOver_33 : decode cX8_nextTakenOver 33 = .ok (.getfield 57, 3) := by decide +kernel
theorem dX8_nextTakenOver_36 : decode cX8_nextTakenOver 36 = .ok (.invokevirtual 160, 3) := by decide +kernel
theorem dX8_nextTakenOver_39 : decode cX8_nextTakenOver 39 = .ok (.ireturn, 1) := by decide +kernel
set_option maxRecDepth 20000 in
theorem ggX8_loudest_X8_parrotAt : GoodIn wsX8_loudest wsX8_parrotAt := goodIn_r _ [13, 14, 15, 12, 16] (by decide +kernel) (by decide +kernel)
set_option maxRecDepth 20000 in
theorem gX8_loudest_X8_parrotAt : GoodIn wsX8_loudest (va_wsS RX8 167 yX8_parrotAt wsX8_parrotAt) := goodIn_app (goodIn_of _ (by decide +kernel)) ggX8_loudest_X8_parrotAt
theorem dX8_loudest_0 : decode cX8_loudest 0 = .ok (.iload_n 1, 1) := by decide +kernel
theorem dX8_loudest_1 : decode cX8_loudest 1 = .ok (.ifCond .ge 13, 3) := by decide +kernel
theorem dX8_loudest_4 : decode cX8_loudest 4 = .ok (.new 88, 3) := by decide +kernel
theorem dX8_loudest_7 : decode cX8_loudest 7 = .ok (.dup, 1) := by decide +kernel
theorem dX8_loudest_8 : decode cX8_loudest 8 = .ok (.ldc 163, 2) := by decide +kernel
theorem dX8_loudest_10 : decode cX8_loudest 10 = .ok (.invokespecial 92, 3) := by decide +kernel
theorem dX8_loudest_13 : decode cX8_loudest 13 = .ok (.athrow, 1) := by decide +kernel
theorem dX8_loudest_14 : decode cX8_loudest 14 = .ok (.iload_n 1, 1) := by decide +kernel
theorem dX8_loudest_15 : decode cX8_loudest 15 = .ok (.aload_n 0, 1) := by decide +kernel
theorem dX8_loudest_16 : decode cX8_loudest 16 = .ok (.getfield 10, 3) := by decide +kernel
theorem dX8_loudest_19 : decode cX8_loudest 19 = .ok (.getfield 37, 3) := by decide +kernel
theorem dX8_loudest_22 : decode cX8_loudest 22 = .ok (.getfield 57, 3) := by decide +kernel
theorem dX8_loudest_25 : decode cX8_loudest 25 = .ok (.getfield 137, 3) := by decide +kernel
theorem dX8_loudest_28 : decode cX8_loudest 28 = .ok (.if_icmp .lt 13, 3) := by decide +kernel
theorem dX8_loudest_31 : decode cX8_loudest 31 = .ok (.new 144, 3) := by decide +kernel
theorem dX8_loudest_34 : decode cX8_loudest 34 = .ok (.dup, 1) := by decide +kernel
theorem dX8_loudest_35 : decode cX8_loudest 35 = .ok (.ldc 165, 2) := by decide +kernel
theorem dX8_loudest_37 : decode cX8_loudest 37 = .ok (.invokespecial 148, 3) := by decide +kernel
theorem dX8_loudest_40 : decode cX8_loudest 40 = .ok (.athrow, 1) := by decide +kernel
theorem dX8_loudest_41 : decode cX8_loudest 41 = .ok (.aload_n 0, 1) := by decide +kernel
theorem dX8_loudest_42 : decode cX8_loudest 42 = .ok (.getfield 10, 3) := by decide +kernel
theorem dX8_loudest_45 : decode cX8_loudest 45 = .ok (.getfield 37, 3) := by decide +kernel
theorem dX8_loudest_48 : decode cX8_loudest 48 = .ok (.getfield 57, 3) := by decide +kernel
theorem dX8_loudest_51 : decode cX8_loudest 51 = .ok (.getfield 141, 3) := by decide +kernel
theorem dX8_loudest_54 : decode cX8_loudest 54 = .ok (.iload_n 1, 1) := by decide +kernel
theorem dX8_loudest_55 : decode cX8_loudest 55 = .ok (.invokestatic 167, 3) := by decide +kernel
theorem dX8_loudest_58 : decode cX8_loudest 58 = .ok (.ireturn, 1) := by decide +kernel
set_option maxRecDepth 20000 in
theorem ggX8_surelyAbove_X8_requirePermille : GoodIn wsX8_surelyAbove wsX8_requirePermille := goodIn_ca (goodIn_r _ [5, 6, 7] (by decide +kernel) (by decide +kernel)) (goodIn_sub (fun _ h => List.mem_cons_of_mem _ (List.mem_append_right _ h)) (by decide +kernel))
set_option maxRecDepth 20000 in
theorem gX8_surelyAbove_X8_requirePermille : GoodIn wsX8_surelyAbove (va_wsS RX8 171 yX8_requirePermille wsX8_requirePermille) := goodIn_app (goodIn_of _ (by decide +kernel)) ggX8_surelyAbove_X8_requirePermille
set_option maxRecDepth 20000 in
theorem ggX8_surelyAbove_X8_parrotsAbove : GoodIn wsX8_surelyAbove wsX8_parrotsAbove := goodIn_r _ [11, 12, 13, 14, 15, 16, 17, 18, 19, 20, 4, 21, 22, 23, 24, 25, 26, 27, 28, 29, 30, 31, 32, 33, 34, 35, 36, 37, 38, 39, 40, 41, 42, 43, 44, 45, 46, 47, 48, 49, 50, 51, 52, 53, 54, 55, 56, 57, 58, 59, 60, 61, 62, 63, 64, 65, 66, 67, 68, 69, 70, 71, 72, 73, 74] (by decide +kernel) (by decide +kernel)
set_option maxRecDepth 20000 in
theorem gX8_surelyAbove_X8_parrotsAbove : GoodIn wsX8_surelyAbove (wsV RX8 180 RX8 yX8_parrotsAbove wsX8_parrotsAbove) := goodIn_app (goodIn_of _ (by decide +kernel)) ggX8_surelyAbove_X8_parrotsAbove
theorem dX8_surelyAbove_0 : decode cX8_surelyAbove 0 = .ok (.iload_n 1, 1) := by decide +kernel
theorem dX8_surelyAbove_1 : decode cX8_surelyAbove 1 = .ok (.invokestatic 171, 3) := by decide +kernel
theorem dX8_surelyAbove_4 : decode cX8_surelyAbove 4 = .ok (.aload_n 0, 1) := by decide +kernel
theorem dX8_surelyAbove_5 : decode cX8_surelyAbove 5 = .ok (.iload_n 1, 1) := by decide +kernel
theorem dX8_surelyAbove_6 : decode cX8_surelyAbove 6 = .ok (.getstatic 174, 3) := by decide +kernel
theorem dX8_surelyAbove_9 : decode cX8_surelyAbove 9 = .ok (.invokevirtual 180, 3) := by decide +kernel
theorem dX8_surelyAbove_12 : decode cX8_surelyAbove 12 = .ok (.ireturn, 1) := by decide +kernel
set_option maxRecDepth 20000 in
theorem ggX8_perhapsAbove_X8_requirePermille : GoodIn wsX8_perhapsAbove wsX8_requirePermille := goodIn_ca (goodIn_r _ [5, 6, 7] (by decide +kernel) (by decide +kernel)) (goodIn_sub (fun _ h => List.mem_cons_of_mem _ (List.mem_append_right _ h)) (by decide +kernel))
set_option maxRecDepth 20000 in
theorem gX8_perhapsAbove_X8_requirePermille : GoodIn wsX8_perhapsAbove (va_wsS RX8 171 yX8_requirePermille wsX8_requirePermille) := goodIn_app (goodIn_of _ (by decide +kernel)) ggX8_perhapsAbove_X8_requirePermille
set_option maxRecDepth 20000 in
theorem ggX8_perhapsAbove_X8_parrotsAbove : GoodIn wsX8_perhapsAbove wsX8_parrotsAbove := goodIn_r _ [11, 12, 13, 14, 15, 16, 17, 18, 19, 20, 4, 21, 22, 23, 24, 25, 26, 27, 28, 29, 30, 31, 32, 33, 34, 35, 36, 37, 38, 39, 40, 41, 42, 43, 44, 45, 46, 47, 48, 49, 50, 51, 52, 53, 54, 55, 56, 57, 58, 59, 60, 61, 62, 63, 64, 65, 66, 67, 68, 69, 70, 71, 72, 73, 74] (by decide +kernel) (by decide +kernel)
set_option maxRecDepth 20000 in
theorem gX8_perhapsAbove_X8_parrotsAbove : GoodIn wsX8_perhapsAbove (wsV RX8 180 RX8 yX8_parrotsAbove wsX8_parrotsAbove) := goodIn_app (goodIn_of _ (by decide +kernel)) ggX8_perhapsAbove_X8_parrotsAbove
theorem dX8_perhapsAbove_0 : decode cX8_perhapsAbove 0 = .ok (.iload_n 1, 1) := by decide +kernel
theorem dX8_perhapsAbove_1 : decode cX8_perhapsAbove 1 = .ok (.invokestatic 171, 3) := by decide +kernel
theorem dX8_perhapsAbove_4 : decode cX8_perhapsAbove 4 = .ok (.aload_n 0, 1) := by decide +kernel
theorem dX8_perhapsAbove_5 : decode cX8_perhapsAbove 5 = .ok (.iload_n 1, 1) := by decide +kernel
theorem dX8_perhapsAbove_6 : decode cX8_perhapsAbove 6 = .ok (.getstatic 184, 3) := by decide +kernel
theorem dX8_perhapsAbove_9 : decode cX8_perhapsAbove 9 = .ok (.invokevirtual 180, 3) := by decide +kernel
theorem dX8_perhapsAbove_12 : decode cX8_perhapsAbove 12 = .ok (.ireturn, 1) := by decide +kernel
set_option maxRecDepth 20000 in
theorem ggX8_trulyAbove_X8_requirePermille : GoodIn wsX8_trulyAbove wsX8_requirePermille := goodIn_ca (goodIn_r _ [5, 6, 7] (by decide +kernel) (by decide +kernel)) (goodIn_sub (fun _ h => List.mem_cons_of_mem _ (List.mem_append_right _ h)) (by decide +kernel))
set_option maxRecDepth 20000 in
theorem gX8_trulyAbove_X8_requirePermille : GoodIn wsX8_trulyAbove (va_wsS RX8 171 yX8_requirePermille wsX8_requirePermille) := goodIn_app (goodIn_of _ (by decide +kernel)) ggX8_trulyAbove_X8_requirePermille
set_option maxRecDepth 20000 in
theorem ggX8_trulyAbove_X8_parrotsAbove : GoodIn wsX8_trulyAbove wsX8_parrotsAbove := goodIn_r _ [11, 12, 13, 14, 15, 16, 17, 18, 19, 20, 4, 21, 22, 23, 24, 25, 26, 27, 28, 29, 30, 31, 32, 33, 34, 35, 36, 37, 38, 39, 40, 41, 42, 43, 44, 45, 46, 47, 48, 49, 50, 51, 52, 53, 54, 55, 56, 57, 58, 59, 60, 61, 62, 63, 64, 65, 66, 67, 68, 69, 70, 71, 72, 73, 74] (by decide +kernel) (by decide +kernel)
set_option maxRecDepth 20000 in
theorem gX8_trulyAbove_X8_parrotsAbove : GoodIn wsX8_trulyAbove (wsV RX8 180 RX8 yX8_parrotsAbove wsX8_parrotsAbove) := goodIn_app (goodIn_of _ (by decide +kernel)) ggX8_trulyAbove_X8_parrotsAbove
theorem dX8_trulyAbove_0 : decode cX8_trulyAbove 0 = .ok (.iload_n 1, 1) := by decide +kernel
theorem dX8_trulyAbove_1 : decode cX8_trulyAbove 1 = .ok (.invokestatic 171, 3) := by decide +kernel
theorem dX8_trulyAbove_4 : decode cX8_trulyAbove 4 = .ok (.aload_n 0, 1) := by decide +kernel
theorem dX8_trulyAbove_5 : decode cX8_trulyAbove 5 = .ok (.iload_n 1, 1) := by decide +kernel
theorem dX8_trulyAbove_6 : decode cX8_trulyAbove 6 = .ok (.getstatic 187, 3) := by decide +kernel
theorem dX8_trulyAbove_9 : decode cX8_trulyAbove 9 = .ok (.invokevirtual 180, 3) := by decide +kernel
theorem dX8_trulyAbove_12 : decode cX8_trulyAbove 12 = .ok (.ireturn, 1) := by decide +kernel
theorem dX8_wornCounters_0 : decode cX8_wornCounters 0 = .ok (.aload_n 0, 1) := by decide +kernel
theorem dX8_wornCounters_1 : decode cX8_wornCounters 1 = .ok (.getfield 10, 3) := by decide +kernel
theorem dX8_wornCounters_4 : decode cX8_wornCounters 4 = .ok (.getfield 37, 3) := by decide +kernel
theorem dX8_wornCounters_7 : decode cX8_wornCounters 7 = .ok (.getfield 190, 3) := by decide +kernel
theorem dX8_wornCounters_10 : decode cX8_wornCounters 10 = .ok (.getfield 194, 3) := by decide +kernel
theorem dX8_wornCounters_13 : decode cX8_wornCounters 13 = .ok (.ireturn, 1) := by decide +kernel
set_option maxRecDepth 20000 in
theorem ggX8_wornCount_X8_requireParrot : GoodIn wsX8_wornCount wsX8_requireParrot := goodIn_ca (goodIn_r _ [8, 9, 10] (by decide +kernel) (by decide +kernel)) (goodIn_sub (fun _ h => List.mem_cons_of_mem _ (List.mem_append_right _ h)) (by decide +kernel))
set_option maxRecDepth 20000 in
theorem gX8_wornCount_X8_requireParrot : GoodIn wsX8_wornCount (va_wsS RX8 34 yX8_requireParrot wsX8_requireParrot) := goodIn_app (goodIn_of _ (by decide +kernel)) ggX8_wornCount_X8_requireParrot
theorem dX8_wornCount_0 : decode cX8_wornCount 0 = .ok (.iload_n 1, 1) := by decide +kernel
theorem dX8_wornCount_1 : decode cX8_wornCount 1 = .ok (.invokestatic 34, 3) := by decide +kernel
theorem dX8_wornCount_4 : decode cX8_wornCount 4 = .ok (.aload_n 0, 1) := by decide +kernel
theorem dX8_wornCount_5 : decode cX8_wornCount 5 = .ok (.getfield 10, 3) := by decide +kernel
theorem dX8_wornCount_8 : decode cX8_wornCount 8 = .ok (.getfield 37, 3) := by decide +kernel
theorem dX8_wornCount_11 : decode cX8_wornCount 11 = .ok (.getfield 190, 3) := by decide +kernel
theorem dX8_wornCount_14 : decode cX8_wornCount 14 = .ok (.getfield 197, 3) := by decide +kernel
theorem dX8_wornCount_17 : decode cX8_wornCount 17 = .ok (.iload_n 1, 1) := by decide +kernel
theorem dX8_wornCount_18 : decode cX8_wornCount 18 = .ok (.iaload, 1) := by decide +kernel
theorem dX8_wornCount_19 : decode cX8_wornCount 19 = .ok (.ireturn, 1) := by decide +kernel
set_option maxRecDepth 20000 in
theorem ggX8_aboveFloor_X8_requireParrot : GoodIn wsX8_aboveFloor wsX8_requireParrot := goodIn_ca (goodIn_r _ [7, 8, 9] (by decide +kernel) (by decide +kernel)) (goodIn_sub (fun _ h => List.mem_cons_of_mem _ (List.mem_append_right _ h)) (by decide +kernel))
set_option maxRecDepth 20000 in
theorem gX8_aboveFloor_X8_requireParrot : GoodIn wsX8_aboveFloor (va_wsS RX8 34 yX8_requireParrot wsX8_requireParrot) := goodIn_app (goodIn_of _ (by decide +kernel)) ggX8_aboveFloor_X8_requireParrot
set_option maxRecDepth 20000 in
theorem ggX8_aboveFloor_X0_estimateOf : GoodIn wsX8_aboveFloor wsX0_estimateOf := goodIn_r _ [14, 15, 16, 17, 18, 13, 19, 20, 21, 22, 23, 24, 25, 26, 27, 28, 29, 30, 31, 32, 33, 34, 46, 47, 48, 49, 50, 51] (by decide +kernel) (by decide +kernel)
set_option maxRecDepth 20000 in
theorem gX8_aboveFloor_X0_estimateOf : GoodIn wsX8_aboveFloor (wsV RX8 61 RX0 yX0_estimateOf wsX0_estimateOf) := goodIn_app (goodIn_of _ (by decide +kernel)) ggX8_aboveFloor_X0_estimateOf
set_option maxRecDepth 20000 in
theorem ggX8_aboveFloor_X0_leastCount : GoodIn wsX8_aboveFloor wsX0_leastCount := goodIn_r _ [19, 15, 20, 21, 22, 13, 23, 24, 25, 26, 27, 28, 29, 30, 31, 32, 33, 34, 46, 47, 48, 49, 50, 51] (by decide +kernel) (by decide +kernel)
set_option maxRecDepth 20000 in
theorem gX8_aboveFloor_X0_leastCount : GoodIn wsX8_aboveFloor (wsV RX8 152 RX0 yX0_leastCount wsX0_leastCount) := goodIn_app (goodIn_of _ (by decide +kernel)) ggX8_aboveFloor_X0_leastCount
theorem dX8_aboveFloor_0 : decode cX8_aboveFloor 0 = .ok (.iload_n 1, 1) := by decide +kernel
theorem dX8_aboveFloor_1 : decode cX8_aboveFloor 1 = .ok (.invokestatic 34, 3) := by decide +kernel
theorem dX8_aboveFloor_4 : decode cX8_aboveFloor 4 = .ok (.aload_n 0, 1) := by decide +kernel
theorem dX8_aboveFloor_5 : decode cX8_aboveFloor 5 = .ok (.getfield 10, 3) := by decide +kernel
theorem dX8_aboveFloor_8 : decode cX8_aboveFloor 8 = .ok (.getfield 37, 3) := by decide +kernel
theorem dX8_aboveFloor_11 : decode cX8_aboveFloor 11 = .ok (.getfield 57, 3) := by decide +kernel
theorem dX8_aboveFloor_14 : decode cX8_aboveFloor 14 = .ok (.iload_n 1, 1) := by decide +kernel
theorem dX8_aboveFloor_15 : decode cX8_aboveFloor 15 = .ok (.invokevirtual 61, 3) := by decide +kernel
theorem dX8_aboveFloor_18 : decode cX8_aboveFloor 18 = .ok (.aload_n 0, 1) := by decide +kernel
theorem dX8_aboveFloor_19 : decode cX8_aboveFloor 19 = .ok (.getfield 10, 3) := by decide +kernel
theorem dX8_aboveFloor_22 : decode cX8_aboveFloor 22 = .ok (.getfield 37, 3) := by decide +kernel
theorem dX8_aboveFloor_25 : decode cX8_aboveFloor 25 = .ok (.getfield 57, 3) := by decide +kernel
theorem dX8_aboveFloor_28 : decode cX8_aboveFloor 28 = .ok (.invokevirtual 152, 3) := by decide +kernel
theorem dX8_aboveFloor_31 : decode cX8_aboveFloor 31 = .ok (.isub, 1) := by decide +kernel
theorem dX8_aboveFloor_32 : decode cX8_aboveFloor 32 = .ok (.ireturn, 1) := by decide +kernel
theorem dX8_wear_0 : decode cX8_wear 0 = .ok (.aload_n 0, 1) := by decide +kernel
theorem dX8_wear_1 : decode cX8_wear 1 = .ok (.getfield 10, 3) := by decide +kernel
theorem dX8_wear_4 : decode cX8_wear 4 = .ok (.getfield 37, 3) := by decide +kernel
theorem dX8_wear_7 : decode cX8_wear 7 = .ok (.getfield 190, 3) := by decide +kernel
theorem dX8_wear_10 : decode cX8_wear 10 = .ok (.getfield 198, 3) := by decide +kernel
theorem dX8_wear_13 : decode cX8_wear 13 = .ok (.ireturn, 1) := by decide +kernel
theorem dX8_capacity_0 : decode cX8_capacity 0 = .ok (.aload_n 0, 1) := by decide +kernel
theorem dX8_capacity_1 : decode cX8_capacity 1 = .ok (.getfield 10, 3) := by decide +kernel
theorem dX8_capacity_4 : decode cX8_capacity 4 = .ok (.getfield 93, 3) := by decide +kernel
theorem dX8_capacity_7 : decode cX8_capacity 7 = .ok (.ireturn, 1) := by decide +kernel
set_option maxRecDepth 20000 in
theorem ggX8_trueCount_X8_requireParrot : GoodIn wsX8_trueCount wsX8_requireParrot := goodIn_ca (goodIn_r _ [7, 8, 9] (by decide +kernel) (by decide +kernel)) (goodIn_sub (fun _ h => List.mem_cons_of_mem _ (List.mem_append_right _ h)) (by decide +kernel))
set_option maxRecDepth 20000 in
theorem gX8_trueCount_X8_requireParrot : GoodIn wsX8_trueCount (va_wsS RX8 34 yX8_requireParrot wsX8_requireParrot) := goodIn_app (goodIn_of _ (by decide +kernel)) ggX8_trueCount_X8_requireParrot
theorem dX8_trueCount_0 : decode cX8_trueCount 0 = .ok (.iload_n 1, 1) := by decide +kernel
theorem dX8_trueCount_1 : decode cX8_trueCount 1 = .ok (.invokestatic 34, 3) := by decide +kernel
theorem dX8_trueCount_4 : decode cX8_trueCount 4 = .ok (.aload_n 0, 1) := by decide +kernel
theorem dX8_trueCount_5 : decode cX8_trueCount 5 = .ok (.getfield 10, 3) := by decide +kernel
theorem dX8_trueCount_8 : decode cX8_trueCount 8 = .ok (.getfield 37, 3) := by decide +kernel
theorem dX8_trueCount_11 : decode cX8_trueCount 11 = .ok (.getfield 201, 3) := by decide +kernel
theorem dX8_trueCount_14 : decode cX8_trueCount 14 = .ok (.iload_n 1, 1) := by decide +kernel
theorem dX8_trueCount_15 : decode cX8_trueCount 15 = .ok (.iaload, 1) := by decide +kernel
theorem dX8_trueCount_16 : decode cX8_trueCount 16 = .ok (.ireturn, 1) := by decide +kernel
set_option maxRecDepth 20000 in
theorem ggX8_calls_X2_sumOfCalls : GoodIn wsX8_calls wsX2_sumOfCalls := goodIn_r _ [7, 8, 9, 10, 11, 19, 20, 21] (by decide +kernel) (by decide +kernel)
set_option maxRecDepth 20000 in
theorem gX8_calls_X2_sumOfCalls : GoodIn wsX8_calls (wsV RX8 41 RX2 yX2_sumOfCalls wsX2_sumOfCalls) := goodIn_app (goodIn_of _ (by decide +kernel)) ggX8_calls_X2_sumOfCalls
theorem dX8_calls_0 : decode cX8_calls 0 = .ok (.aload_n 0, 1) := by decide +kernel
theorem dX8_calls_1 : decode cX8_calls 1 = .ok (.getfield 10, 3) := by decide +kernel
theorem dX8_calls_4 : decode cX8_calls 4 = .ok (.getfield 37, 3) := by decide +kernel
theorem dX8_calls_7 : decode cX8_calls 7 = .ok (.invokevirtual 41, 3) := by decide +kernel
theorem dX8_calls_10 : decode cX8_calls 10 = .ok (.ireturn, 1) := by decide +kernel
set_option maxRecDepth 20000 in
theorem ggX8_callsByCounters_X8_sumOf : GoodIn wsX8_callsByCounters wsX8_sumOf := goodIn_r _ [8] (by decide +kernel) (by decide +kernel)
set_option maxRecDepth 20000 in
theorem gX8_callsByCounters_X8_sumOf : GoodIn wsX8_callsByCounters (va_wsS RX8 204 yX8_sumOf wsX8_sumOf) := goodIn_app (goodIn_of _ (by decide +kernel)) ggX8_callsByCounters_X8_sumOf
theorem dX8_callsByCounters_0 : decode cX8_callsByCounters 0 = .ok (.aload_n 0, 1) := by decide +kernel
theorem dX8_callsByCounters_1 : decode cX8_callsByCounters 1 = .ok (.getfield 10, 3) := by decide +kernel
theorem dX8_callsByCounters_4 : decode cX8_callsByCounters 4 = .ok (.getfield 37, 3) := by decide +kernel
theorem dX8_callsByCounters_7 : decode cX8_callsByCounters 7 = .ok (.getfield 57, 3) := by decide +kernel
theorem dX8_callsByCounters_10 : decode cX8_callsByCounters 10 = .ok (.getfield 141, 3) := by decide +kernel
theorem dX8_callsByCounters_13 : decode cX8_callsByCounters 13 = .ok (.invokestatic 204, 3) := by decide +kernel
theorem dX8_callsByCounters_16 : decode cX8_callsByCounters 16 = .ok (.ireturn, 1) := by decide +kernel
set_option maxRecDepth 20000 in
theorem ggX8_parrotsHeard_X8_countersIn : GoodIn wsX8_parrotsHeard wsX8_countersIn := goodIn_r _ [7] (by decide +kernel) (by decide +kernel)
set_option maxRecDepth 20000 in
theorem gX8_parrotsHeard_X8_countersIn : GoodIn wsX8_parrotsHeard (va_wsS RX8 208 yX8_countersIn wsX8_countersIn) := goodIn_app (goodIn_of _ (by decide +kernel)) ggX8_parrotsHeard_X8_countersIn
theorem dX8_parrotsHeard_0 : decode cX8_parrotsHeard 0 = .ok (.aload_n 0, 1) := by decide +kernel
theorem dX8_parrotsHeard_1 : decode cX8_parrotsHeard 1 = .ok (.getfield 10, 3) := by decide +kernel
theorem dX8_parrotsHeard_4 : decode cX8_parrotsHeard 4 = .ok (.getfield 37, 3) := by decide +kernel
theorem dX8_parrotsHeard_7 : decode cX8_parrotsHeard 7 = .ok (.getfield 201, 3) := by decide +kernel
theorem dX8_parrotsHeard_10 : decode cX8_parrotsHeard 10 = .ok (.invokestatic 208, 3) := by decide +kernel
theorem dX8_parrotsHeard_13 : decode cX8_parrotsHeard 13 = .ok (.ireturn, 1) := by decide +kernel
set_option maxRecDepth 20000 in
theorem ggX8_greatestError_X0_estimateOf : GoodIn wsX8_greatestError wsX0_estimateOf := goodIn_r _ [13, 14, 15, 16, 17, 12, 18, 19, 20, 21, 22, 23, 24, 25, 26, 27, 28, 29, 30, 31, 32, 33, 44, 45, 46, 47, 48, 49] (by decide +kernel) (by decide +kernel)
set_option maxRecDepth 20000 in
theorem gX8_greatestError_X0_estimateOf : GoodIn wsX8_greatestError (wsV RX8 61 RX0 yX0_estimateOf wsX0_estimateOf) := goodIn_app (goodIn_of _ (by decide +kernel)) ggX8_greatestError_X0_estimateOf
theorem dX8_greatestError_0 : decode cX8_greatestError 0 = .ok (.iconst 0, 1) := by decide +kernel
theorem dX8_greatestError_1 : decode cX8_greatestError 1 = .ok (.istore_n 1, 1) := by decide +kernel
theorem dX8_greatestError_2 : decode cX8_greatestError 2 = .ok (.iconst 0, 1) := by decide +kernel
theorem dX8_greatestError_3 : decode cX8_greatestError 3 = .ok (.istore_n 2, 1) := by decide +kernel
theorem dX8_greatestError_4 : decode cX8_greatestError 4 = .ok (.iload_n 2, 1) := by decide +kernel
theorem dX8_greatestError_5 : decode cX8_greatestError 5 = .ok (.bipush 26, 2) := by decide +kernel
theorem dX8_greatestError_7 : decode cX8_greatestError 7 = .ok (.if_icmp .ge 43, 3) := by decide +kernel
theorem dX8_greatestError_10 : decode cX8_greatestError 10 = .ok (.aload_n 0, 1) := by decide +kernel
theorem dX8_greatestError_11 : decode cX8_greatestError 11 = .ok (.getfield 10, 3) := by decide +kernel
theorem dX8_greatestError_14 : decode cX8_greatestError 14 = .ok (.getfield 37, 3) := by decide +kernel
theorem dX8_greatestError_17 : decode cX8_greatestError 17 = .ok (.getfield 57, 3) := by decide +kernel
theorem dX8_greatestError_20 : decode cX8_greatestError 20 = .ok (.iload_n 2, 1) := by decide +kernel
theorem dX8_greatestError_21 : decode cX8_greatestError 21 = .ok (.invokevirtual 61, 3) := by decide +kernel
theorem dX8_greatestError_24 : decode cX8_greatestError 24 = .ok (.aload_n 0, 1) := by decide +kernel
theorem dX8_greatestError_25 : decode cX8_greatestError 25 = .ok (.getfield 10, 3) := by decide +kernel
theorem dX8_greatestError_28 : decode cX8_greatestError 28 = .ok (.getfield 37, 3) := by decide +kernel
theorem dX8_greatestError_31 : decode cX8_greatestError 31 = .ok (.getfield 201, 3) := by decide +kernel
theorem dX8_greatestError_34 : decode cX8_greatestError 34 = .ok (.iload_n 2, 1) := by decide +kernel
theorem dX8_greatestError_35 : decode cX8_greatestError 35 = .ok (.iaload, 1) := by decide +kernel
theorem dX8_greatestError_36 : decode cX8_greatestError 36 = .ok (.isub, 1) := by decide +kernel
theorem dX8_greatestError_37 : decode cX8_greatestError 37 = .ok (.istore_n 3, 1) := by decide +kernel
theorem dX8_greatestError_38 : decode cX8_greatestError 38 = .ok (.iload_n 1, 1) := by decide +kernel
theorem dX8_greatestError_39 : decode cX8_greatestError 39 = .ok (.iload_n 3, 1) := by decide +kernel
theorem dX8_greatestError_40 : decode cX8_greatestError 40 = .ok (.invokestatic 211, 3) := by decide +kernel
theorem dX8_greatestError_43 : decode cX8_greatestError 43 = .ok (.istore_n 1, 1) := by decide +kernel
theorem dX8_greatestError_44 : decode cX8_greatestError 44 = .ok (.iinc 2 1, 3) := by decide +kernel
theorem dX8_greatestError_47 : decode cX8_greatestError 47 = .ok (.goto (-43), 3) := by decide +kernel
theorem dX8_greatestError_50 : decode cX8_greatestError 50 = .ok (.iload_n 1, 1) := by decide +kernel
theorem dX8_greatestError_51 : decode cX8_greatestError 51 = .ok (.ireturn, 1) := by decide +kernel
theorem dX8_hasAside_0 : decode cX8_hasAside 0 = .ok (.aload_n 0, 1) := by decide +kernel
theorem dX8_hasAside_1 : decode cX8_hasAside 1 = .ok (.getfield 10, 3) := by decide +kernel
theorem dX8_hasAside_4 : decode cX8_hasAside 4 = .ok (.getfield 102, 3) := by decide +kernel
theorem dX8_hasAside_7 : decode cX8_hasAside 7 = .ok (.ireturn, 1) := by decide +kernel
set_option maxRecDepth 20000 in
theorem ggX8_loudestShare_X2_sumOfCalls : GoodIn wsX8_loudestShare wsX2_sumOfCalls := goodIn_r _ [9, 10, 11, 12, 13, 27, 28, 29] (by decide +kernel) (by decide +kernel)
set_option maxRecDepth 20000 in
theorem gX8_loudestShare_X2_sumOfCalls : GoodIn wsX8_loudestShare (wsV RX8 41 RX2 yX2_sumOfCalls wsX2_sumOfCalls) := goodIn_app (goodIn_of _ (by decide +kernel)) ggX8_loudestShare_X2_sumOfCalls
set_option maxRecDepth 20000 in
theorem ggX8_loudestShare_X8_parrotAt : GoodIn wsX8_loudestShare wsX8_parrotAt := goodIn_r _ [16, 17, 18, 12, 19] (by decide +kernel) (by decide +kernel)
set_option maxRecDepth 20000 in
theorem gX8_loudestShare_X8_parrotAt : GoodIn wsX8_loudestShare (va_wsS RX8 167 yX8_parrotAt wsX8_parrotAt) := goodIn_app (goodIn_of _ (by decide +kernel)) ggX8_loudestShare_X8_parrotAt
theorem dX8_loudestShare_0 : decode cX8_loudestShare 0 = .ok (.aload_n 0, 1) := by decide +kernel
theorem dX8_loudestShare_1 : decode cX8_loudestShare 1 = .ok (.getfield 10, 3) := by decide +kernel
theorem dX8_loudestShare_4 : decode cX8_loudestShare 4 = .ok (.getfield 37, 3) := by decide +kernel
theorem dX8_loudestShare_7 : decode cX8_loudestShare 7 = .ok (.invokevirtual 41, 3) := by decide +kernel
theorem dX8_loudestShare_10 : decode cX8_loudestShare 10 = .ok (.istore_n 1, 1) := by decide +kernel
theorem dX8_loudestShare_11 : decode cX8_loudestShare 11 = .ok (.aload_n 0, 1) := by decide +kernel
theorem dX8_loudestShare_12 : decode cX8_loudestShare 12 = .ok (.getfield 10, 3) := by decide +kernel
theorem dX8_loudestShare_15 : decode cX8_loudestShare 15 = .ok (.getfield 37, 3) := by decide +kernel
theorem dX8_loudestShare_18 : decode cX8_loudestShare 18 = .ok (.getfield 57, 3) := by decide +kernel
theorem dX8_loudestShare_21 : decode cX8_loudestShare 21 = .ok (.getfield 141, 3) := by decide +kernel
theorem dX8_loudestShare_24 : decode cX8_loudestShare 24 = .ok (.iconst 0, 1) := by decide +kernel
theorem dX8_loudestShare_25 : decode cX8_loudestShare 25 = .ok (.invokestatic 167, 3) := by decide +kernel
theorem dX8_loudestShare_28 : decode cX8_loudestShare 28 = .ok (.istore_n 2, 1) := by decide +kernel
theorem dX8_loudestShare_29 : decode cX8_loudestShare 29 = .ok (.iload_n 1, 1) := by decide +kernel
theorem dX8_loudestShare_30 : decode cX8_loudestShare 30 = .ok (.ifCond .eq 8, 3) := by decide +kernel
theorem dX8_loudestShare_33 : decode cX8_loudestShare 33 = .ok (.iload_n 2, 1) := by decide +kernel
theorem dX8_loudestShare_34 : decode cX8_loudestShare 34 = .ok (.iconst (-1), 1) := by decide +kernel
theorem dX8_loudestShare_35 : decode cX8_loudestShare 35 = .ok (.if_icmp .ne 5, 3) := by decide +kernel
theorem dX8_loudestShare_38 : decode cX8_loudestShare 38 = .ok (.dconst 0, 1) := by decide +kernel
theorem dX8_loudestShare_39 : decode cX8_loudestShare 39 = .ok (.dreturn, 1) := by decide +kernel
theorem dX8_loudestShare_40 : decode cX8_loudestShare 40 = .ok (.aload_n 0, 1) := by decide +kernel
theorem dX8_loudestShare_41 : decode cX8_loudestShare 41 = .ok (.getfield 10, 3) := by decide +kernel
theorem dX8_loudestShare_44 : decode cX8_loudestShare 44 = .ok (.getfield 37, 3) := by decide +kernel
theorem dX8_loudestShare_47 : decode cX8_loudestShare 47 = .ok (.getfield 57, 3) := by decide +kernel
theorem dX8_loudestShare_50 : decode cX8_loudestShare 50 = .ok (.getfield 141, 3) := by decide +kernel
theorem dX8_loudestShare_53 : decode cX8_loudestShare 53 = .ok (.iload_n 2, 1) := by decide +kernel
theorem dX8_loudestShare_54 : decode cX8_loudestShare 54 = .ok (.iaload, 1) := by decide +kernel
theorem dX8_loudestShare_55 : decode cX8_loudestShare 55 = .ok (.i2d, 1) := by decide +kernel
theorem dX8_loudestShare_56 : decode cX8_loudestShare 56 = .ok (.iload_n 1, 1) := by decide +kernel
theorem dX8_loudestShare_57 : decode cX8_loudestShare 57 = .ok (.i2d, 1) := by decide +kernel
theorem dX8_loudestShare_58 : decode cX8_loudestShare 58 = .ok (.ddiv, 1) := by decide +kernel
theorem dX8_loudestShare_59 : decode cX8_loudestShare 59 = .ok (.dreturn, 1) := by decide +kernel
theorem dX8_historySize_0 : decode cX8_historySize 0 = .ok (.aload_n 0, 1) := by decide +kernel
theorem dX8_historySize_1 : decode cX8_historySize 1 = .ok (.getfield 19, 3) := by decide +kernel
theorem dX8_historySize_4 : decode cX8_historySize 4 = .ok (.getfield 129, 3) := by decide +kernel
theorem dX8_historySize_7 : decode cX8_historySize 7 = .ok (.ireturn, 1) := by decide +kernel
theorem dX8_requireParrot_0 : decode cX8_requireParrot 0 = .ok (.iload_n 0, 1) := by decide +kernel
theorem dX8_requireParrot_1 : decode cX8_requireParrot 1 = .ok (.ifCond .lt 9, 3) := by decide +kernel
theorem dX8_requireParrot_4 : decode cX8_requireParrot 4 = .ok (.iload_n 0, 1) := by decide +kernel
theorem dX8_requireParrot_5 : decode cX8_requireParrot 5 = .ok (.bipush 26, 2) := by decide +kernel
theorem dX8_requireParrot_7 : decode cX8_requireParrot 7 = .ok (.if_icmp .lt 13, 3) := by decide +kernel
theorem dX8_requireParrot_10 : decode cX8_requireParrot 10 = .ok (.new 217, 3) := by decide +kernel
theorem dX8_requireParrot_13 : decode cX8_requireParrot 13 = .ok (.dup, 1) := by decide +kernel
theorem dX8_requireParrot_14 : decode cX8_requireParrot 14 = .ok (.ldc 219, 2) := by decide +kernel
theorem dX8_requireParrot_16 : decode cX8_requireParrot 16 = .ok (.invokespecial 221, 3) := by decide +kernel
theorem dX8_requireParrot_19 : decode cX8_requireParrot 19 = .ok (.athrow, 1) := by decide +kernel
theorem dX8_requireParrot_20 : decode cX8_requireParrot 20 = .ok (.return_, 1) := by decide +kernel
theorem dX8_requireFewCalls_0 : decode cX8_requireFewCalls 0 = .ok (.iload_n 0, 1) := by decide +kernel
theorem dX8_requireFewCalls_1 : decode cX8_requireFewCalls 1 = .ok (.ldc 222, 2) := by decide +kernel
theorem dX8_requireFewCalls_3 : decode cX8_requireFewCalls 3 = .ok (.if_icmp .le 13, 3) := by decide +kernel
theorem dX8_requireFewCalls_6 : decode cX8_requireFewCalls 6 = .ok (.new 70, 3) := by decide +kernel
theorem dX8_requireFewCalls_9 : decode cX8_requireFewCalls 9 = .ok (.dup, 1) := by decide +kernel
theorem dX8_requireFewCalls_10 : decode cX8_requireFewCalls 10 = .ok (.ldc 223, 2) := by decide +kernel
theorem dX8_requireFewCalls_12 : decode cX8_requireFewCalls 12 = .ok (.invokespecial 74, 3) := by decide +kernel
theorem dX8_requireFewCalls_15 : decode cX8_requireFewCalls 15 = .ok (.athrow, 1) := by decide +kernel
theorem dX8_requireFewCalls_16 : decode cX8_requireFewCalls 16 = .ok (.return_, 1) := by decide +kernel
theorem dX8_requirePermille_0 : decode cX8_requirePermille 0 = .ok (.iload_n 0, 1) := by decide +kernel
theorem dX8_requirePermille_1 : decode cX8_requirePermille 1 = .ok (.ifCond .lt 10, 3) := by decide +kernel
theorem dX8_requirePermille_4 : decode cX8_requirePermille 4 = .ok (.iload_n 0, 1) := by decide +kernel
theorem dX8_requirePermille_5 : decode cX8_requirePermille 5 = .ok (.sipush 1000, 3) := by decide +kernel
theorem dX8_requirePermille_8 : decode cX8_requirePermille 8 = .ok (.if_icmp .le 13, 3) := by decide +kernel
theorem dX8_requirePermille_11 : decode cX8_requirePermille 11 = .ok (.new 88, 3) := by decide +kernel
theorem dX8_requirePermille_14 : decode cX8_requirePermille 14 = .ok (.dup, 1) := by decide +kernel
theorem dX8_requirePermille_15 : decode cX8_requirePermille 15 = .ok (.ldc 225, 2) := by decide +kernel
theorem dX8_requirePermille_17 : decode cX8_requirePermille 17 = .ok (.invokespecial 92, 3) := by decide +kernel
theorem dX8_requirePermille_20 : decode cX8_requirePermille 20 = .ok (.athrow, 1) := by decide +kernel
theorem dX8_requirePermille_21 : decode cX8_requirePermille 21 = .ok (.return_, 1) := by decide +kernel
set_option maxRecDepth 20000 in
theorem ggX8_requireSong_X6_isSong : GoodIn wsX8_requireSong wsX6_isSong := goodIn_r _ [10, 11, 12, 13, 14, 15, 9, 16, 17, 18, 19, 20, 21, 22, 23, 24, 25, 26, 27, 28, 29, 30, 31, 32, 33, 34, 35, 36, 37, 38, 39, 40, 41, 42, 43, 44, 45, 46, 47, 48, 49, 50, 51, 52, 53, 54, 55, 56, 57, 58, 59, 60, 64, 65, 66, 67, 68, 69, 70, 71, 72, 73] (by decide +kernel) (by decide +kernel)
set_option maxRecDepth 20000 in
theorem gX8_requireSong_X6_isSong : GoodIn wsX8_requireSong (wsV RX8 120 RX6 yX6_isSong wsX6_isSong) := goodIn_app (goodIn_of _ (by decide +kernel)) ggX8_requireSong_X6_isSong
theorem dX8_requireSong_0 : decode cX8_requireSong 0 = .ok (.aload_n 0, 1) := by decide +kernel
theorem dX8_requireSong_1 : decode cX8_requireSong 1 = .ok (.getfield 26, 3) := by decide +kernel
theorem dX8_requireSong_4 : decode cX8_requireSong 4 = .ok (.invokevirtual 120, 3) := by decide +kernel
theorem dX8_requireSong_7 : decode cX8_requireSong 7 = .ok (.ifCond .ne 13, 3) := by decide +kernel
theorem dX8_requireSong_10 : decode cX8_requireSong 10 = .ok (.new 88, 3) := by decide +kernel
theorem dX8_requireSong_13 : decode cX8_requireSong 13 = .ok (.dup, 1) := by decide +kernel
theorem dX8_requireSong_14 : decode cX8_requireSong 14 = .ok (.ldc 227, 2) := by decide +kernel
theorem dX8_requireSong_16 : decode cX8_requireSong 16 = .ok (.invokespecial 92, 3) := by decide +kernel
theorem dX8_requireSong_19 : decode cX8_requireSong 19 = .ok (.athrow, 1) := by decide +kernel
theorem dX8_requireSong_20 : decode cX8_requireSong 20 = .ok (.aload_n 0, 1) := by decide +kernel
theorem dX8_requireSong_21 : decode cX8_requireSong 21 = .ok (.getfield 26, 3) := by decide +kernel
theorem dX8_requireSong_24 : decode cX8_requireSong 24 = .ok (.getfield 229, 3) := by decide +kernel
theorem dX8_requireSong_27 : decode cX8_requireSong 27 = .ok (.getfield 233, 3) := by decide +kernel
theorem dX8_requireSong_30 : decode cX8_requireSong 30 = .ok (.ireturn, 1) := by decide +kernel
set_option maxRecDepth 20000 in
theorem ggX8_parrotsAbove_X2_sumOfCalls : GoodIn wsX8_parrotsAbove wsX2_sumOfCalls := goodIn_r _ [7, 8, 9, 10, 11, 56, 57, 58] (by decide +kernel) (by decide +kernel)
set_option maxRecDepth 20000 in
theorem gX8_parrotsAbove_X2_sumOfCalls : GoodIn wsX8_parrotsAbove (wsV RX8 41 RX2 yX2_sumOfCalls wsX2_sumOfCalls) := goodIn_app (goodIn_of _ (by decide +kernel)) ggX8_parrotsAbove_X2_sumOfCalls
set_option maxRecDepth 20000 in
theorem ggX8_parrotsAbove_X2_measured : GoodIn wsX8_parrotsAbove wsX2_measured := goodIn_r _ [15, 16, 17, 18, 8, 19, 20, 21, 22, 23, 24, 25, 26, 27, 28, 29, 30, 31, 32, 33, 34, 35, 36, 37, 38, 39, 40, 41, 42, 43, 44, 45, 46, 47, 48, 56, 57, 58, 59, 60, 61, 62, 63, 64] (by decide +kernel) (by decide +kernel)
set_option maxRecDepth 20000 in
theorem gX8_parrotsAbove_X2_measured : GoodIn wsX8_parrotsAbove (wsV RX8 238 RX2 yX2_measured wsX2_measured) := goodIn_app (goodIn_of _ (by decide +kernel)) ggX8_parrotsAbove_X2_measured
theorem dX8_parrotsAbove_0 : decode cX8_parrotsAbove 0 = .ok (.iload_n 1, 1) := by decide +kernel
theorem dX8_parrotsAbove_1 : decode cX8_parrotsAbove 1 = .ok (.aload_n 0, 1) := by decide +kernel
theorem dX8_parrotsAbove_2 : decode cX8_parrotsAbove 2 = .ok (.getfield 10, 3) := by decide +kernel
theorem dX8_parrotsAbove_5 : decode cX8_parrotsAbove 5 = .ok (.getfield 37, 3) := by decide +kernel
theorem dX8_parrotsAbove_8 : decode cX8_parrotsAbove 8 = .ok (.invokevirtual 41, 3) := by decide +kernel
theorem dX8_parrotsAbove_11 : decode cX8_parrotsAbove 11 = .ok (.imul, 1) := by decide +kernel
theorem dX8_parrotsAbove_12 : decode cX8_parrotsAbove 12 = .ok (.istore_n 3, 1) := by decide +kernel
theorem dX8_parrotsAbove_13 : decode cX8_parrotsAbove 13 = .ok (.iconst 0, 1) := by decide +kernel
theorem dX8_parrotsAbove_14 : decode cX8_parrotsAbove 14 = .ok (.istore 4, 2) := by decide +kernel
theorem dX8_parrotsAbove_16 : decode cX8_parrotsAbove 16 = .ok (.iconst 0, 1) := by decide +kernel
theorem dX8_parrotsAbove_17 : decode cX8_parrotsAbove 17 = .ok (.istore 5, 2) := by decide +kernel
theorem dX8_parrotsAbove_19 : decode cX8_parrotsAbove 19 = .ok (.iload 5, 2) := by decide +kernel
theorem dX8_parrotsAbove_21 : decode cX8_parrotsAbove 21 = .ok (.bipush 26, 2) := by decide +kernel
theorem dX8_parrotsAbove_23 : decode cX8_parrotsAbove 23 = .ok (.if_icmp .ge 39, 3) := by decide +kernel
theorem dX8_parrotsAbove_26 : decode cX8_parrotsAbove 26 = .ok (.aload_n 0, 1) := by decide +kernel
theorem dX8_parrotsAbove_27 : decode cX8_parrotsAbove 27 = .ok (.getfield 10, 3) := by decide +kernel
theorem dX8_parrotsAbove_30 : decode cX8_parrotsAbove 30 = .ok (.getfield 37, 3) := by decide +kernel
theorem dX8_parrotsAbove_33 : decode cX8_parrotsAbove 33 = .ok (.iload 5, 2) := by decide +kernel
theorem dX8_parrotsAbove_35 : decode cX8_parrotsAbove 35 = .ok (.aload_n 2, 1) := by decide +kernel
theorem dX8_parrotsAbove_36 : decode cX8_parrotsAbove 36 = .ok (.invokevirtual 238, 3) := by decide +kernel
theorem dX8_parrotsAbove_39 : decode cX8_parrotsAbove 39 = .ok (.sipush 1000, 3) := by decide +kernel
theorem dX8_parrotsAbove_42 : decode cX8_parrotsAbove 42 = .ok (.imul, 1) := by decide +kernel
theorem dX8_parrotsAbove_43 : decode cX8_parrotsAbove 43 = .ok (.iload_n 3, 1) := by decide +kernel
theorem dX8_parrotsAbove_44 : decode cX8_parrotsAbove 44 = .ok (.if_icmp .le 12, 3) := by decide +kernel
theorem dX8_parrotsAbove_47 : decode cX8_parrotsAbove 47 = .ok (.iload 4, 2) := by decide +kernel
theorem dX8_parrotsAbove_49 : decode cX8_parrotsAbove 49 = .ok (.iconst 1, 1) := by decide +kernel
theorem dX8_parrotsAbove_50 : decode cX8_parrotsAbove 50 = .ok (.iload 5, 2) := by decide +kernel
theorem dX8_parrotsAbove_52 : decode cX8_parrotsAbove 52 = .ok (.ishl, 1) := by decide +kernel
theorem dX8_parrotsAbove_53 : decode cX8_parrotsAbove 53 = .ok (.ior, 1) := by decide +kernel
theorem dX8_parrotsAbove_54 : decode cX8_parrotsAbove 54 = .ok (.istore 4, 2) := by decide +kernel
theorem dX8_parrotsAbove_56 : decode cX8_parrotsAbove 56 = .ok (.iinc 5 1, 3) := by decide +kernel
theorem dX8_parrotsAbove_59 : decode cX8_parrotsAbove 59 = .ok (.goto (-40), 3) := by decide +kernel
theorem dX8_parrotsAbove_62 : decode cX8_parrotsAbove 62 = .ok (.iload 4, 2) := by decide +kernel
theorem dX8_parrotsAbove_64 : decode cX8_parrotsAbove 64 = .ok (.ireturn, 1) := by decide +kernel
theorem dX8_sumOf_0 : decode cX8_sumOf 0 = .ok (.iconst 0, 1) := by decide +kernel
theorem dX8_sumOf_1 : decode cX8_sumOf 1 = .ok (.istore_n 1, 1) := by decide +kernel
theorem dX8_sumOf_2 : decode cX8_sumOf 2 = .ok (.aload_n 0, 1) := by decide +kernel
theorem dX8_sumOf_3 : decode cX8_sumOf 3 = .ok (.astore_n 2, 1) := by decide +kernel
theorem dX8_sumOf_4 : decode cX8_sumOf 4 = .ok (.aload_n 2, 1) := by decide +kernel
theorem dX8_sumOf_5 : decode cX8_sumOf 5 = .ok (.arraylength, 1) := by decide +kernel
theorem dX8_sumOf_6 : decode cX8_sumOf 6 = .ok (.istore_n 3, 1) := by decide +kernel
theorem dX8_sumOf_7 : decode cX8_sumOf 7 = .ok (.iconst 0, 1) := by decide +kernel
theorem dX8_sumOf_8 : decode cX8_sumOf 8 = .ok (.istore 4, 2) := by decide +kernel
theorem dX8_sumOf_10 : decode cX8_sumOf 10 = .ok (.iload 4, 2) := by decide +kernel
theorem dX8_sumOf_12 : decode cX8_sumOf 12 = .ok (.iload_n 3, 1) := by decide +kernel
theorem dX8_sumOf_13 : decode cX8_sumOf 13 = .ok (.if_icmp .ge 20, 3) := by decide +kernel
theorem dX8_sumOf_16 : decode cX8_sumOf 16 = .ok (.aload_n 2, 1) := by decide +kernel
theorem dX8_sumOf_17 : decode cX8_sumOf 17 = .ok (.iload 4, 2) := by decide +kernel
theorem dX8_sumOf_19 : decode cX8_sumOf 19 = .ok (.iaload, 1) := by decide +kernel
theorem dX8_sumOf_20 : decode cX8_sumOf 20 = .ok (.istore 5, 2) := by decide +kernel
theorem dX8_sumOf_22 : decode cX8_sumOf 22 = .ok (.iload_n 1, 1) := by decide +kernel
theorem dX8_sumOf_23 : decode cX8_sumOf 23 = .ok (.iload 5, 2) := by decide +kernel
theorem dX8_sumOf_25 : decode cX8_sumOf 25 = .ok (.iadd, 1) := by decide +kernel
theorem dX8_sumOf_26 : decode cX8_sumOf 26 = .ok (.istore_n 1, 1) := by decide +kernel
theorem dX8_sumOf_27 : decode cX8_sumOf 27 = .ok (.iinc 4 1, 3) := by decide +kernel
theorem dX8_sumOf_30 : decode cX8_sumOf 30 = .ok (.goto (-20), 3) := by decide +kernel
theorem dX8_sumOf_33 : decode cX8_sumOf 33 = .ok (.iload_n 1, 1) := by decide +kernel
theorem dX8_sumOf_34 : decode cX8_sumOf 34 = .ok (.ireturn, 1) := by decide +kernel
theorem dX8_countersIn_0 : decode cX8_countersIn 0 = .ok (.iconst 0, 1) := by decide +kernel
theorem dX8_countersIn_1 : decode cX8_countersIn 1 = .ok (.istore_n 1, 1) := by decide +kernel
theorem dX8_countersIn_2 : decode cX8_countersIn 2 = .ok (.aload_n 0, 1) := by decide +kernel
theorem dX8_countersIn_3 : decode cX8_countersIn 3 = .ok (.astore_n 2, 1) := by decide +kernel
theorem dX8_countersIn_4 : decode cX8_countersIn 4 = .ok (.aload_n 2, 1) := by decide +kernel
theorem dX8_countersIn_5 : decode cX8_countersIn 5 = .ok (.arraylength, 1) := by decide +kernel
theorem dX8_countersIn_6 : decode cX8_countersIn 6 = .ok (.istore_n 3, 1) := by decide +kernel
theorem dX8_countersIn_7 : decode cX8_countersIn 7 = .ok (.iconst 0, 1) := by decide +kernel
theorem dX8_countersIn_8 : decode cX8_countersIn 8 = .ok (.istore 4, 2) := by decide +kernel
theorem dX8_countersIn_10 : decode cX8_countersIn 10 = .ok (.iload 4, 2) := by decide +kernel
theorem dX8_countersIn_12 : decode cX8_countersIn 12 = .ok (.iload_n 3, 1) := by decide +kernel
theorem dX8_countersIn_13 : decode cX8_countersIn 13 = .ok (.if_icmp .ge 23, 3) := by decide +kernel
theorem dX8_countersIn_16 : decode cX8_countersIn 16 = .ok (.aload_n 2, 1) := by decide +kernel
theorem dX8_countersIn_17 : decode cX8_countersIn 17 = .ok (.iload 4, 2) := by decide +kernel
theorem dX8_countersIn_19 : decode cX8_countersIn 19 = .ok (.iaload, 1) := by decide +kernel
theorem dX8_countersIn_20 : decode cX8_countersIn 20 = .ok (.istore 5, 2) := by decide +kernel
theorem dX8_countersIn_22 : decode cX8_countersIn 22 = .ok (.iload 5, 2) := by decide +kernel
theorem dX8_countersIn_24 : decode cX8_countersIn 24 = .ok (.ifCond .le 6, 3) := by decide +kernel
theorem dX8_countersIn_27 : decode cX8_countersIn 27 = .ok (.iinc 1 1, 3) := by decide +kernel
theorem dX8_countersIn_30 : decode cX8_countersIn 30 = .ok (.iinc 4 1, 3) := by decide +kernel
theorem dX8_countersIn_33 : decode cX8_countersIn 33 = .ok (.goto (-23), 3) := by decide +kernel
theorem dX8_countersIn_36 : decode cX8_countersIn 36 = .ok (.iload_n 1, 1) := by decide +kernel
theorem dX8_countersIn_37 : decode cX8_countersIn 37 = .ok (.ireturn, 1) := by decide +kernel
set_option maxRecDepth 20000 in
theorem ggX8_parrotAt_X8_positionOf : GoodIn wsX8_parrotAt wsX8_positionOf := goodIn_r _ [4] (by decide +kernel) (by decide +kernel)
set_option maxRecDepth 20000 in
theorem gX8_parrotAt_X8_positionOf : GoodIn wsX8_parrotAt (va_wsS RX8 241 yX8_positionOf wsX8_positionOf) := goodIn_app (goodIn_of _ (by decide +kernel)) ggX8_parrotAt_X8_positionOf
theorem dX8_parrotAt_0 : decode cX8_parrotAt 0 = .ok (.iconst 0, 1) := by decide +kernel
theorem dX8_parrotAt_1 : decode cX8_parrotAt 1 = .ok (.istore_n 2, 1) := by decide +kernel
theorem dX8_parrotAt_2 : decode cX8_parrotAt 2 = .ok (.iload_n 2, 1) := by decide +kernel
theorem dX8_parrotAt_3 : decode cX8_parrotAt 3 = .ok (.aload_n 0, 1) := by decide +kernel
theorem dX8_parrotAt_4 : decode cX8_parrotAt 4 = .ok (.arraylength, 1) := by decide +kernel
theorem dX8_parrotAt_5 : decode cX8_parrotAt 5 = .ok (.if_icmp .ge 26, 3) := by decide +kernel
theorem dX8_parrotAt_8 : decode cX8_parrotAt 8 = .ok (.aload_n 0, 1) := by decide +kernel
theorem dX8_parrotAt_9 : decode cX8_parrotAt 9 = .ok (.iload_n 2, 1) := by decide +kernel
theorem dX8_parrotAt_10 : decode cX8_parrotAt 10 = .ok (.iaload, 1) := by decide +kernel
theorem dX8_parrotAt_11 : decode cX8_parrotAt 11 = .ok (.ifCond .le 14, 3) := by decide +kernel
theorem dX8_parrotAt_14 : decode cX8_parrotAt 14 = .ok (.aload_n 0, 1) := by decide +kernel
theorem dX8_parrotAt_15 : decode cX8_parrotAt 15 = .ok (.iload_n 2, 1) := by decide +kernel
theorem dX8_parrotAt_16 : decode cX8_parrotAt 16 = .ok (.invokestatic 241, 3) := by decide +kernel
theorem dX8_parrotAt_19 : decode cX8_parrotAt 19 = .ok (.iload_n 1, 1) := by decide +kernel
theorem dX8_parrotAt_20 : decode cX8_parrotAt 20 = .ok (.if_icmp .ne 5, 3) := by decide +kernel
theorem dX8_parrotAt_23 : decode cX8_parrotAt 23 = .ok (.iload_n 2, 1) := by decide +kernel
theorem dX8_parrotAt_24 : decode cX8_parrotAt 24 = .ok (.ireturn, 1) := by decide +kernel
theorem dX8_parrotAt_25 : decode cX8_parrotAt 25 = .ok (.iinc 2 1, 3) := by decide +kernel
theorem dX8_parrotAt_28 : decode cX8_parrotAt 28 = .ok (.goto (-26), 3) := by decide +kernel
theorem dX8_parrotAt_31 : decode cX8_parrotAt 31 = .ok (.iconst (-1), 1) := by decide +kernel
theorem dX8_parrotAt_32 : decode cX8_parrotAt 32 = .ok (.ireturn, 1) := by decide +kernel
theorem dX8_positionOf_0 : decode cX8_positionOf 0 = .ok (.iconst 0, 1) := by decide +kernel
theorem dX8_positionOf_1 : decode cX8_positionOf 1 = .ok (.istore_n 2, 1) := by decide +kernel
theorem dX8_positionOf_2 : decode cX8_positionOf 2 = .ok (.iconst 0, 1) := by decide +kernel
theorem dX8_positionOf_3 : decode cX8_positionOf 3 = .ok (.istore_n 3, 1) := by decide +kernel
theorem dX8_positionOf_4 : decode cX8_positionOf 4 = .ok (.iload_n 3, 1) := by decide +kernel
theorem dX8_positionOf_5 : decode cX8_positionOf 5 = .ok (.aload_n 0, 1) := by decide +kernel
theorem dX8_positionOf_6 : decode cX8_positionOf 6 = .ok (.arraylength, 1) := by decide +kernel
theorem dX8_positionOf_7 : decode cX8_positionOf 7 = .ok (.if_icmp .ge 59, 3) := by decide +kernel
theorem dX8_positionOf_10 : decode cX8_positionOf 10 = .ok (.aload_n 0, 1) := by decide +kernel
theorem dX8_positionOf_11 : decode cX8_positionOf 11 = .ok (.iload_n 3, 1) := by decide +kernel
theorem dX8_positionOf_12 : decode cX8_positionOf 12 = .ok (.iaload, 1) := by decide +kernel
theorem dX8_positionOf_13 : decode cX8_positionOf 13 = .ok (.aload_n 0, 1) := by decide +kernel
theorem dX8_positionOf_14 : decode cX8_positionOf 14 = .ok (.iload_n 1, 1) := by decide +kernel
theorem dX8_positionOf_15 : decode cX8_positionOf 15 = .ok (.iaload, 1) := by decide +kernel
theorem dX8_positionOf_16 : decode cX8_positionOf 16 = .ok (.if_icmp .le 7, 3) := by decide +kernel
theorem dX8_positionOf_19 : decode cX8_positionOf 19 = .ok (.iconst 1, 1) := by decide +kernel
theorem dX8_positionOf_20 : decode cX8_positionOf 20 = .ok (.goto 4, 3) := by decide +kernel
theorem dX8_positionOf_23 : decode cX8_positionOf 23 = .ok (.iconst 0, 1) := by decide +kernel
theorem dX8_positionOf_24 : decode cX8_positionOf 24 = .ok (.istore 4, 2) := by decide +kernel
theorem dX8_positionOf_26 : decode cX8_positionOf 26 = .ok (.aload_n 0, 1) := by decide +kernel
theorem dX8_positionOf_27 : decode cX8_positionOf 27 = .ok (.iload_n 3, 1) := by decide +kernel
theorem dX8_positionOf_28 : decode cX8_positionOf 28 = .ok (.iaload, 1) := by decide +kernel
theorem dX8_positionOf_29 : decode cX8_positionOf 29 = .ok (.aload_n 0, 1) := by decide +kernel
theorem dX8_positionOf_30 : decode cX8_positionOf 30 = .ok (.iload_n 1, 1) := by decide +kernel
theorem dX8_positionOf_31 : decode cX8_positionOf 31 = .ok (.iaload, 1) := by decide +kernel
theorem dX8_positionOf_32 : decode cX8_positionOf 32 = .ok (.if_icmp .ne 12, 3) := by decide +kernel
theorem dX8_positionOf_35 : decode cX8_positionOf 35 = .ok (.iload_n 3, 1) := by decide +kernel
theorem dX8_positionOf_36 : decode cX8_positionOf 36 = .ok (.iload_n 1, 1) := by decide +kernel
theorem dX8_positionOf_37 : decode cX8_positionOf 37 = .ok (.if_icmp .ge 7, 3) := by decide +kernel
theorem dX8_positionOf_40 : decode cX8_positionOf 40 = .ok (.iconst 1, 1) := by decide +kernel
theorem dX8_positionOf_41 : decode cX8_positionOf 41 = .ok (.goto 4, 3) := by decide +kernel
theorem dX8_positionOf_44 : decode cX8_positionOf 44 = .ok (.iconst 0, 1) := by decide +kernel
theorem dX8_positionOf_45 : decode cX8_positionOf 45 = .ok (.istore 5, 2) := by decide +kernel
theorem dX8_positionOf_47 : decode cX8_positionOf 47 = .ok (.iload 4, 2) := by decide +kernel
theorem dX8_positionOf_49 : decode cX8_positionOf 49 = .ok (.ifCond .ne 8, 3) := by decide +kernel
theorem dX8_positionOf_52 : decode cX8_positionOf 52 = .ok (.iload 5, 2) := by decide +kernel
theorem dX8_positionOf_54 : decode cX8_positionOf 54 = .ok (.ifCond .eq 6, 3) := by decide +kernel
theorem dX8_positionOf_57 : decode cX8_positionOf 57 = .ok (.iinc 2 1, 3) := by decide +kernel
theorem dX8_positionOf_60 : decode cX8_positionOf 60 = .ok (.iinc 3 1, 3) := by decide +kernel
theorem dX8_positionOf_63 : decode cX8_positionOf 63 = .ok (.goto (-59), 3) := by decide +kernel
theorem dX8_positionOf_66 : decode cX8_positionOf 66 = .ok (.iload_n 2, 1) := by decide +kernel
theorem dX8_positionOf_67 : decode cX8_positionOf 67 = .ok (.ireturn, 1) := by decide +kernel
theorem dX8_copyRow_0 : decode cX8_copyRow 0 = .ok (.aload_n 0, 1) := by decide +kernel
theorem dX8_copyRow_1 : decode cX8_copyRow 1 = .ok (.iconst 0, 1) := by decide +kernel
theorem dX8_copyRow_2 : decode cX8_copyRow 2 = .ok (.aload_n 1, 1) := by decide +kernel
theorem dX8_copyRow_3 : decode cX8_copyRow 3 = .ok (.iconst 0, 1) := by decide +kernel
theorem dX8_copyRow_4 : decode cX8_copyRow 4 = .ok (.aload_n 0, 1) := by decide +kernel
theorem dX8_copyRow_5 : decode cX8_copyRow 5 = .ok (.arraylength, 1) := by decide +kernel
theorem dX8_copyRow_6 : decode cX8_copyRow 6 = .ok (.aload_n 1, 1) := by decide +kernel
theorem dX8_copyRow_7 : decode cX8_copyRow 7 = .ok (.arraylength, 1) := by decide +kernel
theorem dX8_copyRow_8 : decode cX8_copyRow 8 = .ok (.invokestatic 244, 3) := by decide +kernel
theorem dX8_copyRow_11 : decode cX8_copyRow 11 = .ok (.invokestatic 247, 3) := by decide +kernel
theorem dX8_copyRow_14 : decode cX8_copyRow 14 = .ok (.return_, 1) := by decide +kernel
theorem dX8_isDigit_0 : decode cX8_isDigit 0 = .ok (.iload_n 0, 1) := by decide +kernel
theorem dX8_isDigit_1 : decode cX8_isDigit 1 = .ok (.bipush 48, 2) := by decide +kernel
theorem dX8_isDigit_3 : decode cX8_isDigit 3 = .ok (.if_icmp .lt 13, 3) := by decide +kernel
theorem dX8_isDigit_6 : decode cX8_isDigit 6 = .ok (.iload_n 0, 1) := by decide +kernel
theorem dX8_isDigit_7 : decode cX8_isDigit 7 = .ok (.bipush 57, 2) := by decide +kernel
theorem dX8_isDigit_9 : decode cX8_isDigit 9 = .ok (.if_icmp .gt 7, 3) := by decide +kernel
theorem dX8_isDigit_12 : decode cX8_isDigit 12 = .ok (.iconst 1, 1) := by decide +kernel
theorem dX8_isDigit_13 : decode cX8_isDigit 13 = .ok (.goto 4, 3) := by decide +kernel
theorem dX8_isDigit_16 : decode cX8_isDigit 16 = .ok (.iconst 0, 1) := by decide +kernel
theorem dX8_isDigit_17 : decode cX8_isDigit 17 = .ok (.ireturn, 1) := by decide +kernel
theorem dX8_isName_0 : decode cX8_isName 0 = .ok (.iload_n 0, 1) := by decide +kernel
theorem dX8_isName_1 : decode cX8_isName 1 = .ok (.bipush 97, 2) := by decide +kernel
theorem dX8_isName_3 : decode cX8_isName 3 = .ok (.if_icmp .lt 13, 3) := by decide +kernel
theorem dX8_isName_6 : decode cX8_isName 6 = .ok (.iload_n 0, 1) := by decide +kernel
theorem dX8_isName_7 : decode cX8_isName 7 = .ok (.bipush 122, 2) := by decide +kernel
theorem dX8_isName_9 : decode cX8_isName 9 = .ok (.if_icmp .gt 7, 3) := by decide +kernel
theorem dX8_isName_12 : decode cX8_isName 12 = .ok (.iconst 1, 1) := by decide +kernel
theorem dX8_isName_13 : decode cX8_isName 13 = .ok (.goto 4, 3) := by decide +kernel
theorem dX8_isName_16 : decode cX8_isName 16 = .ok (.iconst 0, 1) := by decide +kernel
theorem dX8_isName_17 : decode cX8_isName 17 = .ok (.ireturn, 1) := by decide +kernel
theorem dJ9_max_7cf53_0 : decode cJ9_max_7cf53 0 = .ok (.iload_n 0, 1) := by decide +kernel
theorem dJ9_max_7cf53_1 : decode cJ9_max_7cf53 1 = .ok (.iload_n 1, 1) := by decide +kernel
theorem dJ9_max_7cf53_2 : decode cJ9_max_7cf53 2 = .ok (.if_icmp .lt 7, 3) := by decide +kernel
theorem dJ9_max_7cf53_5 : decode cJ9_max_7cf53 5 = .ok (.iload_n 0, 1) := by decide +kernel
theorem dJ9_max_7cf53_6 : decode cJ9_max_7cf53 6 = .ok (.goto 4, 3) := by decide +kernel
theorem dJ9_max_7cf53_9 : decode cJ9_max_7cf53 9 = .ok (.iload_n 1, 1) := by decide +kernel
theorem dJ9_max_7cf53_10 : decode cJ9_max_7cf53 10 = .ok (.ireturn, 1) := by decide +kernel
theorem dJ9_min_7cf53_0 : decode cJ9_min_7cf53 0 = .ok (.iload_n 0, 1) := by decide +kernel
theorem dJ9_min_7cf53_1 : decode cJ9_min_7cf53 1 = .ok (.iload_n 1, 1) := by decide +kernel
theorem dJ9_min_7cf53_2 : decode cJ9_min_7cf53 2 = .ok (.if_icmp .gt 7, 3) := by decide +kernel
theorem dJ9_min_7cf53_5 : decode cJ9_min_7cf53 5 = .ok (.iload_n 0, 1) := by decide +kernel
theorem dJ9_min_7cf53_6 : decode cJ9_min_7cf53 6 = .ok (.goto 4, 3) := by decide +kernel
theorem dJ9_min_7cf53_9 : decode cJ9_min_7cf53 9 = .ok (.iload_n 1, 1) := by decide +kernel
theorem dJ9_min_7cf53_10 : decode cJ9_min_7cf53 10 = .ok (.ireturn, 1) := by decide +kernel
theorem dJ7_fill_53178_0 : decode cJ7_fill_53178 0 = .ok (.iconst 0, 1) := by decide +kernel
theorem dJ7_fill_53178_1 : decode cJ7_fill_53178 1 = .ok (.istore_n 2, 1) := by decide +kernel
theorem dJ7_fill_53178_2 : decode cJ7_fill_53178 2 = .ok (.aload_n 0, 1) := by decide +kernel
theorem dJ7_fill_53178_3 : decode cJ7_fill_53178 3 = .ok (.arraylength, 1) := by decide +kernel
theorem dJ7_fill_53178_4 : decode cJ7_fill_53178 4 = .ok (.istore_n 3, 1) := by decide +kernel
theorem dJ7_fill_53178_5 : decode cJ7_fill_53178 5 = .ok (.iload_n 2, 1) := by decide +kernel
theorem dJ7_fill_53178_6 : decode cJ7_fill_53178 6 = .ok (.iload_n 3, 1) := by decide +kernel
theorem dJ7_fill_53178_7 : decode cJ7_fill_53178 7 = .ok (.if_icmp .ge 13, 3) := by decide +kernel
theorem dJ7_fill_53178_10 : decode cJ7_fill_53178 10 = .ok (.aload_n 0, 1) := by decide +kernel
theorem dJ7_fill_53178_11 : decode cJ7_fill_53178 11 = .ok (.iload_n 2, 1) := by decide +kernel
theorem dJ7_fill_53178_12 : decode cJ7_fill_53178 12 = .ok (.iload_n 1, 1) := by decide +kernel
theorem dJ7_fill_53178_13 : decode cJ7_fill_53178 13 = .ok (.iastore, 1) := by decide +kernel
theorem dJ7_fill_53178_14 : decode cJ7_fill_53178 14 = .ok (.iinc 2 1, 3) := by decide +kernel
theorem dJ7_fill_53178_17 : decode cJ7_fill_53178 17 = .ok (.goto (-12), 3) := by decide +kernel
theorem dJ7_fill_53178_20 : decode cJ7_fill_53178 20 = .ok (.return_, 1) := by decide +kernel
