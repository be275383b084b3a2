set_option maxRecDepth 20000 in
theorem ggL_hear_X8_hear : GoodIn wsL_hear wsX8_hear := goodIn_ca (goodIn_ca (goodIn_r _ [7, 8, 9, 10, 11, 12, 13, 6, 14, 15, 16, 17, 18, 19, 20, 21, 22, 23, 24, 25, 26, 27, 28, 29, 30, 31, 32, 33, 34, 35, 36, 37, 38, 39, 40, 41, 42, 43, 44, 45, 46, 47, 48, 49, 50, 51, 52, 53, 54, 55, 56, 57, 58, 59, 60, 61, 62, 63, 64, 65, 66, 67, 68, 69, 70, 71, 72, 73, 74, 75, 76, 77, 78, 79, 80, 81, 82, 83, 84, 85, 86, 87, 88, 89, 90, 91, 92, 93, 94, 95, 96, 97, 98, 99, 100, 101, 102, 103, 104, 105, 106, 107, 108, 109, 110, 111, 112, 113, 114, 115, 116, 117, 118, 119, 120, 121, 122, 123, 124, 125, 126, 127, 128, 129, 130, 131, 132, 133, 134, 135, 136, 137, 138, 139, 140, 141, 142, 143, 144, 145, 146, 147, 148, 149, 150, 151, 152, 153, 154, 155, 156] (by decide +kernel) (by decide +kernel)) (goodIn_sub (fun _ h => List.mem_cons_of_mem _ (List.mem_append_left _ (List.mem_append_right _ h))) (by decide +kernel))) (goodIn_sub (fun _ h => List.mem_cons_of_mem _ (List.mem_append_right _ h)) (by decide +kernel))
set_option maxRecDepth 20000 in
theorem gL_hear_X8_hear : GoodIn wsL_hear (wsV RL 7 RX8 yX8_hear wsX8_hear) := goodIn_app (goodIn_of _ (by decide +kernel)) ggL_hear_X8_hear
theorem dL_hear_0 : decode cL_hear 0 = .ok (.aload_n 2, 1) := by decide +kernel
theorem dL_hear_1 : decode cL_hear 1 = .ok (.iconst 0, 1) := by decide +kernel
theorem dL_hear_2 : decode cL_hear 2 = .ok (.aload_n 0, 1) := by decide +kernel
theorem dL_hear_3 : decode cL_hear 3 = .ok (.iload_n 1, 1) := by decide +kernel
theorem dL_hear_4 : decode cL_hear 4 = .ok (.invokevirtual 7, 3) := by decide +kernel
theorem dL_hear_7 : decode cL_hear 7 = .ok (.i2l, 1) := by decide +kernel
theorem dL_hear_8 : decode cL_hear 8 = .ok (.lastore, 1) := by decide +kernel
theorem dL_hear_9 : decode cL_hear 9 = .ok (.goto 9, 3) := by decide +kernel
theorem dL_hear_12 : decode cL_hear 12 = .ok (.astore_n 3, 1) := by decide +kernel
theorem dL_hear_13 : decode cL_hear 13 = .ok (.iconst 1, 1) := by decide +kernel
theorem dL_hear_14 : decode cL_hear 14 = .ok (.ireturn, 1) := by decide +kernel
theorem dL_hear_15 : decode cL_hear 15 = .ok (.astore_n 3, 1) := by decide +kernel
theorem dL_hear_16 : decode cL_hear 16 = .ok (.iconst 2, 1) := by decide +kernel
theorem dL_hear_17 : decode cL_hear 17 = .ok (.ireturn, 1) := by decide +kernel
theorem dL_hear_18 : decode cL_hear 18 = .ok (.iconst 0, 1) := by decide +kernel
theorem dL_hear_19 : decode cL_hear 19 = .ok (.ireturn, 1) := by decide +kernel
set_option maxRecDepth 20000 in
theorem ggL_hearSong_X8_hearSong : GoodIn wsL_hearSong wsX8_hearSong := goodIn_ca (goodIn_ca (goodIn_r _ [7, 8, 9, 10, 11, 12, 13, 14, 15, 16, 17, 18, 6, 19, 20, 21, 22, 23, 24, 25, 26, 27, 28, 29, 30, 31, 32, 33, 34, 35, 36, 37, 38, 39, 40, 41, 42, 43, 44, 45, 46, 47, 48, 49, 50, 51, 52, 53, 54, 55, 56, 57, 58, 59, 60, 61, 62, 63, 64, 65, 66, 67, 68, 69, 70, 71, 72, 73, 74, 75, 76, 77, 78, 79, 80, 81, 82, 83, 84, 85, 86, 87, 88, 89, 90, 91, 92, 93, 94, 95, 96, 97, 98, 99, 100, 101, 102, 103, 104, 105, 106, 107, 108, 109, 110, 111, 112, 113, 114, 115, 116, 117, 118, 119, 120, 121, 122, 123, 124, 125, 126, 127, 128, 129, 130, 131, 132, 133, 134, 135, 136, 137, 138, 139, 140, 141, 142, 143, 144, 145, 146, 147, 148, 149, 150, 151, 152, 153, 154, 155, 156, 157, 158, 159, 160, 161, 162, 163, 164, 165, 166, 167, 168, 169, 170, 171, 172, 173, 174, 175, 176, 177, 178, 179, 180, 181, 182, 183, 184, 185, 186, 187, 188, 189, 190, 191, 192, 193, 194, 195, 196, 197, 198, 199, 200, 201, 202, 203, 204, 205, 206, 207, 208, 209, 210, 211, 212, 213, 214, 215, 216, 217, 218, 219, 220, 221, 222, 223, 224, 225, 226, 227, 228, 229, 230, 231, 232, 233, 234, 235, 236, 237] (by decide +kernel) (by decide +kernel)) (goodIn_sub (fun _ h => List.mem_cons_of_mem _ (List.mem_append_left _ (List.mem_append_right _ h))) (by decide +kernel))) (goodIn_sub (fun _ h => List.mem_cons_of_mem _ (List.mem_append_right _ h)) (by decide +kernel))
set_option maxRecDepth 20000 in
theorem gL_hearSong_X8_hearSong : GoodIn wsL_hearSong (wsV RL 17 RX8 yX8_hearSong wsX8_hearSong) := goodIn_app (goodIn_of _ (by decide +kernel)) ggL_hearSong_X8_hearSong
theorem dL_hearSong_0 : decode cL_hearSong 0 = .ok (.aload_n 1, 1) := by decide +kernel
theorem dL_hearSong_1 : decode cL_hearSong 1 = .ok (.iconst 0, 1) := by decide +kernel
theorem dL_hearSong_2 : decode cL_hearSong 2 = .ok (.aload_n 0, 1) := by decide +kernel
theorem dL_hearSong_3 : decode cL_hearSong 3 = .ok (.invokevirtual 17, 3) := by decide +kernel
theorem dL_hearSong_6 : decode cL_hearSong 6 = .ok (.i2l, 1) := by decide +kernel
theorem dL_hearSong_7 : decode cL_hearSong 7 = .ok (.lastore, 1) := by decide +kernel
theorem dL_hearSong_8 : decode cL_hearSong 8 = .ok (.goto 9, 3) := by decide +kernel
theorem dL_hearSong_11 : decode cL_hearSong 11 = .ok (.astore_n 2, 1) := by decide +kernel
theorem dL_hearSong_12 : decode cL_hearSong 12 = .ok (.iconst 1, 1) := by decide +kernel
theorem dL_hearSong_13 : decode cL_hearSong 13 = .ok (.ireturn, 1) := by decide +kernel
theorem dL_hearSong_14 : decode cL_hearSong 14 = .ok (.astore_n 2, 1) := by decide +kernel
theorem dL_hearSong_15 : decode cL_hearSong 15 = .ok (.iconst 2, 1) := by decide +kernel
theorem dL_hearSong_16 : decode cL_hearSong 16 = .ok (.ireturn, 1) := by decide +kernel
theorem dL_hearSong_17 : decode cL_hearSong 17 = .ok (.iconst 0, 1) := by decide +kernel
theorem dL_hearSong_18 : decode cL_hearSong 18 = .ok (.ireturn, 1) := by decide +kernel
set_option maxRecDepth 20000 in
theorem ggL_empty_X8_empty : GoodIn wsL_empty wsX8_empty := goodIn_ca (goodIn_r _ [6, 7, 8, 9, 10, 11, 12, 13, 14, 15, 16, 17, 18, 19, 20, 21, 22, 23, 24, 25, 26, 27, 28, 29, 30, 31, 32, 33, 34, 35, 36, 37, 38, 39, 40, 41, 42, 43, 44, 45, 46, 47, 48, 49, 50, 51, 52, 5, 53, 54, 55, 56, 57, 58, 59, 60, 61, 62, 63, 64, 65, 66, 67, 68, 69, 70, 71, 72, 73, 74, 75, 76, 77, 78, 79, 80, 81, 82, 83, 84, 85, 86, 87, 88, 89, 90, 91, 92, 93, 94, 95, 96, 97, 98, 99, 100, 101, 102, 103, 104, 105, 106, 107, 108, 109, 110, 111, 112] (by decide +kernel) (by decide +kernel)) (goodIn_sub (fun _ h => List.mem_cons_of_mem _ (List.mem_append_right _ h)) (by decide +kernel))
set_option maxRecDepth 20000 in
theorem gL_empty_X8_empty : GoodIn wsL_empty (wsV RL 23 RX8 yX8_empty wsX8_empty) := goodIn_app (goodIn_of _ (by decide +kernel)) ggL_empty_X8_empty
theorem dL_empty_0 : decode cL_empty 0 = .ok (.aload_n 2, 1) := by decide +kernel
theorem dL_empty_1 : decode cL_empty 1 = .ok (.iconst 0, 1) := by decide +kernel
theorem dL_empty_2 : decode cL_empty 2 = .ok (.aload_n 0, 1) := by decide +kernel
theorem dL_empty_3 : decode cL_empty 3 = .ok (.iload_n 1, 1) := by decide +kernel
theorem dL_empty_4 : decode cL_empty 4 = .ok (.invokevirtual 23, 3) := by decide +kernel
theorem dL_empty_7 : decode cL_empty 7 = .ok (.i2l, 1) := by decide +kernel
theorem dL_empty_8 : decode cL_empty 8 = .ok (.lastore, 1) := by decide +kernel
theorem dL_empty_9 : decode cL_empty 9 = .ok (.goto 6, 3) := by decide +kernel
theorem dL_empty_12 : decode cL_empty 12 = .ok (.astore_n 3, 1) := by decide +kernel
theorem dL_empty_13 : decode cL_empty 13 = .ok (.iconst 1, 1) := by decide +kernel
theorem dL_empty_14 : decode cL_empty 14 = .ok (.ireturn, 1) := by decide +kernel
theorem dL_empty_15 : decode cL_empty 15 = .ok (.iconst 0, 1) := by decide +kernel
theorem dL_empty_16 : decode cL_empty 16 = .ok (.ireturn, 1) := by decide +kernel
set_option maxRecDepth 20000 in
theorem ggL_mergeIn_X8_mergeIn : GoodIn wsL_mergeIn wsX8_mergeIn := goodIn_ca (goodIn_r _ [6, 7, 8, 9, 10, 11, 12, 13, 14, 15, 16, 17, 18, 19, 20, 5, 21, 22, 23, 24, 25, 26, 27, 28, 29, 30, 31, 32, 33, 34, 35, 36, 37, 38, 39, 40, 41, 42, 43, 44, 45, 46, 47, 48, 49, 50, 51, 52, 53, 54, 55, 56, 57, 58, 59, 60, 61, 62, 63, 64, 65, 66, 67, 68, 69, 70, 71, 72, 73, 74, 75, 76, 77, 78, 79, 80, 81, 82, 83, 84, 85, 86, 87, 88, 89, 90, 91, 92, 93, 94, 95, 96, 97, 98, 99, 100, 101, 102, 103, 104, 105, 106, 107, 108, 109, 110, 111, 112, 113, 114, 115, 116, 117, 118, 119, 120, 121, 122, 123, 124, 125, 126, 127, 128, 129, 130, 131, 132, 133, 134, 135, 136, 137, 138, 139, 140, 141, 142, 143, 144, 145, 146, 147, 148, 149, 150, 151, 152, 153, 154, 155, 156, 157, 158, 159, 160] (by decide +kernel) (by decide +kernel)) (goodIn_sub (fun _ h => List.mem_cons_of_mem _ (List.mem_append_right _ h)) (by decide +kernel))
set_option maxRecDepth 20000 in
theorem gL_mergeIn_X8_mergeIn : GoodIn wsL_mergeIn (wsV RL 26 RX8 yX8_mergeIn wsX8_mergeIn) := goodIn_app (goodIn_of _ (by decide +kernel)) ggL_mergeIn_X8_mergeIn
theorem dL_mergeIn_0 : decode cL_mergeIn 0 = .ok (.aload_n 1, 1) := by decide +kernel
theorem dL_mergeIn_1 : decode cL_mergeIn 1 = .ok (.iconst 0, 1) := by decide +kernel
theorem dL_mergeIn_2 : decode cL_mergeIn 2 = .ok (.aload_n 0, 1) := by decide +kernel
theorem dL_mergeIn_3 : decode cL_mergeIn 3 = .ok (.invokevirtual 26, 3) := by decide +kernel
theorem dL_mergeIn_6 : decode cL_mergeIn 6 = .ok (.i2l, 1) := by decide +kernel
theorem dL_mergeIn_7 : decode cL_mergeIn 7 = .ok (.lastore, 1) := by decide +kernel
theorem dL_mergeIn_8 : decode cL_mergeIn 8 = .ok (.goto 6, 3) := by decide +kernel
theorem dL_mergeIn_11 : decode cL_mergeIn 11 = .ok (.astore_n 2, 1) := by decide +kernel
theorem dL_mergeIn_12 : decode cL_mergeIn 12 = .ok (.iconst 1, 1) := by decide +kernel
theorem dL_mergeIn_13 : decode cL_mergeIn 13 = .ok (.ireturn, 1) := by decide +kernel
theorem dL_mergeIn_14 : decode cL_mergeIn 14 = .ok (.iconst 0, 1) := by decide +kernel
theorem dL_mergeIn_15 : decode cL_mergeIn 15 = .ok (.ireturn, 1) := by decide +kernel
set_option maxRecDepth 20000 in
theorem ggL_append_X8_append : GoodIn wsL_append wsX8_append := goodIn_ca (goodIn_r _ [6, 7, 8, 9, 10, 11, 12, 13, 14, 15, 16, 17, 18, 19, 20, 21, 22, 23, 24, 25] (by decide +kernel) (by decide +kernel)) (goodIn_sub (fun _ h => List.mem_cons_of_mem _ (List.mem_append_right _ h)) (by decide +kernel))
set_option maxRecDepth 20000 in
theorem gL_append_X8_append : GoodIn wsL_append (wsV RL 29 RX8 yX8_append wsX8_append) := goodIn_app (goodIn_of _ (by decide +kernel)) ggL_append_X8_append
theorem dL_append_0 : decode cL_append 0 = .ok (.aload_n 2, 1) := by decide +kernel
theorem dL_append_1 : decode cL_append 1 = .ok (.iconst 0, 1) := by decide +kernel
theorem dL_append_2 : decode cL_append 2 = .ok (.aload_n 0, 1) := by decide +kernel
theorem dL_append_3 : decode cL_append 3 = .ok (.iload_n 1, 1) := by decide +kernel
theorem dL_append_4 : decode cL_append 4 = .ok (.invokevirtual 29, 3) := by decide +kernel
theorem dL_append_7 : decode cL_append 7 = .ok (.i2l, 1) := by decide +kernel
theorem dL_append_8 : decode cL_append 8 = .ok (.lastore, 1) := by decide +kernel
theorem dL_append_9 : decode cL_append 9 = .ok (.goto 6, 3) := by decide +kernel
theorem dL_append_12 : decode cL_append 12 = .ok (.astore_n 3, 1) := by decide +kernel
theorem dL_append_13 : decode cL_append 13 = .ok (.iconst 1, 1) := by decide +kernel
theorem dL_append_14 : decode cL_append 14 = .ok (.ireturn, 1) := by decide +kernel
theorem dL_append_15 : decode cL_append 15 = .ok (.iconst 0, 1) := by decide +kernel
theorem dL_append_16 : decode cL_append 16 = .ok (.ireturn, 1) := by decide +kernel
set_option maxRecDepth 20000 in
theorem ggL_firstError_X8_firstError : GoodIn wsL_firstError wsX8_firstError := goodIn_ca (goodIn_r _ [6, 7, 8, 9, 10, 11, 12, 13, 14, 15, 16, 17, 18, 19, 20, 21, 22, 23, 24, 25, 26, 27, 28, 29, 30, 31, 32, 33, 34, 35, 36, 5, 37, 38, 39, 40, 41, 42, 43, 44, 45, 46, 47, 48, 49, 50, 51, 52, 53, 54, 55, 56, 57, 58, 59, 60, 61, 62, 63, 64, 65, 66, 67, 68, 69, 70, 71, 72, 73, 74, 75, 76, 77] (by decide +kernel) (by decide +kernel)) (goodIn_sub (fun _ h => List.mem_cons_of_mem _ (List.mem_append_right _ h)) (by decide +kernel))
set_option maxRecDepth 20000 in
theorem gL_firstError_X8_firstError : GoodIn wsL_firstError (wsV RL 33 RX8 yX8_firstError wsX8_firstError) := goodIn_app (goodIn_of _ (by decide +kernel)) ggL_firstError_X8_firstError
theorem dL_firstError_0 : decode cL_firstError 0 = .ok (.aload_n 1, 1) := by decide +kernel
theorem dL_firstError_1 : decode cL_firstError 1 = .ok (.iconst 0, 1) := by decide +kernel
theorem dL_firstError_2 : decode cL_firstError 2 = .ok (.aload_n 0, 1) := by decide +kernel
theorem dL_firstError_3 : decode cL_firstError 3 = .ok (.invokevirtual 33, 3) := by decide +kernel
theorem dL_firstError_6 : decode cL_firstError 6 = .ok (.i2l, 1) := by decide +kernel
theorem dL_firstError_7 : decode cL_firstError 7 = .ok (.lastore, 1) := by decide +kernel
theorem dL_firstError_8 : decode cL_firstError 8 = .ok (.goto 6, 3) := by decide +kernel
theorem dL_firstError_11 : decode cL_firstError 11 = .ok (.astore_n 2, 1) := by decide +kernel
theorem dL_firstError_12 : decode cL_firstError 12 = .ok (.iconst 1, 1) := by decide +kernel
theorem dL_firstError_13 : decode cL_firstError 13 = .ok (.ireturn, 1) := by decide +kernel
theorem dL_firstError_14 : decode cL_firstError 14 = .ok (.iconst 0, 1) := by decide +kernel
theorem dL_firstError_15 : decode cL_firstError 15 = .ok (.ireturn, 1) := by decide +kernel
set_option maxRecDepth 20000 in
theorem ggL_callsOfSong_X8_callsOfSong : GoodIn wsL_callsOfSong wsX8_callsOfSong := goodIn_ca (goodIn_r _ [6, 7, 8, 9, 5, 10, 11, 12, 13, 14, 15, 16, 17, 18, 19, 20, 21, 22, 23, 24, 25, 26, 27, 28, 29, 30, 31, 32, 33, 34, 35, 36, 37, 38, 39, 40, 41, 42, 43, 44, 45, 46, 47, 48, 49, 50, 51, 52, 53, 54, 55, 56, 57, 58, 59, 60, 61, 62, 63, 64, 65, 66, 67, 68, 69, 70, 71, 72, 73, 74, 75, 76, 77, 78, 79, 80, 81, 82] (by decide +kernel) (by decide +kernel)) (goodIn_sub (fun _ h => List.mem_cons_of_mem _ (List.mem_append_right _ h)) (by decide +kernel))
set_option maxRecDepth 20000 in
theorem gL_callsOfSong_X8_callsOfSong : GoodIn wsL_callsOfSong (wsV RL 36 RX8 yX8_callsOfSong wsX8_callsOfSong) := goodIn_app (goodIn_of _ (by decide +kernel)) ggL_callsOfSong_X8_callsOfSong
theorem dL_callsOfSong_0 : decode cL_callsOfSong 0 = .ok (.aload_n 1, 1) := by decide +kernel
theorem dL_callsOfSong_1 : decode cL_callsOfSong 1 = .ok (.iconst 0, 1) := by decide +kernel
theorem dL_callsOfSong_2 : decode cL_callsOfSong 2 = .ok (.aload_n 0, 1) := by decide +kernel
theorem dL_callsOfSong_3 : decode cL_callsOfSong 3 = .ok (.invokevirtual 36, 3) := by decide +kernel
theorem dL_callsOfSong_6 : decode cL_callsOfSong 6 = .ok (.i2l, 1) := by decide +kernel
theorem dL_callsOfSong_7 : decode cL_callsOfSong 7 = .ok (.lastore, 1) := by decide +kernel
theorem dL_callsOfSong_8 : decode cL_callsOfSong 8 = .ok (.goto 6, 3) := by decide +kernel
theorem dL_callsOfSong_11 : decode cL_callsOfSong 11 = .ok (.astore_n 2, 1) := by decide +kernel
theorem dL_callsOfSong_12 : decode cL_callsOfSong 12 = .ok (.iconst 1, 1) := by decide +kernel
theorem dL_callsOfSong_13 : decode cL_callsOfSong 13 = .ok (.ireturn, 1) := by decide +kernel
theorem dL_callsOfSong_14 : decode cL_callsOfSong 14 = .ok (.iconst 0, 1) := by decide +kernel
theorem dL_callsOfSong_15 : decode cL_callsOfSong 15 = .ok (.ireturn, 1) := by decide +kernel
set_option maxRecDepth 20000 in
theorem ggL_undo_X8_undo : GoodIn wsL_undo wsX8_undo := goodIn_ca (goodIn_r _ [6, 7, 8, 9, 10, 11, 12, 13, 14, 15, 16, 17, 18, 19, 20, 21, 22, 23, 24, 25, 26, 27, 28, 29, 30, 31, 32, 33, 34, 35, 36, 37, 38, 39, 40, 41, 42, 43, 44, 45, 46, 47, 48, 5, 49, 50, 51, 52, 53, 54, 55, 56, 57, 58, 59, 60, 61, 62, 63, 64, 65, 66, 67, 68, 69, 70, 71, 72, 73, 74, 75, 76, 77, 78, 79, 80, 81, 82, 83, 84, 85, 86, 87, 88, 89] (by decide +kernel) (by decide +kernel)) (goodIn_sub (fun _ h => List.mem_cons_of_mem _ (List.mem_append_right _ h)) (by decide +kernel))
set_option maxRecDepth 20000 in
theorem gL_undo_X8_undo : GoodIn wsL_undo (wsV RL 39 RX8 yX8_undo wsX8_undo) := goodIn_app (goodIn_of _ (by decide +kernel)) ggL_undo_X8_undo
theorem dL_undo_0 : decode cL_undo 0 = .ok (.aload_n 1, 1) := by decide +kernel
theorem dL_undo_1 : decode cL_undo 1 = .ok (.iconst 0, 1) := by decide +kernel
theorem dL_undo_2 : decode cL_undo 2 = .ok (.aload_n 0, 1) := by decide +kernel
theorem dL_undo_3 : decode cL_undo 3 = .ok (.invokevirtual 39, 3) := by decide +kernel
theorem dL_undo_6 : decode cL_undo 6 = .ok (.i2l, 1) := by decide +kernel
theorem dL_undo_7 : decode cL_undo 7 = .ok (.lastore, 1) := by decide +kernel
theorem dL_undo_8 : decode cL_undo 8 = .ok (.goto 6, 3) := by decide +kernel
theorem dL_undo_11 : decode cL_undo 11 = .ok (.astore_n 2, 1) := by decide +kernel
theorem dL_undo_12 : decode cL_undo 12 = .ok (.iconst 1, 1) := by decide +kernel
theorem dL_undo_13 : decode cL_undo 13 = .ok (.ireturn, 1) := by decide +kernel
theorem dL_undo_14 : decode cL_undo 14 = .ok (.iconst 0, 1) := by decide +kernel
theorem dL_undo_15 : decode cL_undo 15 = .ok (.ireturn, 1) := by decide +kernel
set_option maxRecDepth 20000 in
theorem ggL_estimate_X8_estimate : GoodIn wsL_estimate wsX8_estimate := goodIn_ca (goodIn_r _ [6, 7, 8, 9, 10, 11, 5, 12, 13, 14, 15, 16, 17, 18, 19, 20, 21, 22, 23, 24, 25, 26, 27, 28, 29, 30, 31, 32, 33, 34, 35, 36, 37, 38, 39, 40, 41, 42, 43, 44, 45, 46, 47, 48, 49, 50, 51, 52, 53, 54, 55] (by decide +kernel) (by decide +kernel)) (goodIn_sub (fun _ h => List.mem_cons_of_mem _ (List.mem_append_right _ h)) (by decide +kernel))
set_option maxRecDepth 20000 in
theorem gL_estimate_X8_estimate : GoodIn wsL_estimate (wsV RL 42 RX8 yX8_estimate wsX8_estimate) := goodIn_app (goodIn_of _ (by decide +kernel)) ggL_estimate_X8_estimate
theorem dL_estimate_0 : decode cL_estimate 0 = .ok (.aload_n 2, 1) := by decide +kernel
theorem dL_estimate_1 : decode cL_estimate 1 = .ok (.iconst 0, 1) := by decide +kernel
theorem dL_estimate_2 : decode cL_estimate 2 = .ok (.aload_n 0, 1) := by decide +kernel
theorem dL_estimate_3 : decode cL_estimate 3 = .ok (.iload_n 1, 1) := by decide +kernel
theorem dL_estimate_4 : decode cL_estimate 4 = .ok (.invokevirtual 42, 3) := by decide +kernel
theorem dL_estimate_7 : decode cL_estimate 7 = .ok (.i2l, 1) := by decide +kernel
theorem dL_estimate_8 : decode cL_estimate 8 = .ok (.lastore, 1) := by decide +kernel
theorem dL_estimate_9 : decode cL_estimate 9 = .ok (.goto 6, 3) := by decide +kernel
theorem dL_estimate_12 : decode cL_estimate 12 = .ok (.astore_n 3, 1) := by decide +kernel
theorem dL_estimate_13 : decode cL_estimate 13 = .ok (.iconst 1, 1) := by decide +kernel
theorem dL_estimate_14 : decode cL_estimate 14 = .ok (.ireturn, 1) := by decide +kernel
theorem dL_estimate_15 : decode cL_estimate 15 = .ok (.iconst 0, 1) := by decide +kernel
theorem dL_estimate_16 : decode cL_estimate 16 = .ok (.ireturn, 1) := by decide +kernel
set_option maxRecDepth 20000 in
theorem ggL_sureCount_X8_sureCount : GoodIn wsL_sureCount wsX8_sureCount := goodIn_ca (goodIn_r _ [6, 7, 8, 9, 10, 11, 5, 12, 13, 14, 15, 16, 17, 18, 19, 20, 21, 22, 23, 24, 25, 26, 27, 28, 29, 30, 31, 32, 33, 34, 35, 36, 37] (by decide +kernel) (by decide +kernel)) (goodIn_sub (fun _ h => List.mem_cons_of_mem _ (List.mem_append_right _ h)) (by decide +kernel))
set_option maxRecDepth 20000 in
theorem gL_sureCount_X8_sureCount : GoodIn wsL_sureCount (wsV RL 45 RX8 yX8_sureCount wsX8_sureCount) := goodIn_app (goodIn_of _ (by decide +kernel)) ggL_sureCount_X8_sureCount
theorem dL_sureCount_0 : decode cL_sureCount 0 = .ok (.aload_n 2, 1) := by decide +kernel
theorem dL_sureCount_1 : decode cL_sureCount 1 = .ok (.iconst 0, 1) := by decide +kernel
theorem dL_sureCount_2 : decode cL_sureCount 2 = .ok (.aload_n 0, 1) := by decide +kernel
theorem dL_sureCount_3 : decode cL_sureCount 3 = .ok (.iload_n 1, 1) := by decide +kernel
theorem dL_sureCount_4 : decode cL_sureCount 4 = .ok (.invokevirtual 45, 3) := by decide +kernel
theorem dL_sureCount_7 : decode cL_sureCount 7 = .ok (.i2l, 1) := by decide +kernel
theorem dL_sureCount_8 : decode cL_sureCount 8 = .ok (.lastore, 1) := by decide +kernel
theorem dL_sureCount_9 : decode cL_sureCount 9 = .ok (.goto 6, 3) := by decide +kernel
theorem dL_sureCount_12 : decode cL_sureCount 12 = .ok (.astore_n 3, 1) := by decide +kernel
theorem dL_sureCount_13 : decode cL_sureCount 13 = .ok (.iconst 1, 1) := by decide +kernel
theorem dL_sureCount_14 : decode cL_sureCount 14 = .ok (.ireturn, 1) := by decide +kernel
theorem dL_sureCount_15 : decode cL_sureCount 15 = .ok (.iconst 0, 1) := by decide +kernel
theorem dL_sureCount_16 : decode cL_sureCount 16 = .ok (.ireturn, 1) := by decide +kernel
set_option maxRecDepth 20000 in
theorem ggL_surplus_X8_surplus : GoodIn wsL_surplus wsX8_surplus := goodIn_ca (goodIn_ca (goodIn_r _ [7, 8, 9, 10, 11, 12, 13, 14, 15, 16, 6, 17, 18, 19, 20, 21, 22, 23, 24, 25, 26, 27, 28, 29, 30, 31, 32, 33, 34, 35] (by decide +kernel) (by decide +kernel)) (goodIn_sub (fun _ h => List.mem_cons_of_mem _ (List.mem_append_left _ (List.mem_append_right _ h))) (by decide +kernel))) (goodIn_sub (fun _ h => List.mem_cons_of_mem _ (List.mem_append_right _ h)) (by decide +kernel))
set_option maxRecDepth 20000 in
theorem gL_surplus_X8_surplus : GoodIn wsL_surplus (wsV RL 48 RX8 yX8_surplus wsX8_surplus) := goodIn_app (goodIn_of _ (by decide +kernel)) ggL_surplus_X8_surplus
theorem dL_surplus_0 : decode cL_surplus 0 = .ok (.aload_n 2, 1) := by decide +kernel
theorem dL_surplus_1 : decode cL_surplus 1 = .ok (.iconst 0, 1) := by decide +kernel
theorem dL_surplus_2 : decode cL_surplus 2 = .ok (.aload_n 0, 1) := by decide +kernel
theorem dL_surplus_3 : decode cL_surplus 3 = .ok (.iload_n 1, 1) := by decide +kernel
theorem dL_surplus_4 : decode cL_surplus 4 = .ok (.invokevirtual 48, 3) := by decide +kernel
theorem dL_surplus_7 : decode cL_surplus 7 = .ok (.i2l, 1) := by decide +kernel
theorem dL_surplus_8 : decode cL_surplus 8 = .ok (.lastore, 1) := by decide +kernel
theorem dL_surplus_9 : decode cL_surplus 9 = .ok (.goto 9, 3) := by decide +kernel
theorem dL_surplus_12 : decode cL_surplus 12 = .ok (.astore_n 3, 1) := by decide +kernel
theorem dL_surplus_13 : decode cL_surplus 13 = .ok (.iconst 1, 1) := by decide +kernel
theorem dL_surplus_14 : decode cL_surplus 14 = .ok (.ireturn, 1) := by decide +kernel
theorem dL_surplus_15 : decode cL_surplus 15 = .ok (.astore_n 3, 1) := by decide +kernel
theorem dL_surplus_16 : decode cL_surplus 16 = .ok (.iconst 2, 1) := by decide +kernel
theorem dL_surplus_17 : decode cL_surplus 17 = .ok (.ireturn, 1) := by decide +kernel
theorem dL_surplus_18 : decode cL_surplus 18 = .ok (.iconst 0, 1) := by decide +kernel
theorem dL_surplus_19 : decode cL_surplus 19 = .ok (.ireturn, 1) := by decide +kernel
set_option maxRecDepth 20000 in
theorem ggL_nextTakenOver_X8_nextTakenOver : GoodIn wsL_nextTakenOver wsX8_nextTakenOver := goodIn_ca (goodIn_r _ [6, 7, 8, 9, 10, 11, 12, 13, 14, 15, 16, 17, 18, 19, 20, 21, 22, 23, 24, 25, 26, 27, 28, 29, 30, 31, 32, 33, 34, 35, 36, 37, 38, 39, 40, 41, 42, 43, 44] (by decide +kernel) (by decide +kernel)) (goodIn_sub (fun _ h => List.mem_cons_of_mem _ (List.mem_append_right _ h)) (by decide +kernel))
set_option maxRecDepth 20000 in
theorem gL_nextTakenOver_X8_nextTakenOver : GoodIn wsL_nextTakenOver (wsV RL 53 RX8 yX8_nextTakenOver wsX8_nextTakenOver) := goodIn_app (goodIn_of _ (by decide +kernel)) ggL_nextTakenOver_X8_nextTakenOver
theorem dL_nextTakenOver_0 : decode cL_nextTakenOver 0 = .ok (.aload_n 1, 1) := by decide +kernel
theorem dL_nextTakenOver_1 : decode cL_nextTakenOver 1 = .ok (.iconst 0, 1) := by decide +kernel
theorem dL_nextTakenOver_2 : decode cL_nextTakenOver 2 = .ok (.aload_n 0, 1) := by decide +kernel
theorem dL_nextTakenOver_3 : decode cL_nextTakenOver 3 = .ok (.invokevirtual 53, 3) := by decide +kernel
theorem dL_nextTakenOver_6 : decode cL_nextTakenOver 6 = .ok (.i2l, 1) := by decide +kernel
theorem dL_nextTakenOver_7 : decode cL_nextTakenOver 7 = .ok (.lastore, 1) := by decide +kernel
theorem dL_nextTakenOver_8 : decode cL_nextTakenOver 8 = .ok (.goto 6, 3) := by decide +kernel
theorem dL_nextTakenOver_11 : decode cL_nextTakenOver 11 = .ok (.astore_n 2, 1) := by decide +kernel
theorem dL_nextTakenOver_12 : decode cL_nextTakenOver 12 = .ok (.iconst 1, 1) := by decide +kernel
theorem dL_nextTakenOver_13 : decode cL_nextTakenOver 13 = .ok (.ireturn, 1) := by decide +kernel
theorem dL_nextTakenOver_14 : decode cL_nextTakenOver 14 = .ok (.iconst 0, 1) := by decide +kernel
theorem dL_nextTakenOver_15 : decode cL_nextTakenOver 15 = .ok (.ireturn, 1) := by decide +kernel
set_option maxRecDepth 20000 in
theorem ggL_loudest_X8_loudest : GoodIn wsL_loudest wsX8_loudest := goodIn_ca (goodIn_ca (goodIn_r _ [7, 8, 9, 10, 11, 12, 13, 14, 15, 16, 17, 18, 6, 19, 20, 21, 22, 23, 24, 25, 26, 27, 28, 29, 30, 31, 32, 33, 34, 35, 36, 37, 38] (by decide +kernel) (by decide +kernel)) (goodIn_sub (fun _ h => List.mem_cons_of_mem _ (List.mem_append_left _ (List.mem_append_right _ h))) (by decide +kernel))) (goodIn_sub (fun _ h => List.mem_cons_of_mem _ (List.mem_append_right _ h)) (by decide +kernel))
set_option maxRecDepth 20000 in
theorem gL_loudest_X8_loudest : GoodIn wsL_loudest (wsV RL 56 RX8 yX8_loudest wsX8_loudest) := goodIn_app (goodIn_of _ (by decide +kernel)) ggL_loudest_X8_loudest
theorem dL_loudest_0 : decode cL_loudest 0 = .ok (.aload_n 2, 1) := by decide +kernel
theorem dL_loudest_1 : decode cL_loudest 1 = .ok (.iconst 0, 1) := by decide +kernel
theorem dL_loudest_2 : decode cL_loudest 2 = .ok (.aload_n 0, 1) := by decide +kernel
theorem dL_loudest_3 : decode cL_loudest 3 = .ok (.iload_n 1, 1) := by decide +kernel
theorem dL_loudest_4 : decode cL_loudest 4 = .ok (.invokevirtual 56, 3) := by decide +kernel
theorem dL_loudest_7 : decode cL_loudest 7 = .ok (.i2l, 1) := by decide +kernel
theorem dL_loudest_8 : decode cL_loudest 8 = .ok (.lastore, 1) := by decide +kernel
theorem dL_loudest_9 : decode cL_loudest 9 = .ok (.goto 9, 3) := by decide +kernel
theorem dL_loudest_12 : decode cL_loudest 12 = .ok (.astore_n 3, 1) := by decide +kernel
theorem dL_loudest_13 : decode cL_loudest 13 = .ok (.iconst 1, 1) := by decide +kernel
theorem dL_loudest_14 : decode cL_loudest 14 = .ok (.ireturn, 1) := by decide +kernel
theorem dL_loudest_15 : decode cL_loudest 15 = .ok (.astore_n 3, 1) := by decide +kernel
theorem dL_loudest_16 : decode cL_loudest 16 = .ok (.iconst 2, 1) := by decide +kernel
theorem dL_loudest_17 : decode cL_loudest 17 = .ok (.ireturn, 1) := by decide +kernel
theorem dL_loudest_18 : decode cL_loudest 18 = .ok (.iconst 0, 1) := by decide +kernel
theorem dL_loudest_19 : decode cL_loudest 19 = .ok (.ireturn, 1) := by decide +kernel
set_option maxRecDepth 20000 in
theorem ggL_surelyAbove_X8_surelyAbove : GoodIn wsL_surelyAbove wsX8_surelyAbove := goodIn_ca (goodIn_r _ [6, 7, 8, 9, 5, 10, 11, 12, 13, 14, 15, 16, 17, 18, 19, 20, 21, 22, 23, 24, 25, 26, 27, 28, 29, 30, 31, 32, 33, 34, 35, 36, 37, 38, 39, 40, 41, 42, 43, 44, 45, 46, 47, 48, 49, 50, 51, 52, 53, 54, 55, 56, 57, 58, 59, 60, 61, 62, 63, 64, 65, 66, 67, 68, 69, 70, 71, 72, 73, 74, 75, 76, 77, 78, 79] (by decide +kernel) (by decide +kernel)) (goodIn_sub (fun _ h => List.mem_cons_of_mem _ (List.mem_append_right _ h)) (by decide +kernel))
set_option maxRecDepth 20000 in
theorem gL_surelyAbove_X8_surelyAbove : GoodIn wsL_surelyAbove (wsV RL 59 RX8 yX8_surelyAbove wsX8_surelyAbove) := goodIn_app (goodIn_of _ (by decide +kernel)) ggL_surelyAbove_X8_surelyAbove
theorem dL_surelyAbove_0 : decode cL_surelyAbove 0 = .ok (.aload_n 2, 1) := by decide +kernel
theorem dL_surelyAbove_1 : decode cL_surelyAbove 1 = .ok (.iconst 0, 1) := by decide +kernel
theorem dL_surelyAbove_2 : decode cL_surelyAbove 2 = .ok (.aload_n 0, 1) := by decide +kernel
theorem dL_surelyAbove_3 : decode cL_surelyAbove 3 = .ok (.iload_n 1, 1) := by decide +kernel
theorem dL_surelyAbove_4 : decode cL_surelyAbove 4 = .ok (.invokevirtual 59, 3) := by decide +kernel
theorem dL_surelyAbove_7 : decode cL_surelyAbove 7 = .ok (.i2l, 1) := by decide +kernel
theorem dL_surelyAbove_8 : decode cL_surelyAbove 8 = .ok (.lastore, 1) := by decide +kernel
theorem dL_surelyAbove_9 : decode cL_surelyAbove 9 = .ok (.goto 6, 3) := by decide +kernel
theorem dL_surelyAbove_12 : decode cL_surelyAbove 12 = .ok (.astore_n 3, 1) := by decide +kernel
theorem dL_surelyAbove_13 : decode cL_surelyAbove 13 = .ok (.iconst 1, 1) := by decide +kernel
theorem dL_surelyAbove_14 : decode cL_surelyAbove 14 = .ok (.ireturn, 1) := by decide +kernel
theorem dL_surelyAbove_15 : decode cL_surelyAbove 15 = .ok (.iconst 0, 1) := by decide +kernel
theorem dL_surelyAbove_16 : decode cL_surelyAbove 16 = .ok (.ireturn, 1) := by decide +kernel
set_option maxRecDepth 20000 in
theorem ggL_perhapsAbove_X8_perhapsAbove : GoodIn wsL_perhapsAbove wsX8_perhapsAbove := goodIn_ca (goodIn_r _ [6, 7, 8, 9, 5, 10, 11, 12, 13, 14, 15, 16, 17, 18, 19, 20, 21, 22, 23, 24, 25, 26, 27, 28, 29, 30, 31, 32, 33, 34, 35, 36, 37, 38, 39, 40, 41, 42, 43, 44, 45, 46, 47, 48, 49, 50, 51, 52, 53, 54, 55, 56, 57, 58, 59, 60, 61, 62, 63, 64, 65, 66, 67, 68, 69, 70, 71, 72, 73, 74, 75, 76, 77, 78, 79] (by decide +kernel) (by decide +kernel)) (goodIn_sub (fun _ h => List.mem_cons_of_mem _ (List.mem_append_right _ h)) (by decide +kernel))
set_option maxRecDepth 20000 in
theorem gL_perhapsAbove_X8_perhapsAbove : GoodIn wsL_perhapsAbove (wsV RL 62 RX8 yX8_perhapsAbove wsX8_perhapsAbove) := goodIn_app (goodIn_of _ (by decide +kernel)) ggL_perhapsAbove_X8_perhapsAbove
theorem dL_perhapsAbove_0 : decode cL_perhapsAbove 0 = .ok (.aload_n 2, 1) := by decide +kernel
theorem dL_perhapsAbove_1 : decode cL_perhapsAbove 1 = .ok (.iconst 0, 1) := by decide +kernel
theorem dL_perhapsAbove_2 : decode cL_perhapsAbove 2 = .ok (.aload_n 0, 1) := by decide +kernel
theorem dL_perhapsAbove_3 : decode cL_perhapsAbove 3 = .ok (.iload_n 1, 1) := by decide +kernel
theorem dL_perhapsAbove_4 : decode cL_perhapsAbove 4 = .ok (.invokevirtual 62, 3) := by decide +kernel
theorem dL_perhapsAbove_7 : decode cL_perhapsAbove 7 = .ok (.i2l, 1) := by decide +kernel
theorem dL_perhapsAbove_8 : decode cL_perhapsAbove 8 = .ok (.lastore, 1) := by decide +kernel
theorem dL_perhapsAbove_9 : decode cL_perhapsAbove 9 = .ok (.goto 6, 3) := by decide +kernel
theorem dL_perhapsAbove_12 : decode cL_perhapsAbove 12 = .ok (.astore_n 3, 1) := by decide +kernel
theorem dL_perhapsAbove_13 : decode cL_perhapsAbove 13 = .ok (.iconst 1, 1) := by decide +kernel
theorem dL_perhapsAbove_14 : decode cL_perhapsAbove 14 = .ok (.ireturn, 1) := by decide +kernel
theorem dL_perhapsAbove_15 : decode cL_perhapsAbove 15 = .ok (.iconst 0, 1) := by decide +kernel
theorem dL_perhapsAbove_16 : decode cL_perhapsAbove 16 = .ok (.ireturn, 1) := by decide +kernel
set_option maxRecDepth 20000 in
theorem ggL_trulyAbove_X8_trulyAbove : GoodIn wsL_trulyAbove wsX8_trulyAbove := goodIn_ca (goodIn_r _ [6, 7, 8, 9, 5, 10, 11, 12, 13, 14, 15, 16, 17, 18, 19, 20, 21, 22, 23, 24, 25, 26, 27, 28, 29, 30, 31, 32, 33, 34, 35, 36, 37, 38, 39, 40, 41, 42, 43, 44, 45, 46, 47, 48, 49, 50, 51, 52, 53, 54, 55, 56, 57, 58, 59, 60, 61, 62, 63, 64, 65, 66, 67, 68, 69, 70, 71, 72, 73, 74, 75, 76, 77, 78, 79] (by decide +kernel) (by decide +kernel)) (goodIn_sub (fun _ h => List.mem_cons_of_mem _ (List.mem_append_right _ h)) (by decide +kernel))
set_option maxRecDepth 20000 in
theorem gL_trulyAbove_X8_trulyAbove : GoodIn wsL_trulyAbove (wsV RL 65 RX8 yX8_trulyAbove wsX8_trulyAbove) := goodIn_app (goodIn_of _ (by decide +kernel)) ggL_trulyAbove_X8_trulyAbove
theorem dL_trulyAbove_0 : decode cL_trulyAbove 0 = .ok (.aload_n 2, 1) := by decide +kernel
theorem dL_trulyAbove_1 : decode cL_trulyAbove 1 = .ok (.iconst 0, 1) := by decide +kernel
theorem dL_trulyAbove_2 : decode cL_trulyAbove 2 = .ok (.aload_n 0, 1) := by decide +kernel
theorem dL_trulyAbove_3 : decode cL_trulyAbove 3 = .ok (.iload_n 1, 1) := by decide +kernel
theorem dL_trulyAbove_4 : decode cL_trulyAbove 4 = .ok (.invokevirtual 65, 3) := by decide +kernel
theorem dL_trulyAbove_7 : decode cL_trulyAbove 7 = .ok (.i2l, 1) := by decide +kernel
theorem dL_trulyAbove_8 : decode cL_trulyAbove 8 = .ok (.lastore, 1) := by decide +kernel
theorem dL_trulyAbove_9 : decode cL_trulyAbove 9 = .ok (.goto 6, 3) := by decide +kernel
theorem dL_trulyAbove_12 : decode cL_trulyAbove 12 = .ok (.astore_n 3, 1) := by decide +kernel
theorem dL_trulyAbove_13 : decode cL_trulyAbove 13 = .ok (.iconst 1, 1) := by decide +kernel
theorem dL_trulyAbove_14 : decode cL_trulyAbove 14 = .ok (.ireturn, 1) := by decide +kernel
theorem dL_trulyAbove_15 : decode cL_trulyAbove 15 = .ok (.iconst 0, 1) := by decide +kernel
theorem dL_trulyAbove_16 : decode cL_trulyAbove 16 = .ok (.ireturn, 1) := by decide +kernel
set_option maxRecDepth 20000 in
theorem ggL_wornCount_X8_wornCount : GoodIn wsL_wornCount wsX8_wornCount := goodIn_ca (goodIn_r _ [6, 7, 8, 9, 10, 11, 12, 5, 13, 14, 15, 16, 17, 18, 19, 20, 21, 22, 23, 24, 25, 26, 27, 28, 29] (by decide +kernel) (by decide +kernel)) (goodIn_sub (fun _ h => List.mem_cons_of_mem _ (List.mem_append_right _ h)) (by decide +kernel))
set_option maxRecDepth 20000 in
theorem gL_wornCount_X8_wornCount : GoodIn wsL_wornCount (wsV RL 68 RX8 yX8_wornCount wsX8_wornCount) := goodIn_app (goodIn_of _ (by decide +kernel)) ggL_wornCount_X8_wornCount
theorem dL_wornCount_0 : decode cL_wornCount 0 = .ok (.aload_n 2, 1) := by decide +kernel
theorem dL_wornCount_1 : decode cL_wornCount 1 = .ok (.iconst 0, 1) := by decide +kernel
theorem dL_wornCount_2 : decode cL_wornCount 2 = .ok (.aload_n 0, 1) := by decide +kernel
theorem dL_wornCount_3 : decode cL_wornCount 3 = .ok (.iload_n 1, 1) := by decide +kernel
theorem dL_wornCount_4 : decode cL_wornCount 4 = .ok (.invokevirtual 68, 3) := by decide +kernel
theorem dL_wornCount_7 : decode cL_wornCount 7 = .ok (.i2l, 1) := by decide +kernel
theorem dL_wornCount_8 : decode cL_wornCount 8 = .ok (.lastore, 1) := by decide +kernel
theorem dL_wornCount_9 : decode cL_wornCount 9 = .ok (.goto 6, 3) := by decide +kernel
theorem dL_wornCount_12 : decode cL_wornCount 12 = .ok (.astore_n 3, 1) := by decide +kernel
theorem dL_wornCount_13 : decode cL_wornCount 13 = .ok (.iconst 1, 1) := by decide +kernel
theorem dL_wornCount_14 : decode cL_wornCount 14 = .ok (.ireturn, 1) := by decide +kernel
theorem dL_wornCount_15 : decode cL_wornCount 15 = .ok (.iconst 0, 1) := by decide +kernel
theorem dL_wornCount_16 : decode cL_wornCount 16 = .ok (.ireturn, 1) := by decide +kernel
set_option maxRecDepth 20000 in
theorem ggL_aboveFloor_X8_aboveFloor : GoodIn wsL_aboveFloor wsX8_aboveFloor := goodIn_ca (goodIn_r _ [6, 7, 8, 9, 10, 11, 5, 12, 13, 14, 15, 16, 17, 18, 19, 20, 21, 22, 23, 24, 25, 26, 27, 28, 29, 30, 31, 32, 33, 34, 35, 36, 37, 38, 39, 40, 41, 42, 43, 44, 45, 46, 47, 48, 49, 50, 51, 52, 53, 54, 55, 56] (by decide +kernel) (by decide +kernel)) (goodIn_sub (fun _ h => List.mem_cons_of_mem _ (List.mem_append_right _ h)) (by decide +kernel))
set_option maxRecDepth 20000 in
theorem gL_aboveFloor_X8_aboveFloor : GoodIn wsL_aboveFloor (wsV RL 71 RX8 yX8_aboveFloor wsX8_aboveFloor) := goodIn_app (goodIn_of _ (by decide +kernel)) ggL_aboveFloor_X8_aboveFloor
theorem dL_aboveFloor_0 : decode cL_aboveFloor 0 = .ok (.aload_n 2, 1) := by decide +kernel
theorem dL_aboveFloor_1 : decode cL_aboveFloor 1 = .ok (.iconst 0, 1) := by decide +kernel
theorem dL_aboveFloor_2 : decode cL_aboveFloor 2 = .ok (.aload_n 0, 1) := by decide +kernel
theorem dL_aboveFloor_3 : decode cL_aboveFloor 3 = .ok (.iload_n 1, 1) := by decide +kernel
theorem dL_aboveFloor_4 : decode cL_aboveFloor 4 = .ok (.invokevirtual 71, 3) := by decide +kernel
theorem dL_aboveFloor_7 : decode cL_aboveFloor 7 = .ok (.i2l, 1) := by decide +kernel
theorem dL_aboveFloor_8 : decode cL_aboveFloor 8 = .ok (.lastore, 1) := by decide +kernel
theorem dL_aboveFloor_9 : decode cL_aboveFloor 9 = .ok (.goto 6, 3) := by decide +kernel
theorem dL_aboveFloor_12 : decode cL_aboveFloor 12 = .ok (.astore_n 3, 1) := by decide +kernel
theorem dL_aboveFloor_13 : decode cL_aboveFloor 13 = .ok (.iconst 1, 1) := by decide +kernel
theorem dL_aboveFloor_14 : decode cL_aboveFloor 14 = .ok (.ireturn, 1) := by decide +kernel
theorem dL_aboveFloor_15 : decode cL_aboveFloor 15 = .ok (.iconst 0, 1) := by decide +kernel
theorem dL_aboveFloor_16 : decode cL_aboveFloor 16 = .ok (.ireturn, 1) := by decide +kernel
set_option maxRecDepth 20000 in
theorem ggL_trueCount_X8_trueCount : GoodIn wsL_trueCount wsX8_trueCount := goodIn_ca (goodIn_r _ [6, 7, 8, 9, 10, 11, 5, 12, 13, 14, 15, 16, 17, 18, 19, 20, 21, 22, 23, 24] (by decide +kernel) (by decide +kernel)) (goodIn_sub (fun _ h => List.mem_cons_of_mem _ (List.mem_append_right _ h)) (by decide +kernel))
set_option maxRecDepth 20000 in
theorem gL_trueCount_X8_trueCount : GoodIn wsL_trueCount (wsV RL 74 RX8 yX8_trueCount wsX8_trueCount) := goodIn_app (goodIn_of _ (by decide +kernel)) ggL_trueCount_X8_trueCount
theorem dL_trueCount_0 : decode cL_trueCount 0 = .ok (.aload_n 2, 1) := by decide +kernel
theorem dL_trueCount_1 : decode cL_trueCount 1 = .ok (.iconst 0, 1) := by decide +kernel
theorem dL_trueCount_2 : decode cL_trueCount 2 = .ok (.aload_n 0, 1) := by decide +kernel
theorem dL_trueCount_3 : decode cL_trueCount 3 = .ok (.iload_n 1, 1) := by decide +kernel
theorem dL_trueCount_4 : decode cL_trueCount 4 = .ok (.invokevirtual 74, 3) := by decide +kernel
theorem dL_trueCount_7 : decode cL_trueCount 7 = .ok (.i2l, 1) := by decide +kernel
theorem dL_trueCount_8 : decode cL_trueCount 8 = .ok (.lastore, 1) := by decide +kernel
theorem dL_trueCount_9 : decode cL_trueCount 9 = .ok (.goto 6, 3) := by decide +kernel
theorem dL_trueCount_12 : decode cL_trueCount 12 = .ok (.astore_n 3, 1) := by decide +kernel
theorem dL_trueCount_13 : decode cL_trueCount 13 = .ok (.iconst 1, 1) := by decide +kernel
theorem dL_trueCount_14 : decode cL_trueCount 14 = .ok (.ireturn, 1) := by decide +kernel
theorem dL_trueCount_15 : decode cL_trueCount 15 = .ok (.iconst 0, 1) := by decide +kernel
theorem dL_trueCount_16 : decode cL_trueCount 16 = .ok (.ireturn, 1) := by decide +kernel
set_option maxRecDepth 20000 in
theorem ggL_law_X8_init : GoodIn wsL_law wsX8_init := goodIn_r _ [9, 10, 11, 12, 13, 14, 15, 16, 17, 18, 19, 20, 21, 22, 23, 24, 25, 26, 27, 28, 29, 30, 31, 32, 33, 34, 35, 36, 37, 38, 39, 40, 41, 42, 43, 44, 45, 46, 47, 48, 49, 50, 51, 52, 53, 54, 55, 56, 57, 58, 59, 60, 61, 62, 63, 64, 65, 66, 67, 68, 69, 70, 71, 72, 73, 74, 75, 76, 77, 78, 79, 80, 81, 82, 83, 84, 85, 86, 87, 88, 89, 90, 91, 92, 93, 94, 95, 96, 97, 98, 99, 100, 101, 102, 103, 104, 839, 840, 841, 842, 824, 825, 826, 843, 844, 845, 846, 847, 848, 849, 850, 851, 852, 853, 854, 855, 856, 857, 858, 859, 860, 861, 862, 863, 864, 865, 866, 867, 868] (by decide +kernel) (by decide +kernel)
set_option maxRecDepth 20000 in
theorem gL_law_X8_init : GoodIn wsL_law (wsX8_init) := ggL_law_X8_init
set_option maxRecDepth 20000 in
theorem ggL_law_X9_init : GoodIn wsL_law wsX9_init := goodIn_r _ [107, 108, 11, 12, 44, 109, 110, 111, 112, 113, 827, 828, 829, 830, 831, 832, 833, 834, 835, 836, 837, 838] (by decide +kernel) (by decide +kernel)
set_option maxRecDepth 20000 in
theorem gL_law_X9_init : GoodIn wsL_law (wsX9_init) := ggL_law_X9_init
set_option maxRecDepth 20000 in
theorem ggL_law_L_hear : GoodIn wsL_law wsL_hear := goodIn_ca (goodIn_ca (goodIn_r _ [117, 118, 119, 120, 121, 122, 2, 123, 16, 124, 20, 125, 126, 127, 128, 129, 130, 131, 132, 133, 30, 134, 45, 135, 136, 137, 138, 139, 140, 141, 142, 143, 144, 145, 19, 146, 61, 147, 148, 149, 150, 151, 152, 153, 154, 155, 15, 156, 31, 32, 80, 79, 157, 158, 159, 160, 39, 43, 161, 162, 163, 38, 164, 49, 50, 51, 89, 90, 91, 165, 166, 167, 168, 169, 170, 171, 172, 173, 174, 42, 175, 55, 100, 101, 102, 176, 177, 178, 179, 180, 181, 182, 183, 184, 185, 186, 187, 188, 189, 190, 191, 192, 193, 194, 195, 196, 197, 198, 199, 200, 201, 202, 203, 204, 205, 206, 207, 208, 209, 210, 211, 212, 213, 214, 215, 216, 217, 218, 219, 220, 221, 222, 223, 224, 824, 825, 826, 839, 840, 841, 842, 851, 852, 853, 843, 844, 845, 854, 855, 856, 857, 858, 859, 860, 861, 862, 863] (by decide +kernel) (by decide +kernel)) (goodIn_sub (fun _ h => List.mem_append_left _ (List.mem_append_left _ (List.mem_append_left _ (List.mem_append_right _ h)))) (by decide +kernel))) (goodIn_sub (fun _ h => List.mem_append_left _ (List.mem_append_left _ (List.mem_append_right _ h))) (by decide +kernel))
set_option maxRecDepth 20000 in
theorem gL_law_L_hear : GoodIn wsL_law (va_wsS RL 81 yL_hear wsL_hear) := goodIn_app (goodIn_of _ (by decide +kernel)) ggL_law_L_hear
set_option maxRecDepth 20000 in
theorem ggL_law_X9_hear : GoodIn wsL_law wsX9_hear := goodIn_r _ [228, 229, 109, 230, 231, 5, 232, 233, 234, 235, 236, 237, 238, 239, 240, 241, 242, 243, 244, 245, 246, 247, 248, 249, 250, 251, 252, 253, 254, 110, 255, 256, 257, 258, 259, 260, 261, 262, 263, 264, 265, 266, 267, 268, 269, 270, 271, 272, 273, 274, 827, 828, 829, 830, 831, 832, 833, 834, 835, 836, 837, 838] (by decide +kernel) (by decide +kernel)
set_option maxRecDepth 20000 in
theorem gL_law_X9_hear : GoodIn wsL_law (wsV RL 86 RX9 yX9_hear wsX9_hear) := goodIn_app (goodIn_of _ (by decide +kernel)) ggL_law_X9_hear
set_option maxRecDepth 20000 in
theorem ggL_law_X9_thrown : GoodIn wsL_law wsX9_thrown := goodIn_r _ [278, 241, 827, 828, 829, 830, 831, 832, 833, 834, 835, 836, 837, 838] (by decide +kernel) (by decide +kernel)
set_option maxRecDepth 20000 in
theorem gL_law_X9_thrown : GoodIn wsL_law (wsV RL 87 RX9 yX9_thrown wsX9_thrown) := goodIn_app (goodIn_of _ (by decide +kernel)) ggL_law_X9_thrown
set_option maxRecDepth 20000 in
theorem ggL_law_L_hearSong : GoodIn wsL_law wsL_hearSong := goodIn_ca (goodIn_ca (goodIn_r _ [281, 282, 119, 283, 284, 285, 2, 286, 140, 141, 16, 124, 20, 24, 287, 288, 289, 290, 291, 292, 293, 294, 295, 296, 297, 298, 299, 23, 300, 301, 70, 302, 303, 304, 305, 66, 306, 307, 308, 69, 309, 310, 311, 312, 313, 314, 315, 316, 317, 318, 319, 320, 321, 322, 323, 324, 325, 326, 327, 328, 329, 330, 331, 217, 151, 218, 332, 333, 334, 335, 336, 337, 338, 339, 340, 341, 342, 343, 131, 132, 133, 30, 134, 45, 135, 136, 137, 138, 139, 142, 143, 144, 145, 19, 146, 61, 147, 148, 149, 150, 152, 153, 154, 155, 15, 156, 31, 32, 80, 79, 157, 158, 159, 160, 39, 43, 161, 162, 163, 38, 164, 49, 50, 51, 89, 90, 91, 165, 166, 167, 168, 169, 170, 171, 172, 173, 174, 42, 175, 55, 100, 101, 102, 344, 345, 346, 347, 348, 349, 350, 351, 352, 353, 71, 354, 355, 356, 357, 358, 359, 360, 361, 176, 177, 178, 179, 180, 181, 182, 183, 184, 185, 186, 187, 188, 189, 190, 191, 192, 193, 194, 195, 196, 197, 198, 199, 200, 201, 202, 203, 204, 205, 206, 207, 208, 209, 210, 211, 212, 213, 214, 215, 216, 219, 220, 824, 825, 826, 839, 840, 841, 842, 846, 847, 848, 849, 850, 864, 865, 866, 867, 868, 851, 852, 853, 843, 844, 845, 854, 855, 856, 857, 858, 859, 860, 861, 862, 863] (by decide +kernel) (by decide +kernel)) (goodIn_sub (fun _ h => List.mem_append_left _ (List.mem_append_left _ (List.mem_append_right _ h))) (by decide +kernel))) (goodIn_sub (fun _ h => List.mem_append_left _ (List.mem_append_right _ h)) (by decide +kernel))
set_option maxRecDepth 20000 in
theorem gL_law_L_hearSong : GoodIn wsL_law (va_wsS RL 90 yL_hearSong wsL_hearSong) := goodIn_app (goodIn_of _ (by decide +kernel)) ggL_law_L_hearSong
set_option maxRecDepth 20000 in
theorem ggL_law_X9_hearSong : GoodIn wsL_law wsX9_hearSong := goodIn_r _ [365, 366, 229, 367, 368, 369, 5, 370, 371, 372, 373, 374, 375, 376, 377, 378, 113, 379, 380, 381, 382, 383, 384, 385, 386, 234, 235, 236, 237, 238, 239, 240, 241, 242, 243, 244, 245, 246, 247, 248, 249, 109, 250, 251, 252, 253, 254, 110, 387, 388, 389, 390, 255, 256, 257, 258, 259, 260, 261, 262, 263, 264, 265, 266, 267, 268, 269, 270, 271, 272, 273, 274, 827, 828, 829, 830, 831, 832, 833, 834, 835, 836, 837, 838] (by decide +kernel) (by decide +kernel)
set_option maxRecDepth 20000 in
theorem gL_law_X9_hearSong : GoodIn wsL_law (wsV RL 93 RX9 yX9_hearSong wsX9_hearSong) := goodIn_app (goodIn_of _ (by decide +kernel)) ggL_law_X9_hearSong
set_option maxRecDepth 20000 in
theorem ggL_law_L_empty : GoodIn wsL_law wsL_empty := goodIn_ca (goodIn_r _ [393, 282, 394, 395, 396, 2, 397, 293, 294, 20, 16, 398, 143, 144, 145, 19, 146, 61, 147, 148, 149, 150, 151, 152, 153, 154, 155, 15, 156, 31, 32, 80, 79, 157, 158, 159, 30, 160, 39, 43, 45, 161, 162, 163, 38, 164, 49, 50, 51, 89, 90, 91, 165, 166, 167, 168, 169, 170, 171, 172, 173, 174, 42, 175, 55, 100, 101, 102, 75, 76, 77, 78, 81, 82, 83, 84, 85, 86, 87, 88, 92, 93, 94, 95, 96, 97, 98, 99, 103, 104, 824, 825, 826, 839, 840, 841, 842, 843, 844, 845, 851, 852, 853, 854, 855, 856, 857, 858, 859, 860, 861, 862, 863] (by decide +kernel) (by decide +kernel)) (goodIn_sub (fun _ h => List.mem_append_left _ (List.mem_append_right _ h)) (by decide +kernel))
set_option maxRecDepth 20000 in
theorem gL_law_L_empty : GoodIn wsL_law (va_wsS RL 94 yL_empty wsL_empty) := goodIn_app (goodIn_of _ (by decide +kernel)) ggL_law_L_empty
set_option maxRecDepth 20000 in
theorem ggL_law_X9_empty : GoodIn wsL_law wsX9_empty := goodIn_r _ [402, 403, 109, 234, 235, 5, 236, 237, 238, 239, 240, 241, 250, 251, 252, 253, 254, 110, 404, 405, 406, 407, 827, 828, 829, 830, 831, 832, 833, 834, 835, 836, 837, 838] (by decide +kernel) (by decide +kernel)
set_option maxRecDepth 20000 in
theorem gL_law_X9_empty : GoodIn wsL_law (wsV RL 96 RX9 yX9_empty wsX9_empty) := goodIn_app (goodIn_of _ (by decide +kernel)) ggL_law_X9_empty
set_option maxRecDepth 20000 in
theorem ggL_law_X8_putAside : GoodIn wsL_law wsX8_putAside := goodIn_r _ [411, 20, 16, 412, 143, 144, 145, 19, 146, 61, 147, 148, 149, 150, 151, 152, 153, 154, 155, 15, 156, 31, 32, 80, 79, 157, 158, 159, 30, 160, 39, 43, 45, 161, 162, 163, 38, 164, 49, 50, 51, 89, 90, 91, 165, 2, 166, 167, 168, 169, 170, 171, 172, 173, 174, 42, 175, 55, 100, 101, 102, 413, 414, 415, 416, 81, 82, 83, 84, 85, 86, 87, 88, 92, 93, 94, 95, 96, 97, 98, 99, 103, 104, 131, 132, 133, 134, 135, 136, 824, 825, 826, 839, 840, 841, 842, 843, 844, 845, 851, 852, 853, 854, 855, 856, 857, 858, 859, 860, 861, 862, 863] (by decide +kernel) (by decide +kernel)
set_option maxRecDepth 20000 in
theorem gL_law_X8_putAside : GoodIn wsL_law (wsV RL 97 RX8 yX8_putAside wsX8_putAside) := goodIn_app (goodIn_of _ (by decide +kernel)) ggL_law_X8_putAside
set_option maxRecDepth 20000 in
theorem ggL_law_X9_putAside : GoodIn wsL_law wsX9_putAside := goodIn_r _ [420, 109, 250, 251, 252, 5, 253, 241, 254, 110, 404, 405, 406, 407, 246, 247, 248, 249, 827, 828, 829, 830, 831, 832, 833, 834, 835, 836, 837, 838] (by decide +kernel) (by decide +kernel)
set_option maxRecDepth 20000 in
theorem gL_law_X9_putAside : GoodIn wsL_law (wsV RL 100 RX9 yX9_putAside wsX9_putAside) := goodIn_app (goodIn_of _ (by decide +kernel)) ggL_law_X9_putAside
set_option maxRecDepth 20000 in
theorem ggL_law_L_mergeIn : GoodIn wsL_law wsL_mergeIn := goodIn_ca (goodIn_r _ [423, 119, 424, 425, 426, 2, 427, 140, 141, 16, 428, 124, 412, 20, 131, 132, 133, 30, 134, 45, 135, 136, 137, 138, 139, 142, 143, 144, 145, 19, 146, 61, 147, 148, 149, 150, 151, 152, 153, 154, 155, 15, 156, 31, 32, 80, 79, 157, 158, 159, 160, 39, 43, 161, 162, 163, 38, 164, 49, 50, 51, 89, 90, 91, 165, 166, 167, 168, 169, 170, 171, 172, 173, 174, 42, 175, 55, 100, 101, 102, 429, 430, 431, 432, 433, 434, 435, 436, 437, 438, 439, 440, 441, 442, 443, 444, 188, 189, 190, 191, 192, 193, 194, 195, 196, 197, 198, 199, 200, 201, 202, 203, 445, 446, 447, 448, 219, 220, 449, 450, 451, 452, 453, 204, 205, 206, 207, 454, 455, 456, 457, 212, 213, 214, 215, 216, 217, 218, 824, 825, 826, 839, 840, 841, 842, 851, 852, 853, 843, 844, 845, 854, 855, 856, 857, 858, 859, 860, 861, 862, 863] (by decide +kernel) (by decide +kernel)) (goodIn_sub (fun _ h => List.mem_append_left _ (List.mem_append_left _ (List.mem_append_right _ h))) (by decide +kernel))
set_option maxRecDepth 20000 in
theorem gL_law_L_mergeIn : GoodIn wsL_law (va_wsS RL 101 yL_mergeIn wsL_mergeIn) := goodIn_app (goodIn_of _ (by decide +kernel)) ggL_law_L_mergeIn
set_option maxRecDepth 20000 in
theorem ggL_law_X9_mergeIn : GoodIn wsL_law wsX9_mergeIn := goodIn_r _ [461, 109, 229, 242, 243, 244, 5, 245, 246, 247, 248, 249, 237, 238, 239, 240, 241, 250, 251, 252, 253, 254, 110, 462, 463, 464, 465, 111, 112, 466, 467, 468, 469, 470, 471, 472, 473, 259, 260, 261, 262, 263, 264, 265, 266, 267, 268, 269, 270, 474, 475, 476, 477, 478, 479, 480, 481, 482, 483, 484, 485, 271, 272, 273, 274, 404, 405, 406, 407, 827, 828, 829, 830, 831, 832, 833, 834, 835, 836, 837, 838] (by decide +kernel) (by decide +kernel)
set_option maxRecDepth 20000 in
theorem gL_law_X9_mergeIn : GoodIn wsL_law (wsV RL 103 RX9 yX9_mergeIn wsX9_mergeIn) := goodIn_app (goodIn_of _ (by decide +kernel)) ggL_law_X9_mergeIn
set_option maxRecDepth 20000 in
theorem ggL_law_L_append : GoodIn wsL_law wsL_append := goodIn_ca (goodIn_r _ [488, 119, 489, 490, 491, 2, 492, 140, 141, 24, 493, 494, 495, 496, 23, 497, 301, 66, 824, 825, 826, 846, 847, 848, 849, 850] (by decide +kernel) (by decide +kernel)) (goodIn_sub (fun _ h => List.mem_append_left _ (List.mem_append_left _ (List.mem_append_right _ h))) (by decide +kernel))
set_option maxRecDepth 20000 in
theorem gL_law_L_append : GoodIn wsL_law (va_wsS RL 104 yL_append wsL_append) := goodIn_app (goodIn_of _ (by decide +kernel)) ggL_law_L_append
set_option maxRecDepth 20000 in
theorem ggL_law_X9_append : GoodIn wsL_law wsX9_append := goodIn_r _ [501, 372, 241, 113, 237, 238, 239, 5, 240, 827, 828, 829, 830, 831, 832, 833, 834, 835, 836, 837, 838] (by decide +kernel) (by decide +kernel)
set_option maxRecDepth 20000 in
theorem gL_law_X9_append : GoodIn wsL_law (wsV RL 107 RX9 yX9_append wsX9_append) := goodIn_app (goodIn_of _ (by decide +kernel)) ggL_law_X9_append
set_option maxRecDepth 20000 in
theorem ggL_law_X8_clearText : GoodIn wsL_law wsX8_clearText := goodIn_r _ [505, 24, 493, 824, 825, 826, 846, 847, 848, 849, 850] (by decide +kernel) (by decide +kernel)
set_option maxRecDepth 20000 in
theorem gL_law_X8_clearText : GoodIn wsL_law (wsV RL 108 RX8 yX8_clearText wsX8_clearText) := goodIn_app (goodIn_of _ (by decide +kernel)) ggL_law_X8_clearText
set_option maxRecDepth 20000 in
theorem ggL_law_X9_clearText : GoodIn wsL_law wsX9_clearText := goodIn_r _ [509, 241, 372, 827, 828, 829, 830, 831, 832, 833, 834, 835, 836, 837, 838] (by decide +kernel) (by decide +kernel)
set_option maxRecDepth 20000 in
theorem gL_law_X9_clearText : GoodIn wsL_law (wsV RL 111 RX9 yX9_clearText wsX9_clearText) := goodIn_app (goodIn_of _ (by decide +kernel)) ggL_law_X9_clearText
set_option maxRecDepth 20000 in
theorem ggL_law_X8_isValid : GoodIn wsL_law wsX8_isValid := goodIn_r _ [513, 24, 297, 298, 299, 23, 300, 301, 70, 302, 303, 304, 305, 66, 306, 307, 308, 69, 309, 310, 311, 312, 313, 314, 315, 316, 317, 318, 319, 2, 320, 321, 322, 323, 324, 325, 326, 327, 328, 329, 330, 331, 217, 151, 218, 332, 333, 334, 335, 336, 337, 338, 339, 340, 341, 342, 343, 824, 825, 826, 846, 847, 848, 849, 850, 864, 865, 866, 867, 868] (by decide +kernel) (by decide +kernel)
set_option maxRecDepth 20000 in
theorem gL_law_X8_isValid : GoodIn wsL_law (wsV RL 112 RX8 yX8_isValid wsX8_isValid) := goodIn_app (goodIn_of _ (by decide +kernel)) ggL_law_X8_isValid
set_option maxRecDepth 20000 in
theorem ggL_law_X9_isValid : GoodIn wsL_law wsX9_isValid := goodIn_r _ [517, 241, 367, 368, 369, 5, 370, 371, 366, 372, 373, 374, 375, 376, 377, 378, 113, 379, 380, 381, 382, 383, 384, 385, 386, 234, 235, 236, 827, 828, 829, 830, 831, 832, 833, 834, 835, 836, 837, 838] (by decide +kernel) (by decide +kernel)
set_option maxRecDepth 20000 in
theorem gL_law_X9_isValid : GoodIn wsL_law (wsV RL 116 RX9 yX9_isValid wsX9_isValid) := goodIn_app (goodIn_of _ (by decide +kernel)) ggL_law_X9_isValid
set_option maxRecDepth 20000 in
theorem ggL_law_L_firstError : GoodIn wsL_law wsL_firstError := goodIn_ca (goodIn_r _ [520, 119, 521, 522, 523, 2, 524, 140, 141, 24, 297, 298, 299, 23, 300, 301, 70, 302, 303, 304, 305, 66, 306, 307, 308, 69, 309, 310, 311, 312, 313, 314, 315, 316, 317, 318, 319, 320, 321, 322, 323, 324, 325, 326, 327, 328, 329, 330, 331, 217, 151, 218, 332, 333, 334, 335, 336, 337, 338, 339, 340, 341, 342, 343, 525, 824, 825, 826, 846, 847, 848, 849, 850, 864, 865, 866, 867, 868] (by decide +kernel) (by decide +kernel)) (goodIn_sub (fun _ h => List.mem_append_left _ (List.mem_append_left _ (List.mem_append_right _ h))) (by decide +kernel))
set_option maxRecDepth 20000 in
theorem gL_law_L_firstError : GoodIn wsL_law (va_wsS RL 117 yL_firstError wsL_firstError) := goodIn_app (goodIn_of _ (by decide +kernel)) ggL_law_L_firstError
set_option maxRecDepth 20000 in
theorem ggL_law_X9_firstError : GoodIn wsL_law wsX9_firstError := goodIn_r _ [529, 367, 368, 369, 5, 370, 371, 366, 372, 373, 374, 375, 376, 377, 378, 113, 379, 380, 381, 382, 383, 384, 385, 386, 234, 235, 236, 237, 238, 239, 240, 241, 530, 531, 532, 533, 827, 828, 829, 830, 831, 832, 833, 834, 835, 836, 837, 838] (by decide +kernel) (by decide +kernel)
set_option maxRecDepth 20000 in
theorem gL_law_X9_firstError : GoodIn wsL_law (wsV RL 119 RX9 yX9_firstError wsX9_firstError) := goodIn_app (goodIn_of _ (by decide +kernel)) ggL_law_X9_firstError
set_option maxRecDepth 20000 in
theorem ggL_law_L_callsOfSong : GoodIn wsL_law wsL_callsOfSong := goodIn_ca (goodIn_r _ [536, 282, 537, 538, 539, 2, 540, 289, 290, 291, 292, 293, 294, 24, 295, 296, 297, 298, 299, 23, 300, 301, 70, 302, 303, 304, 305, 66, 306, 307, 308, 69, 309, 310, 311, 312, 313, 314, 315, 316, 317, 318, 319, 320, 321, 322, 323, 324, 325, 326, 327, 328, 329, 330, 331, 217, 151, 218, 332, 333, 334, 335, 336, 337, 338, 339, 340, 341, 342, 343, 824, 825, 826, 846, 847, 848, 849, 850, 864, 865, 866, 867, 868] (by decide +kernel) (by decide +kernel)) (goodIn_sub (fun _ h => List.mem_append_left _ (List.mem_append_right _ h)) (by decide +kernel))
set_option maxRecDepth 20000 in
theorem gL_law_L_callsOfSong : GoodIn wsL_law (va_wsS RL 120 yL_callsOfSong wsL_callsOfSong) := goodIn_app (goodIn_of _ (by decide +kernel)) ggL_law_L_callsOfSong
set_option maxRecDepth 20000 in
theorem ggL_law_X9_callsOfSong : GoodIn wsL_law wsX9_callsOfSong := goodIn_r _ [544, 366, 367, 368, 369, 5, 370, 371, 372, 373, 374, 375, 376, 377, 378, 113, 379, 380, 381, 382, 383, 384, 385, 386, 234, 235, 236, 530, 531, 532, 533, 241, 237, 238, 239, 240, 827, 828, 829, 830, 831, 832, 833, 834, 835, 836, 837, 838] (by decide +kernel) (by decide +kernel)
set_option maxRecDepth 20000 in
theorem gL_law_X9_callsOfSong : GoodIn wsL_law (wsV RL 122 RX9 yX9_callsOfSong wsX9_callsOfSong) := goodIn_app (goodIn_of _ (by decide +kernel)) ggL_law_X9_callsOfSong
set_option maxRecDepth 20000 in
theorem ggL_law_L_undo : GoodIn wsL_law wsL_undo := goodIn_ca (goodIn_r _ [547, 119, 548, 549, 550, 2, 551, 140, 141, 20, 552, 16, 553, 554, 555, 19, 556, 147, 148, 61, 153, 154, 155, 15, 156, 31, 32, 80, 79, 157, 158, 159, 30, 160, 39, 43, 45, 161, 162, 163, 38, 164, 49, 50, 51, 89, 90, 91, 165, 166, 167, 150, 151, 152, 168, 169, 170, 171, 172, 173, 174, 42, 175, 55, 100, 101, 102, 824, 825, 826, 843, 844, 845, 839, 840, 841, 842, 851, 852, 853, 854, 855, 856, 857, 858, 859, 860, 861, 862, 863] (by decide +kernel) (by decide +kernel)) (goodIn_sub (fun _ h => List.mem_append_left _ (List.mem_append_left _ (List.mem_append_right _ h))) (by decide +kernel))
set_option maxRecDepth 20000 in
theorem gL_law_L_undo : GoodIn wsL_law (va_wsS RL 123 yL_undo wsL_undo) := goodIn_app (goodIn_of _ (by decide +kernel)) ggL_law_L_undo
set_option maxRecDepth 20000 in
theorem ggL_law_X9_undo : GoodIn wsL_law wsX9_undo := goodIn_r _ [560, 254, 241, 109, 110, 237, 238, 239, 5, 240, 827, 828, 829, 830, 831, 832, 833, 834, 835, 836, 837, 838] (by decide +kernel) (by decide +kernel)
set_option maxRecDepth 20000 in
theorem gL_law_X9_undo : GoodIn wsL_law (wsV RL 125 RX9 yX9_undo wsX9_undo) := goodIn_app (goodIn_of _ (by decide +kernel)) ggL_law_X9_undo
set_option maxRecDepth 20000 in
theorem ggL_law_X8_counters : GoodIn wsL_law wsX8_counters := goodIn_r _ [564, 16, 124, 125, 565, 824, 825, 826, 839, 840, 841, 842, 851, 852, 853, 854, 855, 856, 857, 858, 859] (by decide +kernel) (by decide +kernel)
set_option maxRecDepth 20000 in
theorem gL_law_X8_counters : GoodIn wsL_law (wsV RL 126 RX8 yX8_counters wsX8_counters) := goodIn_app (goodIn_of _ (by decide +kernel)) ggL_law_X8_counters
set_option maxRecDepth 20000 in
theorem ggL_law_X9_counters : GoodIn wsL_law wsX9_counters := goodIn_r _ [569, 263, 264, 265, 5, 266, 109, 530, 531, 532, 533, 241, 827, 828, 829, 830, 831, 832, 833, 834, 835, 836, 837, 838] (by decide +kernel) (by decide +kernel)
set_option maxRecDepth 20000 in
theorem gL_law_X9_counters : GoodIn wsL_law (wsV RL 129 RX9 yX9_counters wsX9_counters) := goodIn_app (goodIn_of _ (by decide +kernel)) ggL_law_X9_counters
set_option maxRecDepth 20000 in
theorem ggL_law_L_estimate : GoodIn wsL_law wsL_estimate := goodIn_ca (goodIn_r _ [572, 118, 573, 574, 575, 2, 576, 16, 124, 125, 126, 127, 128, 129, 130, 221, 222, 223, 38, 224, 49, 188, 189, 190, 191, 192, 193, 194, 195, 196, 197, 198, 199, 51, 200, 201, 202, 203, 90, 91, 824, 825, 826, 839, 840, 841, 842, 851, 852, 853, 854, 855, 856, 857, 858, 859] (by decide +kernel) (by decide +kernel)) (goodIn_sub (fun _ h => List.mem_append_left _ (List.mem_append_left _ (List.mem_append_left _ (List.mem_append_right _ h)))) (by decide +kernel))
set_option maxRecDepth 20000 in
theorem gL_law_L_estimate : GoodIn wsL_law (va_wsS RL 130 yL_estimate wsL_estimate) := goodIn_app (goodIn_of _ (by decide +kernel)) ggL_law_L_estimate
set_option maxRecDepth 20000 in
theorem ggL_law_X9_estimate : GoodIn wsL_law wsX9_estimate := goodIn_r _ [580, 230, 231, 5, 232, 233, 234, 235, 236, 466, 467, 468, 469, 109, 470, 471, 472, 473, 259, 260, 261, 262, 263, 264, 265, 266, 267, 268, 269, 270, 530, 531, 532, 533, 241, 237, 238, 239, 240, 827, 828, 829, 830, 831, 832, 833, 834, 835, 836, 837, 838] (by decide +kernel) (by decide +kernel)
set_option maxRecDepth 20000 in
theorem gL_law_X9_estimate : GoodIn wsL_law (wsV RL 132 RX9 yX9_estimate wsX9_estimate) := goodIn_app (goodIn_of _ (by decide +kernel)) ggL_law_X9_estimate
set_option maxRecDepth 20000 in
theorem ggL_law_L_sureCount : GoodIn wsL_law wsL_sureCount := goodIn_ca (goodIn_r _ [583, 118, 584, 585, 586, 2, 587, 16, 124, 125, 126, 127, 128, 129, 130, 588, 446, 447, 38, 448, 49, 50, 824, 825, 826, 839, 840, 841, 842, 851, 852, 853, 854, 855, 856, 857, 858, 859] (by decide +kernel) (by decide +kernel)) (goodIn_sub (fun _ h => List.mem_append_left _ (List.mem_append_left _ (List.mem_append_left _ (List.mem_append_right _ h)))) (by decide +kernel))
set_option maxRecDepth 20000 in
theorem gL_law_L_sureCount : GoodIn wsL_law (va_wsS RL 133 yL_sureCount wsL_sureCount) := goodIn_app (goodIn_of _ (by decide +kernel)) ggL_law_L_sureCount
set_option maxRecDepth 20000 in
theorem ggL_law_X9_sureCount : GoodIn wsL_law wsX9_sureCount := goodIn_r _ [592, 230, 231, 5, 232, 233, 234, 235, 236, 474, 475, 476, 477, 109, 530, 531, 532, 533, 241, 237, 238, 239, 240, 827, 828, 829, 830, 831, 832, 833, 834, 835, 836, 837, 838] (by decide +kernel) (by decide +kernel)
set_option maxRecDepth 20000 in
theorem gL_law_X9_sureCount : GoodIn wsL_law (wsV RL 135 RX9 yX9_sureCount wsX9_sureCount) := goodIn_app (goodIn_of _ (by decide +kernel)) ggL_law_X9_sureCount
set_option maxRecDepth 20000 in
theorem ggL_law_L_surplus : GoodIn wsL_law wsL_surplus := goodIn_ca (goodIn_ca (goodIn_r _ [595, 118, 596, 597, 598, 599, 2, 600, 601, 602, 16, 124, 125, 603, 604, 126, 127, 128, 129, 130, 824, 825, 826, 839, 840, 841, 842, 851, 852, 853, 854, 855, 856, 857, 858, 859] (by decide +kernel) (by decide +kernel)) (goodIn_sub (fun _ h => List.mem_append_right _ h) (by decide +kernel))) (goodIn_sub (fun _ h => List.mem_append_left _ (List.mem_append_left _ (List.mem_append_left _ (List.mem_append_right _ h)))) (by decide +kernel))
set_option maxRecDepth 20000 in
theorem gL_law_L_surplus : GoodIn wsL_law (va_wsS RL 136 yL_surplus wsL_surplus) := goodIn_app (goodIn_of _ (by decide +kernel)) ggL_law_L_surplus
set_option maxRecDepth 20000 in
theorem ggL_law_X9_surplus : GoodIn wsL_law wsX9_surplus := goodIn_r _ [608, 109, 230, 231, 5, 232, 233, 234, 235, 236, 237, 238, 239, 240, 241, 530, 531, 532, 533, 827, 828, 829, 830, 831, 832, 833, 834, 835, 836, 837, 838] (by decide +kernel) (by decide +kernel)
set_option maxRecDepth 20000 in
theorem gL_law_X9_surplus : GoodIn wsL_law (wsV RL 138 RX9 yX9_surplus wsX9_surplus) := goodIn_app (goodIn_of _ (by decide +kernel)) ggL_law_X9_surplus
set_option maxRecDepth 20000 in
theorem ggL_law_X8_floor : GoodIn wsL_law wsX8_floor := goodIn_r _ [612, 16, 124, 125, 613, 189, 190, 38, 191, 49, 192, 193, 194, 195, 196, 197, 198, 199, 51, 200, 201, 202, 203, 90, 91, 824, 825, 826, 839, 840, 841, 842, 851, 852, 853, 854, 855, 856, 857, 858, 859] (by decide +kernel) (by decide +kernel)
set_option maxRecDepth 20000 in
theorem gL_law_X8_floor : GoodIn wsL_law (wsV RL 139 RX8 yX8_floor wsX8_floor) := goodIn_app (goodIn_of _ (by decide +kernel)) ggL_law_X8_floor
set_option maxRecDepth 20000 in
theorem ggL_law_X9_floor : GoodIn wsL_law wsX9_floor := goodIn_r _ [617, 470, 471, 472, 5, 473, 109, 259, 260, 261, 262, 263, 264, 265, 266, 267, 268, 269, 270, 530, 531, 532, 533, 241, 827, 828, 829, 830, 831, 832, 833, 834, 835, 836, 837, 838] (by decide +kernel) (by decide +kernel)
set_option maxRecDepth 20000 in
theorem gL_law_X9_floor : GoodIn wsL_law (wsV RL 142 RX9 yX9_floor wsX9_floor) := goodIn_app (goodIn_of _ (by decide +kernel)) ggL_law_X9_floor
set_option maxRecDepth 20000 in
theorem ggL_law_L_nextTakenOver : GoodIn wsL_law wsL_nextTakenOver := goodIn_ca (goodIn_r _ [620, 596, 621, 622, 623, 2, 624, 601, 602, 16, 124, 125, 625, 201, 202, 38, 203, 90, 91, 626, 193, 194, 195, 49, 196, 197, 198, 199, 51, 824, 825, 826, 839, 840, 841, 842, 851, 852, 853, 854, 855, 856, 857, 858, 859] (by decide +kernel) (by decide +kernel)) (goodIn_sub (fun _ h => List.mem_append_right _ h) (by decide +kernel))
set_option maxRecDepth 20000 in
theorem gL_law_L_nextTakenOver : GoodIn wsL_law (va_wsS RL 143 yL_nextTakenOver wsL_nextTakenOver) := goodIn_app (goodIn_of _ (by decide +kernel)) ggL_law_L_nextTakenOver
set_option maxRecDepth 20000 in
theorem ggL_law_X9_nextTakenOver : GoodIn wsL_law wsX9_nextTakenOver := goodIn_r _ [630, 259, 260, 261, 5, 262, 109, 263, 264, 265, 266, 267, 268, 269, 270, 530, 531, 532, 533, 241, 237, 238, 239, 240, 827, 828, 829, 830, 831, 832, 833, 834, 835, 836, 837, 838] (by decide +kernel) (by decide +kernel)
set_option maxRecDepth 20000 in
theorem gL_law_X9_nextTakenOver : GoodIn wsL_law (wsV RL 145 RX9 yX9_nextTakenOver wsX9_nextTakenOver) := goodIn_app (goodIn_of _ (by decide +kernel)) ggL_law_X9_nextTakenOver
set_option maxRecDepth 20000 in
theorem ggL_law_L_loudest : GoodIn wsL_law wsL_loudest := goodIn_ca (goodIn_ca (goodIn_r _ [633, 282, 596, 634, 635, 636, 2, 637, 293, 294, 601, 602, 16, 124, 125, 565, 603, 638, 449, 450, 451, 452, 453, 824, 825, 826, 839, 840, 841, 842, 851, 852, 853, 854, 855, 856, 857, 858, 859] (by decide +kernel) (by decide +kernel)) (goodIn_sub (fun _ h => List.mem_append_left _ (List.mem_append_right _ h)) (by decide +kernel))) (goodIn_sub (fun _ h => List.mem_append_right _ h) (by decide +kernel))
set_option maxRecDepth 20000 in
theorem gL_law_L_loudest : GoodIn wsL_law (va_wsS RL 146 yL_loudest wsL_loudest) := goodIn_app (goodIn_of _ (by decide +kernel)) ggL_law_L_loudest
set_option maxRecDepth 20000 in
theorem ggL_law_X9_loudest : GoodIn wsL_law wsX9_loudest := goodIn_r _ [642, 237, 238, 239, 5, 240, 241, 643, 644, 645, 646, 111, 109, 478, 479, 480, 481, 530, 531, 532, 533, 827, 828, 829, 830, 831, 832, 833, 834, 835, 836, 837, 838] (by decide +kernel) (by decide +kernel)
set_option maxRecDepth 20000 in
theorem gL_law_X9_loudest : GoodIn wsL_law (wsV RL 148 RX9 yX9_loudest wsX9_loudest) := goodIn_app (goodIn_of _ (by decide +kernel)) ggL_law_X9_loudest
set_option maxRecDepth 20000 in
theorem ggL_law_L_surelyAbove : GoodIn wsL_law wsL_surelyAbove := goodIn_ca (goodIn_r _ [649, 282, 650, 651, 652, 2, 653, 654, 655, 656, 657, 293, 294, 658, 659, 660, 661, 16, 124, 131, 132, 133, 30, 134, 45, 135, 136, 662, 663, 664, 665, 666, 39, 667, 668, 446, 447, 38, 448, 49, 50, 669, 222, 223, 224, 188, 189, 190, 191, 192, 193, 194, 195, 196, 197, 198, 199, 51, 200, 201, 202, 203, 90, 91, 824, 825, 826, 839, 840, 841, 842, 851, 852, 853, 854, 855, 856, 857, 858, 859] (by decide +kernel) (by decide +kernel)) (goodIn_sub (fun _ h => List.mem_append_left _ (List.mem_append_right _ h)) (by decide +kernel))
set_option maxRecDepth 20000 in
theorem gL_law_L_surelyAbove : GoodIn wsL_law (va_wsS RL 149 yL_surelyAbove wsL_surelyAbove) := goodIn_app (goodIn_of _ (by decide +kernel)) ggL_law_L_surelyAbove
set_option maxRecDepth 20000 in
theorem ggL_law_X9_surelyAbove : GoodIn wsL_law wsX9_surelyAbove := goodIn_r _ [673, 674, 675, 676, 5, 677, 678, 241, 109, 234, 235, 236, 237, 238, 239, 240, 474, 475, 476, 477, 466, 467, 468, 469, 470, 471, 472, 473, 259, 260, 261, 262, 263, 264, 265, 266, 267, 268, 269, 270, 242, 243, 244, 245, 246, 247, 248, 249, 827, 828, 829, 830, 831, 832, 833, 834, 835, 836, 837, 838] (by decide +kernel) (by decide +kernel)
set_option maxRecDepth 20000 in
theorem gL_law_X9_surelyAbove : GoodIn wsL_law (wsV RL 151 RX9 yX9_surelyAbove wsX9_surelyAbove) := goodIn_app (goodIn_of _ (by decide +kernel)) ggL_law_X9_surelyAbove
set_option maxRecDepth 20000 in
theorem ggL_law_L_perhapsAbove : GoodIn wsL_law wsL_perhapsAbove := goodIn_ca (goodIn_r _ [681, 282, 682, 683, 684, 2, 685, 686, 655, 656, 657, 293, 294, 658, 659, 660, 661, 16, 124, 131, 132, 133, 30, 134, 45, 135, 136, 662, 663, 664, 665, 666, 39, 667, 668, 446, 447, 38, 448, 49, 50, 669, 222, 223, 224, 188, 189, 190, 191, 192, 193, 194, 195, 196, 197, 198, 199, 51, 200, 201, 202, 203, 90, 91, 824, 825, 826, 839, 840, 841, 842, 851, 852, 853, 854, 855, 856, 857, 858, 859] (by decide +kernel) (by decide +kernel)) (goodIn_sub (fun _ h => List.mem_append_left _ (List.mem_append_right _ h)) (by decide +kernel))
set_option maxRecDepth 20000 in
theorem gL_law_L_perhapsAbove : GoodIn wsL_law (va_wsS RL 152 yL_perhapsAbove wsL_perhapsAbove) := goodIn_app (goodIn_of _ (by decide +kernel)) ggL_law_L_perhapsAbove
set_option maxRecDepth 20000 in
theorem ggL_law_X9_perhapsAbove : GoodIn wsL_law wsX9_perhapsAbove := goodIn_r _ [690, 674, 675, 676, 5, 677, 678, 241, 109, 234, 235, 236, 237, 238, 239, 240, 474, 475, 476, 477, 466, 467, 468, 469, 470, 471, 472, 473, 259, 260, 261, 262, 263, 264, 265, 266, 267, 268, 269, 270, 242, 243, 244, 245, 246, 247, 248, 249, 827, 828, 829, 830, 831, 832, 833, 834, 835, 836, 837, 838] (by decide +kernel) (by decide +kernel)
set_option maxRecDepth 20000 in
theorem gL_law_X9_perhapsAbove : GoodIn wsL_law (wsV RL 154 RX9 yX9_perhapsAbove wsX9_perhapsAbove) := goodIn_app (goodIn_of _ (by decide +kernel)) ggL_law_X9_perhapsAbove
set_option maxRecDepth 20000 in
theorem ggL_law_L_trulyAbove : GoodIn wsL_law wsL_trulyAbove := goodIn_ca (goodIn_r _ [693, 282, 694, 695, 696, 2, 697, 698, 655, 656, 657, 293, 294, 658, 659, 660, 661, 16, 124, 131, 132, 133, 30, 134, 45, 135, 136, 662, 663, 664, 665, 666, 39, 667, 668, 446, 447, 38, 448, 49, 50, 669, 222, 223, 224, 188, 189, 190, 191, 192, 193, 194, 195, 196, 197, 198, 199, 51, 200, 201, 202, 203, 90, 91, 824, 825, 826, 839, 840, 841, 842, 851, 852, 853, 854, 855, 856, 857, 858, 859] (by decide +kernel) (by decide +kernel)) (goodIn_sub (fun _ h => List.mem_append_left _ (List.mem_append_right _ h)) (by decide +kernel))
set_option maxRecDepth 20000 in
theorem gL_law_L_trulyAbove : GoodIn wsL_law (va_wsS RL 155 yL_trulyAbove wsL_trulyAbove) := goodIn_app (goodIn_of _ (by decide +kernel)) ggL_law_L_trulyAbove
set_option maxRecDepth 20000 in
theorem ggL_law_X9_trulyAbove : GoodIn wsL_law wsX9_trulyAbove := goodIn_r _ [702, 674, 675, 676, 5, 677, 678, 241, 109, 234, 235, 236, 237, 238, 239, 240, 474, 475, 476, 477, 466, 467, 468, 469, 470, 471, 472, 473, 259, 260, 261, 262, 263, 264, 265, 266, 267, 268, 269, 270, 242, 243, 244, 245, 246, 247, 248, 249, 827, 828, 829, 830, 831, 832, 833, 834, 835, 836, 837, 838] (by decide +kernel) (by decide +kernel)
set_option maxRecDepth 20000 in
theorem gL_law_X9_trulyAbove : GoodIn wsL_law (wsV RL 157 RX9 yX9_trulyAbove wsX9_trulyAbove) := goodIn_app (goodIn_of _ (by decide +kernel)) ggL_law_X9_trulyAbove
set_option maxRecDepth 20000 in
theorem ggL_law_X8_wornCounters : GoodIn wsL_law wsX8_wornCounters := goodIn_r _ [706, 16, 124, 707, 708, 824, 825, 826, 839, 840, 841, 842, 851, 852, 853, 860, 861, 862, 863] (by decide +kernel) (by decide +kernel)
set_option maxRecDepth 20000 in
theorem gL_law_X8_wornCounters : GoodIn wsL_law (wsV RL 158 RX8 yX8_wornCounters wsX8_wornCounters) := goodIn_app (goodIn_of _ (by decide +kernel)) ggL_law_X8_wornCounters
set_option maxRecDepth 20000 in
theorem ggL_law_X9_wornCounters : GoodIn wsL_law wsX9_wornCounters := goodIn_r _ [712, 263, 264, 265, 5, 266, 109, 530, 531, 532, 533, 241, 827, 828, 829, 830, 831, 832, 833, 834, 835, 836, 837, 838] (by decide +kernel) (by decide +kernel)
set_option maxRecDepth 20000 in
theorem gL_law_X9_wornCounters : GoodIn wsL_law (wsV RL 161 RX9 yX9_wornCounters wsX9_wornCounters) := goodIn_app (goodIn_of _ (by decide +kernel)) ggL_law_X9_wornCounters
set_option maxRecDepth 20000 in
theorem ggL_law_L_wornCount : GoodIn wsL_law wsL_wornCount := goodIn_ca (goodIn_r _ [715, 118, 716, 717, 718, 2, 719, 16, 124, 707, 720, 126, 127, 128, 129, 130, 824, 825, 826, 839, 840, 841, 842, 851, 852, 853, 860, 861, 862, 863] (by decide +kernel) (by decide +kernel)) (goodIn_sub (fun _ h => List.mem_append_left _ (List.mem_append_left _ (List.mem_append_left _ (List.mem_append_right _ h)))) (by decide +kernel))
set_option maxRecDepth 20000 in
theorem gL_law_L_wornCount : GoodIn wsL_law (va_wsS RL 162 yL_wornCount wsL_wornCount) := goodIn_app (goodIn_of _ (by decide +kernel)) ggL_law_L_wornCount
set_option maxRecDepth 20000 in
theorem ggL_law_X9_wornCount : GoodIn wsL_law wsX9_wornCount := goodIn_r _ [724, 109, 230, 231, 5, 232, 233, 234, 235, 236, 530, 531, 532, 533, 241, 237, 238, 239, 240, 827, 828, 829, 830, 831, 832, 833, 834, 835, 836, 837, 838] (by decide +kernel) (by decide +kernel)
set_option maxRecDepth 20000 in
theorem gL_law_X9_wornCount : GoodIn wsL_law (wsV RL 164 RX9 yX9_wornCount wsX9_wornCount) := goodIn_app (goodIn_of _ (by decide +kernel)) ggL_law_X9_wornCount
set_option maxRecDepth 20000 in
theorem ggL_law_L_aboveFloor : GoodIn wsL_law wsL_aboveFloor := goodIn_ca (goodIn_r _ [727, 118, 728, 729, 730, 2, 731, 16, 124, 125, 126, 127, 128, 129, 130, 221, 222, 223, 38, 224, 49, 188, 189, 190, 191, 192, 193, 194, 195, 196, 197, 198, 199, 51, 200, 201, 202, 203, 90, 91, 613, 824, 825, 826, 839, 840, 841, 842, 851, 852, 853, 854, 855, 856, 857, 858, 859] (by decide +kernel) (by decide +kernel)) (goodIn_sub (fun _ h => List.mem_append_left _ (List.mem_append_left _ (List.mem_append_left _ (List.mem_append_right _ h)))) (by decide +kernel))
set_option maxRecDepth 20000 in
theorem gL_law_L_aboveFloor : GoodIn wsL_law (va_wsS RL 165 yL_aboveFloor wsL_aboveFloor) := goodIn_app (goodIn_of _ (by decide +kernel)) ggL_law_L_aboveFloor
set_option maxRecDepth 20000 in
theorem ggL_law_X9_aboveFloor : GoodIn wsL_law wsX9_aboveFloor := goodIn_r _ [735, 230, 231, 5, 232, 233, 234, 235, 236, 466, 467, 468, 469, 109, 470, 471, 472, 473, 259, 260, 261, 262, 263, 264, 265, 266, 267, 268, 269, 270, 530, 531, 532, 533, 241, 237, 238, 239, 240, 827, 828, 829, 830, 831, 832, 833, 834, 835, 836, 837, 838] (by decide +kernel) (by decide +kernel)
set_option maxRecDepth 20000 in
theorem gL_law_X9_aboveFloor : GoodIn wsL_law (wsV RL 167 RX9 yX9_aboveFloor wsX9_aboveFloor) := goodIn_app (goodIn_of _ (by decide +kernel)) ggL_law_X9_aboveFloor
set_option maxRecDepth 20000 in
theorem ggL_law_X8_wear : GoodIn wsL_law wsX8_wear := goodIn_r _ [739, 16, 124, 707, 740, 824, 825, 826, 839, 840, 841, 842, 851, 852, 853, 860, 861, 862, 863] (by decide +kernel) (by decide +kernel)
set_option maxRecDepth 20000 in
theorem gL_law_X8_wear : GoodIn wsL_law (wsV RL 168 RX8 yX8_wear wsX8_wear) := goodIn_app (goodIn_of _ (by decide +kernel)) ggL_law_X8_wear
set_option maxRecDepth 20000 in
theorem ggL_law_X9_wear : GoodIn wsL_law wsX9_wear := goodIn_r _ [744, 109, 530, 531, 532, 5, 533, 241, 827, 828, 829, 830, 831, 832, 833, 834, 835, 836, 837, 838] (by decide +kernel) (by decide +kernel)
set_option maxRecDepth 20000 in
theorem gL_law_X9_wear : GoodIn wsL_law (wsV RL 171 RX9 yX9_wear wsX9_wear) := goodIn_app (goodIn_of _ (by decide +kernel)) ggL_law_X9_wear
set_option maxRecDepth 20000 in
theorem ggL_law_X8_capacity : GoodIn wsL_law wsX8_capacity := goodIn_r _ [748, 16, 398, 824, 825, 826, 839, 840, 841, 842] (by decide +kernel) (by decide +kernel)
set_option maxRecDepth 20000 in
theorem gL_law_X8_capacity : GoodIn wsL_law (wsV RL 172 RX8 yX8_capacity wsX8_capacity) := goodIn_app (goodIn_of _ (by decide +kernel)) ggL_law_X8_capacity
set_option maxRecDepth 20000 in
theorem ggL_law_X9_capacity : GoodIn wsL_law wsX9_capacity := goodIn_r _ [752, 109, 530, 531, 532, 5, 533, 241, 827, 828, 829, 830, 831, 832, 833, 834, 835, 836, 837, 838] (by decide +kernel) (by decide +kernel)
set_option maxRecDepth 20000 in
theorem gL_law_X9_capacity : GoodIn wsL_law (wsV RL 175 RX9 yX9_capacity wsX9_capacity) := goodIn_app (goodIn_of _ (by decide +kernel)) ggL_law_X9_capacity
set_option maxRecDepth 20000 in
theorem ggL_law_L_trueCount : GoodIn wsL_law wsL_trueCount := goodIn_ca (goodIn_r _ [755, 118, 756, 757, 758, 2, 759, 16, 124, 760, 126, 127, 128, 129, 130, 824, 825, 826, 839, 840, 841, 842, 851, 852, 853] (by decide +kernel) (by decide +kernel)) (goodIn_sub (fun _ h => List.mem_append_left _ (List.mem_append_left _ (List.mem_append_left _ (List.mem_append_right _ h)))) (by decide +kernel))
set_option maxRecDepth 20000 in
theorem gL_law_L_trueCount : GoodIn wsL_law (va_wsS RL 176 yL_trueCount wsL_trueCount) := goodIn_app (goodIn_of _ (by decide +kernel)) ggL_law_L_trueCount
set_option maxRecDepth 20000 in
theorem ggL_law_X9_trueCount : GoodIn wsL_law wsX9_trueCount := goodIn_r _ [764, 109, 230, 231, 5, 232, 233, 234, 235, 236, 530, 531, 532, 533, 241, 237, 238, 239, 240, 827, 828, 829, 830, 831, 832, 833, 834, 835, 836, 837, 838] (by decide +kernel) (by decide +kernel)
set_option maxRecDepth 20000 in
theorem gL_law_X9_trueCount : GoodIn wsL_law (wsV RL 178 RX9 yX9_trueCount wsX9_trueCount) := goodIn_app (goodIn_of _ (by decide +kernel)) ggL_law_X9_trueCount
set_option maxRecDepth 20000 in
theorem ggL_law_X8_calls : GoodIn wsL_law wsX8_calls := goodIn_r _ [768, 16, 124, 131, 132, 133, 30, 134, 45, 135, 2, 136, 824, 825, 826, 839, 840, 841, 842, 851, 852, 853] (by decide +kernel) (by decide +kernel)
set_option maxRecDepth 20000 in
theorem gL_law_X8_calls : GoodIn wsL_law (wsV RL 179 RX8 yX8_calls wsX8_calls) := goodIn_app (goodIn_of _ (by decide +kernel)) ggL_law_X8_calls
set_option maxRecDepth 20000 in
theorem ggL_law_X9_calls : GoodIn wsL_law wsX9_calls := goodIn_r _ [772, 242, 243, 244, 5, 245, 246, 247, 248, 249, 109, 530, 531, 532, 533, 241, 827, 828, 829, 830, 831, 832, 833, 834, 835, 836, 837, 838] (by decide +kernel) (by decide +kernel)
set_option maxRecDepth 20000 in
theorem gL_law_X9_calls : GoodIn wsL_law (wsV RL 182 RX9 yX9_calls wsX9_calls) := goodIn_app (goodIn_of _ (by decide +kernel)) ggL_law_X9_calls
set_option maxRecDepth 20000 in
theorem ggL_law_X8_callsByCounters : GoodIn wsL_law wsX8_callsByCounters := goodIn_r _ [776, 16, 124, 125, 603, 777, 135, 2, 136, 824, 825, 826, 839, 840, 841, 842, 851, 852, 853, 854, 855, 856, 857, 858, 859] (by decide +kernel) (by decide +kernel)
set_option maxRecDepth 20000 in
theorem gL_law_X8_callsByCounters : GoodIn wsL_law (wsV RL 183 RX8 yX8_callsByCounters wsX8_callsByCounters) := goodIn_app (goodIn_of _ (by decide +kernel)) ggL_law_X8_callsByCounters
set_option maxRecDepth 20000 in
theorem ggL_law_X9_callsByCounters : GoodIn wsL_law wsX9_callsByCounters := goodIn_r _ [781, 246, 247, 248, 5, 249, 109, 530, 531, 532, 533, 241, 827, 828, 829, 830, 831, 832, 833, 834, 835, 836, 837, 838] (by decide +kernel) (by decide +kernel)
set_option maxRecDepth 20000 in
theorem gL_law_X9_callsByCounters : GoodIn wsL_law (wsV RL 186 RX9 yX9_callsByCounters wsX9_callsByCounters) := goodIn_app (goodIn_of _ (by decide +kernel)) ggL_law_X9_callsByCounters
set_option maxRecDepth 20000 in
theorem ggL_law_X8_parrotsHeard : GoodIn wsL_law wsX8_parrotsHeard := goodIn_r _ [785, 16, 124, 760, 786, 219, 2, 220, 824, 825, 826, 839, 840, 841, 842, 851, 852, 853] (by decide +kernel) (by decide +kernel)
set_option maxRecDepth 20000 in
theorem gL_law_X8_parrotsHeard : GoodIn wsL_law (wsV RL 187 RX8 yX8_parrotsHeard wsX8_parrotsHeard) := goodIn_app (goodIn_of _ (by decide +kernel)) ggL_law_X8_parrotsHeard
set_option maxRecDepth 20000 in
theorem ggL_law_X9_parrotsHeard : GoodIn wsL_law wsX9_parrotsHeard := goodIn_r _ [790, 263, 264, 265, 5, 266, 109, 530, 531, 532, 533, 241, 827, 828, 829, 830, 831, 832, 833, 834, 835, 836, 837, 838] (by decide +kernel) (by decide +kernel)
set_option maxRecDepth 20000 in
theorem gL_law_X9_parrotsHeard : GoodIn wsL_law (wsV RL 190 RX9 yX9_parrotsHeard wsX9_parrotsHeard) := goodIn_app (goodIn_of _ (by decide +kernel)) ggL_law_X9_parrotsHeard
set_option maxRecDepth 20000 in
theorem ggL_law_X8_greatestError : GoodIn wsL_law wsX8_greatestError := goodIn_r _ [794, 16, 124, 125, 760, 795, 217, 151, 218, 221, 222, 223, 38, 224, 49, 188, 189, 190, 191, 192, 193, 194, 195, 196, 197, 198, 199, 51, 200, 201, 202, 203, 90, 91, 824, 825, 826, 839, 840, 841, 842, 851, 852, 853, 854, 855, 856, 857, 858, 859] (by decide +kernel) (by decide +kernel)
set_option maxRecDepth 20000 in
theorem gL_law_X8_greatestError : GoodIn wsL_law (wsV RL 191 RX8 yX8_greatestError wsX8_greatestError) := goodIn_app (goodIn_of _ (by decide +kernel)) ggL_law_X8_greatestError
set_option maxRecDepth 20000 in
theorem ggL_law_X9_greatestError : GoodIn wsL_law wsX9_greatestError := goodIn_r _ [799, 241, 109, 466, 467, 468, 5, 469, 470, 471, 472, 473, 259, 260, 261, 262, 263, 264, 265, 266, 267, 268, 269, 270, 827, 828, 829, 830, 831, 832, 833, 834, 835, 836, 837, 838] (by decide +kernel) (by decide +kernel)
set_option maxRecDepth 20000 in
theorem gL_law_X9_greatestError : GoodIn wsL_law (wsV RL 194 RX9 yX9_greatestError wsX9_greatestError) := goodIn_app (goodIn_of _ (by decide +kernel)) ggL_law_X9_greatestError
set_option maxRecDepth 20000 in
theorem ggL_law_X8_hasAside : GoodIn wsL_law wsX8_hasAside := goodIn_r _ [803, 16, 428, 824, 825, 826, 839, 840, 841, 842] (by decide +kernel) (by decide +kernel)
set_option maxRecDepth 20000 in
theorem gL_law_X8_hasAside : GoodIn wsL_law (wsV RL 195 RX8 yX8_hasAside wsX8_hasAside) := goodIn_app (goodIn_of _ (by decide +kernel)) ggL_law_X8_hasAside
set_option maxRecDepth 20000 in
theorem ggL_law_X9_hasAside : GoodIn wsL_law wsX9_hasAside := goodIn_r _ [807, 241, 109, 827, 828, 829, 830, 831, 832, 833, 834, 835, 836, 837, 838] (by decide +kernel) (by decide +kernel)
set_option maxRecDepth 20000 in
theorem gL_law_X9_hasAside : GoodIn wsL_law (wsV RL 198 RX9 yX9_hasAside wsX9_hasAside) := goodIn_app (goodIn_of _ (by decide +kernel)) ggL_law_X9_hasAside
set_option maxRecDepth 20000 in
theorem ggL_law_X8_loudestShare : GoodIn wsL_law wsX8_loudestShare := goodIn_r _ [811, 16, 124, 125, 603, 131, 132, 133, 30, 134, 45, 135, 2, 136, 638, 449, 450, 451, 452, 453, 824, 825, 826, 839, 840, 841, 842, 851, 852, 853, 854, 855, 856, 857, 858, 859] (by decide +kernel) (by decide +kernel)
set_option maxRecDepth 20000 in
theorem gL_law_X8_loudestShare : GoodIn wsL_law (wsV RL 199 RX8 yX8_loudestShare wsX8_loudestShare) := goodIn_app (goodIn_of _ (by decide +kernel)) ggL_law_X8_loudestShare
set_option maxRecDepth 20000 in
theorem ggL_law_X9_loudestShare : GoodIn wsL_law wsX9_loudestShare := goodIn_r _ [815, 241, 109, 242, 243, 244, 5, 245, 246, 247, 248, 249, 643, 644, 645, 646, 111, 478, 479, 480, 481, 827, 828, 829, 830, 831, 832, 833, 834, 835, 836, 837, 838] (by decide +kernel) (by decide +kernel)
set_option maxRecDepth 20000 in
theorem gL_law_X9_loudestShare : GoodIn wsL_law (wsV RL 203 RX9 yX9_loudestShare wsX9_loudestShare) := goodIn_app (goodIn_of _ (by decide +kernel)) ggL_law_X9_loudestShare
set_option maxRecDepth 20000 in
theorem ggL_law_X8_historySize : GoodIn wsL_law wsX8_historySize := goodIn_r _ [819, 20, 552, 824, 825, 826, 843, 844, 845] (by decide +kernel) (by decide +kernel)
set_option maxRecDepth 20000 in
theorem gL_law_X8_historySize : GoodIn wsL_law (wsV RL 204 RX8 yX8_historySize wsX8_historySize) := goodIn_app (goodIn_of _ (by decide +kernel)) ggL_law_X8_historySize
set_option maxRecDepth 20000 in
theorem ggL_law_X9_historySize : GoodIn wsL_law wsX9_historySize := goodIn_r _ [823, 254, 530, 531, 532, 5, 533, 241, 827, 828, 829, 830, 831, 832, 833, 834, 835, 836, 837, 838] (by decide +kernel) (by decide +kernel)
set_option maxRecDepth 20000 in
theorem gL_law_X9_historySize : GoodIn wsL_law (wsV RL 207 RX9 yX9_historySize wsX9_historySize) := goodIn_app (goodIn_of _ (by decide +kernel)) ggL_law_X9_historySize
theorem dL_law_0 : decode cL_law 0 = .ok (.new 8, 3) := by decide +kernel
theorem dL_law_3 : decode cL_law 3 = .ok (.dup, 1) := by decide +kernel
theorem dL_law_4 : decode cL_law 4 = .ok (.invokespecial 77, 3) := by decide +kernel
theorem dL_law_7 : decode cL_law 7 = .ok (.astore_n 1, 1) := by decide +kernel
theorem dL_law_8 : decode cL_law 8 = .ok (.new 78, 3) := by decide +kernel
theorem dL_law_11 : decode cL_law 11 = .ok (.dup, 1) := by decide +kernel
theorem dL_law_12 : decode cL_law 12 = .ok (.invokespecial 80, 3) := by decide +kernel
theorem dL_law_15 : decode cL_law 15 = .ok (.astore_n 2, 1) := by decide +kernel
theorem dL_law_16 : decode cL_law 16 = .ok (.iconst 1, 1) := by decide +kernel
theorem dL_law_17 : decode cL_law 17 = .ok (.newarray .long, 2) := by decide +kernel
theorem dL_law_19 : decode cL_law 19 = .ok (.astore_n 3, 1) := by decide +kernel
theorem dL_law_20 : decode cL_law 20 = .ok (.iconst 0, 1) := by decide +kernel
theorem dL_law_21 : decode cL_law 21 = .ok (.istore 4, 2) := by decide +kernel
theorem dL_law_23 : decode cL_law 23 = .ok (.iload 4, 2) := by decide +kernel
theorem dL_law_25 : decode cL_law 25 = .ok (.aload_n 0, 1) := by decide +kernel
theorem dL_law_26 : decode cL_law 26 = .ok (.arraylength, 1) := by decide +kernel
theorem dL_law_27 : decode cL_law 27 = .ok (.iconst 2, 1) := by decide +kernel
theorem dL_law_28 : decode cL_law 28 = .ok (.isub, 1) := by decide +kernel
theorem dL_law_29 : decode cL_law 29 = .ok (.if_icmp .gt 1382, 3) := by decide +kernel
theorem dL_law_32 : decode cL_law 32 = .ok (.aload_n 0, 1) := by decide +kernel
theorem dL_law_33 : decode cL_law 33 = .ok (.iload 4, 2) := by decide +kernel
theorem dL_law_35 : decode cL_law 35 = .ok (.iaload, 1) := by decide +kernel
theorem dL_law_36 : decode cL_law 36 = .ok (.bipush 63, 2) := by decide +kernel
theorem dL_law_38 : decode cL_law 38 = .ok (.iand, 1) := by decide +kernel
theorem dL_law_39 : decode cL_law 39 = .ok (.tableswitch 1366 0 33 #[149, 205, 249, 305, 318, 362, 420, 433, 446, 490, 534, 578, 591, 647, 703, 759, 772, 816, 872, 928, 984, 1040, 1053, 1109, 1165, 1178, 1191, 1247, 1260, 1273, 1286, 1299, 1312, 1353], 149) := by decide +kernel
theorem dL_law_188 : decode cL_law 188 = .ok (.aload_n 1, 1) := by decide +kernel
theorem dL_law_189 : decode cL_law 189 = .ok (.aload_n 0, 1) := by decide +kernel
theorem dL_law_190 : decode cL_law 190 = .ok (.iload 4, 2) := by decide +kernel
theorem dL_law_192 : decode cL_law 192 = .ok (.iconst 1, 1) := by decide +kernel
theorem dL_law_193 : decode cL_law 193 = .ok (.iadd, 1) := by decide +kernel
theorem dL_law_194 : decode cL_law 194 = .ok (.iaload, 1) := by decide +kernel
theorem dL_law_195 : decode cL_law 195 = .ok (.aload_n 3, 1) := by decide +kernel
theorem dL_law_196 : decode cL_law 196 = .ok (.invokestatic 81, 3) := by decide +kernel
theorem dL_law_199 : decode cL_law 199 = .ok (.istore 5, 2) := by decide +kernel
theorem dL_law_201 : decode cL_law 201 = .ok (.aload_n 2, 1) := by decide +kernel
theorem dL_law_202 : decode cL_law 202 = .ok (.aload_n 0, 1) := by decide +kernel
theorem dL_law_203 : decode cL_law 203 = .ok (.iload 4, 2) := by decide +kernel
theorem dL_law_205 : decode cL_law 205 = .ok (.iconst 1, 1) := by decide +kernel
theorem dL_law_206 : decode cL_law 206 = .ok (.iadd, 1) := by decide +kernel
theorem dL_law_207 : decode cL_law 207 = .ok (.iaload, 1) := by decide +kernel
theorem dL_law_208 : decode cL_law 208 = .ok (.invokevirtual 86, 3) := by decide +kernel
theorem dL_law_211 : decode cL_law 211 = .ok (.istore 6, 2) := by decide +kernel
theorem dL_law_213 : decode cL_law 213 = .ok (.aload_n 2, 1) := by decide +kernel
theorem dL_law_214 : decode cL_law 214 = .ok (.invokevirtual 87, 3) := by decide +kernel
theorem dL_law_217 : decode cL_law 217 = .ok (.iload 5, 2) := by decide +kernel
theorem dL_law_219 : decode cL_law 219 = .ok (.if_icmp .eq 5, 3) := by decide +kernel
theorem dL_law_222 : decode cL_law 222 = .ok (.iconst 0, 1) := by decide +kernel
theorem dL_law_223 : decode cL_law 223 = .ok (.ireturn, 1) := by decide +kernel
theorem dL_law_224 : decode cL_law 224 = .ok (.iload 5, 2) := by decide +kernel
theorem dL_law_226 : decode cL_law 226 = .ok (.ifCond .ne 15, 3) := by decide +kernel
theorem dL_law_229 : decode cL_law 229 = .ok (.aload_n 3, 1) := by decide +kernel
theorem dL_law_230 : decode cL_law 230 = .ok (.iconst 0, 1) := by decide +kernel
theorem dL_law_231 : decode cL_law 231 = .ok (.laload, 1) := by decide +kernel
theorem dL_law_232 : decode cL_law 232 = .ok (.iload 6, 2) := by decide +kernel
theorem dL_law_234 : decode cL_law 234 = .ok (.i2l, 1) := by decide +kernel
theorem dL_law_235 : decode cL_law 235 = .ok (.lcmp, 1) := by decide +kernel
theorem dL_law_236 : decode cL_law 236 = .ok (.ifCond .eq 5, 3) := by decide +kernel
theorem dL_law_239 : decode cL_law 239 = .ok (.iconst 0, 1) := by decide +kernel
theorem dL_law_240 : decode cL_law 240 = .ok (.ireturn, 1) := by decide +kernel
theorem dL_law_241 : decode cL_law 241 = .ok (.goto 1164, 3) := by decide +kernel
theorem dL_law_244 : decode cL_law 244 = .ok (.aload_n 1, 1) := by decide +kernel
theorem dL_law_245 : decode cL_law 245 = .ok (.aload_n 3, 1) := by decide +kernel
theorem dL_law_246 : decode cL_law 246 = .ok (.invokestatic 90, 3) := by decide +kernel
theorem dL_law_249 : decode cL_law 249 = .ok (.istore 5, 2) := by decide +kernel
theorem dL_law_251 : decode cL_law 251 = .ok (.aload_n 2, 1) := by decide +kernel
theorem dL_law_252 : decode cL_law 252 = .ok (.invokevirtual 93, 3) := by decide +kernel
theorem dL_law_255 : decode cL_law 255 = .ok (.istore 6, 2) := by decide +kernel
theorem dL_law_257 : decode cL_law 257 = .ok (.aload_n 2, 1) := by decide +kernel
theorem dL_law_258 : decode cL_law 258 = .ok (.invokevirtual 87, 3) := by decide +kernel
theorem dL_law_261 : decode cL_law 261 = .ok (.iload 5, 2) := by decide +kernel
theorem dL_law_263 : decode cL_law 263 = .ok (.if_icmp .eq 5, 3) := by decide +kernel
theorem dL_law_266 : decode cL_law 266 = .ok (.iconst 0, 1) := by decide +kernel
theorem dL_law_267 : decode cL_law 267 = .ok (.ireturn, 1) := by decide +kernel
theorem dL_law_268 : decode cL_law 268 = .ok (.iload 5, 2) := by decide +kernel
theorem dL_law_270 : decode cL_law 270 = .ok (.ifCond .ne 15, 3) := by decide +kernel
theorem dL_law_273 : decode cL_law 273 = .ok (.aload_n 3, 1) := by decide +kernel
theorem dL_law_274 : decode cL_law 274 = .ok (.iconst 0, 1) := by decide +kernel
theorem dL_law_275 : decode cL_law 275 = .ok (.laload, 1) := by decide +kernel
theorem dL_law_276 : decode cL_law 276 = .ok (.iload 6, 2) := by decide +kernel
theorem dL_law_278 : decode cL_law 278 = .ok (.i2l, 1) := by decide +kernel
theorem dL_law_279 : decode cL_law 279 = .ok (.lcmp, 1) := by decide +kernel
theorem dL_law_280 : decode cL_law 280 = .ok (.ifCond .eq 5, 3) := by decide +kernel
theorem dL_law_283 : decode cL_law 283 = .ok (.iconst 0, 1) := by decide +kernel
theorem dL_law_284 : decode cL_law 284 = .ok (.ireturn, 1) := by decide +kernel
theorem dL_law_285 : decode cL_law 285 = .ok (.goto 1120, 3) := by decide +kernel
theorem dL_law_288 : decode cL_law 288 = .ok (.aload_n 1, 1) := by decide +kernel
theorem dL_law_289 : decode cL_law 289 = .ok (.aload_n 0, 1) := by decide +kernel
theorem dL_law_290 : decode cL_law 290 = .ok (.iload 4, 2) := by decide +kernel
theorem dL_law_292 : decode cL_law 292 = .ok (.iconst 1, 1) := by decide +kernel
theorem dL_law_293 : decode cL_law 293 = .ok (.iadd, 1) := by decide +kernel
theorem dL_law_294 : decode cL_law 294 = .ok (.iaload, 1) := by decide +kernel
theorem dL_law_295 : decode cL_law 295 = .ok (.aload_n 3, 1) := by decide +kernel
theorem dL_law_296 : decode cL_law 296 = .ok (.invokestatic 94, 3) := by decide +kernel
theorem dL_law_299 : decode cL_law 299 = .ok (.istore 5, 2) := by decide +kernel
theorem dL_law_301 : decode cL_law 301 = .ok (.aload_n 2, 1) := by decide +kernel
theorem dL_law_302 : decode cL_law 302 = .ok (.aload_n 0, 1) := by decide +kernel
theorem dL_law_303 : decode cL_law 303 = .ok (.iload 4, 2) := by decide +kernel
theorem dL_law_305 : decode cL_law 305 = .ok (.iconst 1, 1) := by decide +kernel
theorem dL_law_306 : decode cL_law 306 = .ok (.iadd, 1) := by decide +kernel
theorem dL_law_307 : decode cL_law 307 = .ok (.iaload, 1) := by decide +kernel
theorem dL_law_308 : decode cL_law 308 = .ok (.invokevirtual 96, 3) := by decide +kernel
theorem dL_law_311 : decode cL_law 311 = .ok (.istore 6, 2) := by decide +kernel
theorem dL_law_313 : decode cL_law 313 = .ok (.aload_n 2, 1) := by decide +kernel
theorem dL_law_314 : decode cL_law 314 = .ok (.invokevirtual 87, 3) := by decide +kernel
theorem dL_law_317 : decode cL_law 317 = .ok (.iload 5, 2) := by decide +kernel
theorem dL_law_319 : decode cL_law 319 = .ok (.if_icmp .eq 5, 3) := by decide +kernel
theorem dL_law_322 : decode cL_law 322 = .ok (.iconst 0, 1) := by decide +kernel
theorem dL_law_323 : decode cL_law 323 = .ok (.ireturn, 1) := by decide +kernel
theorem dL_law_324 : decode cL_law 324 = .ok (.iload 5, 2) := by decide +kernel
theorem dL_law_326 : decode cL_law 326 = .ok (.ifCond .ne 15, 3) := by decide +kernel
theorem dL_law_329 : decode cL_law 329 = .ok (.aload_n 3, 1) := by decide +kernel
theorem dL_law_330 : decode cL_law 330 = .ok (.iconst 0, 1) := by decide +kernel
theorem dL_law_331 : decode cL_law 331 = .ok (.laload, 1) := by decide +kernel
theorem dL_law_332 : decode cL_law 332 = .ok (.iload 6, 2) := by decide +kernel
theorem dL_law_334 : decode cL_law 334 = .ok (.i2l, 1) := by decide +kernel
theorem dL_law_335 : decode cL_law 335 = .ok (.lcmp, 1) := by decide +kernel
theorem dL_law_336 : decode cL_law 336 = .ok (.ifCond .eq 5, 3) := by decide +kernel
theorem dL_law_339 : decode cL_law 339 = .ok (.iconst 0, 1) := by decide +kernel
theorem dL_law_340 : decode cL_law 340 = .ok (.ireturn, 1) := by decide +kernel
theorem dL_law_341 : decode cL_law 341 = .ok (.goto 1064, 3) := by decide +kernel
theorem dL_law_344 : decode cL_law 344 = .ok (.aload_n 1, 1) := by decide +kernel
theorem dL_law_345 : decode cL_law 345 = .ok (.invokevirtual 97, 3) := by decide +kernel
theorem dL_law_348 : decode cL_law 348 = .ok (.aload_n 2, 1) := by decide +kernel
theorem dL_law_349 : decode cL_law 349 = .ok (.invokevirtual 100, 3) := by decide +kernel
theorem dL_law_352 : decode cL_law 352 = .ok (.if_icmp .eq 1053, 3) := by decide +kernel
theorem dL_law_355 : decode cL_law 355 = .ok (.iconst 0, 1) := by decide +kernel
theorem dL_law_356 : decode cL_law 356 = .ok (.ireturn, 1) := by decide +kernel
theorem dL_law_357 : decode cL_law 357 = .ok (.aload_n 1, 1) := by decide +kernel
theorem dL_law_358 : decode cL_law 358 = .ok (.aload_n 3, 1) := by decide +kernel
theorem dL_law_359 : decode cL_law 359 = .ok (.invokestatic 101, 3) := by decide +kernel
theorem dL_law_362 : decode cL_law 362 = .ok (.istore 5, 2) := by decide +kernel
theorem dL_law_364 : decode cL_law 364 = .ok (.aload_n 2, 1) := by decide +kernel
theorem dL_law_365 : decode cL_law 365 = .ok (.invokevirtual 103, 3) := by decide +kernel
theorem dL_law_368 : decode cL_law 368 = .ok (.istore 6, 2) := by decide +kernel
theorem dL_law_370 : decode cL_law 370 = .ok (.aload_n 2, 1) := by decide +kernel
theorem dL_law_371 : decode cL_law 371 = .ok (.invokevirtual 87, 3) := by decide +kernel
theorem dL_law_374 : decode cL_law 374 = .ok (.iload 5, 2) := by decide +kernel
theorem dL_law_376 : decode cL_law 376 = .ok (.if_icmp .eq 5, 3) := by decide +kernel
theorem dL_law_379 : decode cL_law 379 = .ok (.iconst 0, 1) := by decide +kernel
theorem dL_law_380 : decode cL_law 380 = .ok (.ireturn, 1) := by decide +kernel
theorem dL_law_381 : decode cL_law 381 = .ok (.iload 5, 2) := by decide +kernel
theorem dL_law_383 : decode cL_law 383 = .ok (.ifCond .ne 15, 3) := by decide +kernel
theorem dL_law_386 : decode cL_law 386 = .ok (.aload_n 3, 1) := by decide +kernel
theorem dL_law_387 : decode cL_law 387 = .ok (.iconst 0, 1) := by decide +kernel
theorem dL_law_388 : decode cL_law 388 = .ok (.laload, 1) := by decide +kernel
theorem dL_law_389 : decode cL_law 389 = .ok (.iload 6, 2) := by decide +kernel
theorem dL_law_391 : decode cL_law 391 = .ok (.i2l, 1) := by decide +kernel
theorem dL_law_392 : decode cL_law 392 = .ok (.lcmp, 1) := by decide +kernel
theorem dL_law_393 : decode cL_law 393 = .ok (.ifCond .eq 5, 3) := by decide +kernel
theorem dL_law_396 : decode cL_law 396 = .ok (.iconst 0, 1) := by decide +kernel
theorem dL_law_397 : decode cL_law 397 = .ok (.ireturn, 1) := by decide +kernel
theorem dL_law_398 : decode cL_law 398 = .ok (.goto 1007, 3) := by decide +kernel
theorem dL_law_401 : decode cL_law 401 = .ok (.aload_n 1, 1) := by decide +kernel
theorem dL_law_402 : decode cL_law 402 = .ok (.aload_n 0, 1) := by decide +kernel
theorem dL_law_403 : decode cL_law 403 = .ok (.iload 4, 2) := by decide +kernel
theorem dL_law_405 : decode cL_law 405 = .ok (.iconst 1, 1) := by decide +kernel
theorem dL_law_406 : decode cL_law 406 = .ok (.iadd, 1) := by decide +kernel
theorem dL_law_407 : decode cL_law 407 = .ok (.iaload, 1) := by decide +kernel
theorem dL_law_408 : decode cL_law 408 = .ok (.i2c, 1) := by decide +kernel
theorem dL_law_409 : decode cL_law 409 = .ok (.aload_n 3, 1) := by decide +kernel
theorem dL_law_410 : decode cL_law 410 = .ok (.invokestatic 104, 3) := by decide +kernel
theorem dL_law_413 : decode cL_law 413 = .ok (.istore 5, 2) := by decide +kernel
theorem dL_law_415 : decode cL_law 415 = .ok (.aload_n 2, 1) := by decide +kernel
theorem dL_law_416 : decode cL_law 416 = .ok (.aload_n 0, 1) := by decide +kernel
theorem dL_law_417 : decode cL_law 417 = .ok (.iload 4, 2) := by decide +kernel
theorem dL_law_419 : decode cL_law 419 = .ok (.iconst 1, 1) := by decide +kernel
theorem dL_law_420 : decode cL_law 420 = .ok (.iadd, 1) := by decide +kernel
theorem dL_law_421 : decode cL_law 421 = .ok (.iaload, 1) := by decide +kernel
theorem dL_law_422 : decode cL_law 422 = .ok (.i2c, 1) := by decide +kernel
theorem dL_law_423 : decode cL_law 423 = .ok (.invokevirtual 107, 3) := by decide +kernel
theorem dL_law_426 : decode cL_law 426 = .ok (.istore 6, 2) := by decide +kernel
theorem dL_law_428 : decode cL_law 428 = .ok (.aload_n 2, 1) := by decide +kernel
theorem dL_law_429 : decode cL_law 429 = .ok (.invokevirtual 87, 3) := by decide +kernel
theorem dL_law_432 : decode cL_law 432 = .ok (.iload 5, 2) := by decide +kernel
theorem dL_law_434 : decode cL_law 434 = .ok (.if_icmp .eq 5, 3) := by decide +kernel
theorem dL_law_437 : decode cL_law 437 = .ok (.iconst 0, 1) := by decide +kernel
theorem dL_law_438 : decode cL_law 438 = .ok (.ireturn, 1) := by decide +kernel
theorem dL_law_439 : decode cL_law 439 = .ok (.iload 5, 2) := by decide +kernel
theorem dL_law_441 : decode cL_law 441 = .ok (.ifCond .ne 15, 3) := by decide +kernel
theorem dL_law_444 : decode cL_law 444 = .ok (.aload_n 3, 1) := by decide +kernel
theorem dL_law_445 : decode cL_law 445 = .ok (.iconst 0, 1) := by decide +kernel
theorem dL_law_446 : decode cL_law 446 = .ok (.laload, 1) := by decide +kernel
theorem dL_law_447 : decode cL_law 447 = .ok (.iload 6, 2) := by decide +kernel
theorem dL_law_449 : decode cL_law 449 = .ok (.i2l, 1) := by decide +kernel
theorem dL_law_450 : decode cL_law 450 = .ok (.lcmp, 1) := by decide +kernel
theorem dL_law_451 : decode cL_law 451 = .ok (.ifCond .eq 5, 3) := by decide +kernel
theorem dL_law_454 : decode cL_law 454 = .ok (.iconst 0, 1) := by decide +kernel
theorem dL_law_455 : decode cL_law 455 = .ok (.ireturn, 1) := by decide +kernel
theorem dL_law_456 : decode cL_law 456 = .ok (.goto 949, 3) := by decide +kernel
theorem dL_law_459 : decode cL_law 459 = .ok (.aload_n 1, 1) := by decide +kernel
theorem dL_law_460 : decode cL_law 460 = .ok (.invokevirtual 108, 3) := by decide +kernel
theorem dL_law_463 : decode cL_law 463 = .ok (.aload_n 2, 1) := by decide +kernel
theorem dL_law_464 : decode cL_law 464 = .ok (.invokevirtual 111, 3) := by decide +kernel
theorem dL_law_467 : decode cL_law 467 = .ok (.if_icmp .eq 938, 3) := by decide +kernel
theorem dL_law_470 : decode cL_law 470 = .ok (.iconst 0, 1) := by decide +kernel
theorem dL_law_471 : decode cL_law 471 = .ok (.ireturn, 1) := by decide +kernel
theorem dL_law_472 : decode cL_law 472 = .ok (.aload_n 1, 1) := by decide +kernel
theorem dL_law_473 : decode cL_law 473 = .ok (.invokevirtual 112, 3) := by decide +kernel
theorem dL_law_476 : decode cL_law 476 = .ok (.aload_n 2, 1) := by decide +kernel
theorem dL_law_477 : decode cL_law 477 = .ok (.invokevirtual 116, 3) := by decide +kernel
theorem dL_law_480 : decode cL_law 480 = .ok (.if_icmp .eq 925, 3) := by decide +kernel
theorem dL_law_483 : decode cL_law 483 = .ok (.iconst 0, 1) := by decide +kernel
theorem dL_law_484 : decode cL_law 484 = .ok (.ireturn, 1) := by decide +kernel
theorem dL_law_485 : decode cL_law 485 = .ok (.aload_n 1, 1) := by decide +kernel
theorem dL_law_486 : decode cL_law 486 = .ok (.aload_n 3, 1) := by decide +kernel
theorem dL_law_487 : decode cL_law 487 = .ok (.invokestatic 117, 3) := by decide +kernel
theorem dL_law_490 : decode cL_law 490 = .ok (.istore 5, 2) := by decide +kernel
theorem dL_law_492 : decode cL_law 492 = .ok (.aload_n 2, 1) := by decide +kernel
theorem dL_law_493 : decode cL_law 493 = .ok (.invokevirtual 119, 3) := by decide +kernel
theorem dL_law_496 : decode cL_law 496 = .ok (.istore 6, 2) := by decide +kernel
theorem dL_law_498 : decode cL_law 498 = .ok (.aload_n 2, 1) := by decide +kernel
theorem dL_law_499 : decode cL_law 499 = .ok (.invokevirtual 87, 3) := by decide +kernel
theorem dL_law_502 : decode cL_law 502 = .ok (.iload 5, 2) := by decide +kernel
theorem dL_law_504 : decode cL_law 504 = .ok (.if_icmp .eq 5, 3) := by decide +kernel
theorem dL_law_507 : decode cL_law 507 = .ok (.iconst 0, 1) := by decide +kernel
theorem dL_law_508 : decode cL_law 508 = .ok (.ireturn, 1) := by decide +kernel
theorem dL_law_509 : decode cL_law 509 = .ok (.iload 5, 2) := by decide +kernel
theorem dL_law_511 : decode cL_law 511 = .ok (.ifCond .ne 15, 3) := by decide +kernel
theorem dL_law_514 : decode cL_law 514 = .ok (.aload_n 3, 1) := by decide +kernel
theorem dL_law_515 : decode cL_law 515 = .ok (.iconst 0, 1) := by decide +kernel
theorem dL_law_516 : decode cL_law 516 = .ok (.laload, 1) := by decide +kernel
theorem dL_law_517 : decode cL_law 517 = .ok (.iload 6, 2) := by decide +kernel
theorem dL_law_519 : decode cL_law 519 = .ok (.i2l, 1) := by decide +kernel
theorem dL_law_520 : decode cL_law 520 = .ok (.lcmp, 1) := by decide +kernel
theorem dL_law_521 : decode cL_law 521 = .ok (.ifCond .eq 5, 3) := by decide +kernel
theorem dL_law_524 : decode cL_law 524 = .ok (.iconst 0, 1) := by decide +kernel
theorem dL_law_525 : decode cL_law 525 = .ok (.ireturn, 1) := by decide +kernel
theorem dL_law_526 : decode cL_law 526 = .ok (.goto 879, 3) := by decide +kernel
theorem dL_law_529 : decode cL_law 529 = .ok (.aload_n 1, 1) := by decide +kernel
theorem dL_law_530 : decode cL_law 530 = .ok (.aload_n 3, 1) := by decide +kernel
theorem dL_law_531 : decode cL_law 531 = .ok (.invokestatic 120, 3) := by decide +kernel
theorem dL_law_534 : decode cL_law 534 = .ok (.istore 5, 2) := by decide +kernel
theorem dL_law_536 : decode cL_law 536 = .ok (.aload_n 2, 1) := by decide +kernel
theorem dL_law_537 : decode cL_law 537 = .ok (.invokevirtual 122, 3) := by decide +kernel
theorem dL_law_540 : decode cL_law 540 = .ok (.istore 6, 2) := by decide +kernel
theorem dL_law_542 : decode cL_law 542 = .ok (.aload_n 2, 1) := by decide +kernel
theorem dL_law_543 : decode cL_law 543 = .ok (.invokevirtual 87, 3) := by decide +kernel
theorem dL_law_546 : decode cL_law 546 = .ok (.iload 5, 2) := by decide +kernel
theorem dL_law_548 : decode cL_law 548 = .ok (.if_icmp .eq 5, 3) := by decide +kernel
theorem dL_law_551 : decode cL_law 551 = .ok (.iconst 0, 1) := by decide +kernel
theorem dL_law_552 : decode cL_law 552 = .ok (.ireturn, 1) := by decide +kernel
theorem dL_law_553 : decode cL_law 553 = .ok (.iload 5, 2) := by decide +kernel
theorem dL_law_555 : decode cL_law 555 = .ok (.ifCond .ne 15, 3) := by decide +kernel
theorem dL_law_558 : decode cL_law 558 = .ok (.aload_n 3, 1) := by decide +kernel
theorem dL_law_559 : decode cL_law 559 = .ok (.iconst 0, 1) := by decide +kernel
theorem dL_law_560 : decode cL_law 560 = .ok (.laload, 1) := by decide +kernel
theorem dL_law_561 : decode cL_law 561 = .ok (.iload 6, 2) := by decide +kernel
theorem dL_law_563 : decode cL_law 563 = .ok (.i2l, 1) := by decide +kernel
theorem dL_law_564 : decode cL_law 564 = .ok (.lcmp, 1) := by decide +kernel
theorem dL_law_565 : decode cL_law 565 = .ok (.ifCond .eq 5, 3) := by decide +kernel
theorem dL_law_568 : decode cL_law 568 = .ok (.iconst 0, 1) := by decide +kernel
theorem dL_law_569 : decode cL_law 569 = .ok (.ireturn, 1) := by decide +kernel
theorem dL_law_570 : decode cL_law 570 = .ok (.goto 835, 3) := by decide +kernel
theorem dL_law_573 : decode cL_law 573 = .ok (.aload_n 1, 1) := by decide +kernel
theorem dL_law_574 : decode cL_law 574 = .ok (.aload_n 3, 1) := by decide +kernel
theorem dL_law_575 : decode cL_law 575 = .ok (.invokestatic 123, 3) := by decide +kernel
theorem dL_law_578 : decode cL_law 578 = .ok (.istore 5, 2) := by decide +kernel
theorem dL_law_580 : decode cL_law 580 = .ok (.aload_n 2, 1) := by decide +kernel
theorem dL_law_581 : decode cL_law 581 = .ok (.invokevirtual 125, 3) := by decide +kernel
theorem dL_law_584 : decode cL_law 584 = .ok (.istore 6, 2) := by decide +kernel
theorem dL_law_586 : decode cL_law 586 = .ok (.aload_n 2, 1) := by decide +kernel
theorem dL_law_587 : decode cL_law 587 = .ok (.invokevirtual 87, 3) := by decide +kernel
theorem dL_law_590 : decode cL_law 590 = .ok (.iload 5, 2) := by decide +kernel
theorem dL_law_592 : decode cL_law 592 = .ok (.if_icmp .eq 5, 3) := by decide +kernel
theorem dL_law_595 : decode cL_law 595 = .ok (.iconst 0, 1) := by decide +kernel
theorem dL_law_596 : decode cL_law 596 = .ok (.ireturn, 1) := by decide +kernel
theorem dL_law_597 : decode cL_law 597 = .ok (.iload 5, 2) := by decide +kernel
theorem dL_law_599 : decode cL_law 599 = .ok (.ifCond .ne 15, 3) := by decide +kernel
theorem dL_law_602 : decode cL_law 602 = .ok (.aload_n 3, 1) := by decide +kernel
theorem dL_law_603 : decode cL_law 603 = .ok (.iconst 0, 1) := by decide +kernel
theorem dL_law_604 : decode cL_law 604 = .ok (.laload, 1) := by decide +kernel
theorem dL_law_605 : decode cL_law 605 = .ok (.iload 6, 2) := by decide +kernel
theorem dL_law_607 : decode cL_law 607 = .ok (.i2l, 1) := by decide +kernel
theorem dL_law_608 : decode cL_law 608 = .ok (.lcmp, 1) := by decide +kernel
theorem dL_law_609 : decode cL_law 609 = .ok (.ifCond .eq 5, 3) := by decide +kernel
theorem dL_law_612 : decode cL_law 612 = .ok (.iconst 0, 1) := by decide +kernel
theorem dL_law_613 : decode cL_law 613 = .ok (.ireturn, 1) := by decide +kernel
theorem dL_law_614 : decode cL_law 614 = .ok (.goto 791, 3) := by decide +kernel
theorem dL_law_617 : decode cL_law 617 = .ok (.aload_n 1, 1) := by decide +kernel
theorem dL_law_618 : decode cL_law 618 = .ok (.invokevirtual 126, 3) := by decide +kernel
theorem dL_law_621 : decode cL_law 621 = .ok (.aload_n 2, 1) := by decide +kernel
theorem dL_law_622 : decode cL_law 622 = .ok (.invokevirtual 129, 3) := by decide +kernel
theorem dL_law_625 : decode cL_law 625 = .ok (.if_icmp .eq 780, 3) := by decide +kernel
theorem dL_law_628 : decode cL_law 628 = .ok (.iconst 0, 1) := by decide +kernel
theorem dL_law_629 : decode cL_law 629 = .ok (.ireturn, 1) := by decide +kernel
theorem dL_law_630 : decode cL_law 630 = .ok (.aload_n 1, 1) := by decide +kernel
theorem dL_law_631 : decode cL_law 631 = .ok (.aload_n 0, 1) := by decide +kernel
theorem dL_law_632 : decode cL_law 632 = .ok (.iload 4, 2) := by decide +kernel
theorem dL_law_634 : decode cL_law 634 = .ok (.iconst 1, 1) := by decide +kernel
theorem dL_law_635 : decode cL_law 635 = .ok (.iadd, 1) := by decide +kernel
theorem dL_law_636 : decode cL_law 636 = .ok (.iaload, 1) := by decide +kernel
theorem dL_law_637 : decode cL_law 637 = .ok (.aload_n 3, 1) := by decide +kernel
theorem dL_law_638 : decode cL_law 638 = .ok (.invokestatic 130, 3) := by decide +kernel
theorem dL_law_641 : decode cL_law 641 = .ok (.istore 5, 2) := by decide +kernel
theorem dL_law_643 : decode cL_law 643 = .ok (.aload_n 2, 1) := by decide +kernel
theorem dL_law_644 : decode cL_law 644 = .ok (.aload_n 0, 1) := by decide +kernel
theorem dL_law_645 : decode cL_law 645 = .ok (.iload 4, 2) := by decide +kernel
theorem dL_law_647 : decode cL_law 647 = .ok (.iconst 1, 1) := by decide +kernel
theorem dL_law_648 : decode cL_law 648 = .ok (.iadd, 1) := by decide +kernel
theorem dL_law_649 : decode cL_law 649 = .ok (.iaload, 1) := by decide +kernel
theorem dL_law_650 : decode cL_law 650 = .ok (.invokevirtual 132, 3) := by decide +kernel
theorem dL_law_653 : decode cL_law 653 = .ok (.istore 6, 2) := by decide +kernel
theorem dL_law_655 : decode cL_law 655 = .ok (.aload_n 2, 1) := by decide +kernel
theorem dL_law_656 : decode cL_law 656 = .ok (.invokevirtual 87, 3) := by decide +kernel
theorem dL_law_659 : decode cL_law 659 = .ok (.iload 5, 2) := by decide +kernel
theorem dL_law_661 : decode cL_law 661 = .ok (.if_icmp .eq 5, 3) := by decide +kernel
theorem dL_law_664 : decode cL_law 664 = .ok (.iconst 0, 1) := by decide +kernel
theorem dL_law_665 : decode cL_law 665 = .ok (.ireturn, 1) := by decide +kernel
theorem dL_law_666 : decode cL_law 666 = .ok (.iload 5, 2) := by decide +kernel
theorem dL_law_668 : decode cL_law 668 = .ok (.ifCond .ne 15, 3) := by decide +kernel
theorem dL_law_671 : decode cL_law 671 = .ok (.aload_n 3, 1) := by decide +kernel
theorem dL_law_672 : decode cL_law 672 = .ok (.iconst 0, 1) := by decide +kernel
theorem dL_law_673 : decode cL_law 673 = .ok (.laload, 1) := by decide +kernel
theorem dL_law_674 : decode cL_law 674 = .ok (.iload 6, 2) := by decide +kernel
theorem dL_law_676 : decode cL_law 676 = .ok (.i2l, 1) := by decide +kernel
theorem dL_law_677 : decode cL_law 677 = .ok (.lcmp, 1) := by decide +kernel
theorem dL_law_678 : decode cL_law 678 = .ok (.ifCond .eq 5, 3) := by decide +kernel
theorem dL_law_681 : decode cL_law 681 = .ok (.iconst 0, 1) := by decide +kernel
theorem dL_law_682 : decode cL_law 682 = .ok (.ireturn, 1) := by decide +kernel
theorem dL_law_683 : decode cL_law 683 = .ok (.goto 722, 3) := by decide +kernel
theorem dL_law_686 : decode cL_law 686 = .ok (.aload_n 1, 1) := by decide +kernel
theorem dL_law_687 : decode cL_law 687 = .ok (.aload_n 0, 1) := by decide +kernel
theorem dL_law_688 : decode cL_law 688 = .ok (.iload 4, 2) := by decide +kernel
theorem dL_law_690 : decode cL_law 690 = .ok (.iconst 1, 1) := by decide +kernel
theorem dL_law_691 : decode cL_law 691 = .ok (.iadd, 1) := by decide +kernel
theorem dL_law_692 : decode cL_law 692 = .ok (.iaload, 1) := by decide +kernel
theorem dL_law_693 : decode cL_law 693 = .ok (.aload_n 3, 1) := by decide +kernel
theorem dL_law_694 : decode cL_law 694 = .ok (.invokestatic 133, 3) := by decide +kernel
theorem dL_law_697 : decode cL_law 697 = .ok (.istore 5, 2) := by decide +kernel
theorem dL_law_699 : decode cL_law 699 = .ok (.aload_n 2, 1) := by decide +kernel
theorem dL_law_700 : decode cL_law 700 = .ok (.aload_n 0, 1) := by decide +kernel
theorem dL_law_701 : decode cL_law 701 = .ok (.iload 4, 2) := by decide +kernel
theorem dL_law_703 : decode cL_law 703 = .ok (.iconst 1, 1) := by decide +kernel
theorem dL_law_704 : decode cL_law 704 = .ok (.iadd, 1) := by decide +kernel
theorem dL_law_705 : decode cL_law 705 = .ok (.iaload, 1) := by decide +kernel
theorem dL_law_706 : decode cL_law 706 = .ok (.invokevirtual 135, 3) := by decide +kernel
theorem dL_law_709 : decode cL_law 709 = .ok (.istore 6, 2) := by decide +kernel
theorem dL_law_711 : decode cL_law 711 = .ok (.aload_n 2, 1) := by decide +kernel
theorem dL_law_712 : decode cL_law 712 = .ok (.invokevirtual 87, 3) := by decide +kernel
theorem dL_law_715 : decode cL_law 715 = .ok (.iload 5, 2) := by decide +kernel
theorem dL_law_717 : decode cL_law 717 = .ok (.if_icmp .eq 5, 3) := by decide +kernel
theorem dL_law_720 : decode cL_law 720 = .ok (.iconst 0, 1) := by decide +kernel
theorem dL_law_721 : decode cL_law 721 = .ok (.ireturn, 1) := by decide +kernel
theorem dL_law_722 : decode cL_law 722 = .ok (.iload 5, 2) := by decide +kernel
theorem dL_law_724 : decode cL_law 724 = .ok (.ifCond .ne 15, 3) := by decide +kernel
theorem dL_law_727 : decode cL_law 727 = .ok (.aload_n 3, 1) := by decide +kernel
theorem dL_law_728 : decode cL_law 728 = .ok (.iconst 0, 1) := by decide +kernel
theorem dL_law_729 : decode cL_law 729 = .ok (.laload, 1) := by decide +kernel
theorem dL_law_730 : decode cL_law 730 = .ok (.iload 6, 2) := by decide +kernel
theorem dL_law_732 : decode cL_law 732 = .ok (.i2l, 1) := by decide +kernel
theorem dL_law_733 : decode cL_law 733 = .ok (.lcmp, 1) := by decide +kernel
theorem dL_law_734 : decode cL_law 734 = .ok (.ifCond .eq 5, 3) := by decide +kernel
theorem dL_law_737 : decode cL_law 737 = .ok (.iconst 0, 1) := by decide +kernel
theorem dL_law_738 : decode cL_law 738 = .ok (.ireturn, 1) := by decide +kernel
theorem dL_law_739 : decode cL_law 739 = .ok (.goto 666, 3) := by decide +kernel
theorem dL_law_742 : decode cL_law 742 = .ok (.aload_n 1, 1) := by decide +kernel
theorem dL_law_743 : decode cL_law 743 = .ok (.aload_n 0, 1) := by decide +kernel
theorem dL_law_744 : decode cL_law 744 = .ok (.iload 4, 2) := by decide +kernel
theorem dL_law_746 : decode cL_law 746 = .ok (.iconst 1, 1) := by decide +kernel
theorem dL_law_747 : decode cL_law 747 = .ok (.iadd, 1) := by decide +kernel
theorem dL_law_748 : decode cL_law 748 = .ok (.iaload, 1) := by decide +kernel
theorem dL_law_749 : decode cL_law 749 = .ok (.aload_n 3, 1) := by decide +kernel
theorem dL_law_750 : decode cL_law 750 = .ok (.invokestatic 136, 3) := by decide +kernel
theorem dL_law_753 : decode cL_law 753 = .ok (.istore 5, 2) := by decide +kernel
theorem dL_law_755 : decode cL_law 755 = .ok (.aload_n 2, 1) := by decide +kernel
theorem dL_law_756 : decode cL_law 756 = .ok (.aload_n 0, 1) := by decide +kernel
theorem dL_law_757 : decode cL_law 757 = .ok (.iload 4, 2) := by decide +kernel
theorem dL_law_759 : decode cL_law 759 = .ok (.iconst 1, 1) := by decide +kernel
theorem dL_law_760 : decode cL_law 760 = .ok (.iadd, 1) := by decide +kernel
theorem dL_law_761 : decode cL_law 761 = .ok (.iaload, 1) := by decide +kernel
theorem dL_law_762 : decode cL_law 762 = .ok (.invokevirtual 138, 3) := by decide +kernel
theorem dL_law_765 : decode cL_law 765 = .ok (.istore 6, 2) := by decide +kernel
theorem dL_law_767 : decode cL_law 767 = .ok (.aload_n 2, 1) := by decide +kernel
theorem dL_law_768 : decode cL_law 768 = .ok (.invokevirtual 87, 3) := by decide +kernel
theorem dL_law_771 : decode cL_law 771 = .ok (.iload 5, 2) := by decide +kernel
theorem dL_law_773 : decode cL_law 773 = .ok (.if_icmp .eq 5, 3) := by decide +kernel
theorem dL_law_776 : decode cL_law 776 = .ok (.iconst 0, 1) := by decide +kernel
theorem dL_law_777 : decode cL_law 777 = .ok (.ireturn, 1) := by decide +kernel
theorem dL_law_778 : decode cL_law 778 = .ok (.iload 5, 2) := by decide +kernel
theorem dL_law_780 : decode cL_law 780 = .ok (.ifCond .ne 15, 3) := by decide +kernel
theorem dL_law_783 : decode cL_law 783 = .ok (.aload_n 3, 1) := by decide +kernel
theorem dL_law_784 : decode cL_law 784 = .ok (.iconst 0, 1) := by decide +kernel
theorem dL_law_785 : decode cL_law 785 = .ok (.laload, 1) := by decide +kernel
theorem dL_law_786 : decode cL_law 786 = .ok (.iload 6, 2) := by decide +kernel
theorem dL_law_788 : decode cL_law 788 = .ok (.i2l, 1) := by decide +kernel
theorem dL_law_789 : decode cL_law 789 = .ok (.lcmp, 1) := by decide +kernel
theorem dL_law_790 : decode cL_law 790 = .ok (.ifCond .eq 5, 3) := by decide +kernel
theorem dL_law_793 : decode cL_law 793 = .ok (.iconst 0, 1) := by decide +kernel
theorem dL_law_794 : decode cL_law 794 = .ok (.ireturn, 1) := by decide +kernel
theorem dL_law_795 : decode cL_law 795 = .ok (.goto 610, 3) := by decide +kernel
theorem dL_law_798 : decode cL_law 798 = .ok (.aload_n 1, 1) := by decide +kernel
theorem dL_law_799 : decode cL_law 799 = .ok (.invokevirtual 139, 3) := by decide +kernel
theorem dL_law_802 : decode cL_law 802 = .ok (.aload_n 2, 1) := by decide +kernel
theorem dL_law_803 : decode cL_law 803 = .ok (.invokevirtual 142, 3) := by decide +kernel
theorem dL_law_806 : decode cL_law 806 = .ok (.if_icmp .eq 599, 3) := by decide +kernel
theorem dL_law_809 : decode cL_law 809 = .ok (.iconst 0, 1) := by decide +kernel
theorem dL_law_810 : decode cL_law 810 = .ok (.ireturn, 1) := by decide +kernel
theorem dL_law_811 : decode cL_law 811 = .ok (.aload_n 1, 1) := by decide +kernel
theorem dL_law_812 : decode cL_law 812 = .ok (.aload_n 3, 1) := by decide +kernel
theorem dL_law_813 : decode cL_law 813 = .ok (.invokestatic 143, 3) := by decide +kernel
theorem dL_law_816 : decode cL_law 816 = .ok (.istore 5, 2) := by decide +kernel
theorem dL_law_818 : decode cL_law 818 = .ok (.aload_n 2, 1) := by decide +kernel
theorem dL_law_819 : decode cL_law 819 = .ok (.invokevirtual 145, 3) := by decide +kernel
theorem dL_law_822 : decode cL_law 822 = .ok (.istore 6, 2) := by decide +kernel
theorem dL_law_824 : decode cL_law 824 = .ok (.aload_n 2, 1) := by decide +kernel
theorem dL_law_825 : decode cL_law 825 = .ok (.invokevirtual 87, 3) := by decide +kernel
theorem dL_law_828 : decode cL_law 828 = .ok (.iload 5, 2) := by decide +kernel
theorem dL_law_830 : decode cL_law 830 = .ok (.if_icmp .eq 5, 3) := by decide +kernel
theorem dL_law_833 : decode cL_law 833 = .ok (.iconst 0, 1) := by decide +kernel
theorem dL_law_834 : decode cL_law 834 = .ok (.ireturn, 1) := by decide +kernel
theorem dL_law_835 : decode cL_law 835 = .ok (.iload 5, 2) := by decide +kernel
theorem dL_law_837 : decode cL_law 837 = .ok (.ifCond .ne 15, 3) := by decide +kernel
theorem dL_law_840 : decode cL_law 840 = .ok (.aload_n 3, 1) := by decide +kernel
theorem dL_law_841 : decode cL_law 841 = .ok (.iconst 0, 1) := by decide +kernel
theorem dL_law_842 : decode cL_law 842 = .ok (.laload, 1) := by decide +kernel
theorem dL_law_843 : decode cL_law 843 = .ok (.iload 6, 2) := by decide +kernel
theorem dL_law_845 : decode cL_law 845 = .ok (.i2l, 1) := by decide +kernel
theorem dL_law_846 : decode cL_law 846 = .ok (.lcmp, 1) := by decide +kernel
theorem dL_law_847 : decode cL_law 847 = .ok (.ifCond .eq 5, 3) := by decide +kernel
theorem dL_law_850 : decode cL_law 850 = .ok (.iconst 0, 1) := by decide +kernel
theorem dL_law_851 : decode cL_law 851 = .ok (.ireturn, 1) := by decide +kernel
theorem dL_law_852 : decode cL_law 852 = .ok (.goto 553, 3) := by decide +kernel
theorem dL_law_855 : decode cL_law 855 = .ok (.aload_n 1, 1) := by decide +kernel
theorem dL_law_856 : decode cL_law 856 = .ok (.aload_n 0, 1) := by decide +kernel
theorem dL_law_857 : decode cL_law 857 = .ok (.iload 4, 2) := by decide +kernel
theorem dL_law_859 : decode cL_law 859 = .ok (.iconst 1, 1) := by decide +kernel
theorem dL_law_860 : decode cL_law 860 = .ok (.iadd, 1) := by decide +kernel
theorem dL_law_861 : decode cL_law 861 = .ok (.iaload, 1) := by decide +kernel
theorem dL_law_862 : decode cL_law 862 = .ok (.aload_n 3, 1) := by decide +kernel
theorem dL_law_863 : decode cL_law 863 = .ok (.invokestatic 146, 3) := by decide +kernel
theorem dL_law_866 : decode cL_law 866 = .ok (.istore 5, 2) := by decide +kernel
theorem dL_law_868 : decode cL_law 868 = .ok (.aload_n 2, 1) := by decide +kernel
theorem dL_law_869 : decode cL_law 869 = .ok (.aload_n 0, 1) := by decide +kernel
theorem dL_law_870 : decode cL_law 870 = .ok (.iload 4, 2) := by decide +kernel
theorem dL_law_872 : decode cL_law 872 = .ok (.iconst 1, 1) := by decide +kernel
theorem dL_law_873 : decode cL_law 873 = .ok (.iadd, 1) := by decide +kernel
theorem dL_law_874 : decode cL_law 874 = .ok (.iaload, 1) := by decide +kernel
theorem dL_law_875 : decode cL_law 875 = .ok (.invokevirtual 148, 3) := by decide +kernel
theorem dL_law_878 : decode cL_law 878 = .ok (.istore 6, 2) := by decide +kernel
theorem dL_law_880 : decode cL_law 880 = .ok (.aload_n 2, 1) := by decide +kernel
theorem dL_law_881 : decode cL_law 881 = .ok (.invokevirtual 87, 3) := by decide +kernel
theorem dL_law_884 : decode cL_law 884 = .ok (.iload 5, 2) := by decide +kernel
theorem dL_law_886 : decode cL_law 886 = .ok (.if_icmp .eq 5, 3) := by decide +kernel
theorem dL_law_889 : decode cL_law 889 = .ok (.iconst 0, 1) := by decide +kernel
theorem dL_law_890 : decode cL_law 890 = .ok (.ireturn, 1) := by decide +kernel
theorem dL_law_891 : decode cL_law 891 = .ok (.iload 5, 2) := by decide +kernel
theorem dL_law_893 : decode cL_law 893 = .ok (.ifCond .ne 15, 3) := by decide +kernel
theorem dL_law_896 : decode cL_law 896 = .ok (.aload_n 3, 1) := by decide +kernel
theorem dL_law_897 : decode cL_law 897 = .ok (.iconst 0, 1) := by decide +kernel
theorem dL_law_898 : decode cL_law 898 = .ok (.laload, 1) := by decide +kernel
theorem dL_law_899 : decode cL_law 899 = .ok (.iload 6, 2) := by decide +kernel
theorem dL_law_901 : decode cL_law 901 = .ok (.i2l, 1) := by decide +kernel
theorem dL_law_902 : decode cL_law 902 = .ok (.lcmp, 1) := by decide +kernel
theorem dL_law_903 : decode cL_law 903 = .ok (.ifCond .eq 5, 3) := by decide +kernel
theorem dL_law_906 : decode cL_law 906 = .ok (.iconst 0, 1) := by decide +kernel
theorem dL_law_907 : decode cL_law 907 = .ok (.ireturn, 1) := by decide +kernel
theorem dL_law_908 : decode cL_law 908 = .ok (.goto 497, 3) := by decide +kernel
theorem dL_law_911 : decode cL_law 911 = .ok (.aload_n 1, 1) := by decide +kernel
theorem dL_law_912 : decode cL_law 912 = .ok (.aload_n 0, 1) := by decide +kernel
theorem dL_law_913 : decode cL_law 913 = .ok (.iload 4, 2) := by decide +kernel
theorem dL_law_915 : decode cL_law 915 = .ok (.iconst 1, 1) := by decide +kernel
theorem dL_law_916 : decode cL_law 916 = .ok (.iadd, 1) := by decide +kernel
theorem dL_law_917 : decode cL_law 917 = .ok (.iaload, 1) := by decide +kernel
theorem dL_law_918 : decode cL_law 918 = .ok (.aload_n 3, 1) := by decide +kernel
theorem dL_law_919 : decode cL_law 919 = .ok (.invokestatic 149, 3) := by decide +kernel
theorem dL_law_922 : decode cL_law 922 = .ok (.istore 5, 2) := by decide +kernel
theorem dL_law_924 : decode cL_law 924 = .ok (.aload_n 2, 1) := by decide +kernel
theorem dL_law_925 : decode cL_law 925 = .ok (.aload_n 0, 1) := by decide +kernel
theorem dL_law_926 : decode cL_law 926 = .ok (.iload 4, 2) := by decide +kernel
theorem dL_law_928 : decode cL_law 928 = .ok (.iconst 1, 1) := by decide +kernel
theorem dL_law_929 : decode cL_law 929 = .ok (.iadd, 1) := by decide +kernel
theorem dL_law_930 : decode cL_law 930 = .ok (.iaload, 1) := by decide +kernel
theorem dL_law_931 : decode cL_law 931 = .ok (.invokevirtual 151, 3) := by decide +kernel
theorem dL_law_934 : decode cL_law 934 = .ok (.istore 6, 2) := by decide +kernel
theorem dL_law_936 : decode cL_law 936 = .ok (.aload_n 2, 1) := by decide +kernel
theorem dL_law_937 : decode cL_law 937 = .ok (.invokevirtual 87, 3) := by decide +kernel
theorem dL_law_940 : decode cL_law 940 = .ok (.iload 5, 2) := by decide +kernel
theorem dL_law_942 : decode cL_law 942 = .ok (.if_icmp .eq 5, 3) := by decide +kernel
theorem dL_law_945 : decode cL_law 945 = .ok (.iconst 0, 1) := by decide +kernel
theorem dL_law_946 : decode cL_law 946 = .ok (.ireturn, 1) := by decide +kernel
theorem dL_law_947 : decode cL_law 947 = .ok (.iload 5, 2) := by decide +kernel
theorem dL_law_949 : decode cL_law 949 = .ok (.ifCond .ne 15, 3) := by decide +kernel
theorem dL_law_952 : decode cL_law 952 = .ok (.aload_n 3, 1) := by decide +kernel
theorem dL_law_953 : decode cL_law 953 = .ok (.iconst 0, 1) := by decide +kernel
theorem dL_law_954 : decode cL_law 954 = .ok (.laload, 1) := by decide +kernel
theorem dL_law_955 : decode cL_law 955 = .ok (.iload 6, 2) := by decide +kernel
theorem dL_law_957 : decode cL_law 957 = .ok (.i2l, 1) := by decide +kernel
theorem dL_law_958 : decode cL_law 958 = .ok (.lcmp, 1) := by decide +kernel
theorem dL_law_959 : decode cL_law 959 = .ok (.ifCond .eq 5, 3) := by decide +kernel
theorem dL_law_962 : decode cL_law 962 = .ok (.iconst 0, 1) := by decide +kernel
theorem dL_law_963 : decode cL_law 963 = .ok (.ireturn, 1) := by decide +kernel
theorem dL_law_964 : decode cL_law 964 = .ok (.goto 441, 3) := by decide +kernel
theorem dL_law_967 : decode cL_law 967 = .ok (.aload_n 1, 1) := by decide +kernel
theorem dL_law_968 : decode cL_law 968 = .ok (.aload_n 0, 1) := by decide +kernel
theorem dL_law_969 : decode cL_law 969 = .ok (.iload 4, 2) := by decide +kernel
theorem dL_law_971 : decode cL_law 971 = .ok (.iconst 1, 1) := by decide +kernel
theorem dL_law_972 : decode cL_law 972 = .ok (.iadd, 1) := by decide +kernel
theorem dL_law_973 : decode cL_law 973 = .ok (.iaload, 1) := by decide +kernel
theorem dL_law_974 : decode cL_law 974 = .ok (.aload_n 3, 1) := by decide +kernel
theorem dL_law_975 : decode cL_law 975 = .ok (.invokestatic 152, 3) := by decide +kernel
theorem dL_law_978 : decode cL_law 978 = .ok (.istore 5, 2) := by decide +kernel
theorem dL_law_980 : decode cL_law 980 = .ok (.aload_n 2, 1) := by decide +kernel
theorem dL_law_981 : decode cL_law 981 = .ok (.aload_n 0, 1) := by decide +kernel
theorem dL_law_982 : decode cL_law 982 = .ok (.iload 4, 2) := by decide +kernel
theorem dL_law_984 : decode cL_law 984 = .ok (.iconst 1, 1) := by decide +kernel
theorem dL_law_985 : decode cL_law 985 = .ok (.iadd, 1) := by decide +kernel
theorem dL_law_986 : decode cL_law 986 = .ok (.iaload, 1) := by decide +kernel
theorem dL_law_987 : decode cL_law 987 = .ok (.invokevirtual 154, 3) := by decide +kernel
theorem dL_law_990 : decode cL_law 990 = .ok (.istore 6, 2) := by decide +kernel
theorem dL_law_992 : decode cL_law 992 = .ok (.aload_n 2, 1) := by decide +kernel
theorem dL_law_993 : decode cL_law 993 = .ok (.invokevirtual 87, 3) := by decide +kernel
theorem dL_law_996 : decode cL_law 996 = .ok (.iload 5, 2) := by decide +kernel
theorem dL_law_998 : decode cL_law 998 = .ok (.if_icmp .eq 5, 3) := by decide +kernel
theorem dL_law_1001 : decode cL_law 1001 = .ok (.iconst 0, 1) := by decide +kernel
theorem dL_law_1002 : decode cL_law 1002 = .ok (.ireturn, 1) := by decide +kernel
theorem dL_law_1003 : decode cL_law 1003 = .ok (.iload 5, 2) := by decide +kernel
theorem dL_law_1005 : decode cL_law 1005 = .ok (.ifCond .ne 15, 3) := by decide +kernel
theorem dL_law_1008 : decode cL_law 1008 = .ok (.aload_n 3, 1) := by decide +kernel
theorem dL_law_1009 : decode cL_law 1009 = .ok (.iconst 0, 1) := by decide +kernel
theorem dL_law_1010 : decode cL_law 1010 = .ok (.laload, 1) := by decide +kernel
theorem dL_law_1011 : decode cL_law 1011 = .ok (.iload 6, 2) := by decide +kernel
theorem dL_law_1013 : decode cL_law 1013 = .ok (.i2l, 1) := by decide +kernel
theorem dL_law_1014 : decode cL_law 1014 = .ok (.lcmp, 1) := by decide +kernel
theorem dL_law_1015 : decode cL_law 1015 = .ok (.ifCond .eq 5, 3) := by decide +kernel
theorem dL_law_1018 : decode cL_law 1018 = .ok (.iconst 0, 1) := by decide +kernel
theorem dL_law_1019 : decode cL_law 1019 = .ok (.ireturn, 1) := by decide +kernel
theorem dL_law_1020 : decode cL_law 1020 = .ok (.goto 385, 3) := by decide +kernel
theorem dL_law_1023 : decode cL_law 1023 = .ok (.aload_n 1, 1) := by decide +kernel
theorem dL_law_1024 : decode cL_law 1024 = .ok (.aload_n 0, 1) := by decide +kernel
theorem dL_law_1025 : decode cL_law 1025 = .ok (.iload 4, 2) := by decide +kernel
theorem dL_law_1027 : decode cL_law 1027 = .ok (.iconst 1, 1) := by decide +kernel
theorem dL_law_1028 : decode cL_law 1028 = .ok (.iadd, 1) := by decide +kernel
theorem dL_law_1029 : decode cL_law 1029 = .ok (.iaload, 1) := by decide +kernel
theorem dL_law_1030 : decode cL_law 1030 = .ok (.aload_n 3, 1) := by decide +kernel
theorem dL_law_1031 : decode cL_law 1031 = .ok (.invokestatic 155, 3) := by decide +kernel
theorem dL_law_1034 : decode cL_law 1034 = .ok (.istore 5, 2) := by decide +kernel
theorem dL_law_1036 : decode cL_law 1036 = .ok (.aload_n 2, 1) := by decide +kernel
theorem dL_law_1037 : decode cL_law 1037 = .ok (.aload_n 0, 1) := by decide +kernel
theorem dL_law_1038 : decode cL_law 1038 = .ok (.iload 4, 2) := by decide +kernel
theorem dL_law_1040 : decode cL_law 1040 = .ok (.iconst 1, 1) := by decide +kernel
theorem dL_law_1041 : decode cL_law 1041 = .ok (.iadd, 1) := by decide +kernel
theorem dL_law_1042 : decode cL_law 1042 = .ok (.iaload, 1) := by decide +kernel
theorem dL_law_1043 : decode cL_law 1043 = .ok (.invokevirtual 157, 3) := by decide +kernel
theorem dL_law_1046 : decode cL_law 1046 = .ok (.istore 6, 2) := by decide +kernel
theorem dL_law_1048 : decode cL_law 1048 = .ok (.aload_n 2, 1) := by decide +kernel
theorem dL_law_1049 : decode cL_law 1049 = .ok (.invokevirtual 87, 3) := by decide +kernel
theorem dL_law_1052 : decode cL_law 1052 = .ok (.iload 5, 2) := by decide +kernel
theorem dL_law_1054 : decode cL_law 1054 = .ok (.if_icmp .eq 5, 3) := by decide +kernel
theorem dL_law_1057 : decode cL_law 1057 = .ok (.iconst 0, 1) := by decide +kernel
theorem dL_law_1058 : decode cL_law 1058 = .ok (.ireturn, 1) := by decide +kernel
theorem dL_law_1059 : decode cL_law 1059 = .ok (.iload 5, 2) := by decide +kernel
theorem dL_law_1061 : decode cL_law 1061 = .ok (.ifCond .ne 15, 3) := by decide +kernel
theorem dL_law_1064 : decode cL_law 1064 = .ok (.aload_n 3, 1) := by decide +kernel
theorem dL_law_1065 : decode cL_law 1065 = .ok (.iconst 0, 1) := by decide +kernel
theorem dL_law_1066 : decode cL_law 1066 = .ok (.laload, 1) := by decide +kernel
theorem dL_law_1067 : decode cL_law 1067 = .ok (.iload 6, 2) := by decide +kernel
theorem dL_law_1069 : decode cL_law 1069 = .ok (.i2l, 1) := by decide +kernel
theorem dL_law_1070 : decode cL_law 1070 = .ok (.lcmp, 1) := by decide +kernel
theorem dL_law_1071 : decode cL_law 1071 = .ok (.ifCond .eq 5, 3) := by decide +kernel
theorem dL_law_1074 : decode cL_law 1074 = .ok (.iconst 0, 1) := by decide +kernel
theorem dL_law_1075 : decode cL_law 1075 = .ok (.ireturn, 1) := by decide +kernel
theorem dL_law_1076 : decode cL_law 1076 = .ok (.goto 329, 3) := by decide +kernel
theorem dL_law_1079 : decode cL_law 1079 = .ok (.aload_n 1, 1) := by decide +kernel
theorem dL_law_1080 : decode cL_law 1080 = .ok (.invokevirtual 158, 3) := by decide +kernel
theorem dL_law_1083 : decode cL_law 1083 = .ok (.aload_n 2, 1) := by decide +kernel
theorem dL_law_1084 : decode cL_law 1084 = .ok (.invokevirtual 161, 3) := by decide +kernel
theorem dL_law_1087 : decode cL_law 1087 = .ok (.if_icmp .eq 318, 3) := by decide +kernel
theorem dL_law_1090 : decode cL_law 1090 = .ok (.iconst 0, 1) := by decide +kernel
theorem dL_law_1091 : decode cL_law 1091 = .ok (.ireturn, 1) := by decide +kernel
theorem dL_law_1092 : decode cL_law 1092 = .ok (.aload_n 1, 1) := by decide +kernel
theorem dL_law_1093 : decode cL_law 1093 = .ok (.aload_n 0, 1) := by decide +kernel
theorem dL_law_1094 : decode cL_law 1094 = .ok (.iload 4, 2) := by decide +kernel
theorem dL_law_1096 : decode cL_law 1096 = .ok (.iconst 1, 1) := by decide +kernel
theorem dL_law_1097 : decode cL_law 1097 = .ok (.iadd, 1) := by decide +kernel
theorem dL_law_1098 : decode cL_law 1098 = .ok (.iaload, 1) := by decide +kernel
theorem dL_law_1099 : decode cL_law 1099 = .ok (.aload_n 3, 1) := by decide +kernel
theorem dL_law_1100 : decode cL_law 1100 = .ok (.invokestatic 162, 3) := by decide +kernel
theorem dL_law_1103 : decode cL_law 1103 = .ok (.istore 5, 2) := by decide +kernel
theorem dL_law_1105 : decode cL_law 1105 = .ok (.aload_n 2, 1) := by decide +kernel
theorem dL_law_1106 : decode cL_law 1106 = .ok (.aload_n 0, 1) := by decide +kernel
theorem dL_law_1107 : decode cL_law 1107 = .ok (.iload 4, 2) := by decide +kernel
theorem dL_law_1109 : decode cL_law 1109 = .ok (.iconst 1, 1) := by decide +kernel
theorem dL_law_1110 : decode cL_law 1110 = .ok (.iadd, 1) := by decide +kernel
theorem dL_law_1111 : decode cL_law 1111 = .ok (.iaload, 1) := by decide +kernel
theorem dL_law_1112 : decode cL_law 1112 = .ok (.invokevirtual 164, 3) := by decide +kernel
theorem dL_law_1115 : decode cL_law 1115 = .ok (.istore 6, 2) := by decide +kernel
theorem dL_law_1117 : decode cL_law 1117 = .ok (.aload_n 2, 1) := by decide +kernel
theorem dL_law_1118 : decode cL_law 1118 = .ok (.invokevirtual 87, 3) := by decide +kernel
theorem dL_law_1121 : decode cL_law 1121 = .ok (.iload 5, 2) := by decide +kernel
theorem dL_law_1123 : decode cL_law 1123 = .ok (.if_icmp .eq 5, 3) := by decide +kernel
theorem dL_law_1126 : decode cL_law 1126 = .ok (.iconst 0, 1) := by decide +kernel
theorem dL_law_1127 : decode cL_law 1127 = .ok (.ireturn, 1) := by decide +kernel
theorem dL_law_1128 : decode cL_law 1128 = .ok (.iload 5, 2) := by decide +kernel
theorem dL_law_1130 : decode cL_law 1130 = .ok (.ifCond .ne 15, 3) := by decide +kernel
theorem dL_law_1133 : decode cL_law 1133 = .ok (.aload_n 3, 1) := by decide +kernel
theorem dL_law_1134 : decode cL_law 1134 = .ok (.iconst 0, 1) := by decide +kernel
theorem dL_law_1135 : decode cL_law 1135 = .ok (.laload, 1) := by decide +kernel
theorem dL_law_1136 : decode cL_law 1136 = .ok (.iload 6, 2) := by decide +kernel
theorem dL_law_1138 : decode cL_law 1138 = .ok (.i2l, 1) := by decide +kernel
theorem dL_law_1139 : decode cL_law 1139 = .ok (.lcmp, 1) := by decide +kernel
theorem dL_law_1140 : decode cL_law 1140 = .ok (.ifCond .eq 5, 3) := by decide +kernel
theorem dL_law_1143 : decode cL_law 1143 = .ok (.iconst 0, 1) := by decide +kernel
theorem dL_law_1144 : decode cL_law 1144 = .ok (.ireturn, 1) := by decide +kernel
theorem dL_law_1145 : decode cL_law 1145 = .ok (.goto 260, 3) := by decide +kernel
theorem dL_law_1148 : decode cL_law 1148 = .ok (.aload_n 1, 1) := by decide +kernel
theorem dL_law_1149 : decode cL_law 1149 = .ok (.aload_n 0, 1) := by decide +kernel
theorem dL_law_1150 : decode cL_law 1150 = .ok (.iload 4, 2) := by decide +kernel
theorem dL_law_1152 : decode cL_law 1152 = .ok (.iconst 1, 1) := by decide +kernel
theorem dL_law_1153 : decode cL_law 1153 = .ok (.iadd, 1) := by decide +kernel
theorem dL_law_1154 : decode cL_law 1154 = .ok (.iaload, 1) := by decide +kernel
theorem dL_law_1155 : decode cL_law 1155 = .ok (.aload_n 3, 1) := by decide +kernel
theorem dL_law_1156 : decode cL_law 1156 = .ok (.invokestatic 165, 3) := by decide +kernel
theorem dL_law_1159 : decode cL_law 1159 = .ok (.istore 5, 2) := by decide +kernel
theorem dL_law_1161 : decode cL_law 1161 = .ok (.aload_n 2, 1) := by decide +kernel
theorem dL_law_1162 : decode cL_law 1162 = .ok (.aload_n 0, 1) := by decide +kernel
theorem dL_law_1163 : decode cL_law 1163 = .ok (.iload 4, 2) := by decide +kernel
theorem dL_law_1165 : decode cL_law 1165 = .ok (.iconst 1, 1) := by decide +kernel
theorem dL_law_1166 : decode cL_law 1166 = .ok (.iadd, 1) := by decide +kernel
theorem dL_law_1167 : decode cL_law 1167 = .ok (.iaload, 1) := by decide +kernel
theorem dL_law_1168 : decode cL_law 1168 = .ok (.invokevirtual 167, 3) := by decide +kernel
theorem dL_law_1171 : decode cL_law 1171 = .ok (.istore 6, 2) := by decide +kernel
theorem dL_law_1173 : decode cL_law 1173 = .ok (.aload_n 2, 1) := by decide +kernel
theorem dL_law_1174 : decode cL_law 1174 = .ok (.invokevirtual 87, 3) := by decide +kernel
theorem dL_law_1177 : decode cL_law 1177 = .ok (.iload 5, 2) := by decide +kernel
theorem dL_law_1179 : decode cL_law 1179 = .ok (.if_icmp .eq 5, 3) := by decide +kernel
theorem dL_law_1182 : decode cL_law 1182 = .ok (.iconst 0, 1) := by decide +kernel
theorem dL_law_1183 : decode cL_law 1183 = .ok (.ireturn, 1) := by decide +kernel
theorem dL_law_1184 : decode cL_law 1184 = .ok (.iload 5, 2) := by decide +kernel
theorem dL_law_1186 : decode cL_law 1186 = .ok (.ifCond .ne 15, 3) := by decide +kernel
theorem dL_law_1189 : decode cL_law 1189 = .ok (.aload_n 3, 1) := by decide +kernel
theorem dL_law_1190 : decode cL_law 1190 = .ok (.iconst 0, 1) := by decide +kernel
theorem dL_law_1191 : decode cL_law 1191 = .ok (.laload, 1) := by decide +kernel
theorem dL_law_1192 : decode cL_law 1192 = .ok (.iload 6, 2) := by decide +kernel
theorem dL_law_1194 : decode cL_law 1194 = .ok (.i2l, 1) := by decide +kernel
theorem dL_law_1195 : decode cL_law 1195 = .ok (.lcmp, 1) := by decide +kernel
theorem dL_law_1196 : decode cL_law 1196 = .ok (.ifCond .eq 5, 3) := by decide +kernel
theorem dL_law_1199 : decode cL_law 1199 = .ok (.iconst 0, 1) := by decide +kernel
theorem dL_law_1200 : decode cL_law 1200 = .ok (.ireturn, 1) := by decide +kernel
theorem dL_law_1201 : decode cL_law 1201 = .ok (.goto 204, 3) := by decide +kernel
theorem dL_law_1204 : decode cL_law 1204 = .ok (.aload_n 1, 1) := by decide +kernel
theorem dL_law_1205 : decode cL_law 1205 = .ok (.invokevirtual 168, 3) := by decide +kernel
theorem dL_law_1208 : decode cL_law 1208 = .ok (.aload_n 2, 1) := by decide +kernel
theorem dL_law_1209 : decode cL_law 1209 = .ok (.invokevirtual 171, 3) := by decide +kernel
theorem dL_law_1212 : decode cL_law 1212 = .ok (.if_icmp .eq 193, 3) := by decide +kernel
theorem dL_law_1215 : decode cL_law 1215 = .ok (.iconst 0, 1) := by decide +kernel
theorem dL_law_1216 : decode cL_law 1216 = .ok (.ireturn, 1) := by decide +kernel
theorem dL_law_1217 : decode cL_law 1217 = .ok (.aload_n 1, 1) := by decide +kernel
theorem dL_law_1218 : decode cL_law 1218 = .ok (.invokevirtual 172, 3) := by decide +kernel
theorem dL_law_1221 : decode cL_law 1221 = .ok (.aload_n 2, 1) := by decide +kernel
theorem dL_law_1222 : decode cL_law 1222 = .ok (.invokevirtual 175, 3) := by decide +kernel
theorem dL_law_1225 : decode cL_law 1225 = .ok (.if_icmp .eq 180, 3) := by decide +kernel
theorem dL_law_1228 : decode cL_law 1228 = .ok (.iconst 0, 1) := by decide +kernel
theorem dL_law_1229 : decode cL_law 1229 = .ok (.ireturn, 1) := by decide +kernel
theorem dL_law_1230 : decode cL_law 1230 = .ok (.aload_n 1, 1) := by decide +kernel
theorem dL_law_1231 : decode cL_law 1231 = .ok (.aload_n 0, 1) := by decide +kernel
theorem dL_law_1232 : decode cL_law 1232 = .ok (.iload 4, 2) := by decide +kernel
theorem dL_law_1234 : decode cL_law 1234 = .ok (.iconst 1, 1) := by decide +kernel
theorem dL_law_1235 : decode cL_law 1235 = .ok (.iadd, 1) := by decide +kernel
theorem dL_law_1236 : decode cL_law 1236 = .ok (.iaload, 1) := by decide +kernel
theorem dL_law_1237 : decode cL_law 1237 = .ok (.aload_n 3, 1) := by decide +kernel
theorem dL_law_1238 : decode cL_law 1238 = .ok (.invokestatic 176, 3) := by decide +kernel
theorem dL_law_1241 : decode cL_law 1241 = .ok (.istore 5, 2) := by decide +kernel
theorem dL_law_1243 : decode cL_law 1243 = .ok (.aload_n 2, 1) := by decide +kernel
theorem dL_law_1244 : decode cL_law 1244 = .ok (.aload_n 0, 1) := by decide +kernel
theorem dL_law_1245 : decode cL_law 1245 = .ok (.iload 4, 2) := by decide +kernel
theorem dL_law_1247 : decode cL_law 1247 = .ok (.iconst 1, 1) := by decide +kernel
theorem dL_law_1248 : decode cL_law 1248 = .ok (.iadd, 1) := by decide +kernel
theorem dL_law_1249 : decode cL_law 1249 = .ok (.iaload, 1) := by decide +kernel
theorem dL_law_1250 : decode cL_law 1250 = .ok (.invokevirtual 178, 3) := by decide +kernel
theorem dL_law_1253 : decode cL_law 1253 = .ok (.istore 6, 2) := by decide +kernel
theorem dL_law_1255 : decode cL_law 1255 = .ok (.aload_n 2, 1) := by decide +kernel
theorem dL_law_1256 : decode cL_law 1256 = .ok (.invokevirtual 87, 3) := by decide +kernel
theorem dL_law_1259 : decode cL_law 1259 = .ok (.iload 5, 2) := by decide +kernel
theorem dL_law_1261 : decode cL_law 1261 = .ok (.if_icmp .eq 5, 3) := by decide +kernel
theorem dL_law_1264 : decode cL_law 1264 = .ok (.iconst 0, 1) := by decide +kernel
theorem dL_law_1265 : decode cL_law 1265 = .ok (.ireturn, 1) := by decide +kernel
theorem dL_law_1266 : decode cL_law 1266 = .ok (.iload 5, 2) := by decide +kernel
theorem dL_law_1268 : decode cL_law 1268 = .ok (.ifCond .ne 15, 3) := by decide +kernel
theorem dL_law_1271 : decode cL_law 1271 = .ok (.aload_n 3, 1) := by decide +kernel
theorem dL_law_1272 : decode cL_law 1272 = .ok (.iconst 0, 1) := by decide +kernel
theorem dL_law_1273 : decode cL_law 1273 = .ok (.laload, 1) := by decide +kernel
theorem dL_law_1274 : decode cL_law 1274 = .ok (.iload 6, 2) := by decide +kernel
theorem dL_law_1276 : decode cL_law 1276 = .ok (.i2l, 1) := by decide +kernel
theorem dL_law_1277 : decode cL_law 1277 = .ok (.lcmp, 1) := by decide +kernel
theorem dL_law_1278 : decode cL_law 1278 = .ok (.ifCond .eq 5, 3) := by decide +kernel
theorem dL_law_1281 : decode cL_law 1281 = .ok (.iconst 0, 1) := by decide +kernel
theorem dL_law_1282 : decode cL_law 1282 = .ok (.ireturn, 1) := by decide +kernel
theorem dL_law_1283 : decode cL_law 1283 = .ok (.goto 122, 3) := by decide +kernel
theorem dL_law_1286 : decode cL_law 1286 = .ok (.aload_n 1, 1) := by decide +kernel
theorem dL_law_1287 : decode cL_law 1287 = .ok (.invokevirtual 179, 3) := by decide +kernel
theorem dL_law_1290 : decode cL_law 1290 = .ok (.aload_n 2, 1) := by decide +kernel
theorem dL_law_1291 : decode cL_law 1291 = .ok (.invokevirtual 182, 3) := by decide +kernel
theorem dL_law_1294 : decode cL_law 1294 = .ok (.if_icmp .eq 111, 3) := by decide +kernel
theorem dL_law_1297 : decode cL_law 1297 = .ok (.iconst 0, 1) := by decide +kernel
theorem dL_law_1298 : decode cL_law 1298 = .ok (.ireturn, 1) := by decide +kernel
theorem dL_law_1299 : decode cL_law 1299 = .ok (.aload_n 1, 1) := by decide +kernel
theorem dL_law_1300 : decode cL_law 1300 = .ok (.invokevirtual 183, 3) := by decide +kernel
theorem dL_law_1303 : decode cL_law 1303 = .ok (.aload_n 2, 1) := by decide +kernel
theorem dL_law_1304 : decode cL_law 1304 = .ok (.invokevirtual 186, 3) := by decide +kernel
theorem dL_law_1307 : decode cL_law 1307 = .ok (.if_icmp .eq 98, 3) := by decide +kernel
theorem dL_law_1310 : decode cL_law 1310 = .ok (.iconst 0, 1) := by decide +kernel
theorem dL_law_1311 : decode cL_law 1311 = .ok (.ireturn, 1) := by decide +kernel
theorem dL_law_1312 : decode cL_law 1312 = .ok (.aload_n 1, 1) := by decide +kernel
theorem dL_law_1313 : decode cL_law 1313 = .ok (.invokevirtual 187, 3) := by decide +kernel
theorem dL_law_1316 : decode cL_law 1316 = .ok (.aload_n 2, 1) := by decide +kernel
theorem dL_law_1317 : decode cL_law 1317 = .ok (.invokevirtual 190, 3) := by decide +kernel
theorem dL_law_1320 : decode cL_law 1320 = .ok (.if_icmp .eq 85, 3) := by decide +kernel
theorem dL_law_1323 : decode cL_law 1323 = .ok (.iconst 0, 1) := by decide +kernel
theorem dL_law_1324 : decode cL_law 1324 = .ok (.ireturn, 1) := by decide +kernel
theorem dL_law_1325 : decode cL_law 1325 = .ok (.aload_n 1, 1) := by decide +kernel
theorem dL_law_1326 : decode cL_law 1326 = .ok (.invokevirtual 191, 3) := by decide +kernel
theorem dL_law_1329 : decode cL_law 1329 = .ok (.aload_n 2, 1) := by decide +kernel
theorem dL_law_1330 : decode cL_law 1330 = .ok (.invokevirtual 194, 3) := by decide +kernel
theorem dL_law_1333 : decode cL_law 1333 = .ok (.if_icmp .eq 72, 3) := by decide +kernel
theorem dL_law_1336 : decode cL_law 1336 = .ok (.iconst 0, 1) := by decide +kernel
theorem dL_law_1337 : decode cL_law 1337 = .ok (.ireturn, 1) := by decide +kernel
theorem dL_law_1338 : decode cL_law 1338 = .ok (.aload_n 1, 1) := by decide +kernel
theorem dL_law_1339 : decode cL_law 1339 = .ok (.invokevirtual 195, 3) := by decide +kernel
theorem dL_law_1342 : decode cL_law 1342 = .ok (.aload_n 2, 1) := by decide +kernel
theorem dL_law_1343 : decode cL_law 1343 = .ok (.invokevirtual 198, 3) := by decide +kernel
theorem dL_law_1346 : decode cL_law 1346 = .ok (.if_icmp .eq 59, 3) := by decide +kernel
theorem dL_law_1349 : decode cL_law 1349 = .ok (.iconst 0, 1) := by decide +kernel
theorem dL_law_1350 : decode cL_law 1350 = .ok (.ireturn, 1) := by decide +kernel
theorem dL_law_1351 : decode cL_law 1351 = .ok (.aload_n 1, 1) := by decide +kernel
theorem dL_law_1352 : decode cL_law 1352 = .ok (.invokevirtual 199, 3) := by decide +kernel
theorem dL_law_1355 : decode cL_law 1355 = .ok (.dstore 5, 2) := by decide +kernel
theorem dL_law_1357 : decode cL_law 1357 = .ok (.aload_n 2, 1) := by decide +kernel
theorem dL_law_1358 : decode cL_law 1358 = .ok (.invokevirtual 203, 3) := by decide +kernel
theorem dL_law_1361 : decode cL_law 1361 = .ok (.dstore 7, 2) := by decide +kernel
theorem dL_law_1363 : decode cL_law 1363 = .ok (.dload 5, 2) := by decide +kernel
theorem dL_law_1365 : decode cL_law 1365 = .ok (.dload 7, 2) := by decide +kernel
theorem dL_law_1367 : decode cL_law 1367 = .ok (.dcmp .l, 1) := by decide +kernel
theorem dL_law_1368 : decode cL_law 1368 = .ok (.ifCond .eq 21, 3) := by decide +kernel
theorem dL_law_1371 : decode cL_law 1371 = .ok (.dload 5, 2) := by decide +kernel
theorem dL_law_1373 : decode cL_law 1373 = .ok (.dload 5, 2) := by decide +kernel
theorem dL_law_1375 : decode cL_law 1375 = .ok (.dcmp .l, 1) := by decide +kernel
theorem dL_law_1376 : decode cL_law 1376 = .ok (.ifCond .eq 11, 3) := by decide +kernel
theorem dL_law_1379 : decode cL_law 1379 = .ok (.dload 7, 2) := by decide +kernel
theorem dL_law_1381 : decode cL_law 1381 = .ok (.dload 7, 2) := by decide +kernel
theorem dL_law_1383 : decode cL_law 1383 = .ok (.dcmp .l, 1) := by decide +kernel
theorem dL_law_1384 : decode cL_law 1384 = .ok (.ifCond .ne 5, 3) := by decide +kernel
theorem dL_law_1387 : decode cL_law 1387 = .ok (.iconst 0, 1) := by decide +kernel
theorem dL_law_1388 : decode cL_law 1388 = .ok (.ireturn, 1) := by decide +kernel
theorem dL_law_1389 : decode cL_law 1389 = .ok (.goto 16, 3) := by decide +kernel
theorem dL_law_1392 : decode cL_law 1392 = .ok (.aload_n 1, 1) := by decide +kernel
theorem dL_law_1393 : decode cL_law 1393 = .ok (.invokevirtual 204, 3) := by decide +kernel
theorem dL_law_1396 : decode cL_law 1396 = .ok (.aload_n 2, 1) := by decide +kernel
theorem dL_law_1397 : decode cL_law 1397 = .ok (.invokevirtual 207, 3) := by decide +kernel
theorem dL_law_1400 : decode cL_law 1400 = .ok (.if_icmp .eq 5, 3) := by decide +kernel
theorem dL_law_1403 : decode cL_law 1403 = .ok (.iconst 0, 1) := by decide +kernel
theorem dL_law_1404 : decode cL_law 1404 = .ok (.ireturn, 1) := by decide +kernel
theorem dL_law_1405 : decode cL_law 1405 = .ok (.iinc 4 2, 3) := by decide +kernel
theorem dL_law_1408 : decode cL_law 1408 = .ok (.goto (-1385), 3) := by decide +kernel
theorem dL_law_1411 : decode cL_law 1411 = .ok (.iconst 1, 1) := by decide +kernel
theorem dL_law_1412 : decode cL_law 1412 = .ok (.ireturn, 1) := by decide +kernel
