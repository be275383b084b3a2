theorem dL_cell_0 : decode cL_cell 0 = .ok (.iload_n 1, 1) := by decide +kernel
theorem dL_cell_1 : decode cL_cell 1 = .ok (.aload_n 0, 1) := by decide +kernel
theorem dL_cell_2 : decode cL_cell 2 = .ok (.arraylength, 1) := by decide +kernel
theorem dL_cell_3 : decode cL_cell 3 = .ok (.if_icmp .ge 9, 3) := by decide +kernel
theorem dL_cell_6 : decode cL_cell 6 = .ok (.aload_n 0, 1) := by decide +kernel
theorem dL_cell_7 : decode cL_cell 7 = .ok (.iload_n 1, 1) := by decide +kernel
theorem dL_cell_8 : decode cL_cell 8 = .ok (.iaload, 1) := by decide +kernel
theorem dL_cell_9 : decode cL_cell 9 = .ok (.goto 11, 3) := by decide +kernel
theorem dL_cell_12 : decode cL_cell 12 = .ok (.ldc 7, 2) := by decide +kernel
theorem dL_cell_14 : decode cL_cell 14 = .ok (.iload_n 1, 1) := by decide +kernel
theorem dL_cell_15 : decode cL_cell 15 = .ok (.sipush 1931, 3) := by decide +kernel
theorem dL_cell_18 : decode cL_cell 18 = .ok (.iadd, 1) := by decide +kernel
theorem dL_cell_19 : decode cL_cell 19 = .ok (.imul, 1) := by decide +kernel
theorem dL_cell_20 : decode cL_cell 20 = .ok (.ireturn, 1) := by decide +kernel
theorem dL_up_0 : decode cL_up 0 = .ok (.iload_n 0, 1) := by decide +kernel
theorem dL_up_1 : decode cL_up 1 = .ok (.ldc 8, 2) := by decide +kernel
theorem dL_up_3 : decode cL_up 3 = .ok (.iand, 1) := by decide +kernel
theorem dL_up_4 : decode cL_up 4 = .ok (.iload_n 1, 1) := by decide +kernel
theorem dL_up_5 : decode cL_up 5 = .ok (.irem, 1) := by decide +kernel
theorem dL_up_6 : decode cL_up 6 = .ok (.ireturn, 1) := by decide +kernel
set_option maxRecDepth 20000 in
theorem ggL_hear_X8_hear : GoodIn wsL_hear wsX8_hear := goodIn_ca (goodIn_ca (goodIn_r _ [9, 10, 11, 12, 13, 14, 15, 8, 16, 17, 18, 19, 20, 21, 22, 23, 24, 25, 26, 27, 28, 29, 30, 31, 32, 33, 34, 35, 36, 37, 38, 39, 40, 41, 42, 43, 44, 45, 46, 47, 48, 49, 50, 51, 52, 53, 54, 55, 56, 57, 58, 59, 60, 61, 62, 63, 64, 65, 66, 67, 68, 69, 70, 71, 72, 73, 74, 75, 76, 77, 78, 79, 80, 81, 82, 83, 84, 85, 86, 87, 88, 89, 90, 91, 92, 93, 94, 95, 96, 97, 98, 99, 100, 101, 102, 103, 104, 105, 106, 107, 108, 109, 110, 111, 112, 113, 114, 115, 116, 117, 118, 119, 120, 121, 122, 123, 124, 125, 126, 127, 128, 129, 130, 131, 132, 133, 134, 135, 136, 137, 138, 139, 140, 141, 142, 143, 144, 145, 146, 147, 148, 149, 150, 151, 152, 153, 154, 155, 156, 157, 158] (by decide +kernel) (by decide +kernel)) (goodIn_sub (fun _ h => List.mem_cons_of_mem _ (List.mem_append_left _ (List.mem_append_right _ h))) (by decide +kernel))) (goodIn_sub (fun _ h => List.mem_cons_of_mem _ (List.mem_append_right _ h)) (by decide +kernel))
set_option maxRecDepth 20000 in
theorem gL_hear_X8_hear : GoodIn wsL_hear (wsV RL 9 RX8 yX8_hear wsX8_hear) := goodIn_app (goodIn_of _ (by decide +kernel)) ggL_hear_X8_hear
theorem dL_hear_0 : decode cL_hear 0 = .ok (.aload_n 0, 1) := by decide +kernel
theorem dL_hear_1 : decode cL_hear 1 = .ok (.iload_n 1, 1) := by decide +kernel
theorem dL_hear_2 : decode cL_hear 2 = .ok (.invokevirtual 9, 3) := by decide +kernel
theorem dL_hear_5 : decode cL_hear 5 = .ok (.ireturn, 1) := by decide +kernel
theorem dL_hear_6 : decode cL_hear 6 = .ok (.astore_n 2, 1) := by decide +kernel
theorem dL_hear_7 : decode cL_hear 7 = .ok (.ldc 17, 2) := by decide +kernel
theorem dL_hear_9 : decode cL_hear 9 = .ok (.ireturn, 1) := by decide +kernel
theorem dL_hear_10 : decode cL_hear 10 = .ok (.astore_n 2, 1) := by decide +kernel
theorem dL_hear_11 : decode cL_hear 11 = .ok (.ldc 20, 2) := by decide +kernel
theorem dL_hear_13 : decode cL_hear 13 = .ok (.ireturn, 1) := by decide +kernel
set_option maxRecDepth 20000 in
theorem ggL_song_X8_hearSong : GoodIn wsL_song wsX8_hearSong := goodIn_ca (goodIn_ca (goodIn_r _ [9, 10, 11, 12, 13, 14, 15, 16, 17, 18, 19, 20, 8, 21, 22, 23, 24, 25, 26, 27, 28, 29, 30, 31, 32, 33, 34, 35, 36, 37, 38, 39, 40, 41, 42, 43, 44, 45, 46, 47, 48, 49, 50, 51, 52, 53, 54, 55, 56, 57, 58, 59, 60, 61, 62, 63, 64, 65, 66, 67, 68, 69, 70, 71, 72, 73, 74, 75, 76, 77, 78, 79, 80, 81, 82, 83, 84, 85, 86, 87, 88, 89, 90, 91, 92, 93, 94, 95, 96, 97, 98, 99, 100, 101, 102, 103, 104, 105, 106, 107, 108, 109, 110, 111, 112, 113, 114, 115, 116, 117, 118, 119, 120, 121, 122, 123, 124, 125, 126, 127, 128, 129, 130, 131, 132, 133, 134, 135, 136, 137, 138, 139, 140, 141, 142, 143, 144, 145, 146, 147, 148, 149, 150, 151, 152, 153, 154, 155, 156, 157, 158, 159, 160, 161, 162, 163, 164, 165, 166, 167, 168, 169, 170, 171, 172, 173, 174, 175, 176, 177, 178, 179, 180, 181, 182, 183, 184, 185, 186, 187, 188, 189, 190, 191, 192, 193, 194, 195, 196, 197, 198, 199, 200, 201, 202, 203, 204, 205, 206, 207, 208, 209, 210, 211, 212, 213, 214, 215, 216, 217, 218, 219, 220, 221, 222, 223, 224, 225, 226, 227, 228, 229, 230, 231, 232, 233, 234, 235, 236, 237, 238, 239] (by decide +kernel) (by decide +kernel)) (goodIn_sub (fun _ h => List.mem_cons_of_mem _ (List.mem_append_left _ (List.mem_append_right _ h))) (by decide +kernel))) (goodIn_sub (fun _ h => List.mem_cons_of_mem _ (List.mem_append_right _ h)) (by decide +kernel))
set_option maxRecDepth 20000 in
theorem gL_song_X8_hearSong : GoodIn wsL_song (wsV RL 21 RX8 yX8_hearSong wsX8_hearSong) := goodIn_app (goodIn_of _ (by decide +kernel)) ggL_song_X8_hearSong
theorem dL_song_0 : decode cL_song 0 = .ok (.aload_n 0, 1) := by decide +kernel
theorem dL_song_1 : decode cL_song 1 = .ok (.invokevirtual 21, 3) := by decide +kernel
theorem dL_song_4 : decode cL_song 4 = .ok (.ireturn, 1) := by decide +kernel
theorem dL_song_5 : decode cL_song 5 = .ok (.astore_n 1, 1) := by decide +kernel
theorem dL_song_6 : decode cL_song 6 = .ok (.ldc 17, 2) := by decide +kernel
theorem dL_song_8 : decode cL_song 8 = .ok (.ireturn, 1) := by decide +kernel
theorem dL_song_9 : decode cL_song 9 = .ok (.astore_n 1, 1) := by decide +kernel
theorem dL_song_10 : decode cL_song 10 = .ok (.ldc 20, 2) := by decide +kernel
theorem dL_song_12 : decode cL_song 12 = .ok (.ireturn, 1) := by decide +kernel
set_option maxRecDepth 20000 in
theorem ggL_empty_X8_empty : GoodIn wsL_empty wsX8_empty := goodIn_ca (goodIn_r _ [7, 8, 9, 10, 11, 12, 13, 14, 15, 16, 17, 18, 19, 20, 21, 22, 23, 24, 25, 26, 27, 28, 29, 30, 31, 32, 33, 34, 35, 36, 37, 38, 39, 40, 41, 42, 43, 44, 45, 46, 47, 48, 49, 50, 51, 52, 53, 6, 54, 55, 56, 57, 58, 59, 60, 61, 62, 63, 64, 65, 66, 67, 68, 69, 70, 71, 72, 73, 74, 75, 76, 77, 78, 79, 80, 81, 82, 83, 84, 85, 86, 87, 88, 89, 90, 91, 92, 93, 94, 95, 96, 97, 98, 99, 100, 101, 102, 103, 104, 105, 106, 107, 108, 109, 110, 111, 112, 113] (by decide +kernel) (by decide +kernel)) (goodIn_sub (fun _ h => List.mem_cons_of_mem _ (List.mem_append_right _ h)) (by decide +kernel))
set_option maxRecDepth 20000 in
theorem gL_empty_X8_empty : GoodIn wsL_empty (wsV RL 27 RX8 yX8_empty wsX8_empty) := goodIn_app (goodIn_of _ (by decide +kernel)) ggL_empty_X8_empty
theorem dL_empty_0 : decode cL_empty 0 = .ok (.aload_n 0, 1) := by decide +kernel
theorem dL_empty_1 : decode cL_empty 1 = .ok (.iload_n 1, 1) := by decide +kernel
theorem dL_empty_2 : decode cL_empty 2 = .ok (.invokevirtual 27, 3) := by decide +kernel
theorem dL_empty_5 : decode cL_empty 5 = .ok (.ireturn, 1) := by decide +kernel
theorem dL_empty_6 : decode cL_empty 6 = .ok (.astore_n 2, 1) := by decide +kernel
theorem dL_empty_7 : decode cL_empty 7 = .ok (.ldc 17, 2) := by decide +kernel
theorem dL_empty_9 : decode cL_empty 9 = .ok (.ireturn, 1) := by decide +kernel
set_option maxRecDepth 20000 in
theorem ggL_merge_X8_mergeIn : GoodIn wsL_merge wsX8_mergeIn := goodIn_ca (goodIn_r _ [7, 8, 9, 10, 11, 12, 13, 14, 15, 16, 17, 18, 19, 20, 21, 6, 22, 23, 24, 25, 26, 27, 28, 29, 30, 31, 32, 33, 34, 35, 36, 37, 38, 39, 40, 41, 42, 43, 44, 45, 46, 47, 48, 49, 50, 51, 52, 53, 54, 55, 56, 57, 58, 59, 60, 61, 62, 63, 64, 65, 66, 67, 68, 69, 70, 71, 72, 73, 74, 75, 76, 77, 78, 79, 80, 81, 82, 83, 84, 85, 86, 87, 88, 89, 90, 91, 92, 93, 94, 95, 96, 97, 98, 99, 100, 101, 102, 103, 104, 105, 106, 107, 108, 109, 110, 111, 112, 113, 114, 115, 116, 117, 118, 119, 120, 121, 122, 123, 124, 125, 126, 127, 128, 129, 130, 131, 132, 133, 134, 135, 136, 137, 138, 139, 140, 141, 142, 143, 144, 145, 146, 147, 148, 149, 150, 151, 152, 153, 154, 155, 156, 157, 158, 159, 160, 161] (by decide +kernel) (by decide +kernel)) (goodIn_sub (fun _ h => List.mem_cons_of_mem _ (List.mem_append_right _ h)) (by decide +kernel))
set_option maxRecDepth 20000 in
theorem gL_merge_X8_mergeIn : GoodIn wsL_merge (wsV RL 30 RX8 yX8_mergeIn wsX8_mergeIn) := goodIn_app (goodIn_of _ (by decide +kernel)) ggL_merge_X8_mergeIn
theorem dL_merge_0 : decode cL_merge 0 = .ok (.aload_n 0, 1) := by decide +kernel
theorem dL_merge_1 : decode cL_merge 1 = .ok (.invokevirtual 30, 3) := by decide +kernel
theorem dL_merge_4 : decode cL_merge 4 = .ok (.ireturn, 1) := by decide +kernel
theorem dL_merge_5 : decode cL_merge 5 = .ok (.astore_n 1, 1) := by decide +kernel
theorem dL_merge_6 : decode cL_merge 6 = .ok (.ldc 17, 2) := by decide +kernel
theorem dL_merge_8 : decode cL_merge 8 = .ok (.ireturn, 1) := by decide +kernel
set_option maxRecDepth 20000 in
theorem ggL_append_X8_append : GoodIn wsL_append wsX8_append := goodIn_ca (goodIn_r _ [7, 8, 9, 10, 11, 12, 13, 14, 15, 16, 17, 18, 19, 20, 21, 22, 23, 24, 25, 26] (by decide +kernel) (by decide +kernel)) (goodIn_sub (fun _ h => List.mem_cons_of_mem _ (List.mem_append_right _ h)) (by decide +kernel))
set_option maxRecDepth 20000 in
theorem gL_append_X8_append : GoodIn wsL_append (wsV RL 33 RX8 yX8_append wsX8_append) := goodIn_app (goodIn_of _ (by decide +kernel)) ggL_append_X8_append
theorem dL_append_0 : decode cL_append 0 = .ok (.aload_n 0, 1) := by decide +kernel
theorem dL_append_1 : decode cL_append 1 = .ok (.iload_n 1, 1) := by decide +kernel
theorem dL_append_2 : decode cL_append 2 = .ok (.i2c, 1) := by decide +kernel
theorem dL_append_3 : decode cL_append 3 = .ok (.invokevirtual 33, 3) := by decide +kernel
theorem dL_append_6 : decode cL_append 6 = .ok (.ireturn, 1) := by decide +kernel
theorem dL_append_7 : decode cL_append 7 = .ok (.astore_n 2, 1) := by decide +kernel
theorem dL_append_8 : decode cL_append 8 = .ok (.ldc 17, 2) := by decide +kernel
theorem dL_append_10 : decode cL_append 10 = .ok (.ireturn, 1) := by decide +kernel
set_option maxRecDepth 20000 in
theorem ggL_undo_X8_undo : GoodIn wsL_undo wsX8_undo := goodIn_ca (goodIn_r _ [7, 8, 9, 10, 11, 12, 13, 14, 15, 16, 17, 18, 19, 20, 21, 22, 23, 24, 25, 26, 27, 28, 29, 30, 31, 32, 33, 34, 35, 36, 37, 38, 39, 40, 41, 42, 43, 44, 45, 46, 47, 48, 49, 6, 50, 51, 52, 53, 54, 55, 56, 57, 58, 59, 60, 61, 62, 63, 64, 65, 66, 67, 68, 69, 70, 71, 72, 73, 74, 75, 76, 77, 78, 79, 80, 81, 82, 83, 84, 85, 86, 87, 88, 89, 90] (by decide +kernel) (by decide +kernel)) (goodIn_sub (fun _ h => List.mem_cons_of_mem _ (List.mem_append_right _ h)) (by decide +kernel))
set_option maxRecDepth 20000 in
theorem gL_undo_X8_undo : GoodIn wsL_undo (wsV RL 43 RX8 yX8_undo wsX8_undo) := goodIn_app (goodIn_of _ (by decide +kernel)) ggL_undo_X8_undo
theorem dL_undo_0 : decode cL_undo 0 = .ok (.aload_n 0, 1) := by decide +kernel
theorem dL_undo_1 : decode cL_undo 1 = .ok (.invokevirtual 43, 3) := by decide +kernel
theorem dL_undo_4 : decode cL_undo 4 = .ok (.ireturn, 1) := by decide +kernel
theorem dL_undo_5 : decode cL_undo 5 = .ok (.astore_n 1, 1) := by decide +kernel
theorem dL_undo_6 : decode cL_undo 6 = .ok (.ldc 17, 2) := by decide +kernel
theorem dL_undo_8 : decode cL_undo 8 = .ok (.ireturn, 1) := by decide +kernel
set_option maxRecDepth 20000 in
theorem ggL_estimate_X8_estimate : GoodIn wsL_estimate wsX8_estimate := goodIn_ca (goodIn_r _ [7, 8, 9, 10, 11, 12, 6, 13, 14, 15, 16, 17, 18, 19, 20, 21, 22, 23, 24, 25, 26, 27, 28, 29, 30, 31, 32, 33, 34, 35, 36, 37, 38, 39, 40, 41, 42, 43, 44, 45, 46, 47, 48, 49, 50, 51, 52, 53, 54, 55, 56] (by decide +kernel) (by decide +kernel)) (goodIn_sub (fun _ h => List.mem_cons_of_mem _ (List.mem_append_right _ h)) (by decide +kernel))
set_option maxRecDepth 20000 in
theorem gL_estimate_X8_estimate : GoodIn wsL_estimate (wsV RL 46 RX8 yX8_estimate wsX8_estimate) := goodIn_app (goodIn_of _ (by decide +kernel)) ggL_estimate_X8_estimate
theorem dL_estimate_0 : decode cL_estimate 0 = .ok (.aload_n 0, 1) := by decide +kernel
theorem dL_estimate_1 : decode cL_estimate 1 = .ok (.iload_n 1, 1) := by decide +kernel
theorem dL_estimate_2 : decode cL_estimate 2 = .ok (.invokevirtual 46, 3) := by decide +kernel
theorem dL_estimate_5 : decode cL_estimate 5 = .ok (.ireturn, 1) := by decide +kernel
theorem dL_estimate_6 : decode cL_estimate 6 = .ok (.astore_n 2, 1) := by decide +kernel
theorem dL_estimate_7 : decode cL_estimate 7 = .ok (.ldc 17, 2) := by decide +kernel
theorem dL_estimate_9 : decode cL_estimate 9 = .ok (.ireturn, 1) := by decide +kernel
set_option maxRecDepth 20000 in
theorem ggL_sure_X8_sureCount : GoodIn wsL_sure wsX8_sureCount := goodIn_ca (goodIn_r _ [7, 8, 9, 10, 11, 12, 6, 13, 14, 15, 16, 17, 18, 19, 20, 21, 22, 23, 24, 25, 26, 27, 28, 29, 30, 31, 32, 33, 34, 35, 36, 37, 38] (by decide +kernel) (by decide +kernel)) (goodIn_sub (fun _ h => List.mem_cons_of_mem _ (List.mem_append_right _ h)) (by decide +kernel))
set_option maxRecDepth 20000 in
theorem gL_sure_X8_sureCount : GoodIn wsL_sure (wsV RL 49 RX8 yX8_sureCount wsX8_sureCount) := goodIn_app (goodIn_of _ (by decide +kernel)) ggL_sure_X8_sureCount
theorem dL_sure_0 : decode cL_sure 0 = .ok (.aload_n 0, 1) := by decide +kernel
theorem dL_sure_1 : decode cL_sure 1 = .ok (.iload_n 1, 1) := by decide +kernel
theorem dL_sure_2 : decode cL_sure 2 = .ok (.invokevirtual 49, 3) := by decide +kernel
theorem dL_sure_5 : decode cL_sure 5 = .ok (.ireturn, 1) := by decide +kernel
theorem dL_sure_6 : decode cL_sure 6 = .ok (.astore_n 2, 1) := by decide +kernel
theorem dL_sure_7 : decode cL_sure 7 = .ok (.ldc 17, 2) := by decide +kernel
theorem dL_sure_9 : decode cL_sure 9 = .ok (.ireturn, 1) := by decide +kernel
set_option maxRecDepth 20000 in
theorem ggL_surplus_X8_surplus : GoodIn wsL_surplus wsX8_surplus := goodIn_ca (goodIn_ca (goodIn_r _ [9, 10, 11, 12, 13, 14, 15, 16, 17, 18, 8, 19, 20, 21, 22, 23, 24, 25, 26, 27, 28, 29, 30, 31, 32, 33, 34, 35, 36, 37] (by decide +kernel) (by decide +kernel)) (goodIn_sub (fun _ h => List.mem_cons_of_mem _ (List.mem_append_left _ (List.mem_append_right _ h))) (by decide +kernel))) (goodIn_sub (fun _ h => List.mem_cons_of_mem _ (List.mem_append_right _ h)) (by decide +kernel))
set_option maxRecDepth 20000 in
theorem gL_surplus_X8_surplus : GoodIn wsL_surplus (wsV RL 52 RX8 yX8_surplus wsX8_surplus) := goodIn_app (goodIn_of _ (by decide +kernel)) ggL_surplus_X8_surplus
theorem dL_surplus_0 : decode cL_surplus 0 = .ok (.aload_n 0, 1) := by decide +kernel
theorem dL_surplus_1 : decode cL_surplus 1 = .ok (.iload_n 1, 1) := by decide +kernel
theorem dL_surplus_2 : decode cL_surplus 2 = .ok (.invokevirtual 52, 3) := by decide +kernel
theorem dL_surplus_5 : decode cL_surplus 5 = .ok (.ireturn, 1) := by decide +kernel
theorem dL_surplus_6 : decode cL_surplus 6 = .ok (.astore_n 2, 1) := by decide +kernel
theorem dL_surplus_7 : decode cL_surplus 7 = .ok (.ldc 17, 2) := by decide +kernel
theorem dL_surplus_9 : decode cL_surplus 9 = .ok (.ireturn, 1) := by decide +kernel
theorem dL_surplus_10 : decode cL_surplus 10 = .ok (.astore_n 2, 1) := by decide +kernel
theorem dL_surplus_11 : decode cL_surplus 11 = .ok (.ldc 20, 2) := by decide +kernel
theorem dL_surplus_13 : decode cL_surplus 13 = .ok (.ireturn, 1) := by decide +kernel
set_option maxRecDepth 20000 in
theorem ggL_next_X8_nextTakenOver : GoodIn wsL_next wsX8_nextTakenOver := goodIn_ca (goodIn_r _ [7, 8, 9, 10, 11, 12, 13, 14, 15, 16, 17, 18, 19, 20, 21, 22, 23, 24, 25, 26, 27, 28, 29, 30, 31, 32, 33, 34, 35, 36, 37, 38, 39, 40, 41, 42, 43, 44, 45] (by decide +kernel) (by decide +kernel)) (goodIn_sub (fun _ h => List.mem_cons_of_mem _ (List.mem_append_right _ h)) (by decide +kernel))
set_option maxRecDepth 20000 in
theorem gL_next_X8_nextTakenOver : GoodIn wsL_next (wsV RL 57 RX8 yX8_nextTakenOver wsX8_nextTakenOver) := goodIn_app (goodIn_of _ (by decide +kernel)) ggL_next_X8_nextTakenOver
theorem dL_next_0 : decode cL_next 0 = .ok (.aload_n 0, 1) := by decide +kernel
theorem dL_next_1 : decode cL_next 1 = .ok (.invokevirtual 57, 3) := by decide +kernel
theorem dL_next_4 : decode cL_next 4 = .ok (.ireturn, 1) := by decide +kernel
theorem dL_next_5 : decode cL_next 5 = .ok (.astore_n 1, 1) := by decide +kernel
theorem dL_next_6 : decode cL_next 6 = .ok (.ldc 17, 2) := by decide +kernel
theorem dL_next_8 : decode cL_next 8 = .ok (.ireturn, 1) := by decide +kernel
set_option maxRecDepth 20000 in
theorem ggL_loudest_X8_loudest : GoodIn wsL_loudest wsX8_loudest := goodIn_ca (goodIn_ca (goodIn_r _ [9, 10, 11, 12, 13, 14, 15, 16, 17, 18, 19, 20, 8, 21, 22, 23, 24, 25, 26, 27, 28, 29, 30, 31, 32, 33, 34, 35, 36, 37, 38, 39, 40] (by decide +kernel) (by decide +kernel)) (goodIn_sub (fun _ h => List.mem_cons_of_mem _ (List.mem_append_left _ (List.mem_append_right _ h))) (by decide +kernel))) (goodIn_sub (fun _ h => List.mem_cons_of_mem _ (List.mem_append_right _ h)) (by decide +kernel))
set_option maxRecDepth 20000 in
theorem gL_loudest_X8_loudest : GoodIn wsL_loudest (wsV RL 60 RX8 yX8_loudest wsX8_loudest) := goodIn_app (goodIn_of _ (by decide +kernel)) ggL_loudest_X8_loudest
theorem dL_loudest_0 : decode cL_loudest 0 = .ok (.aload_n 0, 1) := by decide +kernel
theorem dL_loudest_1 : decode cL_loudest 1 = .ok (.iload_n 1, 1) := by decide +kernel
theorem dL_loudest_2 : decode cL_loudest 2 = .ok (.invokevirtual 60, 3) := by decide +kernel
theorem dL_loudest_5 : decode cL_loudest 5 = .ok (.ireturn, 1) := by decide +kernel
theorem dL_loudest_6 : decode cL_loudest 6 = .ok (.astore_n 2, 1) := by decide +kernel
theorem dL_loudest_7 : decode cL_loudest 7 = .ok (.ldc 17, 2) := by decide +kernel
theorem dL_loudest_9 : decode cL_loudest 9 = .ok (.ireturn, 1) := by decide +kernel
theorem dL_loudest_10 : decode cL_loudest 10 = .ok (.astore_n 2, 1) := by decide +kernel
theorem dL_loudest_11 : decode cL_loudest 11 = .ok (.ldc 20, 2) := by decide +kernel
theorem dL_loudest_13 : decode cL_loudest 13 = .ok (.ireturn, 1) := by decide +kernel
set_option maxRecDepth 20000 in
theorem ggL_surely_X8_surelyAbove : GoodIn wsL_surely wsX8_surelyAbove := goodIn_ca (goodIn_r _ [7, 8, 9, 10, 6, 11, 12, 13, 14, 15, 16, 17, 18, 19, 20, 21, 22, 23, 24, 25, 26, 27, 28, 29, 30, 31, 32, 33, 34, 35, 36, 37, 38, 39, 40, 41, 42, 43, 44, 45, 46, 47, 48, 49, 50, 51, 52, 53, 54, 55, 56, 57, 58, 59, 60, 61, 62, 63, 64, 65, 66, 67, 68, 69, 70, 71, 72, 73, 74, 75, 76, 77, 78, 79, 80] (by decide +kernel) (by decide +kernel)) (goodIn_sub (fun _ h => List.mem_cons_of_mem _ (List.mem_append_right _ h)) (by decide +kernel))
set_option maxRecDepth 20000 in
theorem gL_surely_X8_surelyAbove : GoodIn wsL_surely (wsV RL 63 RX8 yX8_surelyAbove wsX8_surelyAbove) := goodIn_app (goodIn_of _ (by decide +kernel)) ggL_surely_X8_surelyAbove
theorem dL_surely_0 : decode cL_surely 0 = .ok (.aload_n 0, 1) := by decide +kernel
theorem dL_surely_1 : decode cL_surely 1 = .ok (.iload_n 1, 1) := by decide +kernel
theorem dL_surely_2 : decode cL_surely 2 = .ok (.invokevirtual 63, 3) := by decide +kernel
theorem dL_surely_5 : decode cL_surely 5 = .ok (.ireturn, 1) := by decide +kernel
theorem dL_surely_6 : decode cL_surely 6 = .ok (.astore_n 2, 1) := by decide +kernel
theorem dL_surely_7 : decode cL_surely 7 = .ok (.ldc 17, 2) := by decide +kernel
theorem dL_surely_9 : decode cL_surely 9 = .ok (.ireturn, 1) := by decide +kernel
set_option maxRecDepth 20000 in
theorem ggL_perhaps_X8_perhapsAbove : GoodIn wsL_perhaps wsX8_perhapsAbove := goodIn_ca (goodIn_r _ [7, 8, 9, 10, 6, 11, 12, 13, 14, 15, 16, 17, 18, 19, 20, 21, 22, 23, 24, 25, 26, 27, 28, 29, 30, 31, 32, 33, 34, 35, 36, 37, 38, 39, 40, 41, 42, 43, 44, 45, 46, 47, 48, 49, 50, 51, 52, 53, 54, 55, 56, 57, 58, 59, 60, 61, 62, 63, 64, 65, 66, 67, 68, 69, 70, 71, 72, 73, 74, 75, 76, 77, 78, 79, 80] (by decide +kernel) (by decide +kernel)) (goodIn_sub (fun _ h => List.mem_cons_of_mem _ (List.mem_append_right _ h)) (by decide +kernel))
set_option maxRecDepth 20000 in
theorem gL_perhaps_X8_perhapsAbove : GoodIn wsL_perhaps (wsV RL 66 RX8 yX8_perhapsAbove wsX8_perhapsAbove) := goodIn_app (goodIn_of _ (by decide +kernel)) ggL_perhaps_X8_perhapsAbove
theorem dL_perhaps_0 : decode cL_perhaps 0 = .ok (.aload_n 0, 1) := by decide +kernel
theorem dL_perhaps_1 : decode cL_perhaps 1 = .ok (.iload_n 1, 1) := by decide +kernel
theorem dL_perhaps_2 : decode cL_perhaps 2 = .ok (.invokevirtual 66, 3) := by decide +kernel
theorem dL_perhaps_5 : decode cL_perhaps 5 = .ok (.ireturn, 1) := by decide +kernel
theorem dL_perhaps_6 : decode cL_perhaps 6 = .ok (.astore_n 2, 1) := by decide +kernel
theorem dL_perhaps_7 : decode cL_perhaps 7 = .ok (.ldc 17, 2) := by decide +kernel
theorem dL_perhaps_9 : decode cL_perhaps 9 = .ok (.ireturn, 1) := by decide +kernel
set_option maxRecDepth 20000 in
theorem ggL_truly_X8_trulyAbove : GoodIn wsL_truly wsX8_trulyAbove := goodIn_ca (goodIn_r _ [7, 8, 9, 10, 6, 11, 12, 13, 14, 15, 16, 17, 18, 19, 20, 21, 22, 23, 24, 25, 26, 27, 28, 29, 30, 31, 32, 33, 34, 35, 36, 37, 38, 39, 40, 41, 42, 43, 44, 45, 46, 47, 48, 49, 50, 51, 52, 53, 54, 55, 56, 57, 58, 59, 60, 61, 62, 63, 64, 65, 66, 67, 68, 69, 70, 71, 72, 73, 74, 75, 76, 77, 78, 79, 80] (by decide +kernel) (by decide +kernel)) (goodIn_sub (fun _ h => List.mem_cons_of_mem _ (List.mem_append_right _ h)) (by decide +kernel))
set_option maxRecDepth 20000 in
theorem gL_truly_X8_trulyAbove : GoodIn wsL_truly (wsV RL 69 RX8 yX8_trulyAbove wsX8_trulyAbove) := goodIn_app (goodIn_of _ (by decide +kernel)) ggL_truly_X8_trulyAbove
theorem dL_truly_0 : decode cL_truly 0 = .ok (.aload_n 0, 1) := by decide +kernel
theorem dL_truly_1 : decode cL_truly 1 = .ok (.iload_n 1, 1) := by decide +kernel
theorem dL_truly_2 : decode cL_truly 2 = .ok (.invokevirtual 69, 3) := by decide +kernel
theorem dL_truly_5 : decode cL_truly 5 = .ok (.ireturn, 1) := by decide +kernel
theorem dL_truly_6 : decode cL_truly 6 = .ok (.astore_n 2, 1) := by decide +kernel
theorem dL_truly_7 : decode cL_truly 7 = .ok (.ldc 17, 2) := by decide +kernel
theorem dL_truly_9 : decode cL_truly 9 = .ok (.ireturn, 1) := by decide +kernel
set_option maxRecDepth 20000 in
theorem ggL_worn_X8_wornCount : GoodIn wsL_worn wsX8_wornCount := goodIn_ca (goodIn_r _ [7, 8, 9, 10, 11, 12, 13, 6, 14, 15, 16, 17, 18, 19, 20, 21, 22, 23, 24, 25, 26, 27, 28, 29, 30] (by decide +kernel) (by decide +kernel)) (goodIn_sub (fun _ h => List.mem_cons_of_mem _ (List.mem_append_right _ h)) (by decide +kernel))
set_option maxRecDepth 20000 in
theorem gL_worn_X8_wornCount : GoodIn wsL_worn (wsV RL 72 RX8 yX8_wornCount wsX8_wornCount) := goodIn_app (goodIn_of _ (by decide +kernel)) ggL_worn_X8_wornCount
theorem dL_worn_0 : decode cL_worn 0 = .ok (.aload_n 0, 1) := by decide +kernel
theorem dL_worn_1 : decode cL_worn 1 = .ok (.iload_n 1, 1) := by decide +kernel
theorem dL_worn_2 : decode cL_worn 2 = .ok (.invokevirtual 72, 3) := by decide +kernel
theorem dL_worn_5 : decode cL_worn 5 = .ok (.ireturn, 1) := by decide +kernel
theorem dL_worn_6 : decode cL_worn 6 = .ok (.astore_n 2, 1) := by decide +kernel
theorem dL_worn_7 : decode cL_worn 7 = .ok (.ldc 17, 2) := by decide +kernel
theorem dL_worn_9 : decode cL_worn 9 = .ok (.ireturn, 1) := by decide +kernel
set_option maxRecDepth 20000 in
theorem ggL_above_X8_aboveFloor : GoodIn wsL_above wsX8_aboveFloor := goodIn_ca (goodIn_r _ [7, 8, 9, 10, 11, 12, 6, 13, 14, 15, 16, 17, 18, 19, 20, 21, 22, 23, 24, 25, 26, 27, 28, 29, 30, 31, 32, 33, 34, 35, 36, 37, 38, 39, 40, 41, 42, 43, 44, 45, 46, 47, 48, 49, 50, 51, 52, 53, 54, 55, 56, 57] (by decide +kernel) (by decide +kernel)) (goodIn_sub (fun _ h => List.mem_cons_of_mem _ (List.mem_append_right _ h)) (by decide +kernel))
set_option maxRecDepth 20000 in
theorem gL_above_X8_aboveFloor : GoodIn wsL_above (wsV RL 75 RX8 yX8_aboveFloor wsX8_aboveFloor) := goodIn_app (goodIn_of _ (by decide +kernel)) ggL_above_X8_aboveFloor
theorem dL_above_0 : decode cL_above 0 = .ok (.aload_n 0, 1) := by decide +kernel
theorem dL_above_1 : decode cL_above 1 = .ok (.iload_n 1, 1) := by decide +kernel
theorem dL_above_2 : decode cL_above 2 = .ok (.invokevirtual 75, 3) := by decide +kernel
theorem dL_above_5 : decode cL_above 5 = .ok (.ireturn, 1) := by decide +kernel
theorem dL_above_6 : decode cL_above 6 = .ok (.astore_n 2, 1) := by decide +kernel
theorem dL_above_7 : decode cL_above 7 = .ok (.ldc 17, 2) := by decide +kernel
theorem dL_above_9 : decode cL_above 9 = .ok (.ireturn, 1) := by decide +kernel
set_option maxRecDepth 20000 in
theorem ggL_count_X8_trueCount : GoodIn wsL_count wsX8_trueCount := goodIn_ca (goodIn_r _ [7, 8, 9, 10, 11, 12, 6, 13, 14, 15, 16, 17, 18, 19, 20, 21, 22, 23, 24, 25] (by decide +kernel) (by decide +kernel)) (goodIn_sub (fun _ h => List.mem_cons_of_mem _ (List.mem_append_right _ h)) (by decide +kernel))
set_option maxRecDepth 20000 in
theorem gL_count_X8_trueCount : GoodIn wsL_count (wsV RL 78 RX8 yX8_trueCount wsX8_trueCount) := goodIn_app (goodIn_of _ (by decide +kernel)) ggL_count_X8_trueCount
theorem dL_count_0 : decode cL_count 0 = .ok (.aload_n 0, 1) := by decide +kernel
theorem dL_count_1 : decode cL_count 1 = .ok (.iload_n 1, 1) := by decide +kernel
theorem dL_count_2 : decode cL_count 2 = .ok (.invokevirtual 78, 3) := by decide +kernel
theorem dL_count_5 : decode cL_count 5 = .ok (.ireturn, 1) := by decide +kernel
theorem dL_count_6 : decode cL_count 6 = .ok (.astore_n 2, 1) := by decide +kernel
theorem dL_count_7 : decode cL_count 7 = .ok (.ldc 17, 2) := by decide +kernel
theorem dL_count_9 : decode cL_count 9 = .ok (.ireturn, 1) := by decide +kernel
set_option maxRecDepth 20000 in
theorem ggL_sung_X8_clearText : GoodIn wsL_sung wsX8_clearText := goodIn_r _ [5, 6, 7, 227, 228, 229, 230, 231, 232, 233, 234] (by decide +kernel) (by decide +kernel)
set_option maxRecDepth 20000 in
theorem gL_sung_X8_clearText : GoodIn wsL_sung (wsV RL 81 RX8 yX8_clearText wsX8_clearText) := goodIn_app (goodIn_of _ (by decide +kernel)) ggL_sung_X8_clearText
set_option maxRecDepth 20000 in
theorem ggL_sung_L_append : GoodIn wsL_sung wsL_append := goodIn_ca (goodIn_r _ [11, 12, 13, 14, 15, 16, 4, 17, 18, 19, 6, 7, 20, 21, 22, 23, 24, 25, 26, 227, 228, 229, 230, 231, 232, 233, 234] (by decide +kernel) (by decide +kernel)) (goodIn_sub (fun _ h => List.mem_cons_of_mem _ (List.mem_append_left _ (List.mem_append_right _ h))) (by decide +kernel))
set_option maxRecDepth 20000 in
theorem gL_sung_L_append : GoodIn wsL_sung (va_wsS RL 84 yL_append wsL_append) := goodIn_app (goodIn_of _ (by decide +kernel)) ggL_sung_L_append
set_option maxRecDepth 20000 in
theorem ggL_sung_L_song : GoodIn wsL_sung wsL_song := goodIn_ca (goodIn_ca (goodIn_r _ [29, 30, 12, 13, 31, 32, 33, 34, 4, 35, 18, 19, 36, 37, 38, 6, 39, 40, 41, 42, 43, 44, 45, 46, 47, 48, 49, 50, 51, 23, 52, 25, 53, 54, 55, 56, 57, 26, 58, 59, 60, 61, 62, 63, 64, 65, 66, 67, 68, 69, 70, 71, 72, 73, 74, 75, 76, 77, 78, 79, 80, 81, 82, 83, 84, 85, 86, 87, 88, 89, 90, 91, 92, 93, 94, 95, 96, 97, 98, 99, 100, 101, 102, 103, 104, 105, 106, 107, 108, 109, 110, 111, 112, 113, 114, 115, 116, 117, 118, 119, 120, 121, 122, 123, 124, 125, 126, 127, 128, 129, 130, 131, 132, 133, 134, 135, 136, 137, 138, 139, 140, 141, 142, 143, 144, 145, 146, 147, 148, 149, 150, 151, 152, 153, 154, 155, 156, 157, 158, 159, 160, 161, 162, 163, 164, 165, 166, 167, 168, 169, 170, 171, 172, 173, 174, 175, 176, 177, 178, 179, 180, 181, 182, 183, 184, 185, 186, 187, 188, 189, 190, 191, 192, 193, 194, 195, 196, 197, 198, 199, 200, 201, 202, 203, 204, 205, 206, 207, 208, 209, 210, 211, 212, 213, 214, 215, 216, 217, 218, 219, 220, 221, 222, 223, 224, 225, 226, 227, 228, 229, 235, 236, 237, 238, 230, 231, 232, 233, 234, 239, 240, 241, 242, 243, 244, 245, 246, 247, 248, 249, 250, 251, 252, 253, 254, 255, 256, 257, 258, 259] (by decide +kernel) (by decide +kernel)) (goodIn_sub (fun _ h => List.mem_cons_of_mem _ (List.mem_append_left _ (List.mem_append_right _ h))) (by decide +kernel))) (goodIn_sub (fun _ h => List.mem_cons_of_mem _ (List.mem_append_right _ h)) (by decide +kernel))
set_option maxRecDepth 20000 in
theorem gL_sung_L_song : GoodIn wsL_sung (va_wsS RL 89 yL_song wsL_song) := goodIn_app (goodIn_of _ (by decide +kernel)) ggL_sung_L_song
theorem dL_sung_0 : decode cL_sung 0 = .ok (.aload_n 0, 1) := by decide +kernel
theorem dL_sung_1 : decode cL_sung 1 = .ok (.invokevirtual 81, 3) := by decide +kernel
theorem dL_sung_4 : decode cL_sung 4 = .ok (.ifCond .lt 7, 3) := by decide +kernel
theorem dL_sung_7 : decode cL_sung 7 = .ok (.iconst 1, 1) := by decide +kernel
theorem dL_sung_8 : decode cL_sung 8 = .ok (.goto 4, 3) := by decide +kernel
theorem dL_sung_11 : decode cL_sung 11 = .ok (.iconst 0, 1) := by decide +kernel
theorem dL_sung_12 : decode cL_sung 12 = .ok (.istore 4, 2) := by decide +kernel
theorem dL_sung_14 : decode cL_sung 14 = .ok (.iload_n 2, 1) := by decide +kernel
theorem dL_sung_15 : decode cL_sung 15 = .ok (.iconst 1, 1) := by decide +kernel
theorem dL_sung_16 : decode cL_sung 16 = .ok (.if_icmp .le 65, 3) := by decide +kernel
theorem dL_sung_19 : decode cL_sung 19 = .ok (.iload 4, 2) := by decide +kernel
theorem dL_sung_21 : decode cL_sung 21 = .ok (.ifCond .eq 57, 3) := by decide +kernel
theorem dL_sung_24 : decode cL_sung 24 = .ok (.iload_n 2, 1) := by decide +kernel
theorem dL_sung_25 : decode cL_sung 25 = .ok (.bipush 10, 2) := by decide +kernel
theorem dL_sung_27 : decode cL_sung 27 = .ok (.if_icmp .lt 18, 3) := by decide +kernel
theorem dL_sung_30 : decode cL_sung 30 = .ok (.aload_n 0, 1) := by decide +kernel
theorem dL_sung_31 : decode cL_sung 31 = .ok (.bipush 48, 2) := by decide +kernel
theorem dL_sung_33 : decode cL_sung 33 = .ok (.iload_n 2, 1) := by decide +kernel
theorem dL_sung_34 : decode cL_sung 34 = .ok (.bipush 10, 2) := by decide +kernel
theorem dL_sung_36 : decode cL_sung 36 = .ok (.idiv, 1) := by decide +kernel
theorem dL_sung_37 : decode cL_sung 37 = .ok (.iadd, 1) := by decide +kernel
theorem dL_sung_38 : decode cL_sung 38 = .ok (.invokestatic 84, 3) := by decide +kernel
theorem dL_sung_41 : decode cL_sung 41 = .ok (.iconst 1, 1) := by decide +kernel
theorem dL_sung_42 : decode cL_sung 42 = .ok (.if_icmp .ne 36, 3) := by decide +kernel
theorem dL_sung_45 : decode cL_sung 45 = .ok (.aload_n 0, 1) := by decide +kernel
theorem dL_sung_46 : decode cL_sung 46 = .ok (.bipush 48, 2) := by decide +kernel
theorem dL_sung_48 : decode cL_sung 48 = .ok (.iload_n 2, 1) := by decide +kernel
theorem dL_sung_49 : decode cL_sung 49 = .ok (.bipush 10, 2) := by decide +kernel
theorem dL_sung_51 : decode cL_sung 51 = .ok (.irem, 1) := by decide +kernel
theorem dL_sung_52 : decode cL_sung 52 = .ok (.iadd, 1) := by decide +kernel
theorem dL_sung_53 : decode cL_sung 53 = .ok (.invokestatic 84, 3) := by decide +kernel
theorem dL_sung_56 : decode cL_sung 56 = .ok (.iconst 3, 1) := by decide +kernel
theorem dL_sung_57 : decode cL_sung 57 = .ok (.if_icmp .ge 21, 3) := by decide +kernel
theorem dL_sung_60 : decode cL_sung 60 = .ok (.iload_n 3, 1) := by decide +kernel
theorem dL_sung_61 : decode cL_sung 61 = .ok (.ifCond .eq 13, 3) := by decide +kernel
theorem dL_sung_64 : decode cL_sung 64 = .ok (.aload_n 0, 1) := by decide +kernel
theorem dL_sung_65 : decode cL_sung 65 = .ok (.bipush 40, 2) := by decide +kernel
theorem dL_sung_67 : decode cL_sung 67 = .ok (.invokestatic 84, 3) := by decide +kernel
theorem dL_sung_70 : decode cL_sung 70 = .ok (.iconst 4, 1) := by decide +kernel
theorem dL_sung_71 : decode cL_sung 71 = .ok (.if_icmp .ge 7, 3) := by decide +kernel
theorem dL_sung_74 : decode cL_sung 74 = .ok (.iconst 1, 1) := by decide +kernel
theorem dL_sung_75 : decode cL_sung 75 = .ok (.goto 4, 3) := by decide +kernel
theorem dL_sung_78 : decode cL_sung 78 = .ok (.iconst 0, 1) := by decide +kernel
theorem dL_sung_79 : decode cL_sung 79 = .ok (.istore 4, 2) := by decide +kernel
theorem dL_sung_81 : decode cL_sung 81 = .ok (.iload 4, 2) := by decide +kernel
theorem dL_sung_83 : decode cL_sung 83 = .ok (.ifCond .eq 39, 3) := by decide +kernel
theorem dL_sung_86 : decode cL_sung 86 = .ok (.aload_n 0, 1) := by decide +kernel
theorem dL_sung_87 : decode cL_sung 87 = .ok (.bipush 97, 2) := by decide +kernel
theorem dL_sung_89 : decode cL_sung 89 = .ok (.iload_n 1, 1) := by decide +kernel
theorem dL_sung_90 : decode cL_sung 90 = .ok (.iadd, 1) := by decide +kernel
theorem dL_sung_91 : decode cL_sung 91 = .ok (.invokestatic 84, 3) := by decide +kernel
theorem dL_sung_94 : decode cL_sung 94 = .ok (.iconst 5, 1) := by decide +kernel
theorem dL_sung_95 : decode cL_sung 95 = .ok (.if_icmp .ge 27, 3) := by decide +kernel
theorem dL_sung_98 : decode cL_sung 98 = .ok (.iload_n 3, 1) := by decide +kernel
theorem dL_sung_99 : decode cL_sung 99 = .ok (.ifCond .eq 19, 3) := by decide +kernel
theorem dL_sung_102 : decode cL_sung 102 = .ok (.iload_n 2, 1) := by decide +kernel
theorem dL_sung_103 : decode cL_sung 103 = .ok (.iconst 1, 1) := by decide +kernel
theorem dL_sung_104 : decode cL_sung 104 = .ok (.if_icmp .eq 14, 3) := by decide +kernel
theorem dL_sung_107 : decode cL_sung 107 = .ok (.aload_n 0, 1) := by decide +kernel
theorem dL_sung_108 : decode cL_sung 108 = .ok (.bipush 41, 2) := by decide +kernel
theorem dL_sung_110 : decode cL_sung 110 = .ok (.invokestatic 84, 3) := by decide +kernel
theorem dL_sung_113 : decode cL_sung 113 = .ok (.bipush 6, 2) := by decide +kernel
theorem dL_sung_115 : decode cL_sung 115 = .ok (.if_icmp .ge 7, 3) := by decide +kernel
theorem dL_sung_118 : decode cL_sung 118 = .ok (.iconst 1, 1) := by decide +kernel
theorem dL_sung_119 : decode cL_sung 119 = .ok (.goto 4, 3) := by decide +kernel
theorem dL_sung_122 : decode cL_sung 122 = .ok (.iconst 0, 1) := by decide +kernel
theorem dL_sung_123 : decode cL_sung 123 = .ok (.istore 4, 2) := by decide +kernel
theorem dL_sung_125 : decode cL_sung 125 = .ok (.iload 4, 2) := by decide +kernel
theorem dL_sung_127 : decode cL_sung 127 = .ok (.ifCond .eq 10, 3) := by decide +kernel
theorem dL_sung_130 : decode cL_sung 130 = .ok (.aload_n 0, 1) := by decide +kernel
theorem dL_sung_131 : decode cL_sung 131 = .ok (.invokestatic 89, 3) := by decide +kernel
theorem dL_sung_134 : decode cL_sung 134 = .ok (.goto 5, 3) := by decide +kernel
theorem dL_sung_137 : decode cL_sung 137 = .ok (.bipush (-99), 2) := by decide +kernel
theorem dL_sung_139 : decode cL_sung 139 = .ok (.ireturn, 1) := by decide +kernel
set_option maxRecDepth 20000 in
theorem ggL_isStep_X8_calls : GoodIn wsL_isStep wsX8_calls := goodIn_r _ [6, 7, 8, 9, 10, 11, 12, 13, 14, 15, 5, 16, 388, 389, 390, 391, 392, 393, 394, 395, 396, 397] (by decide +kernel) (by decide +kernel)
set_option maxRecDepth 20000 in
theorem gL_isStep_X8_calls : GoodIn wsL_isStep (wsV RL 93 RX8 yX8_calls wsX8_calls) := goodIn_app (goodIn_of _ (by decide +kernel)) ggL_isStep_X8_calls
set_option maxRecDepth 20000 in
theorem ggL_isStep_L_up : GoodIn wsL_isStep wsL_up := goodIn_r _ [20, 21] (by decide +kernel) (by decide +kernel)
set_option maxRecDepth 20000 in
theorem gL_isStep_L_up : GoodIn wsL_isStep (va_wsS RL 96 yL_up wsL_up) := goodIn_app (goodIn_of _ (by decide +kernel)) ggL_isStep_L_up
set_option maxRecDepth 20000 in
theorem ggL_isStep_L_empty : GoodIn wsL_isStep wsL_empty := goodIn_ca (goodIn_r _ [24, 25, 1, 26, 27, 28, 5, 29, 30, 31, 32, 7, 33, 34, 35, 36, 37, 38, 39, 40, 41, 42, 43, 44, 45, 46, 47, 48, 49, 50, 51, 52, 53, 54, 55, 56, 57, 12, 58, 59, 60, 14, 61, 62, 63, 64, 65, 66, 67, 68, 69, 70, 71, 72, 73, 74, 75, 76, 77, 78, 79, 80, 81, 82, 83, 84, 85, 86, 87, 88, 89, 90, 91, 92, 93, 94, 95, 96, 97, 98, 99, 100, 101, 102, 103, 104, 105, 106, 107, 108, 109, 388, 389, 390, 391, 392, 393, 394, 398, 399, 400, 395, 396, 397, 401, 402, 403, 404, 405, 406, 407, 408, 409, 410] (by decide +kernel) (by decide +kernel)) (goodIn_sub (fun _ h => List.mem_cons_of_mem _ (List.mem_append_left _ (List.mem_append_left _ (List.mem_append_right _ h)))) (by decide +kernel))
set_option maxRecDepth 20000 in
theorem gL_isStep_L_empty : GoodIn wsL_isStep (va_wsS RL 100 yL_empty wsL_empty) := goodIn_app (goodIn_of _ (by decide +kernel)) ggL_isStep_L_empty
set_option maxRecDepth 20000 in
theorem ggL_isStep_X8_counters : GoodIn wsL_isStep wsX8_counters := goodIn_r _ [113, 7, 8, 114, 115, 388, 389, 390, 391, 392, 393, 394, 395, 396, 397, 401, 402, 403, 404, 405, 406] (by decide +kernel) (by decide +kernel)
set_option maxRecDepth 20000 in
theorem gL_isStep_X8_counters : GoodIn wsL_isStep (wsV RL 102 RX8 yX8_counters wsX8_counters) := goodIn_app (goodIn_of _ (by decide +kernel)) ggL_isStep_X8_counters
set_option maxRecDepth 20000 in
theorem ggL_isStep_X8_hasAside : GoodIn wsL_isStep wsX8_hasAside := goodIn_r _ [119, 7, 120, 388, 389, 390, 391, 392, 393, 394] (by decide +kernel) (by decide +kernel)
set_option maxRecDepth 20000 in
theorem gL_isStep_X8_hasAside : GoodIn wsL_isStep (wsV RL 105 RX8 yX8_hasAside wsX8_hasAside) := goodIn_app (goodIn_of _ (by decide +kernel)) ggL_isStep_X8_hasAside
set_option maxRecDepth 20000 in
theorem ggL_isStep_X8_putAside : GoodIn wsL_isStep wsX8_putAside := goodIn_r _ [124, 32, 7, 125, 34, 35, 36, 37, 38, 39, 40, 41, 42, 43, 44, 45, 46, 47, 48, 49, 50, 51, 52, 53, 54, 55, 56, 57, 12, 58, 59, 60, 14, 61, 62, 63, 64, 65, 66, 67, 68, 69, 70, 71, 72, 5, 73, 74, 75, 76, 77, 78, 79, 80, 81, 82, 83, 84, 85, 86, 87, 126, 127, 128, 129, 92, 93, 94, 95, 96, 97, 98, 99, 100, 101, 102, 103, 104, 105, 106, 107, 108, 109, 9, 10, 11, 13, 15, 16, 388, 389, 390, 391, 392, 393, 394, 398, 399, 400, 395, 396, 397, 401, 402, 403, 404, 405, 406, 407, 408, 409, 410] (by decide +kernel) (by decide +kernel)
set_option maxRecDepth 20000 in
theorem gL_isStep_X8_putAside : GoodIn wsL_isStep (wsV RL 109 RX8 yX8_putAside wsX8_putAside) := goodIn_app (goodIn_of _ (by decide +kernel)) ggL_isStep_X8_putAside
set_option maxRecDepth 20000 in
theorem ggL_isStep_X8_wear : GoodIn wsL_isStep wsX8_wear := goodIn_r _ [133, 7, 8, 134, 135, 388, 389, 390, 391, 392, 393, 394, 395, 396, 397, 407, 408, 409, 410] (by decide +kernel) (by decide +kernel)
set_option maxRecDepth 20000 in
theorem gL_isStep_X8_wear : GoodIn wsL_isStep (wsV RL 112 RX8 yX8_wear wsX8_wear) := goodIn_app (goodIn_of _ (by decide +kernel)) ggL_isStep_X8_wear
set_option maxRecDepth 20000 in
theorem ggL_isStep_L_merge : GoodIn wsL_isStep wsL_merge := goodIn_ca (goodIn_r _ [138, 139, 1, 140, 141, 142, 5, 143, 144, 145, 7, 120, 8, 125, 32, 9, 10, 11, 12, 13, 14, 15, 16, 146, 147, 148, 149, 34, 35, 36, 37, 38, 39, 40, 41, 42, 43, 44, 45, 46, 47, 48, 49, 50, 51, 52, 53, 54, 55, 56, 57, 58, 59, 60, 61, 62, 63, 64, 65, 66, 67, 68, 69, 70, 71, 72, 73, 74, 75, 76, 77, 78, 79, 80, 81, 82, 83, 84, 85, 86, 87, 150, 151, 152, 153, 154, 155, 156, 157, 158, 159, 160, 161, 162, 163, 164, 165, 166, 167, 168, 169, 170, 171, 172, 173, 174, 175, 176, 177, 178, 179, 180, 181, 182, 183, 184, 185, 186, 187, 188, 189, 190, 191, 192, 193, 194, 195, 196, 197, 198, 199, 200, 201, 202, 203, 204, 205, 206, 207, 388, 389, 390, 391, 392, 393, 394, 395, 396, 397, 398, 399, 400, 401, 402, 403, 404, 405, 406, 407, 408, 409, 410] (by decide +kernel) (by decide +kernel)) (goodIn_sub (fun _ h => List.mem_cons_of_mem _ (List.mem_append_left _ (List.mem_append_right _ h))) (by decide +kernel))
set_option maxRecDepth 20000 in
theorem gL_isStep_L_merge : GoodIn wsL_isStep (va_wsS RL 115 yL_merge wsL_merge) := goodIn_app (goodIn_of _ (by decide +kernel)) ggL_isStep_L_merge
set_option maxRecDepth 20000 in
theorem ggL_isStep_L_undo : GoodIn wsL_isStep wsL_undo := goodIn_ca (goodIn_r _ [210, 139, 1, 211, 212, 213, 5, 214, 144, 145, 32, 215, 7, 216, 217, 218, 37, 219, 40, 41, 39, 46, 47, 48, 49, 50, 51, 52, 53, 54, 55, 56, 57, 12, 58, 59, 60, 14, 61, 62, 63, 64, 65, 66, 67, 68, 69, 70, 71, 72, 73, 74, 43, 44, 45, 75, 76, 77, 78, 79, 80, 81, 82, 83, 84, 85, 86, 87, 388, 389, 390, 398, 399, 400, 391, 392, 393, 394, 395, 396, 397, 401, 402, 403, 404, 405, 406, 407, 408, 409, 410] (by decide +kernel) (by decide +kernel)) (goodIn_sub (fun _ h => List.mem_cons_of_mem _ (List.mem_append_left _ (List.mem_append_right _ h))) (by decide +kernel))
set_option maxRecDepth 20000 in
theorem gL_isStep_L_undo : GoodIn wsL_isStep (va_wsS RL 118 yL_undo wsL_undo) := goodIn_app (goodIn_of _ (by decide +kernel)) ggL_isStep_L_undo
set_option maxRecDepth 20000 in
theorem ggL_isStep_X8_floor : GoodIn wsL_isStep wsX8_floor := goodIn_r _ [223, 7, 8, 114, 224, 167, 168, 64, 169, 66, 170, 171, 172, 173, 174, 175, 176, 177, 68, 178, 179, 180, 181, 70, 71, 388, 389, 390, 391, 392, 393, 394, 395, 396, 397, 401, 402, 403, 404, 405, 406] (by decide +kernel) (by decide +kernel)
set_option maxRecDepth 20000 in
theorem gL_isStep_X8_floor : GoodIn wsL_isStep (wsV RL 120 RX8 yX8_floor wsX8_floor) := goodIn_app (goodIn_of _ (by decide +kernel)) ggL_isStep_X8_floor
set_option maxRecDepth 20000 in
theorem ggL_isStep_L_estimate : GoodIn wsL_isStep wsL_estimate := goodIn_ca (goodIn_r _ [227, 228, 1, 229, 230, 231, 5, 232, 7, 8, 114, 233, 234, 235, 236, 237, 238, 239, 240, 64, 241, 66, 166, 167, 168, 169, 170, 171, 172, 173, 174, 175, 176, 177, 68, 178, 179, 180, 181, 70, 71, 388, 389, 390, 391, 392, 393, 394, 395, 396, 397, 401, 402, 403, 404, 405, 406] (by decide +kernel) (by decide +kernel)) (goodIn_sub (fun _ h => List.mem_cons_of_mem _ (List.mem_append_right _ h)) (by decide +kernel))
set_option maxRecDepth 20000 in
theorem gL_isStep_L_estimate : GoodIn wsL_isStep (va_wsS RL 123 yL_estimate wsL_estimate) := goodIn_app (goodIn_of _ (by decide +kernel)) ggL_isStep_L_estimate
set_option maxRecDepth 20000 in
theorem ggL_isStep_L_sung : GoodIn wsL_isStep wsL_sung := goodIn_ca (goodIn_ca (goodIn_r _ [244, 245, 246, 247, 5, 248, 249, 250, 251, 252, 19, 253, 139, 1, 254, 255, 256, 257, 144, 145, 258, 259, 260, 261, 262, 263, 264, 265, 266, 267, 25, 268, 269, 270, 271, 272, 7, 8, 32, 273, 274, 275, 276, 277, 278, 30, 31, 279, 280, 281, 282, 283, 284, 285, 286, 287, 288, 289, 290, 291, 292, 293, 294, 295, 296, 297, 298, 299, 300, 301, 302, 303, 304, 305, 306, 307, 308, 309, 310, 311, 312, 313, 314, 315, 316, 206, 44, 207, 317, 318, 319, 320, 321, 322, 323, 324, 325, 326, 327, 328, 9, 10, 11, 12, 13, 14, 15, 16, 146, 147, 148, 149, 34, 35, 36, 37, 38, 39, 40, 41, 42, 43, 45, 46, 47, 48, 49, 50, 51, 52, 53, 54, 55, 56, 57, 58, 59, 60, 61, 62, 63, 64, 65, 66, 67, 68, 69, 70, 71, 72, 73, 74, 75, 76, 77, 78, 79, 80, 81, 82, 83, 84, 85, 86, 87, 329, 330, 331, 332, 333, 334, 335, 336, 337, 338, 339, 340, 341, 342, 343, 344, 345, 346, 347, 348, 349, 350, 351, 352, 353, 354, 355, 356, 357, 358, 359, 166, 167, 168, 169, 170, 171, 172, 173, 174, 175, 176, 177, 178, 179, 180, 181, 193, 194, 195, 196, 360, 361, 362, 363, 201, 202, 203, 204, 205, 186, 187, 388, 389, 390, 411, 412, 413, 414, 415, 391, 392, 393, 394, 416, 417, 418, 419, 420, 395, 396, 397, 398, 399, 400, 401, 402, 403, 404, 405, 406, 407, 408, 409, 410] (by decide +kernel) (by decide +kernel)) (goodIn_sub (fun _ h => List.mem_cons_of_mem _ (List.mem_append_left _ (List.mem_append_right _ h))) (by decide +kernel))) (goodIn_sub (fun _ h => List.mem_cons_of_mem _ (List.mem_append_left _ (List.mem_append_left _ (List.mem_append_right _ h)))) (by decide +kernel))
set_option maxRecDepth 20000 in
theorem gL_isStep_L_sung : GoodIn wsL_isStep (va_wsS RL 125 yL_sung wsL_sung) := goodIn_app (goodIn_of _ (by decide +kernel)) ggL_isStep_L_sung
set_option maxRecDepth 20000 in
theorem ggL_isStep_X8_clearText : GoodIn wsL_isStep wsX8_clearText := goodIn_r _ [248, 249, 250, 388, 389, 390, 411, 412, 413, 414, 415] (by decide +kernel) (by decide +kernel)
set_option maxRecDepth 20000 in
theorem gL_isStep_X8_clearText : GoodIn wsL_isStep (wsV RL 81 RX8 yX8_clearText wsX8_clearText) := goodIn_app (goodIn_of _ (by decide +kernel)) ggL_isStep_X8_clearText
set_option maxRecDepth 20000 in
theorem ggL_isStep_L_append : GoodIn wsL_isStep wsL_append := goodIn_ca (goodIn_r _ [253, 139, 1, 254, 255, 256, 5, 257, 144, 145, 249, 250, 258, 259, 260, 261, 262, 263, 264, 388, 389, 390, 411, 412, 413, 414, 415] (by decide +kernel) (by decide +kernel)) (goodIn_sub (fun _ h => List.mem_cons_of_mem _ (List.mem_append_left _ (List.mem_append_right _ h))) (by decide +kernel))
set_option maxRecDepth 20000 in
theorem gL_isStep_L_append : GoodIn wsL_isStep (va_wsS RL 84 yL_append wsL_append) := goodIn_app (goodIn_of _ (by decide +kernel)) ggL_isStep_L_append
set_option maxRecDepth 20000 in
theorem ggL_isStep_L_song : GoodIn wsL_isStep wsL_song := goodIn_ca (goodIn_ca (goodIn_r _ [267, 25, 139, 1, 268, 269, 270, 271, 5, 272, 144, 145, 7, 8, 32, 249, 273, 274, 275, 276, 277, 278, 30, 31, 279, 280, 281, 282, 283, 261, 284, 263, 285, 286, 287, 288, 289, 264, 290, 291, 292, 293, 294, 295, 296, 297, 298, 299, 300, 301, 302, 303, 304, 305, 306, 307, 308, 309, 310, 311, 312, 313, 314, 315, 316, 206, 44, 207, 317, 318, 319, 320, 321, 322, 323, 324, 325, 326, 327, 328, 9, 10, 11, 12, 13, 14, 15, 16, 146, 147, 148, 149, 34, 35, 36, 37, 38, 39, 40, 41, 42, 43, 45, 46, 47, 48, 49, 50, 51, 52, 53, 54, 55, 56, 57, 58, 59, 60, 61, 62, 63, 64, 65, 66, 67, 68, 69, 70, 71, 72, 73, 74, 75, 76, 77, 78, 79, 80, 81, 82, 83, 84, 85, 86, 87, 329, 330, 331, 332, 333, 334, 335, 336, 337, 338, 339, 340, 341, 342, 343, 344, 345, 346, 347, 348, 349, 350, 351, 352, 353, 354, 355, 356, 357, 358, 359, 166, 167, 168, 169, 170, 171, 172, 173, 174, 175, 176, 177, 178, 179, 180, 181, 193, 194, 195, 196, 360, 361, 362, 363, 201, 202, 203, 204, 205, 186, 187, 388, 389, 390, 391, 392, 393, 394, 411, 412, 413, 414, 415, 416, 417, 418, 419, 420, 395, 396, 397, 398, 399, 400, 401, 402, 403, 404, 405, 406, 407, 408, 409, 410] (by decide +kernel) (by decide +kernel)) (goodIn_sub (fun _ h => List.mem_cons_of_mem _ (List.mem_append_left _ (List.mem_append_right _ h))) (by decide +kernel))) (goodIn_sub (fun _ h => List.mem_cons_of_mem _ (List.mem_append_left _ (List.mem_append_left _ (List.mem_append_right _ h)))) (by decide +kernel))
set_option maxRecDepth 20000 in
theorem gL_isStep_L_song : GoodIn wsL_isStep (va_wsS RL 89 yL_song wsL_song) := goodIn_app (goodIn_of _ (by decide +kernel)) ggL_isStep_L_song
set_option maxRecDepth 20000 in
theorem ggL_isStep_L_count : GoodIn wsL_isStep wsL_count := goodIn_ca (goodIn_r _ [366, 228, 1, 367, 368, 369, 5, 370, 7, 8, 371, 233, 234, 235, 236, 237, 388, 389, 390, 391, 392, 393, 394, 395, 396, 397] (by decide +kernel) (by decide +kernel)) (goodIn_sub (fun _ h => List.mem_cons_of_mem _ (List.mem_append_right _ h)) (by decide +kernel))
set_option maxRecDepth 20000 in
theorem gL_isStep_L_count : GoodIn wsL_isStep (va_wsS RL 129 yL_count wsL_count) := goodIn_app (goodIn_of _ (by decide +kernel)) ggL_isStep_L_count
set_option maxRecDepth 20000 in
theorem ggL_isStep_X8_parrotsHeard : GoodIn wsL_isStep wsX8_parrotsHeard := goodIn_r _ [375, 7, 8, 371, 376, 186, 5, 187, 388, 389, 390, 391, 392, 393, 394, 395, 396, 397] (by decide +kernel) (by decide +kernel)
set_option maxRecDepth 20000 in
theorem gL_isStep_X8_parrotsHeard : GoodIn wsL_isStep (wsV RL 132 RX8 yX8_parrotsHeard wsX8_parrotsHeard) := goodIn_app (goodIn_of _ (by decide +kernel)) ggL_isStep_X8_parrotsHeard
set_option maxRecDepth 20000 in
theorem ggL_isStep_L_hear : GoodIn wsL_isStep wsL_hear := goodIn_ca (goodIn_ca (goodIn_r _ [379, 228, 139, 1, 268, 380, 381, 382, 5, 383, 7, 8, 32, 114, 233, 234, 235, 236, 237, 9, 10, 11, 12, 13, 14, 15, 16, 146, 147, 148, 144, 145, 149, 34, 35, 36, 37, 38, 39, 40, 41, 42, 43, 44, 45, 46, 47, 48, 49, 50, 51, 52, 53, 54, 55, 56, 57, 58, 59, 60, 61, 62, 63, 64, 65, 66, 67, 68, 69, 70, 71, 72, 73, 74, 75, 76, 77, 78, 79, 80, 81, 82, 83, 84, 85, 86, 87, 348, 349, 350, 351, 352, 353, 354, 355, 356, 357, 358, 359, 166, 167, 168, 169, 170, 171, 172, 173, 174, 175, 176, 177, 178, 179, 180, 181, 193, 194, 195, 196, 360, 361, 362, 363, 201, 202, 203, 204, 205, 206, 207, 186, 187, 238, 239, 240, 241, 388, 389, 390, 391, 392, 393, 394, 395, 396, 397, 398, 399, 400, 401, 402, 403, 404, 405, 406, 407, 408, 409, 410] (by decide +kernel) (by decide +kernel)) (goodIn_sub (fun _ h => List.mem_cons_of_mem _ (List.mem_append_right _ h)) (by decide +kernel))) (goodIn_sub (fun _ h => List.mem_cons_of_mem _ (List.mem_append_left _ (List.mem_append_right _ h))) (by decide +kernel))
set_option maxRecDepth 20000 in
theorem gL_isStep_L_hear : GoodIn wsL_isStep (va_wsS RL 135 yL_hear wsL_hear) := goodIn_app (goodIn_of _ (by decide +kernel)) ggL_isStep_L_hear
set_option maxRecDepth 20000 in
theorem ggL_isStep_X8_capacity : GoodIn wsL_isStep wsX8_capacity := goodIn_r _ [387, 7, 33, 388, 389, 390, 391, 392, 393, 394] (by decide +kernel) (by decide +kernel)
set_option maxRecDepth 20000 in
theorem gL_isStep_X8_capacity : GoodIn wsL_isStep (wsV RL 137 RX8 yX8_capacity wsX8_capacity) := goodIn_app (goodIn_of _ (by decide +kernel)) ggL_isStep_X8_capacity
theorem dL_isStep_0 : decode cL_isStep 0 = .ok (.iload_n 2, 1) := by decide +kernel
theorem dL_isStep_1 : decode cL_isStep 1 = .ok (.iconst 4, 1) := by decide +kernel
theorem dL_isStep_2 : decode cL_isStep 2 = .ok (.ishr, 1) := by decide +kernel
theorem dL_isStep_3 : decode cL_isStep 3 = .ok (.istore 4, 2) := by decide +kernel
theorem dL_isStep_5 : decode cL_isStep 5 = .ok (.aload_n 0, 1) := by decide +kernel
theorem dL_isStep_6 : decode cL_isStep 6 = .ok (.invokevirtual 93, 3) := by decide +kernel
theorem dL_isStep_9 : decode cL_isStep 9 = .ok (.istore 5, 2) := by decide +kernel
theorem dL_isStep_11 : decode cL_isStep 11 = .ok (.iload_n 2, 1) := by decide +kernel
theorem dL_isStep_12 : decode cL_isStep 12 = .ok (.bipush 24, 2) := by decide +kernel
theorem dL_isStep_14 : decode cL_isStep 14 = .ok (.invokestatic 96, 3) := by decide +kernel
theorem dL_isStep_17 : decode cL_isStep 17 = .ok (.tableswitch 430 0 9 #[55, 107, 107, 145, 145, 145, 216, 233, 233, 233], 55) := by decide +kernel
theorem dL_isStep_72 : decode cL_isStep 72 = .ok (.iconst 1, 1) := by decide +kernel
theorem dL_isStep_73 : decode cL_isStep 73 = .ok (.iload_n 3, 1) := by decide +kernel
theorem dL_isStep_74 : decode cL_isStep 74 = .ok (.bipush 9, 2) := by decide +kernel
theorem dL_isStep_76 : decode cL_isStep 76 = .ok (.invokestatic 96, 3) := by decide +kernel
theorem dL_isStep_79 : decode cL_isStep 79 = .ok (.iadd, 1) := by decide +kernel
theorem dL_isStep_80 : decode cL_isStep 80 = .ok (.istore 6, 2) := by decide +kernel
theorem dL_isStep_82 : decode cL_isStep 82 = .ok (.aload_n 0, 1) := by decide +kernel
theorem dL_isStep_83 : decode cL_isStep 83 = .ok (.iload 6, 2) := by decide +kernel
theorem dL_isStep_85 : decode cL_isStep 85 = .ok (.invokestatic 100, 3) := by decide +kernel
theorem dL_isStep_88 : decode cL_isStep 88 = .ok (.aload_n 1, 1) := by decide +kernel
theorem dL_isStep_89 : decode cL_isStep 89 = .ok (.iload 6, 2) := by decide +kernel
theorem dL_isStep_91 : decode cL_isStep 91 = .ok (.invokestatic 100, 3) := by decide +kernel
theorem dL_isStep_94 : decode cL_isStep 94 = .ok (.if_icmp .ne 28, 3) := by decide +kernel
theorem dL_isStep_97 : decode cL_isStep 97 = .ok (.aload_n 0, 1) := by decide +kernel
theorem dL_isStep_98 : decode cL_isStep 98 = .ok (.invokevirtual 93, 3) := by decide +kernel
theorem dL_isStep_101 : decode cL_isStep 101 = .ok (.ifCond .ne 21, 3) := by decide +kernel
theorem dL_isStep_104 : decode cL_isStep 104 = .ok (.aload_n 0, 1) := by decide +kernel
theorem dL_isStep_105 : decode cL_isStep 105 = .ok (.invokevirtual 102, 3) := by decide +kernel
theorem dL_isStep_108 : decode cL_isStep 108 = .ok (.ifCond .ne 14, 3) := by decide +kernel
theorem dL_isStep_111 : decode cL_isStep 111 = .ok (.aload_n 0, 1) := by decide +kernel
theorem dL_isStep_112 : decode cL_isStep 112 = .ok (.invokevirtual 105, 3) := by decide +kernel
theorem dL_isStep_115 : decode cL_isStep 115 = .ok (.ifCond .ne 7, 3) := by decide +kernel
theorem dL_isStep_118 : decode cL_isStep 118 = .ok (.iconst 1, 1) := by decide +kernel
theorem dL_isStep_119 : decode cL_isStep 119 = .ok (.goto 4, 3) := by decide +kernel
theorem dL_isStep_122 : decode cL_isStep 122 = .ok (.iconst 0, 1) := by decide +kernel
theorem dL_isStep_123 : decode cL_isStep 123 = .ok (.ireturn, 1) := by decide +kernel
theorem dL_isStep_124 : decode cL_isStep 124 = .ok (.aload_n 0, 1) := by decide +kernel
theorem dL_isStep_125 : decode cL_isStep 125 = .ok (.invokevirtual 109, 3) := by decide +kernel
theorem dL_isStep_128 : decode cL_isStep 128 = .ok (.iload 5, 2) := by decide +kernel
theorem dL_isStep_130 : decode cL_isStep 130 = .ok (.if_icmp .ne 30, 3) := by decide +kernel
theorem dL_isStep_133 : decode cL_isStep 133 = .ok (.aload_n 1, 1) := by decide +kernel
theorem dL_isStep_134 : decode cL_isStep 134 = .ok (.invokevirtual 109, 3) := by decide +kernel
theorem dL_isStep_137 : decode cL_isStep 137 = .ok (.iload 5, 2) := by decide +kernel
theorem dL_isStep_139 : decode cL_isStep 139 = .ok (.if_icmp .ne 21, 3) := by decide +kernel
theorem dL_isStep_142 : decode cL_isStep 142 = .ok (.aload_n 0, 1) := by decide +kernel
theorem dL_isStep_143 : decode cL_isStep 143 = .ok (.invokevirtual 93, 3) := by decide +kernel
theorem dL_isStep_146 : decode cL_isStep 146 = .ok (.ifCond .ne 14, 3) := by decide +kernel
theorem dL_isStep_149 : decode cL_isStep 149 = .ok (.aload_n 0, 1) := by decide +kernel
theorem dL_isStep_150 : decode cL_isStep 150 = .ok (.invokevirtual 112, 3) := by decide +kernel
theorem dL_isStep_153 : decode cL_isStep 153 = .ok (.ifCond .ne 7, 3) := by decide +kernel
theorem dL_isStep_156 : decode cL_isStep 156 = .ok (.iconst 1, 1) := by decide +kernel
theorem dL_isStep_157 : decode cL_isStep 157 = .ok (.goto 4, 3) := by decide +kernel
theorem dL_isStep_160 : decode cL_isStep 160 = .ok (.iconst 0, 1) := by decide +kernel
theorem dL_isStep_161 : decode cL_isStep 161 = .ok (.ireturn, 1) := by decide +kernel
theorem dL_isStep_162 : decode cL_isStep 162 = .ok (.aload_n 0, 1) := by decide +kernel
theorem dL_isStep_163 : decode cL_isStep 163 = .ok (.invokevirtual 105, 3) := by decide +kernel
theorem dL_isStep_166 : decode cL_isStep 166 = .ok (.istore 6, 2) := by decide +kernel
theorem dL_isStep_168 : decode cL_isStep 168 = .ok (.aload_n 0, 1) := by decide +kernel
theorem dL_isStep_169 : decode cL_isStep 169 = .ok (.invokevirtual 112, 3) := by decide +kernel
theorem dL_isStep_172 : decode cL_isStep 172 = .ok (.istore 7, 2) := by decide +kernel
theorem dL_isStep_174 : decode cL_isStep 174 = .ok (.aload_n 0, 1) := by decide +kernel
theorem dL_isStep_175 : decode cL_isStep 175 = .ok (.invokestatic 115, 3) := by decide +kernel
theorem dL_isStep_178 : decode cL_isStep 178 = .ok (.istore 8, 2) := by decide +kernel
theorem dL_isStep_180 : decode cL_isStep 180 = .ok (.iload 8, 2) := by decide +kernel
theorem dL_isStep_182 : decode cL_isStep 182 = .ok (.aload_n 1, 1) := by decide +kernel
theorem dL_isStep_183 : decode cL_isStep 183 = .ok (.invokestatic 115, 3) := by decide +kernel
theorem dL_isStep_186 : decode cL_isStep 186 = .ok (.if_icmp .ne 45, 3) := by decide +kernel
theorem dL_isStep_189 : decode cL_isStep 189 = .ok (.iload 6, 2) := by decide +kernel
theorem dL_isStep_191 : decode cL_isStep 191 = .ok (.ifCond .eq 29, 3) := by decide +kernel
theorem dL_isStep_194 : decode cL_isStep 194 = .ok (.iload 8, 2) := by decide +kernel
theorem dL_isStep_196 : decode cL_isStep 196 = .ok (.iload 5, 2) := by decide +kernel
theorem dL_isStep_198 : decode cL_isStep 198 = .ok (.if_icmp .lt 33, 3) := by decide +kernel
theorem dL_isStep_201 : decode cL_isStep 201 = .ok (.aload_n 0, 1) := by decide +kernel
theorem dL_isStep_202 : decode cL_isStep 202 = .ok (.invokevirtual 112, 3) := by decide +kernel
theorem dL_isStep_205 : decode cL_isStep 205 = .ok (.iload 7, 2) := by decide +kernel
theorem dL_isStep_207 : decode cL_isStep 207 = .ok (.if_icmp .lt 24, 3) := by decide +kernel
theorem dL_isStep_210 : decode cL_isStep 210 = .ok (.aload_n 0, 1) := by decide +kernel
theorem dL_isStep_211 : decode cL_isStep 211 = .ok (.invokevirtual 105, 3) := by decide +kernel
theorem dL_isStep_214 : decode cL_isStep 214 = .ok (.ifCond .ne 17, 3) := by decide +kernel
theorem dL_isStep_217 : decode cL_isStep 217 = .ok (.goto 10, 3) := by decide +kernel
theorem dL_isStep_220 : decode cL_isStep 220 = .ok (.iload 8, 2) := by decide +kernel
theorem dL_isStep_222 : decode cL_isStep 222 = .ok (.ldc 17, 2) := by decide +kernel
theorem dL_isStep_224 : decode cL_isStep 224 = .ok (.if_icmp .ne 7, 3) := by decide +kernel
theorem dL_isStep_227 : decode cL_isStep 227 = .ok (.iconst 1, 1) := by decide +kernel
theorem dL_isStep_228 : decode cL_isStep 228 = .ok (.goto 4, 3) := by decide +kernel
theorem dL_isStep_231 : decode cL_isStep 231 = .ok (.iconst 0, 1) := by decide +kernel
theorem dL_isStep_232 : decode cL_isStep 232 = .ok (.ireturn, 1) := by decide +kernel
theorem dL_isStep_233 : decode cL_isStep 233 = .ok (.aload_n 0, 1) := by decide +kernel
theorem dL_isStep_234 : decode cL_isStep 234 = .ok (.invokestatic 118, 3) := by decide +kernel
theorem dL_isStep_237 : decode cL_isStep 237 = .ok (.aload_n 1, 1) := by decide +kernel
theorem dL_isStep_238 : decode cL_isStep 238 = .ok (.invokestatic 118, 3) := by decide +kernel
theorem dL_isStep_241 : decode cL_isStep 241 = .ok (.if_icmp .ne 7, 3) := by decide +kernel
theorem dL_isStep_244 : decode cL_isStep 244 = .ok (.iconst 1, 1) := by decide +kernel
theorem dL_isStep_245 : decode cL_isStep 245 = .ok (.goto 4, 3) := by decide +kernel
theorem dL_isStep_248 : decode cL_isStep 248 = .ok (.iconst 0, 1) := by decide +kernel
theorem dL_isStep_249 : decode cL_isStep 249 = .ok (.ireturn, 1) := by decide +kernel
theorem dL_isStep_250 : decode cL_isStep 250 = .ok (.iload_n 3, 1) := by decide +kernel
theorem dL_isStep_251 : decode cL_isStep 251 = .ok (.bipush 7, 2) := by decide +kernel
theorem dL_isStep_253 : decode cL_isStep 253 = .ok (.invokestatic 96, 3) := by decide +kernel
theorem dL_isStep_256 : decode cL_isStep 256 = .ok (.istore 6, 2) := by decide +kernel
theorem dL_isStep_258 : decode cL_isStep 258 = .ok (.iconst 1, 1) := by decide +kernel
theorem dL_isStep_259 : decode cL_isStep 259 = .ok (.iload 4, 2) := by decide +kernel
theorem dL_isStep_261 : decode cL_isStep 261 = .ok (.iload 4, 2) := by decide +kernel
theorem dL_isStep_263 : decode cL_isStep 263 = .ok (.iconst 5, 1) := by decide +kernel
theorem dL_isStep_264 : decode cL_isStep 264 = .ok (.ishr, 1) := by decide +kernel
theorem dL_isStep_265 : decode cL_isStep 265 = .ok (.bipush 6, 2) := by decide +kernel
theorem dL_isStep_267 : decode cL_isStep 267 = .ok (.invokestatic 96, 3) := by decide +kernel
theorem dL_isStep_270 : decode cL_isStep 270 = .ok (.ifCond .ne 8, 3) := by decide +kernel
theorem dL_isStep_273 : decode cL_isStep 273 = .ok (.bipush 40, 2) := by decide +kernel
theorem dL_isStep_275 : decode cL_isStep 275 = .ok (.goto 4, 3) := by decide +kernel
theorem dL_isStep_278 : decode cL_isStep 278 = .ok (.iconst 5, 1) := by decide +kernel
theorem dL_isStep_279 : decode cL_isStep 279 = .ok (.invokestatic 96, 3) := by decide +kernel
theorem dL_isStep_282 : decode cL_isStep 282 = .ok (.iadd, 1) := by decide +kernel
theorem dL_isStep_283 : decode cL_isStep 283 = .ok (.istore 7, 2) := by decide +kernel
theorem dL_isStep_285 : decode cL_isStep 285 = .ok (.aload_n 0, 1) := by decide +kernel
theorem dL_isStep_286 : decode cL_isStep 286 = .ok (.invokevirtual 120, 3) := by decide +kernel
theorem dL_isStep_289 : decode cL_isStep 289 = .ok (.istore 8, 2) := by decide +kernel
theorem dL_isStep_291 : decode cL_isStep 291 = .ok (.aload_n 0, 1) := by decide +kernel
theorem dL_isStep_292 : decode cL_isStep 292 = .ok (.iload 6, 2) := by decide +kernel
theorem dL_isStep_294 : decode cL_isStep 294 = .ok (.invokestatic 123, 3) := by decide +kernel
theorem dL_isStep_297 : decode cL_isStep 297 = .ok (.istore 9, 2) := by decide +kernel
theorem dL_isStep_299 : decode cL_isStep 299 = .ok (.aload_n 1, 1) := by decide +kernel
theorem dL_isStep_300 : decode cL_isStep 300 = .ok (.iload 6, 2) := by decide +kernel
theorem dL_isStep_302 : decode cL_isStep 302 = .ok (.iload 7, 2) := by decide +kernel
theorem dL_isStep_304 : decode cL_isStep 304 = .ok (.iload 4, 2) := by decide +kernel
theorem dL_isStep_306 : decode cL_isStep 306 = .ok (.iconst 3, 1) := by decide +kernel
theorem dL_isStep_307 : decode cL_isStep 307 = .ok (.ishr, 1) := by decide +kernel
theorem dL_isStep_308 : decode cL_isStep 308 = .ok (.iconst 2, 1) := by decide +kernel
theorem dL_isStep_309 : decode cL_isStep 309 = .ok (.invokestatic 96, 3) := by decide +kernel
theorem dL_isStep_312 : decode cL_isStep 312 = .ok (.ifCond .ne 7, 3) := by decide +kernel
theorem dL_isStep_315 : decode cL_isStep 315 = .ok (.iconst 1, 1) := by decide +kernel
theorem dL_isStep_316 : decode cL_isStep 316 = .ok (.goto 4, 3) := by decide +kernel
theorem dL_isStep_319 : decode cL_isStep 319 = .ok (.iconst 0, 1) := by decide +kernel
theorem dL_isStep_320 : decode cL_isStep 320 = .ok (.invokestatic 125, 3) := by decide +kernel
theorem dL_isStep_323 : decode cL_isStep 323 = .ok (.iload 5, 2) := by decide +kernel
theorem dL_isStep_325 : decode cL_isStep 325 = .ok (.iload 7, 2) := by decide +kernel
theorem dL_isStep_327 : decode cL_isStep 327 = .ok (.iadd, 1) := by decide +kernel
theorem dL_isStep_328 : decode cL_isStep 328 = .ok (.if_icmp .ne 7, 3) := by decide +kernel
theorem dL_isStep_331 : decode cL_isStep 331 = .ok (.iconst 1, 1) := by decide +kernel
theorem dL_isStep_332 : decode cL_isStep 332 = .ok (.goto 4, 3) := by decide +kernel
theorem dL_isStep_335 : decode cL_isStep 335 = .ok (.iconst 0, 1) := by decide +kernel
theorem dL_isStep_336 : decode cL_isStep 336 = .ok (.istore 10, 2) := by decide +kernel
theorem dL_isStep_338 : decode cL_isStep 338 = .ok (.iload 10, 2) := by decide +kernel
theorem dL_isStep_340 : decode cL_isStep 340 = .ok (.ifCond .eq 14, 3) := by decide +kernel
theorem dL_isStep_343 : decode cL_isStep 343 = .ok (.aload_n 0, 1) := by decide +kernel
theorem dL_isStep_344 : decode cL_isStep 344 = .ok (.invokevirtual 81, 3) := by decide +kernel
theorem dL_isStep_347 : decode cL_isStep 347 = .ok (.ifCond .lt 7, 3) := by decide +kernel
theorem dL_isStep_350 : decode cL_isStep 350 = .ok (.iconst 1, 1) := by decide +kernel
theorem dL_isStep_351 : decode cL_isStep 351 = .ok (.goto 4, 3) := by decide +kernel
theorem dL_isStep_354 : decode cL_isStep 354 = .ok (.iconst 0, 1) := by decide +kernel
theorem dL_isStep_355 : decode cL_isStep 355 = .ok (.istore 10, 2) := by decide +kernel
theorem dL_isStep_357 : decode cL_isStep 357 = .ok (.iconst 0, 1) := by decide +kernel
theorem dL_isStep_358 : decode cL_isStep 358 = .ok (.istore 11, 2) := by decide +kernel
theorem dL_isStep_360 : decode cL_isStep 360 = .ok (.iload 11, 2) := by decide +kernel
theorem dL_isStep_362 : decode cL_isStep 362 = .ok (.iload 7, 2) := by decide +kernel
theorem dL_isStep_364 : decode cL_isStep 364 = .ok (.if_icmp .ge 37, 3) := by decide +kernel
theorem dL_isStep_367 : decode cL_isStep 367 = .ok (.iload 10, 2) := by decide +kernel
theorem dL_isStep_369 : decode cL_isStep 369 = .ok (.ifCond .eq 23, 3) := by decide +kernel
theorem dL_isStep_372 : decode cL_isStep 372 = .ok (.aload_n 0, 1) := by decide +kernel
theorem dL_isStep_373 : decode cL_isStep 373 = .ok (.bipush 97, 2) := by decide +kernel
theorem dL_isStep_375 : decode cL_isStep 375 = .ok (.iload 6, 2) := by decide +kernel
theorem dL_isStep_377 : decode cL_isStep 377 = .ok (.iadd, 1) := by decide +kernel
theorem dL_isStep_378 : decode cL_isStep 378 = .ok (.invokestatic 84, 3) := by decide +kernel
theorem dL_isStep_381 : decode cL_isStep 381 = .ok (.iload 11, 2) := by decide +kernel
theorem dL_isStep_383 : decode cL_isStep 383 = .ok (.iconst 1, 1) := by decide +kernel
theorem dL_isStep_384 : decode cL_isStep 384 = .ok (.iadd, 1) := by decide +kernel
theorem dL_isStep_385 : decode cL_isStep 385 = .ok (.if_icmp .ne 7, 3) := by decide +kernel
theorem dL_isStep_388 : decode cL_isStep 388 = .ok (.iconst 1, 1) := by decide +kernel
theorem dL_isStep_389 : decode cL_isStep 389 = .ok (.goto 4, 3) := by decide +kernel
theorem dL_isStep_392 : decode cL_isStep 392 = .ok (.iconst 0, 1) := by decide +kernel
theorem dL_isStep_393 : decode cL_isStep 393 = .ok (.istore 10, 2) := by decide +kernel
theorem dL_isStep_395 : decode cL_isStep 395 = .ok (.iinc 11 1, 3) := by decide +kernel
theorem dL_isStep_398 : decode cL_isStep 398 = .ok (.goto (-38), 3) := by decide +kernel
theorem dL_isStep_401 : decode cL_isStep 401 = .ok (.iload 10, 2) := by decide +kernel
theorem dL_isStep_403 : decode cL_isStep 403 = .ok (.ifCond .eq 42, 3) := by decide +kernel
theorem dL_isStep_406 : decode cL_isStep 406 = .ok (.aload_n 0, 1) := by decide +kernel
theorem dL_isStep_407 : decode cL_isStep 407 = .ok (.invokestatic 89, 3) := by decide +kernel
theorem dL_isStep_410 : decode cL_isStep 410 = .ok (.iload 5, 2) := by decide +kernel
theorem dL_isStep_412 : decode cL_isStep 412 = .ok (.iload 7, 2) := by decide +kernel
theorem dL_isStep_414 : decode cL_isStep 414 = .ok (.iadd, 1) := by decide +kernel
theorem dL_isStep_415 : decode cL_isStep 415 = .ok (.if_icmp .ne 30, 3) := by decide +kernel
theorem dL_isStep_418 : decode cL_isStep 418 = .ok (.aload_n 0, 1) := by decide +kernel
theorem dL_isStep_419 : decode cL_isStep 419 = .ok (.iload 6, 2) := by decide +kernel
theorem dL_isStep_421 : decode cL_isStep 421 = .ok (.invokestatic 123, 3) := by decide +kernel
theorem dL_isStep_424 : decode cL_isStep 424 = .ok (.iload 9, 2) := by decide +kernel
theorem dL_isStep_426 : decode cL_isStep 426 = .ok (.iload 7, 2) := by decide +kernel
theorem dL_isStep_428 : decode cL_isStep 428 = .ok (.iadd, 1) := by decide +kernel
theorem dL_isStep_429 : decode cL_isStep 429 = .ok (.if_icmp .ne 16, 3) := by decide +kernel
theorem dL_isStep_432 : decode cL_isStep 432 = .ok (.aload_n 0, 1) := by decide +kernel
theorem dL_isStep_433 : decode cL_isStep 433 = .ok (.invokevirtual 120, 3) := by decide +kernel
theorem dL_isStep_436 : decode cL_isStep 436 = .ok (.iload 8, 2) := by decide +kernel
theorem dL_isStep_438 : decode cL_isStep 438 = .ok (.if_icmp .lt 7, 3) := by decide +kernel
theorem dL_isStep_441 : decode cL_isStep 441 = .ok (.iconst 1, 1) := by decide +kernel
theorem dL_isStep_442 : decode cL_isStep 442 = .ok (.goto 4, 3) := by decide +kernel
theorem dL_isStep_445 : decode cL_isStep 445 = .ok (.iconst 0, 1) := by decide +kernel
theorem dL_isStep_446 : decode cL_isStep 446 = .ok (.ireturn, 1) := by decide +kernel
theorem dL_isStep_447 : decode cL_isStep 447 = .ok (.iload_n 3, 1) := by decide +kernel
theorem dL_isStep_448 : decode cL_isStep 448 = .ok (.iload 4, 2) := by decide +kernel
theorem dL_isStep_450 : decode cL_isStep 450 = .ok (.iconst 3, 1) := by decide +kernel
theorem dL_isStep_451 : decode cL_isStep 451 = .ok (.invokestatic 96, 3) := by decide +kernel
theorem dL_isStep_454 : decode cL_isStep 454 = .ok (.ifCond .ne 8, 3) := by decide +kernel
theorem dL_isStep_457 : decode cL_isStep 457 = .ok (.bipush 26, 2) := by decide +kernel
theorem dL_isStep_459 : decode cL_isStep 459 = .ok (.goto 5, 3) := by decide +kernel
theorem dL_isStep_462 : decode cL_isStep 462 = .ok (.bipush 7, 2) := by decide +kernel
theorem dL_isStep_464 : decode cL_isStep 464 = .ok (.invokestatic 96, 3) := by decide +kernel
theorem dL_isStep_467 : decode cL_isStep 467 = .ok (.istore 6, 2) := by decide +kernel
theorem dL_isStep_469 : decode cL_isStep 469 = .ok (.aload_n 0, 1) := by decide +kernel
theorem dL_isStep_470 : decode cL_isStep 470 = .ok (.iload 6, 2) := by decide +kernel
theorem dL_isStep_472 : decode cL_isStep 472 = .ok (.invokestatic 129, 3) := by decide +kernel
theorem dL_isStep_475 : decode cL_isStep 475 = .ok (.istore 7, 2) := by decide +kernel
theorem dL_isStep_477 : decode cL_isStep 477 = .ok (.aload_n 0, 1) := by decide +kernel
theorem dL_isStep_478 : decode cL_isStep 478 = .ok (.iload 6, 2) := by decide +kernel
theorem dL_isStep_480 : decode cL_isStep 480 = .ok (.invokestatic 123, 3) := by decide +kernel
theorem dL_isStep_483 : decode cL_isStep 483 = .ok (.istore 8, 2) := by decide +kernel
theorem dL_isStep_485 : decode cL_isStep 485 = .ok (.aload_n 0, 1) := by decide +kernel
theorem dL_isStep_486 : decode cL_isStep 486 = .ok (.invokevirtual 132, 3) := by decide +kernel
theorem dL_isStep_489 : decode cL_isStep 489 = .ok (.istore 9, 2) := by decide +kernel
theorem dL_isStep_491 : decode cL_isStep 491 = .ok (.aload_n 0, 1) := by decide +kernel
theorem dL_isStep_492 : decode cL_isStep 492 = .ok (.iload 6, 2) := by decide +kernel
theorem dL_isStep_494 : decode cL_isStep 494 = .ok (.invokestatic 135, 3) := by decide +kernel
theorem dL_isStep_497 : decode cL_isStep 497 = .ok (.iload 8, 2) := by decide +kernel
theorem dL_isStep_499 : decode cL_isStep 499 = .ok (.iconst 1, 1) := by decide +kernel
theorem dL_isStep_500 : decode cL_isStep 500 = .ok (.iadd, 1) := by decide +kernel
theorem dL_isStep_501 : decode cL_isStep 501 = .ok (.if_icmp .ne 85, 3) := by decide +kernel
theorem dL_isStep_504 : decode cL_isStep 504 = .ok (.aload_n 1, 1) := by decide +kernel
theorem dL_isStep_505 : decode cL_isStep 505 = .ok (.iload 6, 2) := by decide +kernel
theorem dL_isStep_507 : decode cL_isStep 507 = .ok (.iconst 1, 1) := by decide +kernel
theorem dL_isStep_508 : decode cL_isStep 508 = .ok (.iconst 0, 1) := by decide +kernel
theorem dL_isStep_509 : decode cL_isStep 509 = .ok (.invokestatic 125, 3) := by decide +kernel
theorem dL_isStep_512 : decode cL_isStep 512 = .ok (.iload 5, 2) := by decide +kernel
theorem dL_isStep_514 : decode cL_isStep 514 = .ok (.iconst 1, 1) := by decide +kernel
theorem dL_isStep_515 : decode cL_isStep 515 = .ok (.iadd, 1) := by decide +kernel
theorem dL_isStep_516 : decode cL_isStep 516 = .ok (.if_icmp .ne 70, 3) := by decide +kernel
theorem dL_isStep_519 : decode cL_isStep 519 = .ok (.aload_n 0, 1) := by decide +kernel
theorem dL_isStep_520 : decode cL_isStep 520 = .ok (.iload 6, 2) := by decide +kernel
theorem dL_isStep_522 : decode cL_isStep 522 = .ok (.invokestatic 129, 3) := by decide +kernel
theorem dL_isStep_525 : decode cL_isStep 525 = .ok (.iload 7, 2) := by decide +kernel
theorem dL_isStep_527 : decode cL_isStep 527 = .ok (.iconst 1, 1) := by decide +kernel
theorem dL_isStep_528 : decode cL_isStep 528 = .ok (.iadd, 1) := by decide +kernel
theorem dL_isStep_529 : decode cL_isStep 529 = .ok (.if_icmp .ne 57, 3) := by decide +kernel
theorem dL_isStep_532 : decode cL_isStep 532 = .ok (.aload_n 0, 1) := by decide +kernel
theorem dL_isStep_533 : decode cL_isStep 533 = .ok (.invokevirtual 132, 3) := by decide +kernel
theorem dL_isStep_536 : decode cL_isStep 536 = .ok (.iload 9, 2) := by decide +kernel
theorem dL_isStep_538 : decode cL_isStep 538 = .ok (.iload 7, 2) := by decide +kernel
theorem dL_isStep_540 : decode cL_isStep 540 = .ok (.ifCond .ne 7, 3) := by decide +kernel
theorem dL_isStep_543 : decode cL_isStep 543 = .ok (.iconst 1, 1) := by decide +kernel
theorem dL_isStep_544 : decode cL_isStep 544 = .ok (.goto 4, 3) := by decide +kernel
theorem dL_isStep_547 : decode cL_isStep 547 = .ok (.iconst 0, 1) := by decide +kernel
theorem dL_isStep_548 : decode cL_isStep 548 = .ok (.iadd, 1) := by decide +kernel
theorem dL_isStep_549 : decode cL_isStep 549 = .ok (.if_icmp .ne 37, 3) := by decide +kernel
theorem dL_isStep_552 : decode cL_isStep 552 = .ok (.aload_n 0, 1) := by decide +kernel
theorem dL_isStep_553 : decode cL_isStep 553 = .ok (.iload 6, 2) := by decide +kernel
theorem dL_isStep_555 : decode cL_isStep 555 = .ok (.invokestatic 123, 3) := by decide +kernel
theorem dL_isStep_558 : decode cL_isStep 558 = .ok (.aload_n 0, 1) := by decide +kernel
theorem dL_isStep_559 : decode cL_isStep 559 = .ok (.invokevirtual 120, 3) := by decide +kernel
theorem dL_isStep_562 : decode cL_isStep 562 = .ok (.aload_n 0, 1) := by decide +kernel
theorem dL_isStep_563 : decode cL_isStep 563 = .ok (.invokevirtual 102, 3) := by decide +kernel
theorem dL_isStep_566 : decode cL_isStep 566 = .ok (.aload_n 0, 1) := by decide +kernel
theorem dL_isStep_567 : decode cL_isStep 567 = .ok (.invokevirtual 137, 3) := by decide +kernel
theorem dL_isStep_570 : decode cL_isStep 570 = .ok (.if_icmp .le 7, 3) := by decide +kernel
theorem dL_isStep_573 : decode cL_isStep 573 = .ok (.iconst 1, 1) := by decide +kernel
theorem dL_isStep_574 : decode cL_isStep 574 = .ok (.goto 4, 3) := by decide +kernel
theorem dL_isStep_577 : decode cL_isStep 577 = .ok (.iconst 0, 1) := by decide +kernel
theorem dL_isStep_578 : decode cL_isStep 578 = .ok (.isub, 1) := by decide +kernel
theorem dL_isStep_579 : decode cL_isStep 579 = .ok (.if_icmp .le 7, 3) := by decide +kernel
theorem dL_isStep_582 : decode cL_isStep 582 = .ok (.iconst 1, 1) := by decide +kernel
theorem dL_isStep_583 : decode cL_isStep 583 = .ok (.goto 4, 3) := by decide +kernel
theorem dL_isStep_586 : decode cL_isStep 586 = .ok (.iconst 0, 1) := by decide +kernel
theorem dL_isStep_587 : decode cL_isStep 587 = .ok (.ireturn, 1) := by decide +kernel
set_option maxRecDepth 20000 in
theorem ggL_areAlike_X8_capacity : GoodIn wsL_areAlike wsX8_capacity := goodIn_r _ [5, 6, 7, 223, 224, 225, 226, 227, 228, 229] (by decide +kernel) (by decide +kernel)
set_option maxRecDepth 20000 in
theorem gL_areAlike_X8_capacity : GoodIn wsL_areAlike (wsV RL 137 RX8 yX8_capacity wsX8_capacity) := goodIn_app (goodIn_of _ (by decide +kernel)) ggL_areAlike_X8_capacity
set_option maxRecDepth 20000 in
theorem ggL_areAlike_X8_hasAside : GoodIn wsL_areAlike wsX8_hasAside := goodIn_r _ [11, 6, 12, 223, 224, 225, 226, 227, 228, 229] (by decide +kernel) (by decide +kernel)
set_option maxRecDepth 20000 in
theorem gL_areAlike_X8_hasAside : GoodIn wsL_areAlike (wsV RL 105 RX8 yX8_hasAside wsX8_hasAside) := goodIn_app (goodIn_of _ (by decide +kernel)) ggL_areAlike_X8_hasAside
set_option maxRecDepth 20000 in
theorem ggL_areAlike_X8_calls : GoodIn wsL_areAlike wsX8_calls := goodIn_r _ [16, 6, 17, 18, 19, 20, 21, 22, 23, 24, 4, 25, 223, 224, 225, 226, 227, 228, 229, 230, 231, 232] (by decide +kernel) (by decide +kernel)
set_option maxRecDepth 20000 in
theorem gL_areAlike_X8_calls : GoodIn wsL_areAlike (wsV RL 93 RX8 yX8_calls wsX8_calls) := goodIn_app (goodIn_of _ (by decide +kernel)) ggL_areAlike_X8_calls
set_option maxRecDepth 20000 in
theorem ggL_areAlike_X8_counters : GoodIn wsL_areAlike wsX8_counters := goodIn_r _ [29, 6, 17, 30, 31, 223, 224, 225, 226, 227, 228, 229, 230, 231, 232, 233, 234, 235, 236, 237, 238] (by decide +kernel) (by decide +kernel)
set_option maxRecDepth 20000 in
theorem gL_areAlike_X8_counters : GoodIn wsL_areAlike (wsV RL 102 RX8 yX8_counters wsX8_counters) := goodIn_app (goodIn_of _ (by decide +kernel)) ggL_areAlike_X8_counters
set_option maxRecDepth 20000 in
theorem ggL_areAlike_X8_floor : GoodIn wsL_areAlike wsX8_floor := goodIn_r _ [35, 6, 17, 30, 36, 37, 38, 39, 40, 41, 42, 43, 44, 45, 46, 47, 48, 49, 50, 51, 52, 53, 54, 55, 56, 223, 224, 225, 226, 227, 228, 229, 230, 231, 232, 233, 234, 235, 236, 237, 238] (by decide +kernel) (by decide +kernel)
set_option maxRecDepth 20000 in
theorem gL_areAlike_X8_floor : GoodIn wsL_areAlike (wsV RL 120 RX8 yX8_floor wsX8_floor) := goodIn_app (goodIn_of _ (by decide +kernel)) ggL_areAlike_X8_floor
set_option maxRecDepth 20000 in
theorem ggL_areAlike_X8_wear : GoodIn wsL_areAlike wsX8_wear := goodIn_r _ [60, 6, 17, 61, 62, 223, 224, 225, 226, 227, 228, 229, 230, 231, 232, 239, 240, 241, 242] (by decide +kernel) (by decide +kernel)
set_option maxRecDepth 20000 in
theorem gL_areAlike_X8_wear : GoodIn wsL_areAlike (wsV RL 112 RX8 yX8_wear wsX8_wear) := goodIn_app (goodIn_of _ (by decide +kernel)) ggL_areAlike_X8_wear
set_option maxRecDepth 20000 in
theorem ggL_areAlike_X8_wornCounters : GoodIn wsL_areAlike wsX8_wornCounters := goodIn_r _ [66, 6, 17, 61, 67, 223, 224, 225, 226, 227, 228, 229, 230, 231, 232, 239, 240, 241, 242] (by decide +kernel) (by decide +kernel)
set_option maxRecDepth 20000 in
theorem gL_areAlike_X8_wornCounters : GoodIn wsL_areAlike (wsV RL 140 RX8 yX8_wornCounters wsX8_wornCounters) := goodIn_app (goodIn_of _ (by decide +kernel)) ggL_areAlike_X8_wornCounters
set_option maxRecDepth 20000 in
theorem ggL_areAlike_L_next : GoodIn wsL_areAlike wsL_next := goodIn_ca (goodIn_r _ [71, 72, 73, 74, 75, 76, 4, 77, 78, 79, 6, 17, 30, 80, 52, 53, 39, 54, 55, 56, 81, 43, 44, 45, 41, 46, 47, 48, 49, 50, 223, 224, 225, 226, 227, 228, 229, 230, 231, 232, 233, 234, 235, 236, 237, 238] (by decide +kernel) (by decide +kernel)) (goodIn_sub (fun _ h => List.mem_cons_of_mem _ (List.mem_append_left _ (List.mem_append_left _ (List.mem_append_right _ h)))) (by decide +kernel))
set_option maxRecDepth 20000 in
theorem gL_areAlike_L_next : GoodIn wsL_areAlike (va_wsS RL 143 yL_next wsL_next) := goodIn_app (goodIn_of _ (by decide +kernel)) ggL_areAlike_L_next
set_option maxRecDepth 20000 in
theorem ggL_areAlike_X8_callsByCounters : GoodIn wsL_areAlike wsX8_callsByCounters := goodIn_r _ [85, 6, 17, 30, 86, 87, 24, 4, 25, 223, 224, 225, 226, 227, 228, 229, 230, 231, 232, 233, 234, 235, 236, 237, 238] (by decide +kernel) (by decide +kernel)
set_option maxRecDepth 20000 in
theorem gL_areAlike_X8_callsByCounters : GoodIn wsL_areAlike (wsV RL 146 RX8 yX8_callsByCounters wsX8_callsByCounters) := goodIn_app (goodIn_of _ (by decide +kernel)) ggL_areAlike_X8_callsByCounters
set_option maxRecDepth 20000 in
theorem ggL_areAlike_X8_parrotsHeard : GoodIn wsL_areAlike wsX8_parrotsHeard := goodIn_r _ [91, 6, 17, 92, 93, 94, 4, 95, 223, 224, 225, 226, 227, 228, 229, 230, 231, 232] (by decide +kernel) (by decide +kernel)
set_option maxRecDepth 20000 in
theorem gL_areAlike_X8_parrotsHeard : GoodIn wsL_areAlike (wsV RL 132 RX8 yX8_parrotsHeard wsX8_parrotsHeard) := goodIn_app (goodIn_of _ (by decide +kernel)) ggL_areAlike_X8_parrotsHeard
set_option maxRecDepth 20000 in
theorem ggL_areAlike_X8_greatestError : GoodIn wsL_areAlike wsX8_greatestError := goodIn_r _ [99, 6, 17, 30, 92, 100, 101, 102, 103, 104, 105, 106, 39, 107, 41, 108, 37, 38, 40, 42, 43, 44, 45, 46, 47, 48, 49, 50, 51, 52, 53, 54, 55, 56, 223, 224, 225, 226, 227, 228, 229, 230, 231, 232, 233, 234, 235, 236, 237, 238] (by decide +kernel) (by decide +kernel)
set_option maxRecDepth 20000 in
theorem gL_areAlike_X8_greatestError : GoodIn wsL_areAlike (wsV RL 149 RX8 yX8_greatestError wsX8_greatestError) := goodIn_app (goodIn_of _ (by decide +kernel)) ggL_areAlike_X8_greatestError
set_option maxRecDepth 20000 in
theorem ggL_areAlike_X8_historySize : GoodIn wsL_areAlike wsX8_historySize := goodIn_r _ [112, 113, 114, 223, 224, 225, 243, 244, 245] (by decide +kernel) (by decide +kernel)
set_option maxRecDepth 20000 in
theorem gL_areAlike_X8_historySize : GoodIn wsL_areAlike (wsV RL 152 RX8 yX8_historySize wsX8_historySize) := goodIn_app (goodIn_of _ (by decide +kernel)) ggL_areAlike_X8_historySize
set_option maxRecDepth 20000 in
theorem ggL_areAlike_X8_loudestShare : GoodIn wsL_areAlike wsX8_loudestShare := goodIn_r _ [118, 6, 17, 30, 86, 18, 19, 20, 21, 22, 23, 24, 4, 25, 119, 120, 121, 122, 123, 124, 223, 224, 225, 226, 227, 228, 229, 230, 231, 232, 233, 234, 235, 236, 237, 238] (by decide +kernel) (by decide +kernel)
set_option maxRecDepth 20000 in
theorem gL_areAlike_X8_loudestShare : GoodIn wsL_areAlike (wsV RL 155 RX8 yX8_loudestShare wsX8_loudestShare) := goodIn_app (goodIn_of _ (by decide +kernel)) ggL_areAlike_X8_loudestShare
set_option maxRecDepth 20000 in
theorem ggL_areAlike_L_count : GoodIn wsL_areAlike wsL_count := goodIn_ca (goodIn_r _ [127, 128, 73, 129, 130, 131, 4, 132, 6, 17, 92, 133, 134, 135, 136, 137, 223, 224, 225, 226, 227, 228, 229, 230, 231, 232] (by decide +kernel) (by decide +kernel)) (goodIn_sub (fun _ h => List.mem_cons_of_mem _ (List.mem_append_left _ (List.mem_append_right _ h))) (by decide +kernel))
set_option maxRecDepth 20000 in
theorem gL_areAlike_L_count : GoodIn wsL_areAlike (va_wsS RL 129 yL_count wsL_count) := goodIn_app (goodIn_of _ (by decide +kernel)) ggL_areAlike_L_count
set_option maxRecDepth 20000 in
theorem ggL_areAlike_L_estimate : GoodIn wsL_areAlike wsL_estimate := goodIn_ca (goodIn_r _ [140, 128, 73, 141, 142, 143, 4, 144, 6, 17, 30, 133, 134, 135, 136, 137, 104, 105, 106, 39, 107, 41, 108, 37, 38, 40, 42, 43, 44, 45, 46, 47, 48, 49, 50, 51, 52, 53, 54, 55, 56, 223, 224, 225, 226, 227, 228, 229, 230, 231, 232, 233, 234, 235, 236, 237, 238] (by decide +kernel) (by decide +kernel)) (goodIn_sub (fun _ h => List.mem_cons_of_mem _ (List.mem_append_left _ (List.mem_append_right _ h))) (by decide +kernel))
set_option maxRecDepth 20000 in
theorem gL_areAlike_L_estimate : GoodIn wsL_areAlike (va_wsS RL 123 yL_estimate wsL_estimate) := goodIn_app (goodIn_of _ (by decide +kernel)) ggL_areAlike_L_estimate
set_option maxRecDepth 20000 in
theorem ggL_areAlike_L_sure : GoodIn wsL_areAlike wsL_sure := goodIn_ca (goodIn_r _ [147, 128, 73, 148, 149, 150, 4, 151, 6, 17, 30, 133, 134, 135, 136, 137, 152, 153, 154, 39, 155, 41, 156, 223, 224, 225, 226, 227, 228, 229, 230, 231, 232, 233, 234, 235, 236, 237, 238] (by decide +kernel) (by decide +kernel)) (goodIn_sub (fun _ h => List.mem_cons_of_mem _ (List.mem_append_left _ (List.mem_append_right _ h))) (by decide +kernel))
set_option maxRecDepth 20000 in
theorem gL_areAlike_L_sure : GoodIn wsL_areAlike (va_wsS RL 159 yL_sure wsL_sure) := goodIn_app (goodIn_of _ (by decide +kernel)) ggL_areAlike_L_sure
set_option maxRecDepth 20000 in
theorem ggL_areAlike_L_surplus : GoodIn wsL_areAlike wsL_surplus := goodIn_ca (goodIn_ca (goodIn_r _ [159, 128, 72, 73, 160, 161, 162, 163, 4, 164, 78, 79, 6, 17, 30, 86, 165, 133, 134, 135, 136, 137, 223, 224, 225, 226, 227, 228, 229, 230, 231, 232, 233, 234, 235, 236, 237, 238] (by decide +kernel) (by decide +kernel)) (goodIn_sub (fun _ h => List.mem_cons_of_mem _ (List.mem_append_left _ (List.mem_append_left _ (List.mem_append_right _ h)))) (by decide +kernel))) (goodIn_sub (fun _ h => List.mem_cons_of_mem _ (List.mem_append_left _ (List.mem_append_right _ h))) (by decide +kernel))
set_option maxRecDepth 20000 in
theorem gL_areAlike_L_surplus : GoodIn wsL_areAlike (va_wsS RL 162 yL_surplus wsL_surplus) := goodIn_app (goodIn_of _ (by decide +kernel)) ggL_areAlike_L_surplus
set_option maxRecDepth 20000 in
theorem ggL_areAlike_L_worn : GoodIn wsL_areAlike wsL_worn := goodIn_ca (goodIn_r _ [168, 128, 73, 169, 170, 171, 4, 172, 6, 17, 61, 173, 133, 134, 135, 136, 137, 223, 224, 225, 226, 227, 228, 229, 230, 231, 232, 239, 240, 241, 242] (by decide +kernel) (by decide +kernel)) (goodIn_sub (fun _ h => List.mem_cons_of_mem _ (List.mem_append_left _ (List.mem_append_right _ h))) (by decide +kernel))
set_option maxRecDepth 20000 in
theorem gL_areAlike_L_worn : GoodIn wsL_areAlike (va_wsS RL 164 yL_worn wsL_worn) := goodIn_app (goodIn_of _ (by decide +kernel)) ggL_areAlike_L_worn
set_option maxRecDepth 20000 in
theorem ggL_areAlike_L_above : GoodIn wsL_areAlike wsL_above := goodIn_ca (goodIn_r _ [176, 128, 73, 177, 178, 179, 4, 180, 6, 17, 30, 133, 134, 135, 136, 137, 104, 105, 106, 39, 107, 41, 108, 37, 38, 40, 42, 43, 44, 45, 46, 47, 48, 49, 50, 51, 52, 53, 54, 55, 56, 36, 223, 224, 225, 226, 227, 228, 229, 230, 231, 232, 233, 234, 235, 236, 237, 238] (by decide +kernel) (by decide +kernel)) (goodIn_sub (fun _ h => List.mem_cons_of_mem _ (List.mem_append_left _ (List.mem_append_right _ h))) (by decide +kernel))
set_option maxRecDepth 20000 in
theorem gL_areAlike_L_above : GoodIn wsL_areAlike (va_wsS RL 167 yL_above wsL_above) := goodIn_app (goodIn_of _ (by decide +kernel)) ggL_areAlike_L_above
set_option maxRecDepth 20000 in
theorem ggL_areAlike_L_loudest : GoodIn wsL_areAlike wsL_loudest := goodIn_ca (goodIn_ca (goodIn_r _ [183, 184, 72, 73, 160, 185, 186, 187, 4, 188, 189, 190, 78, 79, 6, 17, 30, 31, 86, 119, 120, 121, 122, 123, 124, 223, 224, 225, 226, 227, 228, 229, 230, 231, 232, 233, 234, 235, 236, 237, 238] (by decide +kernel) (by decide +kernel)) (goodIn_sub (fun _ h => List.mem_cons_of_mem _ (List.mem_append_right _ h)) (by decide +kernel))) (goodIn_sub (fun _ h => List.mem_cons_of_mem _ (List.mem_append_left _ (List.mem_append_left _ (List.mem_append_right _ h)))) (by decide +kernel))
set_option maxRecDepth 20000 in
theorem gL_areAlike_L_loudest : GoodIn wsL_areAlike (va_wsS RL 170 yL_loudest wsL_loudest) := goodIn_app (goodIn_of _ (by decide +kernel)) ggL_areAlike_L_loudest
set_option maxRecDepth 20000 in
theorem ggL_areAlike_L_surely : GoodIn wsL_areAlike wsL_surely := goodIn_ca (goodIn_r _ [193, 184, 73, 194, 195, 196, 4, 197, 198, 199, 200, 201, 189, 190, 202, 203, 204, 205, 6, 17, 18, 19, 20, 21, 22, 23, 24, 25, 206, 207, 208, 209, 210, 211, 212, 213, 153, 154, 39, 155, 41, 156, 214, 105, 106, 107, 108, 37, 38, 40, 42, 43, 44, 45, 46, 47, 48, 49, 50, 51, 52, 53, 54, 55, 56, 223, 224, 225, 226, 227, 228, 229, 230, 231, 232, 233, 234, 235, 236, 237, 238] (by decide +kernel) (by decide +kernel)) (goodIn_sub (fun _ h => List.mem_cons_of_mem _ (List.mem_append_right _ h)) (by decide +kernel))
set_option maxRecDepth 20000 in
theorem gL_areAlike_L_surely : GoodIn wsL_areAlike (va_wsS RL 172 yL_surely wsL_surely) := goodIn_app (goodIn_of _ (by decide +kernel)) ggL_areAlike_L_surely
set_option maxRecDepth 20000 in
theorem ggL_areAlike_L_perhaps : GoodIn wsL_areAlike wsL_perhaps := goodIn_ca (goodIn_r _ [217, 184, 73, 218, 219, 220, 4, 221, 222, 199, 200, 201, 189, 190, 202, 203, 204, 205, 6, 17, 18, 19, 20, 21, 22, 23, 24, 25, 206, 207, 208, 209, 210, 211, 212, 213, 153, 154, 39, 155, 41, 156, 214, 105, 106, 107, 108, 37, 38, 40, 42, 43, 44, 45, 46, 47, 48, 49, 50, 51, 52, 53, 54, 55, 56, 223, 224, 225, 226, 227, 228, 229, 230, 231, 232, 233, 234, 235, 236, 237, 238] (by decide +kernel) (by decide +kernel)) (goodIn_sub (fun _ h => List.mem_cons_of_mem _ (List.mem_append_right _ h)) (by decide +kernel))
set_option maxRecDepth 20000 in
theorem gL_areAlike_L_perhaps : GoodIn wsL_areAlike (va_wsS RL 175 yL_perhaps wsL_perhaps) := goodIn_app (goodIn_of _ (by decide +kernel)) ggL_areAlike_L_perhaps
theorem dL_areAlike_0 : decode cL_areAlike 0 = .ok (.aload_n 0, 1) := by decide +kernel
theorem dL_areAlike_1 : decode cL_areAlike 1 = .ok (.invokevirtual 137, 3) := by decide +kernel
theorem dL_areAlike_4 : decode cL_areAlike 4 = .ok (.aload_n 1, 1) := by decide +kernel
theorem dL_areAlike_5 : decode cL_areAlike 5 = .ok (.invokevirtual 137, 3) := by decide +kernel
theorem dL_areAlike_8 : decode cL_areAlike 8 = .ok (.if_icmp .ne 140, 3) := by decide +kernel
theorem dL_areAlike_11 : decode cL_areAlike 11 = .ok (.aload_n 0, 1) := by decide +kernel
theorem dL_areAlike_12 : decode cL_areAlike 12 = .ok (.invokevirtual 105, 3) := by decide +kernel
theorem dL_areAlike_15 : decode cL_areAlike 15 = .ok (.aload_n 1, 1) := by decide +kernel
theorem dL_areAlike_16 : decode cL_areAlike 16 = .ok (.invokevirtual 105, 3) := by decide +kernel
theorem dL_areAlike_19 : decode cL_areAlike 19 = .ok (.if_icmp .ne 129, 3) := by decide +kernel
theorem dL_areAlike_22 : decode cL_areAlike 22 = .ok (.aload_n 0, 1) := by decide +kernel
theorem dL_areAlike_23 : decode cL_areAlike 23 = .ok (.invokevirtual 93, 3) := by decide +kernel
theorem dL_areAlike_26 : decode cL_areAlike 26 = .ok (.aload_n 1, 1) := by decide +kernel
theorem dL_areAlike_27 : decode cL_areAlike 27 = .ok (.invokevirtual 93, 3) := by decide +kernel
theorem dL_areAlike_30 : decode cL_areAlike 30 = .ok (.if_icmp .ne 118, 3) := by decide +kernel
theorem dL_areAlike_33 : decode cL_areAlike 33 = .ok (.aload_n 0, 1) := by decide +kernel
theorem dL_areAlike_34 : decode cL_areAlike 34 = .ok (.invokevirtual 102, 3) := by decide +kernel
theorem dL_areAlike_37 : decode cL_areAlike 37 = .ok (.aload_n 1, 1) := by decide +kernel
theorem dL_areAlike_38 : decode cL_areAlike 38 = .ok (.invokevirtual 102, 3) := by decide +kernel
theorem dL_areAlike_41 : decode cL_areAlike 41 = .ok (.if_icmp .ne 107, 3) := by decide +kernel
theorem dL_areAlike_44 : decode cL_areAlike 44 = .ok (.aload_n 0, 1) := by decide +kernel
theorem dL_areAlike_45 : decode cL_areAlike 45 = .ok (.invokevirtual 120, 3) := by decide +kernel
theorem dL_areAlike_48 : decode cL_areAlike 48 = .ok (.aload_n 1, 1) := by decide +kernel
theorem dL_areAlike_49 : decode cL_areAlike 49 = .ok (.invokevirtual 120, 3) := by decide +kernel
theorem dL_areAlike_52 : decode cL_areAlike 52 = .ok (.if_icmp .ne 96, 3) := by decide +kernel
theorem dL_areAlike_55 : decode cL_areAlike 55 = .ok (.aload_n 0, 1) := by decide +kernel
theorem dL_areAlike_56 : decode cL_areAlike 56 = .ok (.invokevirtual 112, 3) := by decide +kernel
theorem dL_areAlike_59 : decode cL_areAlike 59 = .ok (.aload_n 1, 1) := by decide +kernel
theorem dL_areAlike_60 : decode cL_areAlike 60 = .ok (.invokevirtual 112, 3) := by decide +kernel
theorem dL_areAlike_63 : decode cL_areAlike 63 = .ok (.if_icmp .ne 85, 3) := by decide +kernel
theorem dL_areAlike_66 : decode cL_areAlike 66 = .ok (.aload_n 0, 1) := by decide +kernel
theorem dL_areAlike_67 : decode cL_areAlike 67 = .ok (.invokevirtual 140, 3) := by decide +kernel
theorem dL_areAlike_70 : decode cL_areAlike 70 = .ok (.aload_n 1, 1) := by decide +kernel
theorem dL_areAlike_71 : decode cL_areAlike 71 = .ok (.invokevirtual 140, 3) := by decide +kernel
theorem dL_areAlike_74 : decode cL_areAlike 74 = .ok (.if_icmp .ne 74, 3) := by decide +kernel
theorem dL_areAlike_77 : decode cL_areAlike 77 = .ok (.aload_n 0, 1) := by decide +kernel
theorem dL_areAlike_78 : decode cL_areAlike 78 = .ok (.invokestatic 143, 3) := by decide +kernel
theorem dL_areAlike_81 : decode cL_areAlike 81 = .ok (.aload_n 1, 1) := by decide +kernel
theorem dL_areAlike_82 : decode cL_areAlike 82 = .ok (.invokestatic 143, 3) := by decide +kernel
theorem dL_areAlike_85 : decode cL_areAlike 85 = .ok (.if_icmp .ne 63, 3) := by decide +kernel
theorem dL_areAlike_88 : decode cL_areAlike 88 = .ok (.aload_n 0, 1) := by decide +kernel
theorem dL_areAlike_89 : decode cL_areAlike 89 = .ok (.invokevirtual 146, 3) := by decide +kernel
theorem dL_areAlike_92 : decode cL_areAlike 92 = .ok (.aload_n 1, 1) := by decide +kernel
theorem dL_areAlike_93 : decode cL_areAlike 93 = .ok (.invokevirtual 146, 3) := by decide +kernel
theorem dL_areAlike_96 : decode cL_areAlike 96 = .ok (.if_icmp .ne 52, 3) := by decide +kernel
theorem dL_areAlike_99 : decode cL_areAlike 99 = .ok (.aload_n 0, 1) := by decide +kernel
theorem dL_areAlike_100 : decode cL_areAlike 100 = .ok (.invokevirtual 132, 3) := by decide +kernel
theorem dL_areAlike_103 : decode cL_areAlike 103 = .ok (.aload_n 1, 1) := by decide +kernel
theorem dL_areAlike_104 : decode cL_areAlike 104 = .ok (.invokevirtual 132, 3) := by decide +kernel
theorem dL_areAlike_107 : decode cL_areAlike 107 = .ok (.if_icmp .ne 41, 3) := by decide +kernel
theorem dL_areAlike_110 : decode cL_areAlike 110 = .ok (.aload_n 0, 1) := by decide +kernel
theorem dL_areAlike_111 : decode cL_areAlike 111 = .ok (.invokevirtual 149, 3) := by decide +kernel
theorem dL_areAlike_114 : decode cL_areAlike 114 = .ok (.aload_n 1, 1) := by decide +kernel
theorem dL_areAlike_115 : decode cL_areAlike 115 = .ok (.invokevirtual 149, 3) := by decide +kernel
theorem dL_areAlike_118 : decode cL_areAlike 118 = .ok (.if_icmp .ne 30, 3) := by decide +kernel
theorem dL_areAlike_121 : decode cL_areAlike 121 = .ok (.aload_n 0, 1) := by decide +kernel
theorem dL_areAlike_122 : decode cL_areAlike 122 = .ok (.invokevirtual 152, 3) := by decide +kernel
theorem dL_areAlike_125 : decode cL_areAlike 125 = .ok (.aload_n 1, 1) := by decide +kernel
theorem dL_areAlike_126 : decode cL_areAlike 126 = .ok (.invokevirtual 152, 3) := by decide +kernel
theorem dL_areAlike_129 : decode cL_areAlike 129 = .ok (.if_icmp .ne 19, 3) := by decide +kernel
theorem dL_areAlike_132 : decode cL_areAlike 132 = .ok (.aload_n 0, 1) := by decide +kernel
theorem dL_areAlike_133 : decode cL_areAlike 133 = .ok (.invokevirtual 155, 3) := by decide +kernel
theorem dL_areAlike_136 : decode cL_areAlike 136 = .ok (.aload_n 1, 1) := by decide +kernel
theorem dL_areAlike_137 : decode cL_areAlike 137 = .ok (.invokevirtual 155, 3) := by decide +kernel
theorem dL_areAlike_140 : decode cL_areAlike 140 = .ok (.dcmp .l, 1) := by decide +kernel
theorem dL_areAlike_141 : decode cL_areAlike 141 = .ok (.ifCond .ne 7, 3) := by decide +kernel
theorem dL_areAlike_144 : decode cL_areAlike 144 = .ok (.iconst 1, 1) := by decide +kernel
theorem dL_areAlike_145 : decode cL_areAlike 145 = .ok (.goto 4, 3) := by decide +kernel
theorem dL_areAlike_148 : decode cL_areAlike 148 = .ok (.iconst 0, 1) := by decide +kernel
theorem dL_areAlike_149 : decode cL_areAlike 149 = .ok (.istore_n 2, 1) := by decide +kernel
theorem dL_areAlike_150 : decode cL_areAlike 150 = .ok (.iconst 0, 1) := by decide +kernel
theorem dL_areAlike_151 : decode cL_areAlike 151 = .ok (.istore_n 3, 1) := by decide +kernel
theorem dL_areAlike_152 : decode cL_areAlike 152 = .ok (.iload_n 3, 1) := by decide +kernel
theorem dL_areAlike_153 : decode cL_areAlike 153 = .ok (.bipush 26, 2) := by decide +kernel
theorem dL_areAlike_155 : decode cL_areAlike 155 = .ok (.if_icmp .ge 148, 3) := by decide +kernel
theorem dL_areAlike_158 : decode cL_areAlike 158 = .ok (.iload_n 2, 1) := by decide +kernel
theorem dL_areAlike_159 : decode cL_areAlike 159 = .ok (.ifCond .eq 136, 3) := by decide +kernel
theorem dL_areAlike_162 : decode cL_areAlike 162 = .ok (.aload_n 0, 1) := by decide +kernel
theorem dL_areAlike_163 : decode cL_areAlike 163 = .ok (.iload_n 3, 1) := by decide +kernel
theorem dL_areAlike_164 : decode cL_areAlike 164 = .ok (.invokestatic 129, 3) := by decide +kernel
theorem dL_areAlike_167 : decode cL_areAlike 167 = .ok (.aload_n 1, 1) := by decide +kernel
theorem dL_areAlike_168 : decode cL_areAlike 168 = .ok (.iload_n 3, 1) := by decide +kernel
theorem dL_areAlike_169 : decode cL_areAlike 169 = .ok (.invokestatic 129, 3) := by decide +kernel
theorem dL_areAlike_172 : decode cL_areAlike 172 = .ok (.if_icmp .ne 123, 3) := by decide +kernel
theorem dL_areAlike_175 : decode cL_areAlike 175 = .ok (.aload_n 0, 1) := by decide +kernel
theorem dL_areAlike_176 : decode cL_areAlike 176 = .ok (.iload_n 3, 1) := by decide +kernel
theorem dL_areAlike_177 : decode cL_areAlike 177 = .ok (.invokestatic 123, 3) := by decide +kernel
theorem dL_areAlike_180 : decode cL_areAlike 180 = .ok (.aload_n 1, 1) := by decide +kernel
theorem dL_areAlike_181 : decode cL_areAlike 181 = .ok (.iload_n 3, 1) := by decide +kernel
theorem dL_areAlike_182 : decode cL_areAlike 182 = .ok (.invokestatic 123, 3) := by decide +kernel
theorem dL_areAlike_185 : decode cL_areAlike 185 = .ok (.if_icmp .ne 110, 3) := by decide +kernel
theorem dL_areAlike_188 : decode cL_areAlike 188 = .ok (.aload_n 0, 1) := by decide +kernel
theorem dL_areAlike_189 : decode cL_areAlike 189 = .ok (.iload_n 3, 1) := by decide +kernel
theorem dL_areAlike_190 : decode cL_areAlike 190 = .ok (.invokestatic 159, 3) := by decide +kernel
theorem dL_areAlike_193 : decode cL_areAlike 193 = .ok (.aload_n 1, 1) := by decide +kernel
theorem dL_areAlike_194 : decode cL_areAlike 194 = .ok (.iload_n 3, 1) := by decide +kernel
theorem dL_areAlike_195 : decode cL_areAlike 195 = .ok (.invokestatic 159, 3) := by decide +kernel
theorem dL_areAlike_198 : decode cL_areAlike 198 = .ok (.if_icmp .ne 97, 3) := by decide +kernel
theorem dL_areAlike_201 : decode cL_areAlike 201 = .ok (.aload_n 0, 1) := by decide +kernel
theorem dL_areAlike_202 : decode cL_areAlike 202 = .ok (.iload_n 3, 1) := by decide +kernel
theorem dL_areAlike_203 : decode cL_areAlike 203 = .ok (.invokestatic 162, 3) := by decide +kernel
theorem dL_areAlike_206 : decode cL_areAlike 206 = .ok (.aload_n 1, 1) := by decide +kernel
theorem dL_areAlike_207 : decode cL_areAlike 207 = .ok (.iload_n 3, 1) := by decide +kernel
theorem dL_areAlike_208 : decode cL_areAlike 208 = .ok (.invokestatic 162, 3) := by decide +kernel
theorem dL_areAlike_211 : decode cL_areAlike 211 = .ok (.if_icmp .ne 84, 3) := by decide +kernel
theorem dL_areAlike_214 : decode cL_areAlike 214 = .ok (.aload_n 0, 1) := by decide +kernel
theorem dL_areAlike_215 : decode cL_areAlike 215 = .ok (.iload_n 3, 1) := by decide +kernel
theorem dL_areAlike_216 : decode cL_areAlike 216 = .ok (.invokestatic 164, 3) := by decide +kernel
theorem dL_areAlike_219 : decode cL_areAlike 219 = .ok (.aload_n 1, 1) := by decide +kernel
theorem dL_areAlike_220 : decode cL_areAlike 220 = .ok (.iload_n 3, 1) := by decide +kernel
theorem dL_areAlike_221 : decode cL_areAlike 221 = .ok (.invokestatic 164, 3) := by decide +kernel
theorem dL_areAlike_224 : decode cL_areAlike 224 = .ok (.if_icmp .ne 71, 3) := by decide +kernel
theorem dL_areAlike_227 : decode cL_areAlike 227 = .ok (.aload_n 0, 1) := by decide +kernel
theorem dL_areAlike_228 : decode cL_areAlike 228 = .ok (.iload_n 3, 1) := by decide +kernel
theorem dL_areAlike_229 : decode cL_areAlike 229 = .ok (.invokestatic 167, 3) := by decide +kernel
theorem dL_areAlike_232 : decode cL_areAlike 232 = .ok (.aload_n 1, 1) := by decide +kernel
theorem dL_areAlike_233 : decode cL_areAlike 233 = .ok (.iload_n 3, 1) := by decide +kernel
theorem dL_areAlike_234 : decode cL_areAlike 234 = .ok (.invokestatic 167, 3) := by decide +kernel
theorem dL_areAlike_237 : decode cL_areAlike 237 = .ok (.if_icmp .ne 58, 3) := by decide +kernel
theorem dL_areAlike_240 : decode cL_areAlike 240 = .ok (.aload_n 0, 1) := by decide +kernel
theorem dL_areAlike_241 : decode cL_areAlike 241 = .ok (.iload_n 3, 1) := by decide +kernel
theorem dL_areAlike_242 : decode cL_areAlike 242 = .ok (.invokestatic 170, 3) := by decide +kernel
theorem dL_areAlike_245 : decode cL_areAlike 245 = .ok (.aload_n 1, 1) := by decide +kernel
theorem dL_areAlike_246 : decode cL_areAlike 246 = .ok (.iload_n 3, 1) := by decide +kernel
theorem dL_areAlike_247 : decode cL_areAlike 247 = .ok (.invokestatic 170, 3) := by decide +kernel
theorem dL_areAlike_250 : decode cL_areAlike 250 = .ok (.if_icmp .ne 45, 3) := by decide +kernel
theorem dL_areAlike_253 : decode cL_areAlike 253 = .ok (.aload_n 0, 1) := by decide +kernel
theorem dL_areAlike_254 : decode cL_areAlike 254 = .ok (.bipush 40, 2) := by decide +kernel
theorem dL_areAlike_256 : decode cL_areAlike 256 = .ok (.iload_n 3, 1) := by decide +kernel
theorem dL_areAlike_257 : decode cL_areAlike 257 = .ok (.imul, 1) := by decide +kernel
theorem dL_areAlike_258 : decode cL_areAlike 258 = .ok (.invokestatic 172, 3) := by decide +kernel
theorem dL_areAlike_261 : decode cL_areAlike 261 = .ok (.aload_n 1, 1) := by decide +kernel
theorem dL_areAlike_262 : decode cL_areAlike 262 = .ok (.bipush 40, 2) := by decide +kernel
theorem dL_areAlike_264 : decode cL_areAlike 264 = .ok (.iload_n 3, 1) := by decide +kernel
theorem dL_areAlike_265 : decode cL_areAlike 265 = .ok (.imul, 1) := by decide +kernel
theorem dL_areAlike_266 : decode cL_areAlike 266 = .ok (.invokestatic 172, 3) := by decide +kernel
theorem dL_areAlike_269 : decode cL_areAlike 269 = .ok (.if_icmp .ne 26, 3) := by decide +kernel
theorem dL_areAlike_272 : decode cL_areAlike 272 = .ok (.aload_n 0, 1) := by decide +kernel
theorem dL_areAlike_273 : decode cL_areAlike 273 = .ok (.bipush 40, 2) := by decide +kernel
theorem dL_areAlike_275 : decode cL_areAlike 275 = .ok (.iload_n 3, 1) := by decide +kernel
theorem dL_areAlike_276 : decode cL_areAlike 276 = .ok (.imul, 1) := by decide +kernel
theorem dL_areAlike_277 : decode cL_areAlike 277 = .ok (.invokestatic 175, 3) := by decide +kernel
theorem dL_areAlike_280 : decode cL_areAlike 280 = .ok (.aload_n 1, 1) := by decide +kernel
theorem dL_areAlike_281 : decode cL_areAlike 281 = .ok (.bipush 40, 2) := by decide +kernel
theorem dL_areAlike_283 : decode cL_areAlike 283 = .ok (.iload_n 3, 1) := by decide +kernel
theorem dL_areAlike_284 : decode cL_areAlike 284 = .ok (.imul, 1) := by decide +kernel
theorem dL_areAlike_285 : decode cL_areAlike 285 = .ok (.invokestatic 175, 3) := by decide +kernel
theorem dL_areAlike_288 : decode cL_areAlike 288 = .ok (.if_icmp .ne 7, 3) := by decide +kernel
theorem dL_areAlike_291 : decode cL_areAlike 291 = .ok (.iconst 1, 1) := by decide +kernel
theorem dL_areAlike_292 : decode cL_areAlike 292 = .ok (.goto 4, 3) := by decide +kernel
theorem dL_areAlike_295 : decode cL_areAlike 295 = .ok (.iconst 0, 1) := by decide +kernel
theorem dL_areAlike_296 : decode cL_areAlike 296 = .ok (.istore_n 2, 1) := by decide +kernel
theorem dL_areAlike_297 : decode cL_areAlike 297 = .ok (.iinc 3 1, 3) := by decide +kernel
theorem dL_areAlike_300 : decode cL_areAlike 300 = .ok (.goto (-148), 3) := by decide +kernel
theorem dL_areAlike_303 : decode cL_areAlike 303 = .ok (.iload_n 2, 1) := by decide +kernel
theorem dL_areAlike_304 : decode cL_areAlike 304 = .ok (.ireturn, 1) := by decide +kernel
set_option maxRecDepth 20000 in
theorem ggL_isWell_X8_counters : GoodIn wsL_isWell wsX8_counters := goodIn_r _ [6, 7, 8, 9, 10, 207, 208, 209, 210, 211, 212, 213, 214, 215, 216, 217, 218, 219, 220, 221, 222] (by decide +kernel) (by decide +kernel)
set_option maxRecDepth 20000 in
theorem gL_isWell_X8_counters : GoodIn wsL_isWell (wsV RL 102 RX8 yX8_counters wsX8_counters) := goodIn_app (goodIn_of _ (by decide +kernel)) ggL_isWell_X8_counters
set_option maxRecDepth 20000 in
theorem ggL_isWell_X8_capacity : GoodIn wsL_isWell wsX8_capacity := goodIn_r _ [14, 7, 15, 207, 208, 209, 210, 211, 212, 213] (by decide +kernel) (by decide +kernel)
set_option maxRecDepth 20000 in
theorem gL_isWell_X8_capacity : GoodIn wsL_isWell (wsV RL 137 RX8 yX8_capacity wsX8_capacity) := goodIn_app (goodIn_of _ (by decide +kernel)) ggL_isWell_X8_capacity
set_option maxRecDepth 20000 in
theorem ggL_isWell_X8_wornCounters : GoodIn wsL_isWell wsX8_wornCounters := goodIn_r _ [19, 7, 8, 20, 21, 207, 208, 209, 210, 211, 212, 213, 214, 215, 216, 223, 224, 225, 226] (by decide +kernel) (by decide +kernel)
set_option maxRecDepth 20000 in
theorem gL_isWell_X8_wornCounters : GoodIn wsL_isWell (wsV RL 140 RX8 yX8_wornCounters wsX8_wornCounters) := goodIn_app (goodIn_of _ (by decide +kernel)) ggL_isWell_X8_wornCounters
set_option maxRecDepth 20000 in
theorem ggL_isWell_X8_floor : GoodIn wsL_isWell wsX8_floor := goodIn_r _ [25, 7, 8, 9, 26, 27, 28, 29, 30, 31, 32, 33, 34, 35, 36, 37, 38, 39, 40, 41, 42, 43, 44, 45, 46, 207, 208, 209, 210, 211, 212, 213, 214, 215, 216, 217, 218, 219, 220, 221, 222] (by decide +kernel) (by decide +kernel)
set_option maxRecDepth 20000 in
theorem gL_isWell_X8_floor : GoodIn wsL_isWell (wsV RL 120 RX8 yX8_floor wsX8_floor) := goodIn_app (goodIn_of _ (by decide +kernel)) ggL_isWell_X8_floor
set_option maxRecDepth 20000 in
theorem ggL_isWell_L_count : GoodIn wsL_isWell wsL_count := goodIn_ca (goodIn_r _ [50, 51, 52, 53, 54, 55, 5, 56, 7, 8, 57, 58, 59, 60, 61, 62, 207, 208, 209, 210, 211, 212, 213, 214, 215, 216] (by decide +kernel) (by decide +kernel)) (goodIn_sub (fun _ h => List.mem_cons_of_mem _ (List.mem_append_left _ (List.mem_append_left _ (List.mem_append_right _ h)))) (by decide +kernel))
set_option maxRecDepth 20000 in
theorem gL_isWell_L_count : GoodIn wsL_isWell (va_wsS RL 129 yL_count wsL_count) := goodIn_app (goodIn_of _ (by decide +kernel)) ggL_isWell_L_count
set_option maxRecDepth 20000 in
theorem ggL_isWell_L_surplus : GoodIn wsL_isWell wsL_surplus := goodIn_ca (goodIn_ca (goodIn_r _ [65, 51, 66, 52, 1, 67, 68, 69, 5, 70, 71, 72, 7, 8, 9, 73, 74, 58, 59, 60, 61, 62, 207, 208, 209, 210, 211, 212, 213, 214, 215, 216, 217, 218, 219, 220, 221, 222] (by decide +kernel) (by decide +kernel)) (goodIn_sub (fun _ h => List.mem_cons_of_mem _ (List.mem_append_left _ (List.mem_append_right _ h))) (by decide +kernel))) (goodIn_sub (fun _ h => List.mem_cons_of_mem _ (List.mem_append_left _ (List.mem_append_left _ (List.mem_append_right _ h)))) (by decide +kernel))
set_option maxRecDepth 20000 in
theorem gL_isWell_L_surplus : GoodIn wsL_isWell (va_wsS RL 162 yL_surplus wsL_surplus) := goodIn_app (goodIn_of _ (by decide +kernel)) ggL_isWell_L_surplus
set_option maxRecDepth 20000 in
theorem ggL_isWell_L_estimate : GoodIn wsL_isWell wsL_estimate := goodIn_ca (goodIn_r _ [77, 51, 52, 78, 79, 80, 5, 81, 7, 8, 9, 58, 59, 60, 61, 62, 82, 83, 84, 29, 85, 31, 86, 27, 28, 30, 32, 33, 34, 35, 36, 37, 38, 39, 40, 41, 42, 43, 44, 45, 46, 207, 208, 209, 210, 211, 212, 213, 214, 215, 216, 217, 218, 219, 220, 221, 222] (by decide +kernel) (by decide +kernel)) (goodIn_sub (fun _ h => List.mem_cons_of_mem _ (List.mem_append_left _ (List.mem_append_left _ (List.mem_append_right _ h)))) (by decide +kernel))
set_option maxRecDepth 20000 in
theorem gL_isWell_L_estimate : GoodIn wsL_isWell (va_wsS RL 123 yL_estimate wsL_estimate) := goodIn_app (goodIn_of _ (by decide +kernel)) ggL_isWell_L_estimate
set_option maxRecDepth 20000 in
theorem ggL_isWell_L_sure : GoodIn wsL_isWell wsL_sure := goodIn_ca (goodIn_r _ [89, 51, 52, 90, 91, 92, 5, 93, 7, 8, 9, 58, 59, 60, 61, 62, 94, 95, 96, 29, 97, 31, 98, 207, 208, 209, 210, 211, 212, 213, 214, 215, 216, 217, 218, 219, 220, 221, 222] (by decide +kernel) (by decide +kernel)) (goodIn_sub (fun _ h => List.mem_cons_of_mem _ (List.mem_append_left _ (List.mem_append_left _ (List.mem_append_right _ h)))) (by decide +kernel))
set_option maxRecDepth 20000 in
theorem gL_isWell_L_sure : GoodIn wsL_isWell (va_wsS RL 159 yL_sure wsL_sure) := goodIn_app (goodIn_of _ (by decide +kernel)) ggL_isWell_L_sure
set_option maxRecDepth 20000 in
theorem ggL_isWell_L_above : GoodIn wsL_isWell wsL_above := goodIn_ca (goodIn_r _ [101, 51, 52, 102, 103, 104, 5, 105, 7, 8, 9, 58, 59, 60, 61, 62, 82, 83, 84, 29, 85, 31, 86, 27, 28, 30, 32, 33, 34, 35, 36, 37, 38, 39, 40, 41, 42, 43, 44, 45, 46, 26, 207, 208, 209, 210, 211, 212, 213, 214, 215, 216, 217, 218, 219, 220, 221, 222] (by decide +kernel) (by decide +kernel)) (goodIn_sub (fun _ h => List.mem_cons_of_mem _ (List.mem_append_left _ (List.mem_append_left _ (List.mem_append_right _ h)))) (by decide +kernel))
set_option maxRecDepth 20000 in
theorem gL_isWell_L_above : GoodIn wsL_isWell (va_wsS RL 167 yL_above wsL_above) := goodIn_app (goodIn_of _ (by decide +kernel)) ggL_isWell_L_above
set_option maxRecDepth 20000 in
theorem ggL_isWell_L_worn : GoodIn wsL_isWell wsL_worn := goodIn_ca (goodIn_r _ [108, 51, 52, 109, 110, 111, 5, 112, 7, 8, 20, 113, 58, 59, 60, 61, 62, 207, 208, 209, 210, 211, 212, 213, 214, 215, 216, 223, 224, 225, 226] (by decide +kernel) (by decide +kernel)) (goodIn_sub (fun _ h => List.mem_cons_of_mem _ (List.mem_append_left _ (List.mem_append_left _ (List.mem_append_right _ h)))) (by decide +kernel))
set_option maxRecDepth 20000 in
theorem gL_isWell_L_worn : GoodIn wsL_isWell (va_wsS RL 164 yL_worn wsL_worn) := goodIn_app (goodIn_of _ (by decide +kernel)) ggL_isWell_L_worn
set_option maxRecDepth 20000 in
theorem ggL_isWell_X8_wear : GoodIn wsL_isWell wsX8_wear := goodIn_r _ [117, 7, 8, 20, 118, 207, 208, 209, 210, 211, 212, 213, 214, 215, 216, 223, 224, 225, 226] (by decide +kernel) (by decide +kernel)
set_option maxRecDepth 20000 in
theorem gL_isWell_X8_wear : GoodIn wsL_isWell (wsV RL 112 RX8 yX8_wear wsX8_wear) := goodIn_app (goodIn_of _ (by decide +kernel)) ggL_isWell_X8_wear
set_option maxRecDepth 20000 in
theorem ggL_isWell_L_loudest : GoodIn wsL_isWell wsL_loudest := goodIn_ca (goodIn_ca (goodIn_r _ [121, 122, 66, 52, 1, 123, 124, 125, 5, 126, 127, 128, 71, 72, 7, 8, 9, 10, 73, 129, 130, 131, 132, 133, 134, 207, 208, 209, 210, 211, 212, 213, 214, 215, 216, 217, 218, 219, 220, 221, 222] (by decide +kernel) (by decide +kernel)) (goodIn_sub (fun _ h => List.mem_cons_of_mem _ (List.mem_append_right _ h)) (by decide +kernel))) (goodIn_sub (fun _ h => List.mem_cons_of_mem _ (List.mem_append_left _ (List.mem_append_right _ h))) (by decide +kernel))
set_option maxRecDepth 20000 in
theorem gL_isWell_L_loudest : GoodIn wsL_isWell (va_wsS RL 170 yL_loudest wsL_loudest) := goodIn_app (goodIn_of _ (by decide +kernel)) ggL_isWell_L_loudest
set_option maxRecDepth 20000 in
theorem ggL_isWell_L_surely : GoodIn wsL_isWell wsL_surely := goodIn_ca (goodIn_r _ [137, 122, 52, 138, 139, 140, 5, 141, 142, 143, 144, 145, 127, 128, 146, 147, 148, 149, 7, 8, 150, 151, 152, 153, 154, 155, 156, 157, 158, 159, 160, 161, 162, 163, 164, 165, 95, 96, 29, 97, 31, 98, 166, 83, 84, 85, 86, 27, 28, 30, 32, 33, 34, 35, 36, 37, 38, 39, 40, 41, 42, 43, 44, 45, 46, 207, 208, 209, 210, 211, 212, 213, 214, 215, 216, 217, 218, 219, 220, 221, 222] (by decide +kernel) (by decide +kernel)) (goodIn_sub (fun _ h => List.mem_cons_of_mem _ (List.mem_append_right _ h)) (by decide +kernel))
set_option maxRecDepth 20000 in
theorem gL_isWell_L_surely : GoodIn wsL_isWell (va_wsS RL 172 yL_surely wsL_surely) := goodIn_app (goodIn_of _ (by decide +kernel)) ggL_isWell_L_surely
set_option maxRecDepth 20000 in
theorem ggL_isWell_L_truly : GoodIn wsL_isWell wsL_truly := goodIn_ca (goodIn_r _ [169, 122, 52, 170, 171, 172, 5, 173, 174, 143, 144, 145, 127, 128, 146, 147, 148, 149, 7, 8, 150, 151, 152, 153, 154, 155, 156, 157, 158, 159, 160, 161, 162, 163, 164, 165, 95, 96, 29, 97, 31, 98, 166, 83, 84, 85, 86, 27, 28, 30, 32, 33, 34, 35, 36, 37, 38, 39, 40, 41, 42, 43, 44, 45, 46, 207, 208, 209, 210, 211, 212, 213, 214, 215, 216, 217, 218, 219, 220, 221, 222] (by decide +kernel) (by decide +kernel)) (goodIn_sub (fun _ h => List.mem_cons_of_mem _ (List.mem_append_right _ h)) (by decide +kernel))
set_option maxRecDepth 20000 in
theorem gL_isWell_L_truly : GoodIn wsL_isWell (va_wsS RL 178 yL_truly wsL_truly) := goodIn_app (goodIn_of _ (by decide +kernel)) ggL_isWell_L_truly
set_option maxRecDepth 20000 in
theorem ggL_isWell_L_perhaps : GoodIn wsL_isWell wsL_perhaps := goodIn_ca (goodIn_r _ [177, 122, 52, 178, 179, 180, 5, 181, 182, 143, 144, 145, 127, 128, 146, 147, 148, 149, 7, 8, 150, 151, 152, 153, 154, 155, 156, 157, 158, 159, 160, 161, 162, 163, 164, 165, 95, 96, 29, 97, 31, 98, 166, 83, 84, 85, 86, 27, 28, 30, 32, 33, 34, 35, 36, 37, 38, 39, 40, 41, 42, 43, 44, 45, 46, 207, 208, 209, 210, 211, 212, 213, 214, 215, 216, 217, 218, 219, 220, 221, 222] (by decide +kernel) (by decide +kernel)) (goodIn_sub (fun _ h => List.mem_cons_of_mem _ (List.mem_append_right _ h)) (by decide +kernel))
set_option maxRecDepth 20000 in
theorem gL_isWell_L_perhaps : GoodIn wsL_isWell (va_wsS RL 175 yL_perhaps wsL_perhaps) := goodIn_app (goodIn_of _ (by decide +kernel)) ggL_isWell_L_perhaps
set_option maxRecDepth 20000 in
theorem ggL_isWell_X8_calls : GoodIn wsL_isWell wsX8_calls := goodIn_r _ [186, 7, 8, 150, 151, 152, 153, 154, 155, 156, 5, 157, 207, 208, 209, 210, 211, 212, 213, 214, 215, 216] (by decide +kernel) (by decide +kernel)
set_option maxRecDepth 20000 in
theorem gL_isWell_X8_calls : GoodIn wsL_isWell (wsV RL 93 RX8 yX8_calls wsX8_calls) := goodIn_app (goodIn_of _ (by decide +kernel)) ggL_isWell_X8_calls
set_option maxRecDepth 20000 in
theorem ggL_isWell_X8_parrotsHeard : GoodIn wsL_isWell wsX8_parrotsHeard := goodIn_r _ [190, 7, 8, 57, 191, 192, 5, 193, 207, 208, 209, 210, 211, 212, 213, 214, 215, 216] (by decide +kernel) (by decide +kernel)
set_option maxRecDepth 20000 in
theorem gL_isWell_X8_parrotsHeard : GoodIn wsL_isWell (wsV RL 132 RX8 yX8_parrotsHeard wsX8_parrotsHeard) := goodIn_app (goodIn_of _ (by decide +kernel)) ggL_isWell_X8_parrotsHeard
set_option maxRecDepth 20000 in
theorem ggL_isWell_X8_callsByCounters : GoodIn wsL_isWell wsX8_callsByCounters := goodIn_r _ [197, 7, 8, 9, 73, 198, 156, 5, 157, 207, 208, 209, 210, 211, 212, 213, 214, 215, 216, 217, 218, 219, 220, 221, 222] (by decide +kernel) (by decide +kernel)
set_option maxRecDepth 20000 in
theorem gL_isWell_X8_callsByCounters : GoodIn wsL_isWell (wsV RL 146 RX8 yX8_callsByCounters wsX8_callsByCounters) := goodIn_app (goodIn_of _ (by decide +kernel)) ggL_isWell_X8_callsByCounters
set_option maxRecDepth 20000 in
theorem ggL_isWell_X8_greatestError : GoodIn wsL_isWell wsX8_greatestError := goodIn_r _ [202, 7, 8, 9, 57, 203, 204, 205, 206, 82, 83, 84, 29, 85, 31, 86, 27, 28, 30, 32, 33, 34, 35, 36, 37, 38, 39, 40, 41, 42, 43, 44, 45, 46, 207, 208, 209, 210, 211, 212, 213, 214, 215, 216, 217, 218, 219, 220, 221, 222] (by decide +kernel) (by decide +kernel)
set_option maxRecDepth 20000 in
theorem gL_isWell_X8_greatestError : GoodIn wsL_isWell (wsV RL 149 RX8 yX8_greatestError wsX8_greatestError) := goodIn_app (goodIn_of _ (by decide +kernel)) ggL_isWell_X8_greatestError
theorem dL_isWell_0 : decode cL_isWell 0 = .ok (.iconst 0, 1) := by decide +kernel
theorem dL_isWell_1 : decode cL_isWell 1 = .ok (.istore_n 1, 1) := by decide +kernel
theorem dL_isWell_2 : decode cL_isWell 2 = .ok (.iconst 0, 1) := by decide +kernel
theorem dL_isWell_3 : decode cL_isWell 3 = .ok (.istore_n 2, 1) := by decide +kernel
theorem dL_isWell_4 : decode cL_isWell 4 = .ok (.iconst 0, 1) := by decide +kernel
theorem dL_isWell_5 : decode cL_isWell 5 = .ok (.istore_n 3, 1) := by decide +kernel
theorem dL_isWell_6 : decode cL_isWell 6 = .ok (.iconst 0, 1) := by decide +kernel
theorem dL_isWell_7 : decode cL_isWell 7 = .ok (.istore 4, 2) := by decide +kernel
theorem dL_isWell_9 : decode cL_isWell 9 = .ok (.aload_n 0, 1) := by decide +kernel
theorem dL_isWell_10 : decode cL_isWell 10 = .ok (.invokevirtual 102, 3) := by decide +kernel
theorem dL_isWell_13 : decode cL_isWell 13 = .ok (.aload_n 0, 1) := by decide +kernel
theorem dL_isWell_14 : decode cL_isWell 14 = .ok (.invokevirtual 137, 3) := by decide +kernel
theorem dL_isWell_17 : decode cL_isWell 17 = .ok (.iconst 1, 1) := by decide +kernel
theorem dL_isWell_18 : decode cL_isWell 18 = .ok (.iadd, 1) := by decide +kernel
theorem dL_isWell_19 : decode cL_isWell 19 = .ok (.if_icmp .gt 49, 3) := by decide +kernel
theorem dL_isWell_22 : decode cL_isWell 22 = .ok (.aload_n 0, 1) := by decide +kernel
theorem dL_isWell_23 : decode cL_isWell 23 = .ok (.invokevirtual 140, 3) := by decide +kernel
theorem dL_isWell_26 : decode cL_isWell 26 = .ok (.aload_n 0, 1) := by decide +kernel
theorem dL_isWell_27 : decode cL_isWell 27 = .ok (.invokevirtual 137, 3) := by decide +kernel
theorem dL_isWell_30 : decode cL_isWell 30 = .ok (.if_icmp .gt 38, 3) := by decide +kernel
theorem dL_isWell_33 : decode cL_isWell 33 = .ok (.aload_n 0, 1) := by decide +kernel
theorem dL_isWell_34 : decode cL_isWell 34 = .ok (.invokevirtual 120, 3) := by decide +kernel
theorem dL_isWell_37 : decode cL_isWell 37 = .ok (.ifCond .le 7, 3) := by decide +kernel
theorem dL_isWell_40 : decode cL_isWell 40 = .ok (.iconst 1, 1) := by decide +kernel
theorem dL_isWell_41 : decode cL_isWell 41 = .ok (.goto 4, 3) := by decide +kernel
theorem dL_isWell_44 : decode cL_isWell 44 = .ok (.iconst 0, 1) := by decide +kernel
theorem dL_isWell_45 : decode cL_isWell 45 = .ok (.aload_n 0, 1) := by decide +kernel
theorem dL_isWell_46 : decode cL_isWell 46 = .ok (.invokevirtual 102, 3) := by decide +kernel
theorem dL_isWell_49 : decode cL_isWell 49 = .ok (.aload_n 0, 1) := by decide +kernel
theorem dL_isWell_50 : decode cL_isWell 50 = .ok (.invokevirtual 137, 3) := by decide +kernel
theorem dL_isWell_53 : decode cL_isWell 53 = .ok (.if_icmp .le 7, 3) := by decide +kernel
theorem dL_isWell_56 : decode cL_isWell 56 = .ok (.iconst 1, 1) := by decide +kernel
theorem dL_isWell_57 : decode cL_isWell 57 = .ok (.goto 4, 3) := by decide +kernel
theorem dL_isWell_60 : decode cL_isWell 60 = .ok (.iconst 0, 1) := by decide +kernel
theorem dL_isWell_61 : decode cL_isWell 61 = .ok (.if_icmp .ne 7, 3) := by decide +kernel
theorem dL_isWell_64 : decode cL_isWell 64 = .ok (.iconst 1, 1) := by decide +kernel
theorem dL_isWell_65 : decode cL_isWell 65 = .ok (.goto 4, 3) := by decide +kernel
theorem dL_isWell_68 : decode cL_isWell 68 = .ok (.iconst 0, 1) := by decide +kernel
theorem dL_isWell_69 : decode cL_isWell 69 = .ok (.istore 5, 2) := by decide +kernel
theorem dL_isWell_71 : decode cL_isWell 71 = .ok (.iconst 0, 1) := by decide +kernel
theorem dL_isWell_72 : decode cL_isWell 72 = .ok (.istore 6, 2) := by decide +kernel
theorem dL_isWell_74 : decode cL_isWell 74 = .ok (.iload 6, 2) := by decide +kernel
theorem dL_isWell_76 : decode cL_isWell 76 = .ok (.bipush 26, 2) := by decide +kernel
theorem dL_isWell_78 : decode cL_isWell 78 = .ok (.if_icmp .ge 250, 3) := by decide +kernel
theorem dL_isWell_81 : decode cL_isWell 81 = .ok (.aload_n 0, 1) := by decide +kernel
theorem dL_isWell_82 : decode cL_isWell 82 = .ok (.iload 6, 2) := by decide +kernel
theorem dL_isWell_84 : decode cL_isWell 84 = .ok (.invokestatic 129, 3) := by decide +kernel
theorem dL_isWell_87 : decode cL_isWell 87 = .ok (.istore 7, 2) := by decide +kernel
theorem dL_isWell_89 : decode cL_isWell 89 = .ok (.iload_n 1, 1) := by decide +kernel
theorem dL_isWell_90 : decode cL_isWell 90 = .ok (.iload 7, 2) := by decide +kernel
theorem dL_isWell_92 : decode cL_isWell 92 = .ok (.iadd, 1) := by decide +kernel
theorem dL_isWell_93 : decode cL_isWell 93 = .ok (.istore_n 1, 1) := by decide +kernel
theorem dL_isWell_94 : decode cL_isWell 94 = .ok (.iload_n 2, 1) := by decide +kernel
theorem dL_isWell_95 : decode cL_isWell 95 = .ok (.iload 7, 2) := by decide +kernel
theorem dL_isWell_97 : decode cL_isWell 97 = .ok (.ifCond .le 7, 3) := by decide +kernel
theorem dL_isWell_100 : decode cL_isWell 100 = .ok (.iconst 1, 1) := by decide +kernel
theorem dL_isWell_101 : decode cL_isWell 101 = .ok (.goto 4, 3) := by decide +kernel
theorem dL_isWell_104 : decode cL_isWell 104 = .ok (.iconst 0, 1) := by decide +kernel
theorem dL_isWell_105 : decode cL_isWell 105 = .ok (.iadd, 1) := by decide +kernel
theorem dL_isWell_106 : decode cL_isWell 106 = .ok (.istore_n 2, 1) := by decide +kernel
theorem dL_isWell_107 : decode cL_isWell 107 = .ok (.iload_n 3, 1) := by decide +kernel
theorem dL_isWell_108 : decode cL_isWell 108 = .ok (.aload_n 0, 1) := by decide +kernel
theorem dL_isWell_109 : decode cL_isWell 109 = .ok (.iload 6, 2) := by decide +kernel
theorem dL_isWell_111 : decode cL_isWell 111 = .ok (.invokestatic 162, 3) := by decide +kernel
theorem dL_isWell_114 : decode cL_isWell 114 = .ok (.ldc 20, 2) := by decide +kernel
theorem dL_isWell_116 : decode cL_isWell 116 = .ok (.if_icmp .ne 7, 3) := by decide +kernel
theorem dL_isWell_119 : decode cL_isWell 119 = .ok (.iconst 0, 1) := by decide +kernel
theorem dL_isWell_120 : decode cL_isWell 120 = .ok (.goto 9, 3) := by decide +kernel
theorem dL_isWell_123 : decode cL_isWell 123 = .ok (.aload_n 0, 1) := by decide +kernel
theorem dL_isWell_124 : decode cL_isWell 124 = .ok (.iload 6, 2) := by decide +kernel
theorem dL_isWell_126 : decode cL_isWell 126 = .ok (.invokestatic 123, 3) := by decide +kernel
theorem dL_isWell_129 : decode cL_isWell 129 = .ok (.iadd, 1) := by decide +kernel
theorem dL_isWell_130 : decode cL_isWell 130 = .ok (.istore_n 3, 1) := by decide +kernel
theorem dL_isWell_131 : decode cL_isWell 131 = .ok (.aload_n 0, 1) := by decide +kernel
theorem dL_isWell_132 : decode cL_isWell 132 = .ok (.iload 6, 2) := by decide +kernel
theorem dL_isWell_134 : decode cL_isWell 134 = .ok (.invokestatic 123, 3) := by decide +kernel
theorem dL_isWell_137 : decode cL_isWell 137 = .ok (.iload 7, 2) := by decide +kernel
theorem dL_isWell_139 : decode cL_isWell 139 = .ok (.isub, 1) := by decide +kernel
theorem dL_isWell_140 : decode cL_isWell 140 = .ok (.iload 4, 2) := by decide +kernel
theorem dL_isWell_142 : decode cL_isWell 142 = .ok (.if_icmp .le 15, 3) := by decide +kernel
theorem dL_isWell_145 : decode cL_isWell 145 = .ok (.aload_n 0, 1) := by decide +kernel
theorem dL_isWell_146 : decode cL_isWell 146 = .ok (.iload 6, 2) := by decide +kernel
theorem dL_isWell_148 : decode cL_isWell 148 = .ok (.invokestatic 123, 3) := by decide +kernel
theorem dL_isWell_151 : decode cL_isWell 151 = .ok (.iload 7, 2) := by decide +kernel
theorem dL_isWell_153 : decode cL_isWell 153 = .ok (.isub, 1) := by decide +kernel
theorem dL_isWell_154 : decode cL_isWell 154 = .ok (.goto 5, 3) := by decide +kernel
theorem dL_isWell_157 : decode cL_isWell 157 = .ok (.iload 4, 2) := by decide +kernel
theorem dL_isWell_159 : decode cL_isWell 159 = .ok (.istore 4, 2) := by decide +kernel
theorem dL_isWell_161 : decode cL_isWell 161 = .ok (.iload 5, 2) := by decide +kernel
theorem dL_isWell_163 : decode cL_isWell 163 = .ok (.ifCond .eq 156, 3) := by decide +kernel
theorem dL_isWell_166 : decode cL_isWell 166 = .ok (.aload_n 0, 1) := by decide +kernel
theorem dL_isWell_167 : decode cL_isWell 167 = .ok (.iload 6, 2) := by decide +kernel
theorem dL_isWell_169 : decode cL_isWell 169 = .ok (.invokestatic 159, 3) := by decide +kernel
theorem dL_isWell_172 : decode cL_isWell 172 = .ok (.ifCond .lt 147, 3) := by decide +kernel
theorem dL_isWell_175 : decode cL_isWell 175 = .ok (.aload_n 0, 1) := by decide +kernel
theorem dL_isWell_176 : decode cL_isWell 176 = .ok (.iload 6, 2) := by decide +kernel
theorem dL_isWell_178 : decode cL_isWell 178 = .ok (.invokestatic 159, 3) := by decide +kernel
theorem dL_isWell_181 : decode cL_isWell 181 = .ok (.iload 7, 2) := by decide +kernel
theorem dL_isWell_183 : decode cL_isWell 183 = .ok (.if_icmp .gt 136, 3) := by decide +kernel
theorem dL_isWell_186 : decode cL_isWell 186 = .ok (.aload_n 0, 1) := by decide +kernel
theorem dL_isWell_187 : decode cL_isWell 187 = .ok (.iload 6, 2) := by decide +kernel
theorem dL_isWell_189 : decode cL_isWell 189 = .ok (.invokestatic 123, 3) := by decide +kernel
theorem dL_isWell_192 : decode cL_isWell 192 = .ok (.iload 7, 2) := by decide +kernel
theorem dL_isWell_194 : decode cL_isWell 194 = .ok (.if_icmp .lt 125, 3) := by decide +kernel
theorem dL_isWell_197 : decode cL_isWell 197 = .ok (.aload_n 0, 1) := by decide +kernel
theorem dL_isWell_198 : decode cL_isWell 198 = .ok (.iload 6, 2) := by decide +kernel
theorem dL_isWell_200 : decode cL_isWell 200 = .ok (.invokestatic 123, 3) := by decide +kernel
theorem dL_isWell_203 : decode cL_isWell 203 = .ok (.aload_n 0, 1) := by decide +kernel
theorem dL_isWell_204 : decode cL_isWell 204 = .ok (.invokevirtual 120, 3) := by decide +kernel
theorem dL_isWell_207 : decode cL_isWell 207 = .ok (.if_icmp .lt 112, 3) := by decide +kernel
theorem dL_isWell_210 : decode cL_isWell 210 = .ok (.aload_n 0, 1) := by decide +kernel
theorem dL_isWell_211 : decode cL_isWell 211 = .ok (.iload 6, 2) := by decide +kernel
theorem dL_isWell_213 : decode cL_isWell 213 = .ok (.invokestatic 167, 3) := by decide +kernel
theorem dL_isWell_216 : decode cL_isWell 216 = .ok (.aload_n 0, 1) := by decide +kernel
theorem dL_isWell_217 : decode cL_isWell 217 = .ok (.iload 6, 2) := by decide +kernel
theorem dL_isWell_219 : decode cL_isWell 219 = .ok (.invokestatic 123, 3) := by decide +kernel
theorem dL_isWell_222 : decode cL_isWell 222 = .ok (.aload_n 0, 1) := by decide +kernel
theorem dL_isWell_223 : decode cL_isWell 223 = .ok (.invokevirtual 120, 3) := by decide +kernel
theorem dL_isWell_226 : decode cL_isWell 226 = .ok (.isub, 1) := by decide +kernel
theorem dL_isWell_227 : decode cL_isWell 227 = .ok (.if_icmp .ne 92, 3) := by decide +kernel
theorem dL_isWell_230 : decode cL_isWell 230 = .ok (.aload_n 0, 1) := by decide +kernel
theorem dL_isWell_231 : decode cL_isWell 231 = .ok (.iload 6, 2) := by decide +kernel
theorem dL_isWell_233 : decode cL_isWell 233 = .ok (.invokestatic 162, 3) := by decide +kernel
theorem dL_isWell_236 : decode cL_isWell 236 = .ok (.ldc 20, 2) := by decide +kernel
theorem dL_isWell_238 : decode cL_isWell 238 = .ok (.if_icmp .ne 28, 3) := by decide +kernel
theorem dL_isWell_241 : decode cL_isWell 241 = .ok (.aload_n 0, 1) := by decide +kernel
theorem dL_isWell_242 : decode cL_isWell 242 = .ok (.iload 6, 2) := by decide +kernel
theorem dL_isWell_244 : decode cL_isWell 244 = .ok (.invokestatic 159, 3) := by decide +kernel
theorem dL_isWell_247 : decode cL_isWell 247 = .ok (.ifCond .ne 72, 3) := by decide +kernel
theorem dL_isWell_250 : decode cL_isWell 250 = .ok (.aload_n 0, 1) := by decide +kernel
theorem dL_isWell_251 : decode cL_isWell 251 = .ok (.iload 6, 2) := by decide +kernel
theorem dL_isWell_253 : decode cL_isWell 253 = .ok (.invokestatic 123, 3) := by decide +kernel
theorem dL_isWell_256 : decode cL_isWell 256 = .ok (.aload_n 0, 1) := by decide +kernel
theorem dL_isWell_257 : decode cL_isWell 257 = .ok (.invokevirtual 120, 3) := by decide +kernel
theorem dL_isWell_260 : decode cL_isWell 260 = .ok (.if_icmp .ne 59, 3) := by decide +kernel
theorem dL_isWell_263 : decode cL_isWell 263 = .ok (.goto 25, 3) := by decide +kernel
theorem dL_isWell_266 : decode cL_isWell 266 = .ok (.aload_n 0, 1) := by decide +kernel
theorem dL_isWell_267 : decode cL_isWell 267 = .ok (.iload 6, 2) := by decide +kernel
theorem dL_isWell_269 : decode cL_isWell 269 = .ok (.invokestatic 159, 3) := by decide +kernel
theorem dL_isWell_272 : decode cL_isWell 272 = .ok (.aload_n 0, 1) := by decide +kernel
theorem dL_isWell_273 : decode cL_isWell 273 = .ok (.iload 6, 2) := by decide +kernel
theorem dL_isWell_275 : decode cL_isWell 275 = .ok (.invokestatic 123, 3) := by decide +kernel
theorem dL_isWell_278 : decode cL_isWell 278 = .ok (.aload_n 0, 1) := by decide +kernel
theorem dL_isWell_279 : decode cL_isWell 279 = .ok (.iload 6, 2) := by decide +kernel
theorem dL_isWell_281 : decode cL_isWell 281 = .ok (.invokestatic 162, 3) := by decide +kernel
theorem dL_isWell_284 : decode cL_isWell 284 = .ok (.isub, 1) := by decide +kernel
theorem dL_isWell_285 : decode cL_isWell 285 = .ok (.if_icmp .ne 34, 3) := by decide +kernel
theorem dL_isWell_288 : decode cL_isWell 288 = .ok (.aload_n 0, 1) := by decide +kernel
theorem dL_isWell_289 : decode cL_isWell 289 = .ok (.iload 6, 2) := by decide +kernel
theorem dL_isWell_291 : decode cL_isWell 291 = .ok (.invokestatic 164, 3) := by decide +kernel
theorem dL_isWell_294 : decode cL_isWell 294 = .ok (.iload 7, 2) := by decide +kernel
theorem dL_isWell_296 : decode cL_isWell 296 = .ok (.if_icmp .gt 23, 3) := by decide +kernel
theorem dL_isWell_299 : decode cL_isWell 299 = .ok (.iload 7, 2) := by decide +kernel
theorem dL_isWell_301 : decode cL_isWell 301 = .ok (.aload_n 0, 1) := by decide +kernel
theorem dL_isWell_302 : decode cL_isWell 302 = .ok (.iload 6, 2) := by decide +kernel
theorem dL_isWell_304 : decode cL_isWell 304 = .ok (.invokestatic 164, 3) := by decide +kernel
theorem dL_isWell_307 : decode cL_isWell 307 = .ok (.aload_n 0, 1) := by decide +kernel
theorem dL_isWell_308 : decode cL_isWell 308 = .ok (.invokevirtual 112, 3) := by decide +kernel
theorem dL_isWell_311 : decode cL_isWell 311 = .ok (.iadd, 1) := by decide +kernel
theorem dL_isWell_312 : decode cL_isWell 312 = .ok (.if_icmp .gt 7, 3) := by decide +kernel
theorem dL_isWell_315 : decode cL_isWell 315 = .ok (.iconst 1, 1) := by decide +kernel
theorem dL_isWell_316 : decode cL_isWell 316 = .ok (.goto 4, 3) := by decide +kernel
theorem dL_isWell_319 : decode cL_isWell 319 = .ok (.iconst 0, 1) := by decide +kernel
theorem dL_isWell_320 : decode cL_isWell 320 = .ok (.istore 5, 2) := by decide +kernel
theorem dL_isWell_322 : decode cL_isWell 322 = .ok (.iinc 6 1, 3) := by decide +kernel
theorem dL_isWell_325 : decode cL_isWell 325 = .ok (.goto (-251), 3) := by decide +kernel
theorem dL_isWell_328 : decode cL_isWell 328 = .ok (.iconst 1, 1) := by decide +kernel
theorem dL_isWell_329 : decode cL_isWell 329 = .ok (.istore 6, 2) := by decide +kernel
theorem dL_isWell_331 : decode cL_isWell 331 = .ok (.iload 6, 2) := by decide +kernel
theorem dL_isWell_333 : decode cL_isWell 333 = .ok (.aload_n 0, 1) := by decide +kernel
theorem dL_isWell_334 : decode cL_isWell 334 = .ok (.invokevirtual 102, 3) := by decide +kernel
theorem dL_isWell_337 : decode cL_isWell 337 = .ok (.if_icmp .ge 76, 3) := by decide +kernel
theorem dL_isWell_340 : decode cL_isWell 340 = .ok (.aload_n 0, 1) := by decide +kernel
theorem dL_isWell_341 : decode cL_isWell 341 = .ok (.iload 6, 2) := by decide +kernel
theorem dL_isWell_343 : decode cL_isWell 343 = .ok (.iconst 1, 1) := by decide +kernel
theorem dL_isWell_344 : decode cL_isWell 344 = .ok (.isub, 1) := by decide +kernel
theorem dL_isWell_345 : decode cL_isWell 345 = .ok (.invokestatic 170, 3) := by decide +kernel
theorem dL_isWell_348 : decode cL_isWell 348 = .ok (.istore 7, 2) := by decide +kernel
theorem dL_isWell_350 : decode cL_isWell 350 = .ok (.aload_n 0, 1) := by decide +kernel
theorem dL_isWell_351 : decode cL_isWell 351 = .ok (.iload 6, 2) := by decide +kernel
theorem dL_isWell_353 : decode cL_isWell 353 = .ok (.invokestatic 170, 3) := by decide +kernel
theorem dL_isWell_356 : decode cL_isWell 356 = .ok (.istore 8, 2) := by decide +kernel
theorem dL_isWell_358 : decode cL_isWell 358 = .ok (.iload 5, 2) := by decide +kernel
theorem dL_isWell_360 : decode cL_isWell 360 = .ok (.ifCond .eq 44, 3) := by decide +kernel
theorem dL_isWell_363 : decode cL_isWell 363 = .ok (.aload_n 0, 1) := by decide +kernel
theorem dL_isWell_364 : decode cL_isWell 364 = .ok (.iload 7, 2) := by decide +kernel
theorem dL_isWell_366 : decode cL_isWell 366 = .ok (.invokestatic 123, 3) := by decide +kernel
theorem dL_isWell_369 : decode cL_isWell 369 = .ok (.aload_n 0, 1) := by decide +kernel
theorem dL_isWell_370 : decode cL_isWell 370 = .ok (.iload 8, 2) := by decide +kernel
theorem dL_isWell_372 : decode cL_isWell 372 = .ok (.invokestatic 123, 3) := by decide +kernel
theorem dL_isWell_375 : decode cL_isWell 375 = .ok (.if_icmp .gt 25, 3) := by decide +kernel
theorem dL_isWell_378 : decode cL_isWell 378 = .ok (.aload_n 0, 1) := by decide +kernel
theorem dL_isWell_379 : decode cL_isWell 379 = .ok (.iload 7, 2) := by decide +kernel
theorem dL_isWell_381 : decode cL_isWell 381 = .ok (.invokestatic 123, 3) := by decide +kernel
theorem dL_isWell_384 : decode cL_isWell 384 = .ok (.aload_n 0, 1) := by decide +kernel
theorem dL_isWell_385 : decode cL_isWell 385 = .ok (.iload 8, 2) := by decide +kernel
theorem dL_isWell_387 : decode cL_isWell 387 = .ok (.invokestatic 123, 3) := by decide +kernel
theorem dL_isWell_390 : decode cL_isWell 390 = .ok (.if_icmp .ne 14, 3) := by decide +kernel
theorem dL_isWell_393 : decode cL_isWell 393 = .ok (.iload 7, 2) := by decide +kernel
theorem dL_isWell_395 : decode cL_isWell 395 = .ok (.iload 8, 2) := by decide +kernel
theorem dL_isWell_397 : decode cL_isWell 397 = .ok (.if_icmp .ge 7, 3) := by decide +kernel
theorem dL_isWell_400 : decode cL_isWell 400 = .ok (.iconst 1, 1) := by decide +kernel
theorem dL_isWell_401 : decode cL_isWell 401 = .ok (.goto 4, 3) := by decide +kernel
theorem dL_isWell_404 : decode cL_isWell 404 = .ok (.iconst 0, 1) := by decide +kernel
theorem dL_isWell_405 : decode cL_isWell 405 = .ok (.istore 5, 2) := by decide +kernel
theorem dL_isWell_407 : decode cL_isWell 407 = .ok (.iinc 6 1, 3) := by decide +kernel
theorem dL_isWell_410 : decode cL_isWell 410 = .ok (.goto (-79), 3) := by decide +kernel
theorem dL_isWell_413 : decode cL_isWell 413 = .ok (.iconst 0, 1) := by decide +kernel
theorem dL_isWell_414 : decode cL_isWell 414 = .ok (.istore 6, 2) := by decide +kernel
theorem dL_isWell_416 : decode cL_isWell 416 = .ok (.iload 6, 2) := by decide +kernel
theorem dL_isWell_418 : decode cL_isWell 418 = .ok (.sipush 1001, 3) := by decide +kernel
theorem dL_isWell_421 : decode cL_isWell 421 = .ok (.if_icmp .ge 57, 3) := by decide +kernel
theorem dL_isWell_424 : decode cL_isWell 424 = .ok (.iload 5, 2) := by decide +kernel
theorem dL_isWell_426 : decode cL_isWell 426 = .ok (.ifCond .eq 43, 3) := by decide +kernel
theorem dL_isWell_429 : decode cL_isWell 429 = .ok (.aload_n 0, 1) := by decide +kernel
theorem dL_isWell_430 : decode cL_isWell 430 = .ok (.iload 6, 2) := by decide +kernel
theorem dL_isWell_432 : decode cL_isWell 432 = .ok (.invokestatic 172, 3) := by decide +kernel
theorem dL_isWell_435 : decode cL_isWell 435 = .ok (.aload_n 0, 1) := by decide +kernel
theorem dL_isWell_436 : decode cL_isWell 436 = .ok (.iload 6, 2) := by decide +kernel
theorem dL_isWell_438 : decode cL_isWell 438 = .ok (.invokestatic 178, 3) := by decide +kernel
theorem dL_isWell_441 : decode cL_isWell 441 = .ok (.iconst (-1), 1) := by decide +kernel
theorem dL_isWell_442 : decode cL_isWell 442 = .ok (.ixor, 1) := by decide +kernel
theorem dL_isWell_443 : decode cL_isWell 443 = .ok (.iand, 1) := by decide +kernel
theorem dL_isWell_444 : decode cL_isWell 444 = .ok (.ifCond .ne 25, 3) := by decide +kernel
theorem dL_isWell_447 : decode cL_isWell 447 = .ok (.aload_n 0, 1) := by decide +kernel
theorem dL_isWell_448 : decode cL_isWell 448 = .ok (.iload 6, 2) := by decide +kernel
theorem dL_isWell_450 : decode cL_isWell 450 = .ok (.invokestatic 178, 3) := by decide +kernel
theorem dL_isWell_453 : decode cL_isWell 453 = .ok (.aload_n 0, 1) := by decide +kernel
theorem dL_isWell_454 : decode cL_isWell 454 = .ok (.iload 6, 2) := by decide +kernel
theorem dL_isWell_456 : decode cL_isWell 456 = .ok (.invokestatic 175, 3) := by decide +kernel
theorem dL_isWell_459 : decode cL_isWell 459 = .ok (.iconst (-1), 1) := by decide +kernel
theorem dL_isWell_460 : decode cL_isWell 460 = .ok (.ixor, 1) := by decide +kernel
theorem dL_isWell_461 : decode cL_isWell 461 = .ok (.iand, 1) := by decide +kernel
theorem dL_isWell_462 : decode cL_isWell 462 = .ok (.ifCond .ne 7, 3) := by decide +kernel
theorem dL_isWell_465 : decode cL_isWell 465 = .ok (.iconst 1, 1) := by decide +kernel
theorem dL_isWell_466 : decode cL_isWell 466 = .ok (.goto 4, 3) := by decide +kernel
theorem dL_isWell_469 : decode cL_isWell 469 = .ok (.iconst 0, 1) := by decide +kernel
theorem dL_isWell_470 : decode cL_isWell 470 = .ok (.istore 5, 2) := by decide +kernel
theorem dL_isWell_472 : decode cL_isWell 472 = .ok (.iinc 6 125, 3) := by decide +kernel
theorem dL_isWell_475 : decode cL_isWell 475 = .ok (.goto (-59), 3) := by decide +kernel
theorem dL_isWell_478 : decode cL_isWell 478 = .ok (.iload 5, 2) := by decide +kernel
theorem dL_isWell_480 : decode cL_isWell 480 = .ok (.ifCond .eq 68, 3) := by decide +kernel
theorem dL_isWell_483 : decode cL_isWell 483 = .ok (.iload_n 1, 1) := by decide +kernel
theorem dL_isWell_484 : decode cL_isWell 484 = .ok (.aload_n 0, 1) := by decide +kernel
theorem dL_isWell_485 : decode cL_isWell 485 = .ok (.invokevirtual 93, 3) := by decide +kernel
theorem dL_isWell_488 : decode cL_isWell 488 = .ok (.if_icmp .ne 60, 3) := by decide +kernel
theorem dL_isWell_491 : decode cL_isWell 491 = .ok (.iload_n 2, 1) := by decide +kernel
theorem dL_isWell_492 : decode cL_isWell 492 = .ok (.aload_n 0, 1) := by decide +kernel
theorem dL_isWell_493 : decode cL_isWell 493 = .ok (.invokevirtual 132, 3) := by decide +kernel
theorem dL_isWell_496 : decode cL_isWell 496 = .ok (.if_icmp .ne 52, 3) := by decide +kernel
theorem dL_isWell_499 : decode cL_isWell 499 = .ok (.iload_n 3, 1) := by decide +kernel
theorem dL_isWell_500 : decode cL_isWell 500 = .ok (.aload_n 0, 1) := by decide +kernel
theorem dL_isWell_501 : decode cL_isWell 501 = .ok (.invokevirtual 146, 3) := by decide +kernel
theorem dL_isWell_504 : decode cL_isWell 504 = .ok (.if_icmp .ne 44, 3) := by decide +kernel
theorem dL_isWell_507 : decode cL_isWell 507 = .ok (.iload 4, 2) := by decide +kernel
theorem dL_isWell_509 : decode cL_isWell 509 = .ok (.aload_n 0, 1) := by decide +kernel
theorem dL_isWell_510 : decode cL_isWell 510 = .ok (.invokevirtual 149, 3) := by decide +kernel
theorem dL_isWell_513 : decode cL_isWell 513 = .ok (.if_icmp .ne 35, 3) := by decide +kernel
theorem dL_isWell_516 : decode cL_isWell 516 = .ok (.aload_n 0, 1) := by decide +kernel
theorem dL_isWell_517 : decode cL_isWell 517 = .ok (.invokevirtual 102, 3) := by decide +kernel
theorem dL_isWell_520 : decode cL_isWell 520 = .ok (.ifCond .eq 24, 3) := by decide +kernel
theorem dL_isWell_523 : decode cL_isWell 523 = .ok (.aload_n 0, 1) := by decide +kernel
theorem dL_isWell_524 : decode cL_isWell 524 = .ok (.aload_n 0, 1) := by decide +kernel
theorem dL_isWell_525 : decode cL_isWell 525 = .ok (.aload_n 0, 1) := by decide +kernel
theorem dL_isWell_526 : decode cL_isWell 526 = .ok (.invokevirtual 102, 3) := by decide +kernel
theorem dL_isWell_529 : decode cL_isWell 529 = .ok (.iconst 1, 1) := by decide +kernel
theorem dL_isWell_530 : decode cL_isWell 530 = .ok (.isub, 1) := by decide +kernel
theorem dL_isWell_531 : decode cL_isWell 531 = .ok (.invokestatic 170, 3) := by decide +kernel
theorem dL_isWell_534 : decode cL_isWell 534 = .ok (.invokestatic 123, 3) := by decide +kernel
theorem dL_isWell_537 : decode cL_isWell 537 = .ok (.aload_n 0, 1) := by decide +kernel
theorem dL_isWell_538 : decode cL_isWell 538 = .ok (.invokevirtual 120, 3) := by decide +kernel
theorem dL_isWell_541 : decode cL_isWell 541 = .ok (.if_icmp .lt 7, 3) := by decide +kernel
theorem dL_isWell_544 : decode cL_isWell 544 = .ok (.iconst 1, 1) := by decide +kernel
theorem dL_isWell_545 : decode cL_isWell 545 = .ok (.goto 4, 3) := by decide +kernel
theorem dL_isWell_548 : decode cL_isWell 548 = .ok (.iconst 0, 1) := by decide +kernel
theorem dL_isWell_549 : decode cL_isWell 549 = .ok (.ireturn, 1) := by decide +kernel
set_option maxRecDepth 20000 in
theorem ggL_law_X8_init : GoodIn wsL_law wsX8_init := goodIn_r _ [5, 6, 7, 8, 9, 10, 11, 12, 13, 14, 15, 16, 17, 18, 19, 20, 21, 22, 23, 24, 25, 26, 27, 28, 29, 30, 31, 32, 33, 34, 35, 36, 37, 38, 39, 40, 41, 42, 43, 44, 45, 46, 47, 48, 49, 50, 51, 52, 53, 54, 55, 56, 57, 58, 59, 60, 61, 62, 63, 64, 65, 66, 67, 68, 69, 70, 71, 72, 73, 74, 75, 76, 77, 78, 79, 80, 81, 82, 83, 84, 85, 86, 87, 88, 89, 90, 91, 92, 93, 94, 95, 96, 97, 98, 99, 100, 564, 565, 566, 567, 561, 562, 563, 568, 569, 570, 571, 572, 573, 574, 575, 576, 577, 578, 579, 580, 581, 582, 583, 584, 585, 586, 587, 588, 589, 590, 591, 592, 593] (by decide +kernel) (by decide +kernel)
set_option maxRecDepth 20000 in
theorem gL_law_X8_init : GoodIn wsL_law (wsX8_init) := ggL_law_X8_init
set_option maxRecDepth 20000 in
theorem ggL_law_L_cell : GoodIn wsL_law wsL_cell := goodIn_r _ [104, 105] (by decide +kernel) (by decide +kernel)
set_option maxRecDepth 20000 in
theorem gL_law_L_cell : GoodIn wsL_law (va_wsS RL 182 yL_cell wsL_cell) := goodIn_app (goodIn_of _ (by decide +kernel)) ggL_law_L_cell
theorem dL_law_0 : decode cL_law 0 = .ok (.new 10, 3) := by decide +kernel
theorem dL_law_3 : decode cL_law 3 = .ok (.dup, 1) := by decide +kernel
theorem dL_law_4 : decode cL_law 4 = .ok (.invokespecial 181, 3) := by decide +kernel
theorem dL_law_7 : decode cL_law 7 = .ok (.astore_n 1, 1) := by decide +kernel
theorem dL_law_8 : decode cL_law 8 = .ok (.new 10, 3) := by decide +kernel
theorem dL_law_11 : decode cL_law 11 = .ok (.dup, 1) := by decide +kernel
theorem dL_law_12 : decode cL_law 12 = .ok (.invokespecial 181, 3) := by decide +kernel
theorem dL_law_15 : decode cL_law 15 = .ok (.astore_n 2, 1) := by decide +kernel
theorem dL_law_16 : decode cL_law 16 = .ok (.iconst 1, 1) := by decide +kernel
theorem dL_law_17 : decode cL_law 17 = .ok (.istore_n 3, 1) := by decide +kernel
theorem dL_law_18 : decode cL_law 18 = .ok (.iconst 0, 1) := by decide +kernel
theorem dL_law_19 : decode cL_law 19 = .ok (.istore 4, 2) := by decide +kernel
theorem dL_law_21 : decode cL_law 21 = .ok (.iload 4, 2) := by decide +kernel
theorem dL_law_23 : decode cL_law 23 = .ok (.bipush 90, 2) := by decide +kernel
theorem dL_law_25 : decode cL_law 25 = .ok (.if_icmp .ge 57, 3) := by decide +kernel
theorem dL_law_28 : decode cL_law 28 = .ok (.iload_n 3, 1) := by decide +kernel
theorem dL_law_29 : decode cL_law 29 = .ok (.ifCond .eq 53, 3) := by decide +kernel
theorem dL_law_32 : decode cL_law 32 = .ok (.aload_n 1, 1) := by decide +kernel
theorem dL_law_33 : decode cL_law 33 = .ok (.aload_n 2, 1) := by decide +kernel
theorem dL_law_34 : decode cL_law 34 = .ok (.aload_n 0, 1) := by decide +kernel
theorem dL_law_35 : decode cL_law 35 = .ok (.iload 4, 2) := by decide +kernel
theorem dL_law_37 : decode cL_law 37 = .ok (.invokestatic 182, 3) := by decide +kernel
theorem dL_law_40 : decode cL_law 40 = .ok (.aload_n 0, 1) := by decide +kernel
theorem dL_law_41 : decode cL_law 41 = .ok (.iload 4, 2) := by decide +kernel
theorem dL_law_43 : decode cL_law 43 = .ok (.iconst 1, 1) := by decide +kernel
theorem dL_law_44 : decode cL_law 44 = .ok (.iadd, 1) := by decide +kernel
theorem dL_law_45 : decode cL_law 45 = .ok (.invokestatic 182, 3) := by decide +kernel
theorem dL_law_48 : decode cL_law 48 = .ok (.iconst 2, 1) := by decide +kernel
theorem dL_law_49 : decode cL_law 49 = .ok (.ishr, 1) := by decide +kernel
theorem dL_law_50 : decode cL_law 50 = .ok (.invokestatic 186, 3) := by decide +kernel
theorem dL_law_53 : decode cL_law 53 = .ok (.ifCond .eq 21, 3) := by decide +kernel
theorem dL_law_56 : decode cL_law 56 = .ok (.iload 4, 2) := by decide +kernel
theorem dL_law_58 : decode cL_law 58 = .ok (.iconst 5, 1) := by decide +kernel
theorem dL_law_59 : decode cL_law 59 = .ok (.irem, 1) := by decide +kernel
theorem dL_law_60 : decode cL_law 60 = .ok (.ifCond .gt 10, 3) := by decide +kernel
theorem dL_law_63 : decode cL_law 63 = .ok (.aload_n 1, 1) := by decide +kernel
theorem dL_law_64 : decode cL_law 64 = .ok (.invokestatic 190, 3) := by decide +kernel
theorem dL_law_67 : decode cL_law 67 = .ok (.ifCond .eq 7, 3) := by decide +kernel
theorem dL_law_70 : decode cL_law 70 = .ok (.iconst 1, 1) := by decide +kernel
theorem dL_law_71 : decode cL_law 71 = .ok (.goto 4, 3) := by decide +kernel
theorem dL_law_74 : decode cL_law 74 = .ok (.iconst 0, 1) := by decide +kernel
theorem dL_law_75 : decode cL_law 75 = .ok (.istore_n 3, 1) := by decide +kernel
theorem dL_law_76 : decode cL_law 76 = .ok (.iinc 4 1, 3) := by decide +kernel
theorem dL_law_79 : decode cL_law 79 = .ok (.goto (-58), 3) := by decide +kernel
theorem dL_law_82 : decode cL_law 82 = .ok (.iload_n 3, 1) := by decide +kernel
theorem dL_law_83 : decode cL_law 83 = .ok (.ifCond .eq 22, 3) := by decide +kernel
theorem dL_law_86 : decode cL_law 86 = .ok (.aload_n 1, 1) := by decide +kernel
theorem dL_law_87 : decode cL_law 87 = .ok (.invokestatic 190, 3) := by decide +kernel
theorem dL_law_90 : decode cL_law 90 = .ok (.ifCond .eq 15, 3) := by decide +kernel
theorem dL_law_93 : decode cL_law 93 = .ok (.aload_n 1, 1) := by decide +kernel
theorem dL_law_94 : decode cL_law 94 = .ok (.aload_n 2, 1) := by decide +kernel
theorem dL_law_95 : decode cL_law 95 = .ok (.invokestatic 194, 3) := by decide +kernel
theorem dL_law_98 : decode cL_law 98 = .ok (.ifCond .eq 7, 3) := by decide +kernel
theorem dL_law_101 : decode cL_law 101 = .ok (.iconst 1, 1) := by decide +kernel
theorem dL_law_102 : decode cL_law 102 = .ok (.goto 4, 3) := by decide +kernel
theorem dL_law_105 : decode cL_law 105 = .ok (.iconst 0, 1) := by decide +kernel
theorem dL_law_106 : decode cL_law 106 = .ok (.ireturn, 1) := by decide +kernel
