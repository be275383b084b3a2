set_option maxRecDepth 100000

theorem kL_in_X80 : ∀ w ∈ wsX80, w ∈ lw_tbl := by decide +kernel
theorem kL_in_X70 : ∀ w ∈ wsX70, w ∈ lw_tbl := by decide +kernel
theorem kL_in_X10 : ∀ w ∈ wsX10, w ∈ lw_tbl := by decide +kernel
theorem kL_in_X60 : ∀ w ∈ wsX60, w ∈ lw_tbl := by decide +kernel
theorem kL_in_X20 : ∀ w ∈ wsX20, w ∈ lw_tbl := by decide +kernel
theorem kL_in_X00 : ∀ w ∈ wsX00, w ∈ lw_tbl := by decide +kernel
theorem kL_in_X50 : ∀ w ∈ wsX50, w ∈ lw_tbl := by decide +kernel
theorem kL_in_X40 : ∀ w ∈ wsX40, w ∈ lw_tbl := by decide +kernel
theorem k_fa {B l1 l2 : List Cond} (h1 : ∀ w ∈ l1, w ∈ B) (h2 : ∀ w ∈ l2, w ∈ B) : ∀ w ∈ l1 ++ l2, w ∈ B := fun w hw => (List.mem_append.mp hw).elim (h1 w) (h2 w)
theorem wsL_law_in0 : ∀ w ∈ wsL_law0, w ∈ lw_tbl := (k_fa (k_fa (k_fa (k_fa (k_fa (k_fa (k_fa (k_fa (k_fa (k_fa kL_in_r1 (k_fa kL_in_r2 (k_fa kL_in_r3 (k_fa kL_in_r4 (k_fa kL_in_r5 (k_fa kL_in_r6 (k_fa kL_in_r7 (k_fa kL_in_r8 (k_fa kL_in_r9 (k_fa kL_in_r10 (k_fa kL_in_r11 (k_fa kL_in_r12 (k_fa kL_in_r13 (k_fa kL_in_r14 (k_fa kL_in_r15 (k_fa kL_in_r16 (k_fa kL_in_r17 (k_fa kL_in_r18 (k_fa kL_in_r19 (k_fa kL_in_r20 (k_fa kL_in_r21 (k_fa kL_in_r22 (k_fa kL_in_r23 kL_in_r24))))))))))))))))))))))) kL_in_X80) kL_in_X70) kL_in_X10) kL_in_X60) kL_in_X20) kL_in_X00) kL_in_X50) kL_in_X40) (fun _ h => absurd h List.not_mem_nil))
theorem wsL_law_x0 : ∀ w ∈ (vx_atS RX8 92 "java/lang/IllegalArgumentException" ["java/lang/RuntimeException", "java/lang/Exception"]).filter goodWord, w ∈ lw_tbl := by decide +kernel
theorem wsL_law_x1 : ∀ w ∈ (vx_atS RX8 74 "java/lang/IllegalStateException" ["java/lang/RuntimeException", "java/lang/Exception"]).filter goodWord, w ∈ lw_tbl := by decide +kernel
theorem wsL_law_x2 : ∀ w ∈ (vx_atS RX8 221 "java/lang/IndexOutOfBoundsException" ["java/lang/RuntimeException", "java/lang/Exception"]).filter goodWord, w ∈ lw_tbl := by decide +kernel
theorem wsL_law_x3 : ∀ w ∈ (vx_atS RX8 148 "java/util/NoSuchElementException" ["java/lang/RuntimeException", "java/lang/Exception"]).filter goodWord, w ∈ lw_tbl := by decide +kernel
theorem wsL_law_in : ∀ w ∈ wsL_law, w ∈ lw_tbl := fun w h => (List.mem_append.mp h).elim (fun h => (List.mem_append.mp h).elim (fun h => (List.mem_append.mp h).elim (fun h => (List.mem_append.mp h).elim (fun h => wsL_law_in0 w h) (fun h => wsL_law_x0 w h)) (fun h => wsL_law_x1 w h)) (fun h => wsL_law_x2 w h)) (fun h => wsL_law_x3 w h)
