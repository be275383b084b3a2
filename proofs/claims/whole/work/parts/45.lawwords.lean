set_option maxRecDepth 100000
theorem kL_in_r31 : ∀ w ∈ wsL_law0_r31, w ∈ lw_tbl := by decide +kernel
theorem kL_in_r32 : ∀ w ∈ wsL_law0_r32, w ∈ lw_tbl := by decide +kernel
theorem kL_in_r33 : ∀ w ∈ wsL_law0_r33, w ∈ lw_tbl := by decide +kernel
theorem kL_in_r34 : ∀ w ∈ wsL_law0_r34, w ∈ lw_tbl := by decide +kernel
theorem kL_in_r35 : ∀ w ∈ wsL_law0_r35, w ∈ lw_tbl := by decide +kernel
theorem k_fa {B l1 l2 : List Cond} (h1 : ∀ w ∈ l1, w ∈ B) (h2 : ∀ w ∈ l2, w ∈ B) : ∀ w ∈ l1 ++ l2, w ∈ B := fun w hw => (List.mem_append.mp hw).elim (h1 w) (h2 w)
theorem wsL_law_in0 : ∀ w ∈ wsL_law0, w ∈ lw_tbl := (k_fa kL_in_r1 (k_fa kL_in_r2 (k_fa kL_in_r3 (k_fa kL_in_r4 (k_fa kL_in_r5 (k_fa kL_in_r6 (k_fa kL_in_r7 (k_fa kL_in_r8 (k_fa kL_in_r9 (k_fa kL_in_r10 (k_fa kL_in_r11 (k_fa kL_in_r12 (k_fa kL_in_r13 (k_fa kL_in_r14 (k_fa kL_in_r15 (k_fa kL_in_r16 (k_fa kL_in_r17 (k_fa kL_in_r18 (k_fa kL_in_r19 (k_fa kL_in_r20 (k_fa kL_in_r21 (k_fa kL_in_r22 (k_fa kL_in_r23 (k_fa kL_in_r24 (k_fa kL_in_r25 (k_fa kL_in_r26 (k_fa kL_in_r27 (k_fa kL_in_r28 (k_fa kL_in_r29 (k_fa kL_in_r30 (k_fa kL_in_r31 (k_fa kL_in_r32 (k_fa kL_in_r33 (k_fa kL_in_r34 kL_in_r35))))))))))))))))))))))))))))))))))
