set_option maxRecDepth 100000
theorem kL_in_r7 : ∀ w ∈ wsL_law0_r7, w ∈ lw_tbl := by decide +kernel
theorem kL_in_r8 : ∀ w ∈ wsL_law0_r8, w ∈ lw_tbl := by decide +kernel
theorem kL_in_r9 : ∀ w ∈ wsL_law0_r9, w ∈ lw_tbl := by decide +kernel
