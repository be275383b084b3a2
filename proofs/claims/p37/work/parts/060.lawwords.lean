set_option maxRecDepth 100000
theorem kL_in_r1 : ∀ w ∈ wsL_law0_r1, w ∈ lw_tbl := by decide +kernel
theorem kL_in_r2 : ∀ w ∈ wsL_law0_r2, w ∈ lw_tbl := by decide +kernel
theorem kL_in_r3 : ∀ w ∈ wsL_law0_r3, w ∈ lw_tbl := by decide +kernel
