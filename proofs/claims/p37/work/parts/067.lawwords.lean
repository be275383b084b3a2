set_option maxRecDepth 100000
theorem kL_in_r22 : ∀ w ∈ wsL_law0_r22, w ∈ lw_tbl := by decide +kernel
theorem kL_in_r23 : ∀ w ∈ wsL_law0_r23, w ∈ lw_tbl := by decide +kernel
theorem kL_in_r24 : ∀ w ∈ wsL_law0_r24, w ∈ lw_tbl := by decide +kernel
