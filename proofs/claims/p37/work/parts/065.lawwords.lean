set_option maxRecDepth 100000
theorem kL_in_r16 : ∀ w ∈ wsL_law0_r16, w ∈ lw_tbl := by decide +kernel
theorem kL_in_r17 : ∀ w ∈ wsL_law0_r17, w ∈ lw_tbl := by decide +kernel
theorem kL_in_r18 : ∀ w ∈ wsL_law0_r18, w ∈ lw_tbl := by decide +kernel
