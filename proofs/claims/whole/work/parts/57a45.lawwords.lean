set_option maxRecDepth 100000
theorem kL_in_r31 : ∀ w ∈ wsL_law0_r31, w ∈ lw_tbl := by decide +kernel
theorem kL_in_r32 : ∀ w ∈ wsL_law0_r32, w ∈ lw_tbl := by decide +kernel
theorem kL_in_r33 : ∀ w ∈ wsL_law0_r33, w ∈ lw_tbl := by decide +kernel
theorem kL_in_r34 : ∀ w ∈ wsL_law0_r34, w ∈ lw_tbl := by decide +kernel
theorem kL_in_r35 : ∀ w ∈ wsL_law0_r35, w ∈ lw_tbl := by decide +kernel
