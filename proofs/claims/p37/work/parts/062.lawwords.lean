set_option maxRecDepth 100000
theorem kL_in_r7 : ∀ w ∈ wsL_law0_r7, w ∈ lw_tbl := fun w h => (goodIn_p wsL_law0_r7 [358, 344, 348, 352, 355] (by decide +kernel) (by decide +kernel) w h).1
theorem kL_in_r8 : ∀ w ∈ wsL_law0_r8, w ∈ lw_tbl := fun w h => (goodIn_p wsL_law0_r8 [365, 373, 377, 381, 385] (by decide +kernel) (by decide +kernel) w h).1
theorem kL_in_r9 : ∀ w ∈ wsL_law0_r9, w ∈ lw_tbl := fun w h => (goodIn_p wsL_law0_r9 [389, 397, 416, 422] (by decide +kernel) (by decide +kernel) w h).1
