set_option maxRecDepth 100000
theorem kL_in_r13 : ∀ w ∈ wsL_law0_r13, w ∈ lw_tbl := fun w h => (goodIn_p wsL_law0_r13 [505, 508, 528, 531, 535] (by decide +kernel) (by decide +kernel) w h).1
theorem kL_in_r14 : ∀ w ∈ wsL_law0_r14, w ∈ lw_tbl := fun w h => (goodIn_p wsL_law0_r14 [542, 547, 554, 558] (by decide +kernel) (by decide +kernel) w h).1
theorem kL_in_r15 : ∀ w ∈ wsL_law0_r15, w ∈ lw_tbl := fun w h => (goodIn_p wsL_law0_r15 [562, 566, 570, 574, 577] (by decide +kernel) (by decide +kernel) w h).1
