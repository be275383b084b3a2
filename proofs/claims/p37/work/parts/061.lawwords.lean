set_option maxRecDepth 100000
theorem kL_in_r4 : ∀ w ∈ wsL_law0_r4, w ∈ lw_tbl := fun w h => (goodIn_p wsL_law0_r4 [210, 214, 218, 221, 225] (by decide +kernel) (by decide +kernel) w h).1
theorem kL_in_r5 : ∀ w ∈ wsL_law0_r5, w ∈ lw_tbl := fun w h => (goodIn_p wsL_law0_r5 [240, 244, 248, 252] (by decide +kernel) (by decide +kernel) w h).1
theorem kL_in_r6 : ∀ w ∈ wsL_law0_r6, w ∈ lw_tbl := fun w h => (goodIn_p wsL_law0_r6 [255, 258, 267, 340] (by decide +kernel) (by decide +kernel) w h).1
