set_option maxRecDepth 100000
theorem kL_in_r1 : ∀ w ∈ wsL_law0_r1, w ∈ lw_tbl := fun w h => (goodIn_p wsL_law0_r1 [40, 43, 48] (by decide +kernel) (by decide +kernel) w h).1
theorem kL_in_r2 : ∀ w ∈ wsL_law0_r2, w ∈ lw_tbl := fun w h => (goodIn_p wsL_law0_r2 [54, 60] (by decide +kernel) (by decide +kernel) w h).1
theorem kL_in_r3 : ∀ w ∈ wsL_law0_r3, w ∈ lw_tbl := fun w h => (goodIn_p wsL_law0_r3 [89, 141, 161, 167] (by decide +kernel) (by decide +kernel) w h).1
