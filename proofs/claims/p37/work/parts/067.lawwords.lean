set_option maxRecDepth 100000
theorem kL_in_r22 : ∀ w ∈ wsL_law0_r22, w ∈ lw_tbl := fun w h => (goodIn_p wsL_law0_r22 [770, 774, 797] (by decide +kernel) (by decide +kernel) w h).1
theorem kL_in_r23 : ∀ w ∈ wsL_law0_r23, w ∈ lw_tbl := fun w h => (goodIn_p wsL_law0_r23 [786, 699, 704, 665, 677] (by decide +kernel) (by decide +kernel) w h).1
theorem kL_in_r24 : ∀ w ∈ wsL_law0_r24, w ∈ lw_tbl := fun w h => (goodIn_p wsL_law0_r24 [709, 713] (by decide +kernel) (by decide +kernel) w h).1
