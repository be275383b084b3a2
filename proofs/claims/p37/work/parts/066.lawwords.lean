set_option maxRecDepth 100000
theorem kL_in_r19 : ∀ w ∈ wsL_law0_r19, w ∈ lw_tbl := fun w h => (goodIn_p wsL_law0_r19 [658, 662, 790, 669] (by decide +kernel) (by decide +kernel) w h).1
theorem kL_in_r20 : ∀ w ∈ wsL_law0_r20, w ∈ lw_tbl := fun w h => (goodIn_p wsL_law0_r20 [729, 721, 744] (by decide +kernel) (by decide +kernel) w h).1
theorem kL_in_r21 : ∀ w ∈ wsL_law0_r21, w ∈ lw_tbl := fun w h => (goodIn_p wsL_law0_r21 [737, 751, 760, 763] (by decide +kernel) (by decide +kernel) w h).1
