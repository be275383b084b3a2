set_option maxRecDepth 100000
theorem kL_in_r10 : ∀ w ∈ wsL_law0_r10, w ∈ lw_tbl := fun w h => (goodIn_p wsL_law0_r10 [426, 430, 434, 438, 442, 446] (by decide +kernel) (by decide +kernel) w h).1
theorem kL_in_r11 : ∀ w ∈ wsL_law0_r11, w ∈ lw_tbl := fun w h => (goodIn_p wsL_law0_r11 [450, 454, 457, 460, 463, 467, 471, 477] (by decide +kernel) (by decide +kernel) w h).1
theorem kL_in_r12 : ∀ w ∈ wsL_law0_r12, w ∈ lw_tbl := fun w h => (goodIn_p wsL_law0_r12 [480, 487, 492, 496] (by decide +kernel) (by decide +kernel) w h).1
