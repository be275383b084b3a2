set_option maxRecDepth 100000
theorem kL_in_r16 : ∀ w ∈ wsL_law0_r16, w ∈ lw_tbl := fun w h => (goodIn_p wsL_law0_r16 [581, 584, 588, 593, 597, 601] (by decide +kernel) (by decide +kernel) w h).1
theorem kL_in_r17 : ∀ w ∈ wsL_law0_r17, w ∈ lw_tbl := fun w h => (goodIn_p wsL_law0_r17 [607, 612, 616, 622, 626] (by decide +kernel) (by decide +kernel) w h).1
theorem kL_in_r18 : ∀ w ∈ wsL_law0_r18, w ∈ lw_tbl := fun w h => (goodIn_p wsL_law0_r18 [630, 634, 638, 646, 650] (by decide +kernel) (by decide +kernel) w h).1
