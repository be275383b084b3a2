section GSTUB
theorem kL_in_X80 : ∀ w ∈ wsX80, w ∈ lw_tbl := sorry
theorem kL_in_X90 : ∀ w ∈ wsX90, w ∈ lw_tbl := sorry
theorem kL_in_X70 : ∀ w ∈ wsX70, w ∈ lw_tbl := sorry
theorem kL_in_X10 : ∀ w ∈ wsX10, w ∈ lw_tbl := sorry
theorem kL_in_X60 : ∀ w ∈ wsX60, w ∈ lw_tbl := sorry
theorem kL_in_X20 : ∀ w ∈ wsX20, w ∈ lw_tbl := sorry
theorem kL_in_X00 : ∀ w ∈ wsX00, w ∈ lw_tbl := sorry
theorem kL_in_X50 : ∀ w ∈ wsX50, w ∈ lw_tbl := sorry
theorem kL_in_X40 : ∀ w ∈ wsX40, w ∈ lw_tbl := sorry
theorem wsL_law_in : ∀ w ∈ wsL_law, w ∈ lw_tbl := sorry
end GSTUB
