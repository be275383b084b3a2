set_option maxRecDepth 20000
theorem gz_L_isWell_r8 : GoodIn wsL_law wsL_isWell_r8 := goodIn_r _ [517, 518, 519, 520, 521, 522, 523, 524, 525, 526, 527, 528, 529, 530, 110, 111, 112, 113, 425, 426, 427, 428, 429, 245] (by decide +kernel) (by decide +kernel)
theorem gz_L_isWell_r9 : GoodIn wsL_law wsL_isWell_r9 := goodIn_r _ [246, 531, 532, 533, 534, 535, 536, 537, 538, 539, 540, 265, 144, 266] (by decide +kernel) (by decide +kernel)
theorem gz_isWell_wsX80 : GoodIn wsL_law wsX80 := goodIn_r _ [561, 562, 563] (by decide +kernel) (by decide +kernel)
theorem gz_isWell_wsX70 : GoodIn wsL_law wsX70 := goodIn_r _ [564, 565, 566, 567] (by decide +kernel) (by decide +kernel)
theorem gz_isWell_wsX20 : GoodIn wsL_law wsX20 := goodIn_r _ [576, 577, 578] (by decide +kernel) (by decide +kernel)
theorem gz_isWell_wsX00 : GoodIn wsL_law wsX00 := goodIn_r _ [579, 580, 581, 582, 583, 584] (by decide +kernel) (by decide +kernel)
theorem gz_isWell_wsX50 : GoodIn wsL_law wsX50 := goodIn_r _ [585, 586, 587, 588] (by decide +kernel) (by decide +kernel)
set_option maxRecDepth 20000 in
theorem ggL_law_L_isWell : GoodIn wsL_law wsL_isWell := goodIn_ca (goodIn_ca (goodIn_ca (goodIn_c1 gz_isWell_c (goodIn_app (goodIn_app (goodIn_app (goodIn_app (goodIn_app (goodIn_app gz_L_isWell_r1 (goodIn_app gz_L_isWell_r2 (goodIn_app gz_L_isWell_r3 (goodIn_app gz_L_isWell_r4 (goodIn_app gz_L_isWell_r5 (goodIn_app gz_L_isWell_r6 (goodIn_app gz_L_isWell_r7 (goodIn_app gz_L_isWell_r8 gz_L_isWell_r9)))))))) gz_isWell_wsX80) gz_isWell_wsX70) gz_isWell_wsX20) gz_isWell_wsX00) gz_isWell_wsX50)) (goodIn_sub (fun _ h => List.mem_append_left _ (List.mem_append_right _ h)) (by decide +kernel))) (goodIn_sub (fun _ h => List.mem_append_right _ h) (by decide +kernel))) (goodIn_sub (fun _ h => List.mem_append_left _ (List.mem_append_left _ (List.mem_append_left _ (List.mem_append_right _ h)))) (by decide +kernel))
