set_option maxRecDepth 20000
theorem gz_L_areAlike_r9 : GoodIn wsL_law wsL_areAlike_r9 := goodIn_r _ [494, 495, 496, 497, 498, 499, 500, 501, 502, 503, 504, 505, 506, 507, 508, 509, 510, 511, 35, 512, 513, 514, 523, 524] (by decide +kernel) (by decide +kernel)
theorem gz_L_areAlike_r10 : GoodIn wsL_law wsL_areAlike_r10 := goodIn_r _ [525, 526, 527, 528, 529, 530] (by decide +kernel) (by decide +kernel)
theorem gz_areAlike_wsX80 : GoodIn wsL_law wsX80 := goodIn_r _ [561, 562, 563] (by decide +kernel) (by decide +kernel)
theorem gz_areAlike_wsX70 : GoodIn wsL_law wsX70 := goodIn_r _ [564, 565, 566, 567] (by decide +kernel) (by decide +kernel)
theorem gz_areAlike_wsX20 : GoodIn wsL_law wsX20 := goodIn_r _ [576, 577, 578] (by decide +kernel) (by decide +kernel)
theorem gz_areAlike_wsX00 : GoodIn wsL_law wsX00 := goodIn_r _ [579, 580, 581, 582, 583, 584] (by decide +kernel) (by decide +kernel)
theorem gz_areAlike_wsX50 : GoodIn wsL_law wsX50 := goodIn_r _ [585, 586, 587, 588] (by decide +kernel) (by decide +kernel)
theorem gz_areAlike_wsX10 : GoodIn wsL_law wsX10 := goodIn_r _ [568, 569, 570] (by decide +kernel) (by decide +kernel)
set_option maxRecDepth 20000 in
theorem ggL_law_L_areAlike : GoodIn wsL_law wsL_areAlike := goodIn_ca (goodIn_ca (goodIn_ca (goodIn_c1 gz_areAlike_c (goodIn_app (goodIn_app (goodIn_app (goodIn_app (goodIn_app (goodIn_app (goodIn_app gz_L_areAlike_r1 (goodIn_app gz_L_areAlike_r2 (goodIn_app gz_L_areAlike_r3 (goodIn_app gz_L_areAlike_r4 (goodIn_app gz_L_areAlike_r5 (goodIn_app gz_L_areAlike_r6 (goodIn_app gz_L_areAlike_r7 (goodIn_app gz_L_areAlike_r8 (goodIn_app gz_L_areAlike_r9 gz_L_areAlike_r10))))))))) gz_areAlike_wsX80) gz_areAlike_wsX70) gz_areAlike_wsX20) gz_areAlike_wsX00) gz_areAlike_wsX50) gz_areAlike_wsX10)) (goodIn_sub (fun _ h => List.mem_append_right _ h) (by decide +kernel))) (goodIn_sub (fun _ h => List.mem_append_left _ (List.mem_append_right _ h)) (by decide +kernel))) (goodIn_sub (fun _ h => List.mem_append_left _ (List.mem_append_left _ (List.mem_append_left _ (List.mem_append_right _ h)))) (by decide +kernel))
