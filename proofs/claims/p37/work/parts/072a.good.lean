set_option maxRecDepth 20000
theorem gz_isWell_c : GoodIn wsL_law [.code yL_isWell cL_isWell 9 (some .boolean)] := goodIn_r _ [443] (by decide +kernel) (by decide +kernel)
theorem gz_L_isWell_r1 : GoodIn wsL_law wsL_isWell_r1 := goodIn_r _ [324, 169, 170, 171, 2, 172, 12, 114, 173, 174, 437, 438, 439, 440, 135, 444, 445, 446, 447, 193, 448, 279, 280, 281] (by decide +kernel) (by decide +kernel)
theorem gz_L_isWell_r2 : GoodIn wsL_law wsL_isWell_r2 := goodIn_r _ [282, 283, 226, 227, 34, 228, 45, 229, 230, 231, 232, 233, 234, 235, 236, 47, 237, 238, 239, 240, 86, 87, 417, 418] (by decide +kernel) (by decide +kernel)
theorem gz_L_isWell_r3 : GoodIn wsL_law wsL_isWell_r3 := goodIn_r _ [103, 419, 287, 109, 420, 421, 422, 423, 424, 292, 293, 294, 295, 296, 449, 450, 451, 452, 453, 454, 455, 456, 457, 458] (by decide +kernel) (by decide +kernel)
theorem gz_L_isWell_r4 : GoodIn wsL_law wsL_isWell_r4 := goodIn_r _ [459, 460, 284, 285, 286, 288, 289, 290, 291, 297, 298, 299, 300, 225, 461, 462, 463, 464, 465, 466, 467, 468, 242, 243] (by decide +kernel) (by decide +kernel)
theorem gz_L_isWell_r5 : GoodIn wsL_law wsL_isWell_r5 := goodIn_r _ [244, 46, 469, 470, 471, 472, 473, 474, 475, 476, 477, 478, 479, 480, 481, 482, 483, 189, 190, 191, 192, 194, 484, 485] (by decide +kernel) (by decide +kernel)
theorem gz_L_isWell_r6 : GoodIn wsL_law wsL_isWell_r6 := goodIn_r _ [486, 128, 487, 488, 489, 490, 133, 134, 491, 247, 248, 249, 250, 251, 492, 493, 494, 495, 496, 497, 498, 499, 500, 501] (by decide +kernel) (by decide +kernel)
theorem gz_L_isWell_r7 : GoodIn wsL_law wsL_isWell_r7 := goodIn_r _ [502, 503, 504, 505, 506, 115, 116, 117, 26, 118, 41, 119, 120, 507, 508, 509, 510, 511, 35, 512, 513, 514, 515, 516] (by decide +kernel) (by decide +kernel)
