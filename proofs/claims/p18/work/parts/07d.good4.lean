theorem ggL_law_X6_isSame_c : GoodIn wsL_law [.code yX6_isSame cX6_isSame 13 (some .boolean)] := goodIn_one (i := 468) rfl (by decide +kernel)
set_option maxRecDepth 20000 in
theorem ggL_law_X6_isSame_wsX6_isSame_r1 : GoodIn wsL_law wsX6_isSame_r1 := goodIn_r _ [79, 80, 3, 83, 469, 470, 471, 74, 472, 4, 473, 6, 7, 8, 450, 448, 449, 455, 474, 475, 476, 477, 84, 85] (by decide +kernel) (by decide +kernel)
set_option maxRecDepth 20000 in
theorem ggL_law_X6_isSame_wsX6_isSame_r2 : GoodIn wsL_law wsX6_isSame_r2 := goodIn_r _ [86, 87, 451, 452, 453, 454, 456, 457, 458, 459, 82, 81, 460, 461, 462, 463, 464, 107, 108, 109, 478, 239, 240, 2] (by decide +kernel) (by decide +kernel)
set_option maxRecDepth 20000 in
theorem ggL_law_X6_isSame_wsX6_isSame_r3 : GoodIn wsL_law wsX6_isSame_r3 := goodIn_r _ [241, 177, 178, 26, 242, 243, 244, 245, 18, 246, 247, 248, 25, 249, 250, 251, 227, 228, 17, 229, 58, 252, 234, 235] (by decide +kernel) (by decide +kernel)
set_option maxRecDepth 20000 in
theorem ggL_law_X6_isSame_wsX6_isSame_r4 : GoodIn wsL_law wsX6_isSame_r4 := goodIn_r _ [236, 59, 120, 121, 122, 123, 124, 125, 126, 127, 128, 129, 130, 131, 253, 254, 255, 256, 257, 258, 259, 260, 261, 262] (by decide +kernel) (by decide +kernel)
set_option maxRecDepth 20000 in
theorem ggL_law_X6_isSame_wsX6_isSame_r5 : GoodIn wsL_law wsX6_isSame_r5 := goodIn_r _ [164, 165, 166, 167, 168, 263, 264, 265, 266, 267, 268, 269, 270, 52, 140, 271, 272, 273, 274, 275, 276, 277, 278, 63] (by decide +kernel) (by decide +kernel)
set_option maxRecDepth 20000 in
theorem ggL_law_X6_isSame_wsX6_isSame_r6 : GoodIn wsL_law wsX6_isSame_r6 := goodIn_r _ [279, 280, 281, 282, 283, 284, 285, 286, 287, 288, 289, 290, 291, 62, 292, 293, 294, 295, 64, 296, 297, 298, 299, 60] (by decide +kernel) (by decide +kernel)
set_option maxRecDepth 20000 in
theorem ggL_law_X6_isSame_wsX6_isSame_r7 : GoodIn wsL_law wsX6_isSame_r7 := goodIn_r _ [300, 301, 302, 303, 61, 304, 305, 306, 307, 308, 309, 310, 311, 312, 53, 313, 314, 315, 21, 316, 40, 43, 41, 317] (by decide +kernel) (by decide +kernel)
set_option maxRecDepth 20000 in
theorem ggL_law_X6_isSame_wsX6_isSame_r8 : GoodIn wsL_law wsX6_isSame_r8 := goodIn_r _ [318, 319, 39, 320, 321, 322, 323, 324, 325, 326, 327, 328, 329, 330, 331, 332, 333, 334, 335, 336, 337, 338, 339, 340] (by decide +kernel) (by decide +kernel)
set_option maxRecDepth 20000 in
theorem ggL_law_X6_isSame_wsX6_isSame_r9 : GoodIn wsL_law wsX6_isSame_r9 := goodIn_r _ [341, 342, 343, 344, 345, 346, 347, 348, 349, 51, 479, 351, 352, 353, 179, 180, 181, 182, 354, 355, 356, 357, 22, 183] (by decide +kernel) (by decide +kernel)
set_option maxRecDepth 20000 in
theorem ggL_law_X6_isSame_wsX6_isSame_r10 : GoodIn wsL_law wsX6_isSame_r10 := goodIn_r _ [66, 67, 184, 185, 186, 187, 132, 133, 134, 135, 358, 359, 360, 361, 362, 363, 364, 365, 366, 367, 368, 369, 370, 371] (by decide +kernel) (by decide +kernel)
set_option maxRecDepth 20000 in
theorem ggL_law_X6_isSame_wsX6_isSame_r11 : GoodIn wsL_law wsX6_isSame_r11 := goodIn_r _ [372, 373, 374, 375, 376, 377, 378, 379, 380, 381, 382, 383, 384, 42, 480, 481, 482, 483, 484, 485, 486, 487, 488, 489] (by decide +kernel) (by decide +kernel)
set_option maxRecDepth 20000 in
theorem ggL_law_X6_isSame_wsX6_isSame_r12 : GoodIn wsL_law wsX6_isSame_r12 := goodIn_r _ [490, 491] (by decide +kernel) (by decide +kernel)
theorem ggL_law_X6_isSame_wsX60 : GoodIn wsL_law wsX60 := goodIn_r _ [520, 521, 522, 523, 524, 525, 526, 527, 528] (by decide +kernel) (by decide +kernel)
theorem ggL_law_X6_isSame_wsX50 : GoodIn wsL_law wsX50 := goodIn_r _ [492, 493, 494, 495, 496] (by decide +kernel) (by decide +kernel)
theorem ggL_law_X6_isSame_wsX20 : GoodIn wsL_law wsX20 := goodIn_r _ [509, 510, 511, 512, 513, 514, 515] (by decide +kernel) (by decide +kernel)
theorem ggL_law_X6_isSame_wsX30 : GoodIn wsL_law wsX30 := goodIn_r _ [497, 498, 499, 500, 501, 502, 503, 504] (by decide +kernel) (by decide +kernel)
theorem ggL_law_X6_isSame_wsX40 : GoodIn wsL_law wsX40 := goodIn_r _ [505, 506, 507, 508] (by decide +kernel) (by decide +kernel)
theorem ggL_law_X6_isSame_wsX00 : GoodIn wsL_law wsX00 := goodIn_r _ [516, 517, 518, 519] (by decide +kernel) (by decide +kernel)
theorem ggL_law_X6_isSame : GoodIn wsL_law wsX6_isSame := goodIn_cons ggL_law_X6_isSame_c (goodIn_app (goodIn_app (goodIn_app (goodIn_app (goodIn_app (goodIn_app (goodIn_app (goodIn_app ggL_law_X6_isSame_wsX6_isSame_r1 (goodIn_app ggL_law_X6_isSame_wsX6_isSame_r2 (goodIn_app ggL_law_X6_isSame_wsX6_isSame_r3 (goodIn_app ggL_law_X6_isSame_wsX6_isSame_r4 (goodIn_app ggL_law_X6_isSame_wsX6_isSame_r5 (goodIn_app ggL_law_X6_isSame_wsX6_isSame_r6 (goodIn_app ggL_law_X6_isSame_wsX6_isSame_r7 (goodIn_app ggL_law_X6_isSame_wsX6_isSame_r8 (goodIn_app ggL_law_X6_isSame_wsX6_isSame_r9 (goodIn_app ggL_law_X6_isSame_wsX6_isSame_r10 (goodIn_app ggL_law_X6_isSame_wsX6_isSame_r11 ggL_law_X6_isSame_wsX6_isSame_r12))))))))))) ggL_law_X6_isSame_wsX60) ggL_law_X6_isSame_wsX50) ggL_law_X6_isSame_wsX20) ggL_law_X6_isSame_wsX30) ggL_law_X6_isSame_wsX40) ggL_law_X6_isSame_wsX00) (goodIn_sub (fun _ h => List.mem_append_left _ (List.mem_append_right _ h)) (by decide +kernel)))
theorem gL_law_X6_isSame : GoodIn wsL_law (wsV RL 124 RX6 yX6_isSame wsX6_isSame) := goodIn_app (goodIn_of _ (by decide +kernel)) ggL_law_X6_isSame
