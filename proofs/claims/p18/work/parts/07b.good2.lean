theorem ggL_law_L_build_c : GoodIn wsL_law [.code yL_build cL_build 5 (some (.object "HedgeGlidersLaw$Sim"))] := goodIn_one (i := 71) rfl (by decide +kernel)
set_option maxRecDepth 20000 in
theorem ggL_law_L_build_wsL_build_r1 : GoodIn wsL_law wsL_build_r1 := goodIn_r _ [72, 73, 74, 75, 76, 77, 78, 13, 14, 79, 80, 81, 82, 83, 84, 85, 86, 87, 3, 88, 89, 70, 90, 91] (by decide +kernel) (by decide +kernel)
set_option maxRecDepth 20000 in
theorem ggL_law_L_build_r2a : GoodIn wsL_law [Cond.methodLink RL 19 yL_below, Cond.static yL_below, Cond.code yL_below cL_below 2 (some .int), Cond.constant RL 7 (2147483647), Cond.methodLink RL 80 yL_act, Cond.static yL_act] := goodIn_r _ [92, 93, 94, 95, 96, 97] (by decide +kernel) (by decide +kernel)
theorem ggL_law_L_build_r2b : GoodIn wsL_law [Cond.codeWith yL_act cL_act 17 (some .boolean) [(599, 631, 632, 72)]] := goodIn_one (i := 98) rfl (by decide +kernel)
theorem ggL_law_L_build_r2c : GoodIn wsL_law [Cond.classLink RL 72 "java/lang/IllegalStateException", Cond.fieldLink RL 13 "HedgeGlidersLaw$Sim" "w" "I", Cond.fieldLink RL 25 "HedgeGlidersLaw$Sim" "h" "I", Cond.fieldLink RL 36 "HedgeGlidersLaw$Sim" "ages" "[[I", Cond.fieldLink RL 44 "HedgeGlidersLaw$Sim" "births" "I", Cond.fieldLink RL 47 "HedgeGlidersLaw$Sim" "stays" "I", Cond.fieldLink RL 53 "HedgeGlidersLaw$Sim" "isRound" "Z", Cond.methodLink RL 28 yX6_hedges, Cond.instanceMethod yX6_hedges, Cond.selects RX6 yX6_hedges yX6_hedges, Cond.code yX6_hedges cX6_hedges 10 (some .int), Cond.methodLink RL 32 yX6_rows, Cond.methodLink RL 39 yX5_lay, Cond.instanceMethod yX5_lay, Cond.selects RX5 yX5_lay yX5_lay, Cond.initialized RX5, Cond.code yX5_lay cX5_lay 4 (some .int)] := goodIn_r _ [99, 100, 101, 102, 103, 104, 105, 106, 107, 108, 109, 110, 111, 112, 113, 2, 114] (by decide +kernel) (by decide +kernel)
set_option maxRecDepth 20000 in
theorem ggL_law_L_build_wsL_build_r2 : GoodIn wsL_law wsL_build_r2 := goodIn_app ggL_law_L_build_r2a (goodIn_app ggL_law_L_build_r2b ggL_law_L_build_r2c)
set_option maxRecDepth 20000 in
theorem ggL_law_L_build_wsL_build_r3 : GoodIn wsL_law wsL_build_r3 := goodIn_r _ [115, 116, 26, 18, 117, 118, 119, 120, 121, 122, 25, 123, 124, 125, 126, 127, 128, 129, 130, 131, 132, 133, 134, 135] (by decide +kernel) (by decide +kernel)
set_option maxRecDepth 20000 in
theorem ggL_law_L_build_wsL_build_r4 : GoodIn wsL_law wsL_build_r4 := goodIn_r _ [136, 137, 138, 139, 140, 54, 55, 56, 17, 57, 58, 59, 60, 61, 62, 63, 64, 65, 66, 67, 141, 142, 143, 144] (by decide +kernel) (by decide +kernel)
set_option maxRecDepth 20000 in
theorem ggL_law_L_build_wsL_build_r5 : GoodIn wsL_law wsL_build_r5 := goodIn_r _ [22, 145, 146, 147, 148, 149, 150, 21, 151, 41, 152, 153, 154, 155, 42, 156, 157, 158, 159, 160, 161, 162, 163, 164] (by decide +kernel) (by decide +kernel)
set_option maxRecDepth 20000 in
theorem ggL_law_L_build_wsL_build_r6 : GoodIn wsL_law wsL_build_r6 := goodIn_r _ [165, 166, 167, 168, 169, 170, 171, 172, 173, 174, 175, 176, 177, 178, 179, 180, 181, 182, 183, 184, 185, 186, 187, 188] (by decide +kernel) (by decide +kernel)
set_option maxRecDepth 20000 in
theorem ggL_law_L_build_wsL_build_r7 : GoodIn wsL_law wsL_build_r7 := goodIn_r _ [189, 190, 191, 51, 192, 193, 194, 195, 196, 197, 198, 199, 200, 201, 202, 203, 204, 205, 206, 207, 208, 209, 210, 211] (by decide +kernel) (by decide +kernel)
set_option maxRecDepth 20000 in
theorem ggL_law_L_build_wsL_build_r8 : GoodIn wsL_law wsL_build_r8 := goodIn_r _ [212, 213, 214, 215, 216, 217, 218, 219, 220, 221, 222, 223, 224, 225, 226, 227, 228, 229, 230, 231, 232, 233, 234, 235] (by decide +kernel) (by decide +kernel)
set_option maxRecDepth 20000 in
theorem ggL_law_L_build_wsL_build_r9 : GoodIn wsL_law wsL_build_r9 := goodIn_r _ [236, 237] (by decide +kernel) (by decide +kernel)
theorem ggL_law_L_build_wsX60 : GoodIn wsL_law wsX60 := goodIn_r _ [520, 521, 522, 523, 524, 525, 526, 527, 528] (by decide +kernel) (by decide +kernel)
theorem ggL_law_L_build_wsX50 : GoodIn wsL_law wsX50 := goodIn_r _ [492, 493, 494, 495, 496] (by decide +kernel) (by decide +kernel)
theorem ggL_law_L_build_wsX20 : GoodIn wsL_law wsX20 := goodIn_r _ [509, 510, 511, 512, 513, 514, 515] (by decide +kernel) (by decide +kernel)
theorem ggL_law_L_build_wsX30 : GoodIn wsL_law wsX30 := goodIn_r _ [497, 498, 499, 500, 501, 502, 503, 504] (by decide +kernel) (by decide +kernel)
theorem ggL_law_L_build_wsX40 : GoodIn wsL_law wsX40 := goodIn_r _ [505, 506, 507, 508] (by decide +kernel) (by decide +kernel)
theorem ggL_law_L_build : GoodIn wsL_law wsL_build := goodIn_cons ggL_law_L_build_c (goodIn_app (goodIn_app (goodIn_app (goodIn_app (goodIn_app (goodIn_app (goodIn_app (goodIn_app (goodIn_app ggL_law_L_build_wsL_build_r1 (goodIn_app ggL_law_L_build_wsL_build_r2 (goodIn_app ggL_law_L_build_wsL_build_r3 (goodIn_app ggL_law_L_build_wsL_build_r4 (goodIn_app ggL_law_L_build_wsL_build_r5 (goodIn_app ggL_law_L_build_wsL_build_r6 (goodIn_app ggL_law_L_build_wsL_build_r7 (goodIn_app ggL_law_L_build_wsL_build_r8 ggL_law_L_build_wsL_build_r9)))))))) ggL_law_L_build_wsX60) ggL_law_L_build_wsX50) ggL_law_L_build_wsX20) ggL_law_L_build_wsX30) ggL_law_L_build_wsX40) (goodIn_sub (fun _ h => List.mem_append_left _ (List.mem_append_left _ (List.mem_append_right _ h))) (by decide +kernel))) (goodIn_sub (fun _ h => List.mem_append_left _ (List.mem_append_right _ h)) (by decide +kernel))) (goodIn_sub (fun _ h => List.mem_append_right _ h) (by decide +kernel)))
theorem gL_law_L_build : GoodIn wsL_law (va_wsS RL 85 yL_build wsL_build) := goodIn_app (goodIn_of _ (by decide +kernel)) ggL_law_L_build
