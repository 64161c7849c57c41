theorem goodIn_one {big : List Cond} {c : Cond} {i : Nat} (h : big[i]? = some c) (g : goodWord c = true) : GoodIn big [c] := fun w h2 => by
  obtain rfl := List.mem_singleton.mp h2
  exact ⟨List.mem_of_getElem? h, good_of_word g⟩
theorem goodIn_cons {big : List Cond} {c : Cond} {L : List Cond} (h1 : GoodIn big [c]) (h2 : GoodIn big L) : GoodIn big (c :: L) := fun w h => (List.mem_cons.mp h).elim (fun e => h1 w (by rw [e]; exact List.mem_cons_self)) (h2 w)
theorem ggL_build_L_act_c : GoodIn wsL_build [.codeWith yL_act cL_act 17 (some .boolean) [(599, 631, 632, 72)]] := goodIn_one (i := 31) rfl (by decide +kernel)
set_option maxRecDepth 20000 in
theorem ggL_build_L_act_wsL_act_r1 : GoodIn wsL_build wsL_act_r1 := goodIn_r _ [32, 33, 34, 35, 36, 37, 38, 25, 26, 22, 27, 28, 39, 40, 41, 3, 42, 14, 43, 16, 17, 18, 19, 44] (by decide +kernel) (by decide +kernel)
set_option maxRecDepth 20000 in
theorem ggL_build_L_act_wsL_act_r2 : GoodIn wsL_build wsL_act_r2 := goodIn_r _ [45, 46, 47, 48, 49, 50, 51, 52, 53, 54, 55, 56, 57, 58, 59, 60, 61, 62, 63, 64, 65, 66, 67, 68] (by decide +kernel) (by decide +kernel)
set_option maxRecDepth 20000 in
theorem ggL_build_L_act_wsL_act_r3 : GoodIn wsL_build wsL_act_r3 := goodIn_r _ [69, 70, 71, 72, 73, 74, 75, 76, 77, 78, 79, 80, 81, 82, 83, 84, 85, 86, 87, 88, 89, 90, 91, 92] (by decide +kernel) (by decide +kernel)
set_option maxRecDepth 20000 in
theorem ggL_build_L_act_wsL_act_r4 : GoodIn wsL_build wsL_act_r4 := goodIn_r _ [93, 94, 95, 96, 97, 98, 99, 100, 101, 102, 103, 104, 105, 106, 107, 108, 109, 110, 111, 112, 113, 114, 115, 116] (by decide +kernel) (by decide +kernel)
set_option maxRecDepth 20000 in
theorem ggL_build_L_act_wsL_act_r5 : GoodIn wsL_build wsL_act_r5 := goodIn_r _ [117, 118, 119, 120, 121, 122, 123, 124, 125, 126, 127, 128, 129, 130, 131, 132, 133, 134, 135, 136, 137, 138, 139, 140] (by decide +kernel) (by decide +kernel)
set_option maxRecDepth 20000 in
theorem ggL_build_L_act_wsL_act_r6 : GoodIn wsL_build wsL_act_r6 := goodIn_r _ [141, 142, 143, 144, 145, 146, 147, 148, 149, 150, 151, 152, 153, 154, 155, 156, 157, 158, 159, 160, 161, 162, 163, 164] (by decide +kernel) (by decide +kernel)
set_option maxRecDepth 20000 in
theorem ggL_build_L_act_wsL_act_r7 : GoodIn wsL_build wsL_act_r7 := goodIn_r _ [165, 166, 167, 168, 169, 170, 171, 172, 173, 174, 175, 176, 177, 178, 179, 180, 181, 182, 183, 184, 185, 186, 187, 188] (by decide +kernel) (by decide +kernel)
set_option maxRecDepth 20000 in
theorem ggL_build_L_act_wsL_act_r8 : GoodIn wsL_build wsL_act_r8 := goodIn_r _ [189, 190, 191, 192, 193, 194] (by decide +kernel) (by decide +kernel)
theorem ggL_build_L_act_wsX60 : GoodIn wsL_build wsX60 := goodIn_r _ [195, 196, 197, 198, 199, 200, 201, 202, 203] (by decide +kernel) (by decide +kernel)
theorem ggL_build_L_act_wsX50 : GoodIn wsL_build wsX50 := goodIn_r _ [204, 205, 206, 207, 208] (by decide +kernel) (by decide +kernel)
theorem ggL_build_L_act_wsX20 : GoodIn wsL_build wsX20 := goodIn_r _ [209, 210, 211, 212, 213, 214, 215] (by decide +kernel) (by decide +kernel)
theorem ggL_build_L_act_wsX30 : GoodIn wsL_build wsX30 := goodIn_r _ [216, 217, 218, 219, 220, 221, 222, 223] (by decide +kernel) (by decide +kernel)
theorem ggL_build_L_act_wsX40 : GoodIn wsL_build wsX40 := goodIn_r _ [224, 225, 226, 227] (by decide +kernel) (by decide +kernel)
theorem ggL_build_L_act : GoodIn wsL_build wsL_act := goodIn_cons ggL_build_L_act_c (goodIn_app (goodIn_app (goodIn_app (goodIn_app (goodIn_app (goodIn_app (goodIn_app (goodIn_app (goodIn_app ggL_build_L_act_wsL_act_r1 (goodIn_app ggL_build_L_act_wsL_act_r2 (goodIn_app ggL_build_L_act_wsL_act_r3 (goodIn_app ggL_build_L_act_wsL_act_r4 (goodIn_app ggL_build_L_act_wsL_act_r5 (goodIn_app ggL_build_L_act_wsL_act_r6 (goodIn_app ggL_build_L_act_wsL_act_r7 ggL_build_L_act_wsL_act_r8))))))) ggL_build_L_act_wsX60) ggL_build_L_act_wsX50) ggL_build_L_act_wsX20) ggL_build_L_act_wsX30) ggL_build_L_act_wsX40) (goodIn_sub (fun _ h => List.mem_cons_of_mem _ (List.mem_append_left _ (List.mem_append_left _ (List.mem_append_right _ h)))) (by decide +kernel))) (goodIn_sub (fun _ h => List.mem_cons_of_mem _ (List.mem_append_left _ (List.mem_append_right _ h))) (by decide +kernel))) (goodIn_sub (fun _ h => List.mem_cons_of_mem _ (List.mem_append_right _ h)) (by decide +kernel)))
theorem gL_build_L_act : GoodIn wsL_build (va_wsS RL 80 yL_act wsL_act) := goodIn_app (goodIn_of _ (by decide +kernel)) ggL_build_L_act
