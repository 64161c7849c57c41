/-! the law's words among the tables' -/
set_option maxRecDepth 100000 in
theorem wsL_c_6 : ∀ w ∈ ([Cond.code yX2_size cX2_size 1 (some .int), Cond.code yJ13_bitCount_95d88 cJ13_bitCount_95d88 2 (some .int), Cond.code yX2_hedges cX2_hedges 1 (some .long), Cond.code yX2_cut cX2_cut 3 none] : List Cond), w ∈ lw_tbl := List.forall_mem_cons.mpr ⟨List.mem_of_getElem? (i := 302) rfl, List.forall_mem_cons.mpr ⟨List.mem_of_getElem? (i := 290) rfl, List.forall_mem_cons.mpr ⟨List.mem_of_getElem? (i := 339) rfl, List.forall_mem_cons.mpr ⟨List.mem_of_getElem? (i := 569) rfl, fun _ h => absurd h List.not_mem_nil⟩⟩⟩⟩
set_option maxRecDepth 20000 in
theorem wsL_n_6 : (wsL_law0_r6.filter (fun w => !isBig w)).all (fun w => decide (w ∈ lw_tbl)) = true := by decide +kernel
theorem wsL_in_6 : ∀ w ∈ wsL_law0_r6, w ∈ lw_tbl := fun w h => by
  by_cases hc : isBig w = true
  · exact wsL_c_6 w (show w ∈ wsL_law0_r6.filter isBig from List.mem_filter.mpr ⟨h, hc⟩)
  · have h1 := List.all_eq_true.mp wsL_n_6 w (List.mem_filter.mpr ⟨h, by simpa using hc⟩)
    exact of_decide_eq_true h1
set_option maxRecDepth 100000 in
theorem wsL_c_7 : ∀ w ∈ ([Cond.code yX5_setRules cX5_setRules 4 (some .int), Cond.code yX5_isSetOfNumbers cX5_isSetOfNumbers 1 (some .boolean), Cond.code yX4_births cX4_births 1 (some .int), Cond.code yX4_stays cX4_stays 1 (some .int), Cond.code yX4_replace cX4_replace 3 none, Cond.code yX5_setEdge cX5_setEdge 3 (some .boolean), Cond.code yX3_isRound cX3_isRound 1 (some .boolean)] : List Cond), w ∈ lw_tbl := List.forall_mem_cons.mpr ⟨List.mem_of_getElem? (i := 573) rfl, List.forall_mem_cons.mpr ⟨List.mem_of_getElem? (i := 576) rfl, List.forall_mem_cons.mpr ⟨List.mem_of_getElem? (i := 482) rfl, List.forall_mem_cons.mpr ⟨List.mem_of_getElem? (i := 486) rfl, List.forall_mem_cons.mpr ⟨List.mem_of_getElem? (i := 581) rfl, List.forall_mem_cons.mpr ⟨List.mem_of_getElem? (i := 585) rfl, List.forall_mem_cons.mpr ⟨List.mem_of_getElem? (i := 411) rfl, fun _ h => absurd h List.not_mem_nil⟩⟩⟩⟩⟩⟩⟩
set_option maxRecDepth 20000 in
theorem wsL_n_7 : (wsL_law0_r7.filter (fun w => !isBig w)).all (fun w => decide (w ∈ lw_tbl)) = true := by decide +kernel
theorem wsL_in_7 : ∀ w ∈ wsL_law0_r7, w ∈ lw_tbl := fun w h => by
  by_cases hc : isBig w = true
  · exact wsL_c_7 w (show w ∈ wsL_law0_r7.filter isBig from List.mem_filter.mpr ⟨h, hc⟩)
  · have h1 := List.all_eq_true.mp wsL_n_7 w (List.mem_filter.mpr ⟨h, by simpa using hc⟩)
    exact of_decide_eq_true h1
set_option maxRecDepth 100000 in
theorem wsL_c_8 : ∀ w ∈ ([Cond.code yX3_makeRound cX3_makeRound 2 none, Cond.code yX5_turn cX5_turn 5 (some .int), Cond.code yX3_has cX3_has 3 (some .boolean), Cond.code yX2_hasHedge cX2_hasHedge 3 (some .boolean), Cond.code yX2_putYoung cX2_putYoung 4 none] : List Cond), w ∈ lw_tbl := List.forall_mem_cons.mpr ⟨List.mem_of_getElem? (i := 589) rfl, List.forall_mem_cons.mpr ⟨List.mem_of_getElem? (i := 593) rfl, List.forall_mem_cons.mpr ⟨List.mem_of_getElem? (i := 310) rfl, List.forall_mem_cons.mpr ⟨List.mem_of_getElem? (i := 335) rfl, List.forall_mem_cons.mpr ⟨List.mem_of_getElem? (i := 298) rfl, fun _ h => absurd h List.not_mem_nil⟩⟩⟩⟩⟩
set_option maxRecDepth 20000 in
theorem wsL_n_8 : (wsL_law0_r8.filter (fun w => !isBig w)).all (fun w => decide (w ∈ lw_tbl)) = true := by decide +kernel
theorem wsL_in_8 : ∀ w ∈ wsL_law0_r8, w ∈ lw_tbl := fun w h => by
  by_cases hc : isBig w = true
  · exact wsL_c_8 w (show w ∈ wsL_law0_r8.filter isBig from List.mem_filter.mpr ⟨h, hc⟩)
  · have h1 := List.all_eq_true.mp wsL_n_8 w (List.mem_filter.mpr ⟨h, by simpa using hc⟩)
    exact of_decide_eq_true h1
set_option maxRecDepth 100000 in
theorem wsL_c_9 : ∀ w ∈ ([Cond.code yL_figure cL_figure 2 (some (.array (.array .int))), Cond.code yX5_plant cX5_plant 6 (some .int), Cond.code yX5_isQuarter cX5_isQuarter 1 (some .boolean), Cond.code yX1_picture cX1_picture 1 (some .int), Cond.code yX1_turned cX1_turned 4 (some .int), Cond.code yX1_turnedOnce cX1_turnedOnce 4 (some .int)] : List Cond), w ∈ lw_tbl := List.forall_mem_cons.mpr ⟨List.mem_of_getElem? (i := 597) rfl, List.forall_mem_cons.mpr ⟨List.mem_of_getElem? (i := 604) rfl, List.forall_mem_cons.mpr ⟨List.mem_of_getElem? (i := 607) rfl, List.forall_mem_cons.mpr ⟨List.mem_of_getElem? (i := 611) rfl, List.forall_mem_cons.mpr ⟨List.mem_of_getElem? (i := 614) rfl, List.forall_mem_cons.mpr ⟨List.mem_of_getElem? (i := 617) rfl, fun _ h => absurd h List.not_mem_nil⟩⟩⟩⟩⟩⟩
set_option maxRecDepth 20000 in
theorem wsL_n_9 : (wsL_law0_r9.filter (fun w => !isBig w)).all (fun w => decide (w ∈ lw_tbl)) = true := by decide +kernel
theorem wsL_in_9 : ∀ w ∈ wsL_law0_r9, w ∈ lw_tbl := fun w h => by
  by_cases hc : isBig w = true
  · exact wsL_c_9 w (show w ∈ wsL_law0_r9.filter isBig from List.mem_filter.mpr ⟨h, hc⟩)
  · have h1 := List.all_eq_true.mp wsL_n_9 w (List.mem_filter.mpr ⟨h, by simpa using hc⟩)
    exact of_decide_eq_true h1
set_option maxRecDepth 100000 in
theorem wsL_c_10 : ∀ w ∈ ([Cond.code yX1_has cX1_has 3 (some .boolean), Cond.code yX1_fits cX1_fits 6 (some .boolean), Cond.code yX1_cells cX1_cells 8 (some .long), Cond.code yX3_wide cX3_wide 1 (some .int), Cond.code yX1_wrapped cX1_wrapped 2 (some .int), Cond.code yX3_high cX3_high 1 (some .int)] : List Cond), w ∈ lw_tbl := List.forall_mem_cons.mpr ⟨List.mem_of_getElem? (i := 620) rfl, List.forall_mem_cons.mpr ⟨List.mem_of_getElem? (i := 623) rfl, List.forall_mem_cons.mpr ⟨List.mem_of_getElem? (i := 643) rfl, List.forall_mem_cons.mpr ⟨List.mem_of_getElem? (i := 395) rfl, List.forall_mem_cons.mpr ⟨List.mem_of_getElem? (i := 647) rfl, List.forall_mem_cons.mpr ⟨List.mem_of_getElem? (i := 399) rfl, fun _ h => absurd h List.not_mem_nil⟩⟩⟩⟩⟩⟩
set_option maxRecDepth 20000 in
theorem wsL_n_10 : (wsL_law0_r10.filter (fun w => !isBig w)).all (fun w => decide (w ∈ lw_tbl)) = true := by decide +kernel
theorem wsL_in_10 : ∀ w ∈ wsL_law0_r10, w ∈ lw_tbl := fun w h => by
  by_cases hc : isBig w = true
  · exact wsL_c_10 w (show w ∈ wsL_law0_r10.filter isBig from List.mem_filter.mpr ⟨h, hc⟩)
  · have h1 := List.all_eq_true.mp wsL_n_10 w (List.mem_filter.mpr ⟨h, by simpa using hc⟩)
    exact of_decide_eq_true h1
set_option maxRecDepth 100000 in
theorem wsL_c_11 : ∀ w ∈ ([Cond.code yX5_count cX5_count 2 (some .int), Cond.code yX5_counted cX5_counted 3 (some .int), Cond.code yX2_year cX2_year 1 (some .int), Cond.code yX2_birthsInAll cX2_birthsInAll 1 (some .int), Cond.code yX2_deathsInAll cX2_deathsInAll 1 (some .int)] : List Cond), w ∈ lw_tbl := List.forall_mem_cons.mpr ⟨List.mem_of_getElem? (i := 382) rfl, List.forall_mem_cons.mpr ⟨List.mem_of_getElem? (i := 387) rfl, List.forall_mem_cons.mpr ⟨List.mem_of_getElem? (i := 391) rfl, List.forall_mem_cons.mpr ⟨List.mem_of_getElem? (i := 403) rfl, List.forall_mem_cons.mpr ⟨List.mem_of_getElem? (i := 407) rfl, fun _ h => absurd h List.not_mem_nil⟩⟩⟩⟩⟩
set_option maxRecDepth 20000 in
theorem wsL_n_11 : (wsL_law0_r11.filter (fun w => !isBig w)).all (fun w => decide (w ∈ lw_tbl)) = true := by decide +kernel
theorem wsL_in_11 : ∀ w ∈ wsL_law0_r11, w ∈ lw_tbl := fun w h => by
  by_cases hc : isBig w = true
  · exact wsL_c_11 w (show w ∈ wsL_law0_r11.filter isBig from List.mem_filter.mpr ⟨h, hc⟩)
  · have h1 := List.all_eq_true.mp wsL_n_11 w (List.mem_filter.mpr ⟨h, by simpa using hc⟩)
    exact of_decide_eq_true h1
