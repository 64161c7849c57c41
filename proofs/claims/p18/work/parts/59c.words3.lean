/-! the law's words among the tables' -/
set_option maxRecDepth 100000 in
theorem wsL_c_12 : ∀ w ∈ ([Cond.code yX2_lawns cX2_lawns 1 (some .int), Cond.code yX2_lawnsWithout cX2_lawnsWithout 9 (some .int), Cond.code yX2_open cX2_open 1 (some .long), Cond.code yX3_open cX3_open 3 (some .long), Cond.code yX3_lawn cX3_lawn 10 (some .long), Cond.code yX3_withBeside cX3_withBeside 5 (some .long)] : List Cond), w ∈ lw_tbl := List.forall_mem_cons.mpr ⟨List.mem_of_getElem? (i := 415) rfl, List.forall_mem_cons.mpr ⟨List.mem_of_getElem? (i := 419) rfl, List.forall_mem_cons.mpr ⟨List.mem_of_getElem? (i := 358) rfl, List.forall_mem_cons.mpr ⟨List.mem_of_getElem? (i := 271) rfl, List.forall_mem_cons.mpr ⟨List.mem_of_getElem? (i := 363) rfl, List.forall_mem_cons.mpr ⟨List.mem_of_getElem? (i := 367) rfl, fun _ h => absurd h List.not_mem_nil⟩⟩⟩⟩⟩⟩
set_option maxRecDepth 20000 in
theorem wsL_n_12 : (wsL_law0_r12.filter (fun w => !isBig w)).all (fun w => decide (w ∈ lw_tbl)) = true := by decide +kernel
theorem wsL_in_12 : ∀ w ∈ wsL_law0_r12, w ∈ lw_tbl := fun w h => by
  by_cases hc : isBig w = true
  · exact wsL_c_12 w (show w ∈ wsL_law0_r12.filter isBig from List.mem_filter.mpr ⟨h, hc⟩)
  · have h1 := List.all_eq_true.mp wsL_n_12 w (List.mem_filter.mpr ⟨h, by simpa using hc⟩)
    exact of_decide_eq_true h1
set_option maxRecDepth 100000 in
theorem wsL_c_13 : ∀ w ∈ ([Cond.code yX3_left cX3_left 5 (some .long), Cond.code yX3_right cX3_right 5 (some .long), Cond.code yX3_up cX3_up 5 (some .long), Cond.code yX3_down cX3_down 5 (some .long), Cond.code yX2_greatestLawn cX2_greatestLawn 7 (some .int)] : List Cond), w ∈ lw_tbl := List.forall_mem_cons.mpr ⟨List.mem_of_getElem? (i := 259) rfl, List.forall_mem_cons.mpr ⟨List.mem_of_getElem? (i := 267) rfl, List.forall_mem_cons.mpr ⟨List.mem_of_getElem? (i := 250) rfl, List.forall_mem_cons.mpr ⟨List.mem_of_getElem? (i := 255) rfl, List.forall_mem_cons.mpr ⟨List.mem_of_getElem? (i := 425) rfl, fun _ h => absurd h List.not_mem_nil⟩⟩⟩⟩⟩
set_option maxRecDepth 20000 in
theorem wsL_n_13 : (wsL_law0_r13.filter (fun w => !isBig w)).all (fun w => decide (w ∈ lw_tbl)) = true := by decide +kernel
theorem wsL_in_13 : ∀ w ∈ wsL_law0_r13, w ∈ lw_tbl := fun w h => by
  by_cases hc : isBig w = true
  · exact wsL_c_13 w (show w ∈ wsL_law0_r13.filter isBig from List.mem_filter.mpr ⟨h, hc⟩)
  · have h1 := List.all_eq_true.mp wsL_n_13 w (List.mem_filter.mpr ⟨h, by simpa using hc⟩)
    exact of_decide_eq_true h1
set_option maxRecDepth 100000 in
theorem wsL_c_14 : ∀ w ∈ ([Cond.code yX2_stillLawns cX2_stillLawns 1 (some .int), Cond.code yX4_born cX4_born 3 (some .long), Cond.code yX0_lookAround cX0_lookAround 8 none, Cond.code yX0_add cX0_add 9 none] : List Cond), w ∈ lw_tbl := List.forall_mem_cons.mpr ⟨List.mem_of_getElem? (i := 432) rfl, List.forall_mem_cons.mpr ⟨List.mem_of_getElem? (i := 242) rfl, List.forall_mem_cons.mpr ⟨List.mem_of_getElem? (i := 246) rfl, List.forall_mem_cons.mpr ⟨List.mem_of_getElem? (i := 263) rfl, fun _ h => absurd h List.not_mem_nil⟩⟩⟩⟩
set_option maxRecDepth 20000 in
theorem wsL_n_14 : (wsL_law0_r14.filter (fun w => !isBig w)).all (fun w => decide (w ∈ lw_tbl)) = true := by decide +kernel
theorem wsL_in_14 : ∀ w ∈ wsL_law0_r14, w ∈ lw_tbl := fun w h => by
  by_cases hc : isBig w = true
  · exact wsL_c_14 w (show w ∈ wsL_law0_r14.filter isBig from List.mem_filter.mpr ⟨h, hc⟩)
  · have h1 := List.all_eq_true.mp wsL_n_14 w (List.mem_filter.mpr ⟨h, by simpa using hc⟩)
    exact of_decide_eq_true h1
set_option maxRecDepth 100000 in
theorem wsL_c_15 : ∀ w ∈ ([Cond.code yX4_cellsWithOneOf cX4_cellsWithOneOf 5 (some .long), Cond.code yX0_cellsWith cX0_cellsWith 2 (some .long), Cond.code yX0_bit cX0_bit 2 (some .boolean), Cond.code yX2_oldest cX2_oldest 3 (some .int), Cond.code yX5_told cX5_told 4 (some .int), Cond.code yX5_fact cX5_fact 6 (some .int)] : List Cond), w ∈ lw_tbl := List.forall_mem_cons.mpr ⟨List.mem_of_getElem? (i := 275) rfl, List.forall_mem_cons.mpr ⟨List.mem_of_getElem? (i := 279) rfl, List.forall_mem_cons.mpr ⟨List.mem_of_getElem? (i := 282) rfl, List.forall_mem_cons.mpr ⟨List.mem_of_getElem? (i := 436) rfl, List.forall_mem_cons.mpr ⟨List.mem_of_getElem? (i := 306) rfl, List.forall_mem_cons.mpr ⟨List.mem_of_getElem? (i := 330) rfl, fun _ h => absurd h List.not_mem_nil⟩⟩⟩⟩⟩⟩
set_option maxRecDepth 20000 in
theorem wsL_n_15 : (wsL_law0_r15.filter (fun w => !isBig w)).all (fun w => decide (w ∈ lw_tbl)) = true := by decide +kernel
theorem wsL_in_15 : ∀ w ∈ wsL_law0_r15, w ∈ lw_tbl := fun w h => by
  by_cases hc : isBig w = true
  · exact wsL_c_15 w (show w ∈ wsL_law0_r15.filter isBig from List.mem_filter.mpr ⟨h, hc⟩)
  · have h1 := List.all_eq_true.mp wsL_n_15 w (List.mem_filter.mpr ⟨h, by simpa using hc⟩)
    exact of_decide_eq_true h1
set_option maxRecDepth 100000 in
theorem wsL_c_16 : ∀ w ∈ ([Cond.code yX4_neighbours cX4_neighbours 5 (some .int), Cond.code yX0_around cX0_around 3 (some .int), Cond.code yX0_worth cX0_worth 3 (some .int), Cond.code yX2_age cX2_age 4 (some .int), Cond.code yX4_behindYears cX4_behindYears 7 (some .long)] : List Cond), w ∈ lw_tbl := List.forall_mem_cons.mpr ⟨List.mem_of_getElem? (i := 343) rfl, List.forall_mem_cons.mpr ⟨List.mem_of_getElem? (i := 347) rfl, List.forall_mem_cons.mpr ⟨List.mem_of_getElem? (i := 350) rfl, List.forall_mem_cons.mpr ⟨List.mem_of_getElem? (i := 354) rfl, List.forall_mem_cons.mpr ⟨List.mem_of_getElem? (i := 376) rfl, fun _ h => absurd h List.not_mem_nil⟩⟩⟩⟩⟩
set_option maxRecDepth 20000 in
theorem wsL_n_16 : (wsL_law0_r16.filter (fun w => !isBig w)).all (fun w => decide (w ∈ lw_tbl)) = true := by decide +kernel
theorem wsL_in_16 : ∀ w ∈ wsL_law0_r16, w ∈ lw_tbl := fun w h => by
  by_cases hc : isBig w = true
  · exact wsL_c_16 w (show w ∈ wsL_law0_r16.filter isBig from List.mem_filter.mpr ⟨h, hc⟩)
  · have h1 := List.all_eq_true.mp wsL_n_16 w (List.mem_filter.mpr ⟨h, by simpa using hc⟩)
    exact of_decide_eq_true h1
