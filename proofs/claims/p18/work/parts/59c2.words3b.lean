/-! the law's words among the tables' -/
set_option maxRecDepth 100000 in
theorem wsL_c_17 : ∀ w ∈ ([Cond.code yX4_staying cX4_staying 3 (some .long), Cond.code yX5_way cX5_way 5 (some .int), Cond.code yX3_steps cX3_steps 10 (some .int), Cond.code yX5_digest cX5_digest 6 (some .long), Cond.code yX5_foresee cX5_foresee 3 (some .int), Cond.code yX5_isYears cX5_isYears 1 (some .boolean)] : List Cond), w ∈ lw_tbl := List.forall_mem_cons.mpr ⟨List.mem_of_getElem? (i := 287) rfl, List.forall_mem_cons.mpr ⟨List.mem_of_getElem? (i := 440) rfl, List.forall_mem_cons.mpr ⟨List.mem_of_getElem? (i := 445) rfl, List.forall_mem_cons.mpr ⟨List.mem_of_getElem? (i := 476) rfl, List.forall_mem_cons.mpr ⟨List.mem_of_getElem? (i := 458) rfl, List.forall_mem_cons.mpr ⟨List.mem_of_getElem? (i := 162) rfl, fun _ h => absurd h List.not_mem_nil⟩⟩⟩⟩⟩⟩
set_option maxRecDepth 20000 in
theorem wsL_n_17 : (wsL_law0_r17.filter (fun w => !isBig w)).all (fun w => decide (w ∈ lw_tbl)) = true := by decide +kernel
theorem wsL_in_17 : ∀ w ∈ wsL_law0_r17, w ∈ lw_tbl := fun w h => by
  by_cases hc : isBig w = true
  · exact wsL_c_17 w (show w ∈ wsL_law0_r17.filter isBig from List.mem_filter.mpr ⟨h, hc⟩)
  · have h1 := List.all_eq_true.mp wsL_n_17 w (List.mem_filter.mpr ⟨h, by simpa using hc⟩)
    exact of_decide_eq_true h1
set_option maxRecDepth 100000 in
theorem wsL_c_18 : ∀ w ∈ ([Cond.code yX2_copyFrom cX2_copyFrom 3 none, Cond.code yX2_growYears cX2_growYears 3 none, Cond.code yX2_growYear cX2_growYear 6 none, Cond.code yX5_period cX5_period 4 (some .int), Cond.code yX5_foreseeComing cX5_foreseeComing 4 none, Cond.code yX5_advise cX5_advise 9 (some .int)] : List Cond), w ∈ lw_tbl := List.forall_mem_cons.mpr ⟨List.mem_of_getElem? (i := 463) rfl, List.forall_mem_cons.mpr ⟨List.mem_of_getElem? (i := 234) rfl, List.forall_mem_cons.mpr ⟨List.mem_of_getElem? (i := 238) rfl, List.forall_mem_cons.mpr ⟨List.mem_of_getElem? (i := 449) rfl, List.forall_mem_cons.mpr ⟨List.mem_of_getElem? (i := 454) rfl, List.forall_mem_cons.mpr ⟨List.mem_of_getElem? (i := 467) rfl, fun _ h => absurd h List.not_mem_nil⟩⟩⟩⟩⟩⟩
set_option maxRecDepth 20000 in
theorem wsL_n_18 : (wsL_law0_r18.filter (fun w => !isBig w)).all (fun w => decide (w ∈ lw_tbl)) = true := by decide +kernel
theorem wsL_in_18 : ∀ w ∈ wsL_law0_r18, w ∈ lw_tbl := fun w h => by
  by_cases hc : isBig w = true
  · exact wsL_c_18 w (show w ∈ wsL_law0_r18.filter isBig from List.mem_filter.mpr ⟨h, hc⟩)
  · have h1 := List.all_eq_true.mp wsL_n_18 w (List.mem_filter.mpr ⟨h, by simpa using hc⟩)
    exact of_decide_eq_true h1
set_option maxRecDepth 100000 in
theorem wsL_c_19 : ∀ w ∈ ([Cond.code yX5_sizeBehind cX5_sizeBehind 4 (some .int), Cond.code yX5_pass cX5_pass 2 (some .int), Cond.code yX6_go cX6_go 3 (some .int), Cond.code yX6_pass cX6_pass 5 (some .int), Cond.code yX6_has cX6_has 3 (some .boolean)] : List Cond), w ∈ lw_tbl := List.forall_mem_cons.mpr ⟨List.mem_of_getElem? (i := 472) rfl, List.forall_mem_cons.mpr ⟨List.mem_of_getElem? (i := 159) rfl, List.forall_mem_cons.mpr ⟨List.mem_of_getElem? (i := 490) rfl, List.forall_mem_cons.mpr ⟨List.mem_of_getElem? (i := 494) rfl, List.forall_mem_cons.mpr ⟨List.mem_of_getElem? (i := 503) rfl, fun _ h => absurd h List.not_mem_nil⟩⟩⟩⟩⟩
set_option maxRecDepth 20000 in
theorem wsL_n_19 : (wsL_law0_r19.filter (fun w => !isBig w)).all (fun w => decide (w ∈ lw_tbl)) = true := by decide +kernel
theorem wsL_in_19 : ∀ w ∈ wsL_law0_r19, w ∈ lw_tbl := fun w h => by
  by_cases hc : isBig w = true
  · exact wsL_c_19 w (show w ∈ wsL_law0_r19.filter isBig from List.mem_filter.mpr ⟨h, hc⟩)
  · have h1 := List.all_eq_true.mp wsL_n_19 w (List.mem_filter.mpr ⟨h, by simpa using hc⟩)
    exact of_decide_eq_true h1
set_option maxRecDepth 100000 in
theorem wsL_c_20 : ∀ w ∈ ([Cond.code yX6_comes cX6_comes 5 (some .boolean), Cond.code yX6_near cX6_near 6 (some .int), Cond.code yX6_isSame cX6_isSame 13 (some .boolean), Cond.code yX6_counts cX6_counts 9 (some (.array .int)), Cond.code yX6_lawns cX6_lawns 9 (some (.array (.array .int)))] : List Cond), w ∈ lw_tbl := List.forall_mem_cons.mpr ⟨List.mem_of_getElem? (i := 507) rfl, List.forall_mem_cons.mpr ⟨List.mem_of_getElem? (i := 511) rfl, List.forall_mem_cons.mpr ⟨List.mem_of_getElem? (i := 519) rfl, List.forall_mem_cons.mpr ⟨List.mem_of_getElem? (i := 523) rfl, List.forall_mem_cons.mpr ⟨List.mem_of_getElem? (i := 527) rfl, fun _ h => absurd h List.not_mem_nil⟩⟩⟩⟩⟩
set_option maxRecDepth 20000 in
theorem wsL_n_20 : (wsL_law0_r20.filter (fun w => !isBig w)).all (fun w => decide (w ∈ lw_tbl)) = true := by decide +kernel
theorem wsL_in_20 : ∀ w ∈ wsL_law0_r20, w ∈ lw_tbl := fun w h => by
  by_cases hc : isBig w = true
  · exact wsL_c_20 w (show w ∈ wsL_law0_r20.filter isBig from List.mem_filter.mpr ⟨h, hc⟩)
  · have h1 := List.all_eq_true.mp wsL_n_20 w (List.mem_filter.mpr ⟨h, by simpa using hc⟩)
    exact of_decide_eq_true h1
set_option maxRecDepth 100000 in
theorem wsL_c_21 : ∀ w ∈ ([Cond.code yX5_mean cX5_mean 2 (some .double), Cond.code yX2_ageOfAll cX2_ageOfAll 3 (some .int), Cond.code yX6_sum cX6_sum 10 (some .int)] : List Cond), w ∈ lw_tbl := List.forall_mem_cons.mpr ⟨List.mem_of_getElem? (i := 534) rfl, List.forall_mem_cons.mpr ⟨List.mem_of_getElem? (i := 538) rfl, List.forall_mem_cons.mpr ⟨List.mem_of_getElem? (i := 542) rfl, fun _ h => absurd h List.not_mem_nil⟩⟩⟩
set_option maxRecDepth 20000 in
theorem wsL_n_21 : (wsL_law0_r21.filter (fun w => !isBig w)).all (fun w => decide (w ∈ lw_tbl)) = true := by decide +kernel
theorem wsL_in_21 : ∀ w ∈ wsL_law0_r21, w ∈ lw_tbl := fun w h => by
  by_cases hc : isBig w = true
  · exact wsL_c_21 w (show w ∈ wsL_law0_r21.filter isBig from List.mem_filter.mpr ⟨h, hc⟩)
  · have h1 := List.all_eq_true.mp wsL_n_21 w (List.mem_filter.mpr ⟨h, by simpa using hc⟩)
    exact of_decide_eq_true h1
