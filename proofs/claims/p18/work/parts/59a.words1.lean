/-! the law's words among the tables' -/
def isBig (w : Cond) : Bool := match w with
  | .code .. => true
  | .codeWith .. => true
  | _ => false
set_option maxRecDepth 100000 in
theorem wsL_c_1 : ∀ w ∈ ([Cond.code Lib.Math.max.name Lib.Math.max.code 2 (some .int), Cond.code yX5_init cX5_init 1 none, Cond.code objectInit ⟨#[0xb1]⟩ 1 none] : List Cond), w ∈ lw_tbl := List.forall_mem_cons.mpr ⟨List.mem_of_getElem? (i := 428) rfl, List.forall_mem_cons.mpr ⟨List.mem_of_getElem? (i := 30) rfl, List.forall_mem_cons.mpr ⟨List.mem_of_getElem? (i := 33) rfl, fun _ h => absurd h List.not_mem_nil⟩⟩⟩
set_option maxRecDepth 20000 in
theorem wsL_n_1 : (wsL_law0_r1.filter (fun w => !isBig w)).all (fun w => decide (w ∈ lw_tbl)) = true := by decide +kernel
theorem wsL_in_1 : ∀ w ∈ wsL_law0_r1, w ∈ lw_tbl := fun w h => by
  by_cases hc : isBig w = true
  · exact wsL_c_1 w (show w ∈ wsL_law0_r1.filter isBig from List.mem_filter.mpr ⟨h, hc⟩)
  · have h1 := List.all_eq_true.mp wsL_n_1 w (List.mem_filter.mpr ⟨h, by simpa using hc⟩)
    exact of_decide_eq_true h1
set_option maxRecDepth 100000 in
theorem wsL_c_2 : ∀ w ∈ ([Cond.code yX3_init cX3_init 1 none, Cond.code yX4_init cX4_init 2 none, Cond.code yX0_init cX0_init 1 none] : List Cond), w ∈ lw_tbl := List.forall_mem_cons.mpr ⟨List.mem_of_getElem? (i := 38) rfl, List.forall_mem_cons.mpr ⟨List.mem_of_getElem? (i := 69) rfl, List.forall_mem_cons.mpr ⟨List.mem_of_getElem? (i := 75) rfl, fun _ h => absurd h List.not_mem_nil⟩⟩⟩
set_option maxRecDepth 20000 in
theorem wsL_n_2 : (wsL_law0_r2.filter (fun w => !isBig w)).all (fun w => decide (w ∈ lw_tbl)) = true := by decide +kernel
theorem wsL_in_2 : ∀ w ∈ wsL_law0_r2, w ∈ lw_tbl := fun w h => by
  by_cases hc : isBig w = true
  · exact wsL_c_2 w (show w ∈ wsL_law0_r2.filter isBig from List.mem_filter.mpr ⟨h, hc⟩)
  · have h1 := List.all_eq_true.mp wsL_n_2 w (List.mem_filter.mpr ⟨h, by simpa using hc⟩)
    exact of_decide_eq_true h1
set_option maxRecDepth 100000 in
theorem wsL_c_3 : ∀ w ∈ ([Cond.code yX2_init cX2_init 3 none, Cond.code yX3_resize cX3_resize 4 none, Cond.code yX3_cell cX3_cell 2 (some .long), Cond.code yL_build cL_build 5 (some (.object "HedgeGlidersLaw$Sim"))] : List Cond), w ∈ lw_tbl := List.forall_mem_cons.mpr ⟨List.mem_of_getElem? (i := 107) rfl, List.forall_mem_cons.mpr ⟨List.mem_of_getElem? (i := 135) rfl, List.forall_mem_cons.mpr ⟨List.mem_of_getElem? (i := 138) rfl, List.forall_mem_cons.mpr ⟨List.mem_of_getElem? (i := 652) rfl, fun _ h => absurd h List.not_mem_nil⟩⟩⟩⟩
set_option maxRecDepth 20000 in
theorem wsL_n_3 : (wsL_law0_r3.filter (fun w => !isBig w)).all (fun w => decide (w ∈ lw_tbl)) = true := by decide +kernel
theorem wsL_in_3 : ∀ w ∈ wsL_law0_r3, w ∈ lw_tbl := fun w h => by
  by_cases hc : isBig w = true
  · exact wsL_c_3 w (show w ∈ wsL_law0_r3.filter isBig from List.mem_filter.mpr ⟨h, hc⟩)
  · have h1 := List.all_eq_true.mp wsL_n_3 w (List.mem_filter.mpr ⟨h, by simpa using hc⟩)
    exact of_decide_eq_true h1
set_option maxRecDepth 100000 in
theorem wsL_c_4 : ∀ w ∈ ([Cond.code yX6_init cX6_init 1 none, Cond.code yX6_rows cX6_rows 9 (some (.array (.array .int))), Cond.code yL_cell cL_cell 2 (some .int), Cond.code yL_below cL_below 2 (some .int)] : List Cond), w ∈ lw_tbl := List.forall_mem_cons.mpr ⟨List.mem_of_getElem? (i := 657) rfl, List.forall_mem_cons.mpr ⟨List.mem_of_getElem? (i := 497) rfl, List.forall_mem_cons.mpr ⟨List.mem_of_getElem? (i := 550) rfl, List.forall_mem_cons.mpr ⟨List.mem_of_getElem? (i := 546) rfl, fun _ h => absurd h List.not_mem_nil⟩⟩⟩⟩
set_option maxRecDepth 20000 in
theorem wsL_n_4 : (wsL_law0_r4.filter (fun w => !isBig w)).all (fun w => decide (w ∈ lw_tbl)) = true := by decide +kernel
theorem wsL_in_4 : ∀ w ∈ wsL_law0_r4, w ∈ lw_tbl := fun w h => by
  by_cases hc : isBig w = true
  · exact wsL_c_4 w (show w ∈ wsL_law0_r4.filter isBig from List.mem_filter.mpr ⟨h, hc⟩)
  · have h1 := List.all_eq_true.mp wsL_n_4 w (List.mem_filter.mpr ⟨h, by simpa using hc⟩)
    exact of_decide_eq_true h1
set_option maxRecDepth 100000 in
theorem wsL_c_5 : ∀ w ∈ ([Cond.codeWith yL_act cL_act 17 (some .boolean) [(599, 631, 632, 72)], Cond.code yX6_hedges cX6_hedges 10 (some .int), Cond.code yX5_lay cX5_lay 4 (some .int), Cond.code yX5_isSide cX5_isSide 1 (some .boolean)] : List Cond), w ∈ lw_tbl := List.forall_mem_cons.mpr ⟨List.mem_of_getElem? (i := 554) rfl, List.forall_mem_cons.mpr ⟨List.mem_of_getElem? (i := 515) rfl, List.forall_mem_cons.mpr ⟨List.mem_of_getElem? (i := 561) rfl, List.forall_mem_cons.mpr ⟨List.mem_of_getElem? (i := 564) rfl, fun _ h => absurd h List.not_mem_nil⟩⟩⟩⟩
set_option maxRecDepth 20000 in
theorem wsL_n_5 : (wsL_law0_r5.filter (fun w => !isBig w)).all (fun w => decide (w ∈ lw_tbl)) = true := by decide +kernel
theorem wsL_in_5 : ∀ w ∈ wsL_law0_r5, w ∈ lw_tbl := fun w h => by
  by_cases hc : isBig w = true
  · exact wsL_c_5 w (show w ∈ wsL_law0_r5.filter isBig from List.mem_filter.mpr ⟨h, hc⟩)
  · have h1 := List.all_eq_true.mp wsL_n_5 w (List.mem_filter.mpr ⟨h, by simpa using hc⟩)
    exact of_decide_eq_true h1
