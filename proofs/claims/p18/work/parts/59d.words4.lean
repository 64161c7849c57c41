/-! the law's words among the tables' -/
theorem wsL_in_r : ∀ w ∈ (wsL_law0_r1 ++ (wsL_law0_r2 ++ (wsL_law0_r3 ++ (wsL_law0_r4 ++ (wsL_law0_r5 ++ (wsL_law0_r6 ++ (wsL_law0_r7 ++ (wsL_law0_r8 ++ (wsL_law0_r9 ++ (wsL_law0_r10 ++ (wsL_law0_r11 ++ (wsL_law0_r12 ++ (wsL_law0_r13 ++ (wsL_law0_r14 ++ (wsL_law0_r15 ++ (wsL_law0_r16 ++ (wsL_law0_r17 ++ (wsL_law0_r18 ++ (wsL_law0_r19 ++ (wsL_law0_r20 ++ wsL_law0_r21)))))))))))))))))))), w ∈ lw_tbl := fun w h => (List.mem_append.mp h).elim (fun h => wsL_in_1 w h) (fun h => (List.mem_append.mp h).elim (fun h => wsL_in_2 w h) (fun h => (List.mem_append.mp h).elim (fun h => wsL_in_3 w h) (fun h => (List.mem_append.mp h).elim (fun h => wsL_in_4 w h) (fun h => (List.mem_append.mp h).elim (fun h => wsL_in_5 w h) (fun h => (List.mem_append.mp h).elim (fun h => wsL_in_6 w h) (fun h => (List.mem_append.mp h).elim (fun h => wsL_in_7 w h) (fun h => (List.mem_append.mp h).elim (fun h => wsL_in_8 w h) (fun h => (List.mem_append.mp h).elim (fun h => wsL_in_9 w h) (fun h => (List.mem_append.mp h).elim (fun h => wsL_in_10 w h) (fun h => (List.mem_append.mp h).elim (fun h => wsL_in_11 w h) (fun h => (List.mem_append.mp h).elim (fun h => wsL_in_12 w h) (fun h => (List.mem_append.mp h).elim (fun h => wsL_in_13 w h) (fun h => (List.mem_append.mp h).elim (fun h => wsL_in_14 w h) (fun h => (List.mem_append.mp h).elim (fun h => wsL_in_15 w h) (fun h => (List.mem_append.mp h).elim (fun h => wsL_in_16 w h) (fun h => (List.mem_append.mp h).elim (fun h => wsL_in_17 w h) (fun h => (List.mem_append.mp h).elim (fun h => wsL_in_18 w h) (fun h => (List.mem_append.mp h).elim (fun h => wsL_in_19 w h) (fun h => (List.mem_append.mp h).elim (fun h => wsL_in_20 w h) (fun h => wsL_in_21 w h))))))))))))))))))))
set_option maxRecDepth 20000 in
theorem wsL_in_X5 : ∀ w ∈ wsX50, w ∈ lw_tbl := by decide +kernel
set_option maxRecDepth 20000 in
theorem wsL_in_X3 : ∀ w ∈ wsX30, w ∈ lw_tbl := by decide +kernel
set_option maxRecDepth 20000 in
theorem wsL_in_X4 : ∀ w ∈ wsX40, w ∈ lw_tbl := by decide +kernel
set_option maxRecDepth 20000 in
theorem wsL_in_X2 : ∀ w ∈ wsX20, w ∈ lw_tbl := by decide +kernel
set_option maxRecDepth 20000 in
theorem wsL_in_X0 : ∀ w ∈ wsX00, w ∈ lw_tbl := by decide +kernel
set_option maxRecDepth 20000 in
theorem wsL_in_X6 : ∀ w ∈ wsX60, w ∈ lw_tbl := by decide +kernel
theorem wsL_law_in0 : ∀ w ∈ wsL_law0, w ∈ lw_tbl := fun w h => (List.mem_append.mp h).elim (fun h => (List.mem_append.mp h).elim (fun h => (List.mem_append.mp h).elim (fun h => (List.mem_append.mp h).elim (fun h => (List.mem_append.mp h).elim (fun h => (List.mem_append.mp h).elim (fun h => (List.mem_append.mp h).elim (fun h => wsL_in_r w h) (fun h => wsL_in_X5 w h)) (fun h => wsL_in_X3 w h)) (fun h => wsL_in_X4 w h)) (fun h => wsL_in_X2 w h)) (fun h => wsL_in_X0 w h)) (fun h => wsL_in_X6 w h)) (fun h => nomatch h)
theorem wsL_law_x0 : ∀ w ∈ (vx_atS RX5 53 "java/lang/IllegalArgumentException" ["java/lang/RuntimeException", "java/lang/Exception"]).filter goodWord, w ∈ lw_tbl := by decide +kernel
theorem wsL_law_x1 : ∀ w ∈ (vx_atS RX5 98 "java/lang/IndexOutOfBoundsException" ["java/lang/RuntimeException", "java/lang/Exception"]).filter goodWord, w ∈ lw_tbl := by decide +kernel
theorem wsL_law_x2 : ∀ w ∈ (vx_atS RX5 133 "java/lang/IllegalStateException" ["java/lang/RuntimeException", "java/lang/Exception"]).filter goodWord, w ∈ lw_tbl := by decide +kernel
theorem wsL_law_in : ∀ w ∈ wsL_law, w ∈ lw_tbl := fun w h => (List.mem_append.mp h).elim (fun h => (List.mem_append.mp h).elim (fun h => (List.mem_append.mp h).elim (fun h => wsL_law_in0 w h) (fun h => wsL_law_x0 w h)) (fun h => wsL_law_x1 w h)) (fun h => wsL_law_x2 w h)
