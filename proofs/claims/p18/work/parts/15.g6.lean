/-! HedgeGliders.isSide(I)Z -/
def f_X5_isSide (xn : Int32) : Int32 := if xn < 3 then (0) else (if 8 < xn then (0) else (1))
abbrev rm_X5_isSide : Room := ({ frames := 0, cells := 0, slots := 0, locals := 0 } : Room)
abbrev A_X5_isSide (cI cJ : ClassId) (xn : Int32) (sz : Nat) : Nat → Prop := va_A [] sz
abbrev Q_X5_isSide (dC : Nat → ClassId) (dI : Nat → Nat → Nat) (cI cJ : ClassId) (xn : Int32) (sz : Nat) (R : Int32) : Array Value → State → Outcome → State → Prop := va_Qi (fun (r : Int32) (_ : Unit) => r = R) (fun u_ t => va_P (dC, dI) vwCl [] t.heap ∧ va_K (dC, dI) vwCl [(cI, .int), (cJ, .long)] t ∧ va_D (A_X5_isSide cI cJ xn sz) []) (A_X5_isSide cI cJ xn sz)
set_option maxHeartbeats 4000000 in
set_option maxRecDepth 100000 in
theorem c_X5_isSide (l : Launch) (dC : Nat → ClassId) (dI : Nat → Nat → Nat) (cI cJ : ClassId) (sz : Nat) (xn : Int32) : Met l yX5_isSide wsX5_isSide rm_X5_isSide (va_Pc [.int xn] (fun U => U.heap.size = sz ∧ va_P (dC, dI) vwCl [] U.heap ∧ va_K (dC, dI) vwCl [(cI, .int), (cJ, .long)] U ∧ va_D (fun _ => True) [])) (Q_X5_isSide dC dI cI cJ xn sz (f_X5_isSide xn)) 0 0 (A_X5_isSide cI cJ xn sz) := by
  generalize hf : (f_X5_isSide xn) = R
  refine Met.ofW (cc := cX5_isSide) (maxL := 1) (ret := (some .boolean)) (by decide) rfl ?_
  intro p e s m args below meth c s₁ B hml hv
  obtain ⟨hargs, hsz, hP, hK, hD0⟩ := hv
  have hx := B.exec
  have hb := B.bytes
  have hr := B.returns
  have hts := atoms_spec (ws := wsX5_isSide) B.pre
  have hown : s.vm.findClass RX5 = some m.cls := findClass_of_methodNamed B.named
  have hlocks := B.notSynchronized
  subst hsz
  have hD : va_D (A_X5_isSide cI cJ xn s.heap.size) [] := hD0.self (sz := s.heap.size)
  have hA : ∀ q : Nat, s.heap.size ≤ q → (A_X5_isSide cI cJ xn s.heap.size) q := fun q h => Or.inr h
  have hS : va_S (A_X5_isSide cI cJ xn s.heap.size) s.heap s.heap [] := va_S.rf
  have hl := lv_entry ([.int xn]) (n := 1) (Nat.le_of_ble_eq_true rfl)
  have he0 : entryFrame m args 1 = entryFrame m ([.int xn] : List Value).toArray 1 := by rw [hargs]
  rw [he0, lg_entry_eq]
  generalize (lg_sl ([.int xn]) ++ List.replicate (1 - (lg_sl ([.int xn])).length) Slot.unset).toArray = ls at hl ⊢
  have hl : lv_has ls 1 [(0, .int xn)] := hl
  rw [f_X5_isSide] at hf
  refine lv_iload_n hx hb dX5_isSide_0 rfl (lv_at hl 0 rfl) ?_
  refine lv_iconst (v := 3) hx hb dX5_isSide_1 (by decide) ?_
  refine lv_icmp_lt (tgt := 15) hx hb dX5_isSide_2 (by decide) (fun hc => ?_) (fun hc => ?_)
  · rw [if_pos hc] at hf
    refine lv_iconst (v := 0) hx hb dX5_isSide_15 (by decide) ?_
    obtain rfl := hf
    exact W.zret (v := 0) (ty := .boolean) hx hb hr rfl (fun t ht hW => ⟨⟨0, (), rfl, rfl, by rw [ht]; exact hP, va_K.moved hW.alike hK, hD⟩, hS.F ht⟩) hS.2.2 dX5_isSide_16
  · rw [if_neg hc] at hf
    refine lv_iload_n hx hb dX5_isSide_5 rfl (lv_at hl 0 rfl) ?_
    refine lv_bipush (v := 8) hx hb dX5_isSide_6 (by decide) ?_
    refine lv_icmp_gt (tgt := 15) hx hb dX5_isSide_8 (by decide) (fun hc => ?_) (fun hc => ?_)
    · rw [if_pos hc] at hf
      refine lv_iconst (v := 0) hx hb dX5_isSide_15 (by decide) ?_
      obtain rfl := hf
      exact W.zret (v := 0) (ty := .boolean) hx hb hr rfl (fun t ht hW => ⟨⟨0, (), rfl, rfl, by rw [ht]; exact hP, va_K.moved hW.alike hK, hD⟩, hS.F ht⟩) hS.2.2 dX5_isSide_16
    · rw [if_neg hc] at hf
      refine lv_iconst (v := 1) hx hb dX5_isSide_11 (by decide) ?_
      refine lv_goto (tgt := 16) hx hb dX5_isSide_12 (by decide) ?_
      obtain rfl := hf
      exact W.zret (v := 1) (ty := .boolean) hx hb hr rfl (fun t ht hW => ⟨⟨1, (), rfl, rfl, by rw [ht]; exact hP, va_K.moved hW.alike hK, hD⟩, hS.F ht⟩) hS.2.2 dX5_isSide_16
/-! HedgeGliders.isSetOfNumbers(I)Z -/
def f_X5_isSetOfNumbers (xn : Int32) : Int32 := if xn < 0 then (0) else (if 511 < xn then (0) else (1))
abbrev rm_X5_isSetOfNumbers : Room := ({ frames := 0, cells := 0, slots := 0, locals := 0 } : Room)
abbrev A_X5_isSetOfNumbers (cI cJ : ClassId) (xn : Int32) (sz : Nat) : Nat → Prop := va_A [] sz
abbrev Q_X5_isSetOfNumbers (dC : Nat → ClassId) (dI : Nat → Nat → Nat) (cI cJ : ClassId) (xn : Int32) (sz : Nat) (R : Int32) : Array Value → State → Outcome → State → Prop := va_Qi (fun (r : Int32) (_ : Unit) => r = R) (fun u_ t => va_P (dC, dI) vwCl [] t.heap ∧ va_K (dC, dI) vwCl [(cI, .int), (cJ, .long)] t ∧ va_D (A_X5_isSetOfNumbers cI cJ xn sz) []) (A_X5_isSetOfNumbers cI cJ xn sz)
set_option maxHeartbeats 4000000 in
set_option maxRecDepth 100000 in
theorem c_X5_isSetOfNumbers (l : Launch) (dC : Nat → ClassId) (dI : Nat → Nat → Nat) (cI cJ : ClassId) (sz : Nat) (xn : Int32) : Met l yX5_isSetOfNumbers wsX5_isSetOfNumbers rm_X5_isSetOfNumbers (va_Pc [.int xn] (fun U => U.heap.size = sz ∧ va_P (dC, dI) vwCl [] U.heap ∧ va_K (dC, dI) vwCl [(cI, .int), (cJ, .long)] U ∧ va_D (fun _ => True) [])) (Q_X5_isSetOfNumbers dC dI cI cJ xn sz (f_X5_isSetOfNumbers xn)) 0 0 (A_X5_isSetOfNumbers cI cJ xn sz) := by
  generalize hf : (f_X5_isSetOfNumbers xn) = R
  refine Met.ofW (cc := cX5_isSetOfNumbers) (maxL := 1) (ret := (some .boolean)) (by decide) rfl ?_
  intro p e s m args below meth c s₁ B hml hv
  obtain ⟨hargs, hsz, hP, hK, hD0⟩ := hv
  have hx := B.exec
  have hb := B.bytes
  have hr := B.returns
  have hts := atoms_spec (ws := wsX5_isSetOfNumbers) B.pre
  have hown : s.vm.findClass RX5 = some m.cls := findClass_of_methodNamed B.named
  have hlocks := B.notSynchronized
  subst hsz
  have hD : va_D (A_X5_isSetOfNumbers cI cJ xn s.heap.size) [] := hD0.self (sz := s.heap.size)
  have hA : ∀ q : Nat, s.heap.size ≤ q → (A_X5_isSetOfNumbers cI cJ xn s.heap.size) q := fun q h => Or.inr h
  have hS : va_S (A_X5_isSetOfNumbers cI cJ xn s.heap.size) s.heap s.heap [] := va_S.rf
  have hl := lv_entry ([.int xn]) (n := 1) (Nat.le_of_ble_eq_true rfl)
  have he0 : entryFrame m args 1 = entryFrame m ([.int xn] : List Value).toArray 1 := by rw [hargs]
  rw [he0, lg_entry_eq]
  generalize (lg_sl ([.int xn]) ++ List.replicate (1 - (lg_sl ([.int xn])).length) Slot.unset).toArray = ls at hl ⊢
  have hl : lv_has ls 1 [(0, .int xn)] := hl
  rw [f_X5_isSetOfNumbers] at hf
  refine lv_iload_n hx hb dX5_isSetOfNumbers_0 rfl (lv_at hl 0 rfl) ?_
  refine lv_if_lt (tgt := 15) hx hb dX5_isSetOfNumbers_1 (by decide) (fun hc => ?_) (fun hc => ?_)
  · rw [if_pos hc] at hf
    refine lv_iconst (v := 0) hx hb dX5_isSetOfNumbers_15 (by decide) ?_
    obtain rfl := hf
    exact W.zret (v := 0) (ty := .boolean) hx hb hr rfl (fun t ht hW => ⟨⟨0, (), rfl, rfl, by rw [ht]; exact hP, va_K.moved hW.alike hK, hD⟩, hS.F ht⟩) hS.2.2 dX5_isSetOfNumbers_16
  · rw [if_neg hc] at hf
    refine lv_iload_n hx hb dX5_isSetOfNumbers_4 rfl (lv_at hl 0 rfl) ?_
    refine lv_sipush (v := 511) hx hb dX5_isSetOfNumbers_5 (by decide) ?_
    refine lv_icmp_gt (tgt := 15) hx hb dX5_isSetOfNumbers_8 (by decide) (fun hc => ?_) (fun hc => ?_)
    · rw [if_pos hc] at hf
      refine lv_iconst (v := 0) hx hb dX5_isSetOfNumbers_15 (by decide) ?_
      obtain rfl := hf
      exact W.zret (v := 0) (ty := .boolean) hx hb hr rfl (fun t ht hW => ⟨⟨0, (), rfl, rfl, by rw [ht]; exact hP, va_K.moved hW.alike hK, hD⟩, hS.F ht⟩) hS.2.2 dX5_isSetOfNumbers_16
    · rw [if_neg hc] at hf
      refine lv_iconst (v := 1) hx hb dX5_isSetOfNumbers_11 (by decide) ?_
      refine lv_goto (tgt := 16) hx hb dX5_isSetOfNumbers_12 (by decide) ?_
      obtain rfl := hf
      exact W.zret (v := 1) (ty := .boolean) hx hb hr rfl (fun t ht hW => ⟨⟨1, (), rfl, rfl, by rw [ht]; exact hP, va_K.moved hW.alike hK, hD⟩, hS.F ht⟩) hS.2.2 dX5_isSetOfNumbers_16
/-! HedgeGliders.isQuarter(I)Z -/
def f_X5_isQuarter (xn : Int32) : Int32 := if xn < 0 then (0) else (if 3 < xn then (0) else (1))
abbrev rm_X5_isQuarter : Room := ({ frames := 0, cells := 0, slots := 0, locals := 0 } : Room)
abbrev A_X5_isQuarter (cI cJ : ClassId) (xn : Int32) (sz : Nat) : Nat → Prop := va_A [] sz
abbrev Q_X5_isQuarter (dC : Nat → ClassId) (dI : Nat → Nat → Nat) (cI cJ : ClassId) (xn : Int32) (sz : Nat) (R : Int32) : Array Value → State → Outcome → State → Prop := va_Qi (fun (r : Int32) (_ : Unit) => r = R) (fun u_ t => va_P (dC, dI) vwCl [] t.heap ∧ va_K (dC, dI) vwCl [(cI, .int), (cJ, .long)] t ∧ va_D (A_X5_isQuarter cI cJ xn sz) []) (A_X5_isQuarter cI cJ xn sz)
set_option maxHeartbeats 4000000 in
set_option maxRecDepth 100000 in
theorem c_X5_isQuarter (l : Launch) (dC : Nat → ClassId) (dI : Nat → Nat → Nat) (cI cJ : ClassId) (sz : Nat) (xn : Int32) : Met l yX5_isQuarter wsX5_isQuarter rm_X5_isQuarter (va_Pc [.int xn] (fun U => U.heap.size = sz ∧ va_P (dC, dI) vwCl [] U.heap ∧ va_K (dC, dI) vwCl [(cI, .int), (cJ, .long)] U ∧ va_D (fun _ => True) [])) (Q_X5_isQuarter dC dI cI cJ xn sz (f_X5_isQuarter xn)) 0 0 (A_X5_isQuarter cI cJ xn sz) := by
  generalize hf : (f_X5_isQuarter xn) = R
  refine Met.ofW (cc := cX5_isQuarter) (maxL := 1) (ret := (some .boolean)) (by decide) rfl ?_
  intro p e s m args below meth c s₁ B hml hv
  obtain ⟨hargs, hsz, hP, hK, hD0⟩ := hv
  have hx := B.exec
  have hb := B.bytes
  have hr := B.returns
  have hts := atoms_spec (ws := wsX5_isQuarter) B.pre
  have hown : s.vm.findClass RX5 = some m.cls := findClass_of_methodNamed B.named
  have hlocks := B.notSynchronized
  subst hsz
  have hD : va_D (A_X5_isQuarter cI cJ xn s.heap.size) [] := hD0.self (sz := s.heap.size)
  have hA : ∀ q : Nat, s.heap.size ≤ q → (A_X5_isQuarter cI cJ xn s.heap.size) q := fun q h => Or.inr h
  have hS : va_S (A_X5_isQuarter cI cJ xn s.heap.size) s.heap s.heap [] := va_S.rf
  have hl := lv_entry ([.int xn]) (n := 1) (Nat.le_of_ble_eq_true rfl)
  have he0 : entryFrame m args 1 = entryFrame m ([.int xn] : List Value).toArray 1 := by rw [hargs]
  rw [he0, lg_entry_eq]
  generalize (lg_sl ([.int xn]) ++ List.replicate (1 - (lg_sl ([.int xn])).length) Slot.unset).toArray = ls at hl ⊢
  have hl : lv_has ls 1 [(0, .int xn)] := hl
  rw [f_X5_isQuarter] at hf
  refine lv_iload_n hx hb dX5_isQuarter_0 rfl (lv_at hl 0 rfl) ?_
  refine lv_if_lt (tgt := 13) hx hb dX5_isQuarter_1 (by decide) (fun hc => ?_) (fun hc => ?_)
  · rw [if_pos hc] at hf
    refine lv_iconst (v := 0) hx hb dX5_isQuarter_13 (by decide) ?_
    obtain rfl := hf
    exact W.zret (v := 0) (ty := .boolean) hx hb hr rfl (fun t ht hW => ⟨⟨0, (), rfl, rfl, by rw [ht]; exact hP, va_K.moved hW.alike hK, hD⟩, hS.F ht⟩) hS.2.2 dX5_isQuarter_14
  · rw [if_neg hc] at hf
    refine lv_iload_n hx hb dX5_isQuarter_4 rfl (lv_at hl 0 rfl) ?_
    refine lv_iconst (v := 3) hx hb dX5_isQuarter_5 (by decide) ?_
    refine lv_icmp_gt (tgt := 13) hx hb dX5_isQuarter_6 (by decide) (fun hc => ?_) (fun hc => ?_)
    · rw [if_pos hc] at hf
      refine lv_iconst (v := 0) hx hb dX5_isQuarter_13 (by decide) ?_
      obtain rfl := hf
      exact W.zret (v := 0) (ty := .boolean) hx hb hr rfl (fun t ht hW => ⟨⟨0, (), rfl, rfl, by rw [ht]; exact hP, va_K.moved hW.alike hK, hD⟩, hS.F ht⟩) hS.2.2 dX5_isQuarter_14
    · rw [if_neg hc] at hf
      refine lv_iconst (v := 1) hx hb dX5_isQuarter_9 (by decide) ?_
      refine lv_goto (tgt := 14) hx hb dX5_isQuarter_10 (by decide) ?_
      obtain rfl := hf
      exact W.zret (v := 1) (ty := .boolean) hx hb hr rfl (fun t ht hW => ⟨⟨1, (), rfl, rfl, by rw [ht]; exact hP, va_K.moved hW.alike hK, hD⟩, hS.F ht⟩) hS.2.2 dX5_isQuarter_14
/-! HedgeGliders.isYears(I)Z -/
def f_X5_isYears (xn : Int32) : Int32 := if xn < 1 then (0) else (if 50 < xn then (0) else (1))
abbrev rm_X5_isYears : Room := ({ frames := 0, cells := 0, slots := 0, locals := 0 } : Room)
abbrev A_X5_isYears (cI cJ : ClassId) (xn : Int32) (sz : Nat) : Nat → Prop := va_A [] sz
abbrev Q_X5_isYears (dC : Nat → ClassId) (dI : Nat → Nat → Nat) (cI cJ : ClassId) (xn : Int32) (sz : Nat) (R : Int32) : Array Value → State → Outcome → State → Prop := va_Qi (fun (r : Int32) (_ : Unit) => r = R) (fun u_ t => va_P (dC, dI) vwCl [] t.heap ∧ va_K (dC, dI) vwCl [(cI, .int), (cJ, .long)] t ∧ va_D (A_X5_isYears cI cJ xn sz) []) (A_X5_isYears cI cJ xn sz)
set_option maxHeartbeats 4000000 in
set_option maxRecDepth 100000 in
theorem c_X5_isYears (l : Launch) (dC : Nat → ClassId) (dI : Nat → Nat → Nat) (cI cJ : ClassId) (sz : Nat) (xn : Int32) : Met l yX5_isYears wsX5_isYears rm_X5_isYears (va_Pc [.int xn] (fun U => U.heap.size = sz ∧ va_P (dC, dI) vwCl [] U.heap ∧ va_K (dC, dI) vwCl [(cI, .int), (cJ, .long)] U ∧ va_D (fun _ => True) [])) (Q_X5_isYears dC dI cI cJ xn sz (f_X5_isYears xn)) 0 0 (A_X5_isYears cI cJ xn sz) := by
  generalize hf : (f_X5_isYears xn) = R
  refine Met.ofW (cc := cX5_isYears) (maxL := 1) (ret := (some .boolean)) (by decide) rfl ?_
  intro p e s m args below meth c s₁ B hml hv
  obtain ⟨hargs, hsz, hP, hK, hD0⟩ := hv
  have hx := B.exec
  have hb := B.bytes
  have hr := B.returns
  have hts := atoms_spec (ws := wsX5_isYears) B.pre
  have hown : s.vm.findClass RX5 = some m.cls := findClass_of_methodNamed B.named
  have hlocks := B.notSynchronized
  subst hsz
  have hD : va_D (A_X5_isYears cI cJ xn s.heap.size) [] := hD0.self (sz := s.heap.size)
  have hA : ∀ q : Nat, s.heap.size ≤ q → (A_X5_isYears cI cJ xn s.heap.size) q := fun q h => Or.inr h
  have hS : va_S (A_X5_isYears cI cJ xn s.heap.size) s.heap s.heap [] := va_S.rf
  have hl := lv_entry ([.int xn]) (n := 1) (Nat.le_of_ble_eq_true rfl)
  have he0 : entryFrame m args 1 = entryFrame m ([.int xn] : List Value).toArray 1 := by rw [hargs]
  rw [he0, lg_entry_eq]
  generalize (lg_sl ([.int xn]) ++ List.replicate (1 - (lg_sl ([.int xn])).length) Slot.unset).toArray = ls at hl ⊢
  have hl : lv_has ls 1 [(0, .int xn)] := hl
  rw [f_X5_isYears] at hf
  refine lv_iload_n hx hb dX5_isYears_0 rfl (lv_at hl 0 rfl) ?_
  refine lv_iconst (v := 1) hx hb dX5_isYears_1 (by decide) ?_
  refine lv_icmp_lt (tgt := 15) hx hb dX5_isYears_2 (by decide) (fun hc => ?_) (fun hc => ?_)
  · rw [if_pos hc] at hf
    refine lv_iconst (v := 0) hx hb dX5_isYears_15 (by decide) ?_
    obtain rfl := hf
    exact W.zret (v := 0) (ty := .boolean) hx hb hr rfl (fun t ht hW => ⟨⟨0, (), rfl, rfl, by rw [ht]; exact hP, va_K.moved hW.alike hK, hD⟩, hS.F ht⟩) hS.2.2 dX5_isYears_16
  · rw [if_neg hc] at hf
    refine lv_iload_n hx hb dX5_isYears_5 rfl (lv_at hl 0 rfl) ?_
    refine lv_bipush (v := 50) hx hb dX5_isYears_6 (by decide) ?_
    refine lv_icmp_gt (tgt := 15) hx hb dX5_isYears_8 (by decide) (fun hc => ?_) (fun hc => ?_)
    · rw [if_pos hc] at hf
      refine lv_iconst (v := 0) hx hb dX5_isYears_15 (by decide) ?_
      obtain rfl := hf
      exact W.zret (v := 0) (ty := .boolean) hx hb hr rfl (fun t ht hW => ⟨⟨0, (), rfl, rfl, by rw [ht]; exact hP, va_K.moved hW.alike hK, hD⟩, hS.F ht⟩) hS.2.2 dX5_isYears_16
    · rw [if_neg hc] at hf
      refine lv_iconst (v := 1) hx hb dX5_isYears_11 (by decide) ?_
      refine lv_goto (tgt := 16) hx hb dX5_isYears_12 (by decide) ?_
      obtain rfl := hf
      exact W.zret (v := 1) (ty := .boolean) hx hb hr rfl (fun t ht hW => ⟨⟨1, (), rfl, rfl, by rw [ht]; exact hP, va_K.moved hW.alike hK, hD⟩, hS.F ht⟩) hS.2.2 dX5_isYears_16
/-! HedgeGliders.fact(III)I -/
def f_X5_fact (gG : GrS) (rR : RuS) (dG : GaS) (aG : Nat → Int32) (cx : Int32) (cy : Int32) (wh : Int32) : Option (Int32) := if wh = 0 then (if (f_X2_hasHedge dG (f_X3_cell cx cy)) = 0 then (some 0) else (some 1)) else if wh = 1 then (some (f_X4_neighbours rR gG (f_X2_hedges dG) (f_X3_cell cx cy))) else if wh = 2 then (if (f_X2_hasHedge dG (f_X3_cell cx cy)) = 0 then (some (-1)) else (Option.bind (f_X2_age dG aG cx cy) fun r2 => some r2)) else if wh = 3 then (Option.bind (f_X3_lawn gG (f_X3_cell cx cy) (f_X2_open dG gG)) fun r3 => some (f_J13_bitCount_95d88 r3)) else (Option.bind (f_X4_behindYears rR gG (f_X2_hedges dG) 1) fun r4 => if (r4 &&& (f_X3_cell cx cy)) = 0 then (some 0) else (some 1))
abbrev rm_X5_fact : Room := ({ frames := 5, cells := 0, slots := 0, locals := 114 } : Room)
abbrev A_X5_fact (cI cJ : ClassId) (zhg zgr zru zcr zga zag zfo zco : Nat) (gG : GrS) (rR : RuS) (dG : GaS) (aG : Nat → Int32) (cx : Int32) (cy : Int32) (wh : Int32) (qC : CrS) (sz : Nat) : Nat → Prop := va_A [(zhg, .inr (4, [.ref zgr, .ref zru, .ref zga, .ref zfo, .ref zco])), (zgr, .inr (2, [.int gG.1, .int gG.2.1, .int (bI gG.2.2.1), .long gG.2.2.2.1, .long gG.2.2.2.2.1, .long gG.2.2.2.2.2.1, .long gG.2.2.2.2.2.2.1, .long gG.2.2.2.2.2.2.2])), (zru, .inr (3, [.ref zgr, .ref zcr, .int rR.1, .int rR.2])), (zcr, .inr (0, [.long qC.1, .long qC.2.1, .long qC.2.2.1, .long qC.2.2.2])), (zga, .inr (1, [.ref zgr, .ref zru, .ref zag, .long dG.1, .int dG.2.1, .int dG.2.2.1, .int dG.2.2.2])), (zag, .inl (cI, 64, .inl aG))] sz
abbrev Q_X5_fact (dC : Nat → ClassId) (dI : Nat → Nat → Nat) (cI cJ : ClassId) (zhg zgr zru zcr zga zag zfo zco : Nat) (gG : GrS) (rR : RuS) (dG : GaS) (aG : Nat → Int32) (cx : Int32) (cy : Int32) (wh : Int32) (qC : CrS) (sz : Nat) (R : Int32) : Array Value → State → Outcome → State → Prop := va_Qi (fun (r : Int32) (_ : CrS) => r = R) (fun u_ t => va_P (dC, dI) vwCl [(zhg, .inr (4, [.ref zgr, .ref zru, .ref zga, .ref zfo, .ref zco])), (zgr, .inr (2, [.int gG.1, .int gG.2.1, .int (bI gG.2.2.1), .long gG.2.2.2.1, .long gG.2.2.2.2.1, .long gG.2.2.2.2.2.1, .long gG.2.2.2.2.2.2.1, .long gG.2.2.2.2.2.2.2])), (zru, .inr (3, [.ref zgr, .ref zcr, .int rR.1, .int rR.2])), (zcr, .inr (0, [.long u_.1, .long u_.2.1, .long u_.2.2.1, .long u_.2.2.2])), (zga, .inr (1, [.ref zgr, .ref zru, .ref zag, .long dG.1, .int dG.2.1, .int dG.2.2.1, .int dG.2.2.2])), (zag, .inl (cI, 64, .inl aG))] t.heap ∧ va_K (dC, dI) vwCl [(cI, .int), (cJ, .long)] t ∧ va_D (A_X5_fact cI cJ zhg zgr zru zcr zga zag zfo zco gG rR dG aG cx cy wh qC sz) [(zhg, .inr (4, [.ref zgr, .ref zru, .ref zga, .ref zfo, .ref zco])), (zgr, .inr (2, [.int gG.1, .int gG.2.1, .int (bI gG.2.2.1), .long gG.2.2.2.1, .long gG.2.2.2.2.1, .long gG.2.2.2.2.2.1, .long gG.2.2.2.2.2.2.1, .long gG.2.2.2.2.2.2.2])), (zru, .inr (3, [.ref zgr, .ref zcr, .int rR.1, .int rR.2])), (zcr, .inr (0, [.long u_.1, .long u_.2.1, .long u_.2.2.1, .long u_.2.2.2])), (zga, .inr (1, [.ref zgr, .ref zru, .ref zag, .long dG.1, .int dG.2.1, .int dG.2.2.1, .int dG.2.2.2])), (zag, .inl (cI, 64, .inl aG))]) (A_X5_fact cI cJ zhg zgr zru zcr zga zag zfo zco gG rR dG aG cx cy wh qC sz)
set_option maxHeartbeats 4000000 in
set_option maxRecDepth 100000 in
theorem c_X5_fact (l : Launch) (dC : Nat → ClassId) (dI : Nat → Nat → Nat) (cI cJ : ClassId) (zhg zgr zru zcr zga zag zfo zco : Nat) (sz : Nat) (gG : GrS) (rR : RuS) (dG : GaS) (aG : Nat → Int32) (cx : Int32) (cy : Int32) (wh : Int32) (qC : CrS) (R : Int32) (hR : f_X5_fact gG rR dG aG cx cy wh = some R) : Met l yX5_fact wsX5_fact rm_X5_fact (va_Pc [.ref zhg, .int cx, .int cy, .int wh] (fun U => U.heap.size = sz ∧ va_P (dC, dI) vwCl [(zhg, .inr (4, [.ref zgr, .ref zru, .ref zga, .ref zfo, .ref zco])), (zgr, .inr (2, [.int gG.1, .int gG.2.1, .int (bI gG.2.2.1), .long gG.2.2.2.1, .long gG.2.2.2.2.1, .long gG.2.2.2.2.2.1, .long gG.2.2.2.2.2.2.1, .long gG.2.2.2.2.2.2.2])), (zru, .inr (3, [.ref zgr, .ref zcr, .int rR.1, .int rR.2])), (zcr, .inr (0, [.long qC.1, .long qC.2.1, .long qC.2.2.1, .long qC.2.2.2])), (zga, .inr (1, [.ref zgr, .ref zru, .ref zag, .long dG.1, .int dG.2.1, .int dG.2.2.1, .int dG.2.2.2])), (zag, .inl (cI, 64, .inl aG))] U.heap ∧ va_K (dC, dI) vwCl [(cI, .int), (cJ, .long)] U ∧ va_D (fun _ => True) [(zhg, .inr (4, [.ref zgr, .ref zru, .ref zga, .ref zfo, .ref zco])), (zgr, .inr (2, [.int gG.1, .int gG.2.1, .int (bI gG.2.2.1), .long gG.2.2.2.1, .long gG.2.2.2.2.1, .long gG.2.2.2.2.2.1, .long gG.2.2.2.2.2.2.1, .long gG.2.2.2.2.2.2.2])), (zru, .inr (3, [.ref zgr, .ref zcr, .int rR.1, .int rR.2])), (zcr, .inr (0, [.long qC.1, .long qC.2.1, .long qC.2.2.1, .long qC.2.2.2])), (zga, .inr (1, [.ref zgr, .ref zru, .ref zag, .long dG.1, .int dG.2.1, .int dG.2.2.1, .int dG.2.2.2])), (zag, .inl (cI, 64, .inl aG))])) (Q_X5_fact dC dI cI cJ zhg zgr zru zcr zga zag zfo zco gG rR dG aG cx cy wh qC sz R) 0 0 (A_X5_fact cI cJ zhg zgr zru zcr zga zag zfo zco gG rR dG aG cx cy wh qC sz) := by
  have hf := hR
  refine Met.ofW (cc := cX5_fact) (maxL := 6) (ret := (some .int)) (by decide) rfl ?_
  intro p e s m args below meth c s₁ B hml hv
  obtain ⟨hargs, hsz, hP, hK, hD0⟩ := hv
  have hx := B.exec
  have hb := B.bytes
  have hr := B.returns
  have hts := atoms_spec (ws := wsX5_fact) B.pre
  have hown : s.vm.findClass RX5 = some m.cls := findClass_of_methodNamed B.named
  have hlocks := B.notSynchronized
  subst hsz
  have hD : va_D (A_X5_fact cI cJ zhg zgr zru zcr zga zag zfo zco gG rR dG aG cx cy wh qC s.heap.size) [(zhg, .inr (4, [.ref zgr, .ref zru, .ref zga, .ref zfo, .ref zco])), (zgr, .inr (2, [.int gG.1, .int gG.2.1, .int (bI gG.2.2.1), .long gG.2.2.2.1, .long gG.2.2.2.2.1, .long gG.2.2.2.2.2.1, .long gG.2.2.2.2.2.2.1, .long gG.2.2.2.2.2.2.2])), (zru, .inr (3, [.ref zgr, .ref zcr, .int rR.1, .int rR.2])), (zcr, .inr (0, [.long qC.1, .long qC.2.1, .long qC.2.2.1, .long qC.2.2.2])), (zga, .inr (1, [.ref zgr, .ref zru, .ref zag, .long dG.1, .int dG.2.1, .int dG.2.2.1, .int dG.2.2.2])), (zag, .inl (cI, 64, .inl aG))] := hD0.self (sz := s.heap.size)
  have hA : ∀ q : Nat, s.heap.size ≤ q → (A_X5_fact cI cJ zhg zgr zru zcr zga zag zfo zco gG rR dG aG cx cy wh qC s.heap.size) q := fun q h => Or.inr h
  have hS : va_S (A_X5_fact cI cJ zhg zgr zru zcr zga zag zfo zco gG rR dG aG cx cy wh qC s.heap.size) s.heap s.heap [] := va_S.rf
  have hinX5 : ∀ w ∈ wsX50, w ∈ wsX5_fact := by decide +kernel
  have hw0 := hts (.fieldLink RX5 30 "HedgeGliders" "garden" "LHedgeGliders$Garden;") (by decide +kernel)
  have hw1 := hts (.fieldLink RX5 21 "HedgeGliders" "rules" "LHedgeGliders$Rules;") (by decide +kernel)
  have hw2 := hts (.fieldLink RX5 10 "HedgeGliders" "ground" "LHedgeGliders$Ground;") (by decide +kernel)
  have hl := lv_entry ([.ref zhg, .int cx, .int cy, .int wh]) (n := 6) (Nat.le_of_ble_eq_true rfl)
  have he0 : entryFrame m args 6 = entryFrame m ([.ref zhg, .int cx, .int cy, .int wh] : List Value).toArray 6 := by rw [hargs]
  rw [he0, lg_entry_eq]
  generalize (lg_sl ([.ref zhg, .int cx, .int cy, .int wh]) ++ List.replicate (6 - (lg_sl ([.ref zhg, .int cx, .int cy, .int wh])).length) Slot.unset).toArray = ls at hl ⊢
  have hl : lv_has ls 6 [(0, .ref zhg), (1, .int cx), (2, .int cy), (3, .int wh)] := hl
  rw [f_X5_fact] at hf
  refine lv_iload_n hx hb dX5_fact_0 rfl (lv_at hl 1 rfl) ?_
  refine lv_iload_n hx hb dX5_fact_1 rfl (lv_at hl 2 rfl) ?_
  have hPc := hP.sub (ws' := []) [] rfl
  have hDc := hD.sub (ws' := []) [] (by decide) rfl
  have hFc := va_free (wc := []) hD hS hA [] rfl
  refine va_calll (va_runS (As := [.int cx, .int cy]) (rest := []) ⟨hx, hb, hml, hown, hts⟩ (c_X3_cell l dC dI cI cJ  s.heap.size cx cy) (va_cwS 2 hts gX5_fact_X3_cell rfl rfl rfl (by decide +kernel) ⟨Nat.le_of_ble_eq_true rfl, Nat.le_of_ble_eq_true rfl⟩) ⟨fun a U gg mk q => by obtain ⟨q0, q1, qP, qK, qD⟩ := q; exact ⟨q0, q1, qP, va_K.moved (u := U) (U := U.calling gg mk a) (Vm.Alike.refl U.vm) qK, qD⟩, fun U hU hW => ⟨rfl, by rw [hU], by rw [hU]; exact hPc, va_K.moved hW.alike hK, hDc.weaken (fun _ _ _ _ => trivial)⟩⟩ rfl rfl hl.1 rfl (lv_room (Nat.le_of_ble_eq_true rfl)) dX5_fact_2 ⟨Nat.zero_le _, Nat.zero_le _⟩) hS (fun q _ h => hFc q h) hFc (fun r_ u_ t H locs ht hvm hw hB hz1 hk1 hS => ?_)
  obtain rfl := hw.symm
  obtain ⟨hP1, -, hD1⟩ := hB
  rw [ht] at hP1
  obtain ⟨hP, hD⟩ := va_join (wr := [(zhg, .inr (4, [.ref zgr, .ref zru, .ref zga, .ref zfo, .ref zco])), (zgr, .inr (2, [.int gG.1, .int gG.2.1, .int (bI gG.2.2.1), .long gG.2.2.2.1, .long gG.2.2.2.2.1, .long gG.2.2.2.2.2.1, .long gG.2.2.2.2.2.2.1, .long gG.2.2.2.2.2.2.2])), (zru, .inr (3, [.ref zgr, .ref zcr, .int rR.1, .int rR.2])), (zcr, .inr (0, [.long qC.1, .long qC.2.1, .long qC.2.2.1, .long qC.2.2.2])), (zga, .inr (1, [.ref zgr, .ref zru, .ref zag, .long dG.1, .int dG.2.1, .int dG.2.2.1, .int dG.2.2.2])), (zag, .inl (cI, 64, .inl aG))]) (w1 := []) hP hD [] [0, 1, 2, 3, 4, 5] rfl rfl (by decide) (by decide) hk1 hFc hP1 hD1
  have hP := hP.sub (ws' := [(zhg, .inr (4, [.ref zgr, .ref zru, .ref zga, .ref zfo, .ref zco])), (zgr, .inr (2, [.int gG.1, .int gG.2.1, .int (bI gG.2.2.1), .long gG.2.2.2.1, .long gG.2.2.2.2.1, .long gG.2.2.2.2.2.1, .long gG.2.2.2.2.2.2.1, .long gG.2.2.2.2.2.2.2])), (zru, .inr (3, [.ref zgr, .ref zcr, .int rR.1, .int rR.2])), (zcr, .inr (0, [.long qC.1, .long qC.2.1, .long qC.2.2.1, .long qC.2.2.2])), (zga, .inr (1, [.ref zgr, .ref zru, .ref zag, .long dG.1, .int dG.2.1, .int dG.2.2.1, .int dG.2.2.2])), (zag, .inl (cI, 64, .inl aG))]) [0, 1, 2, 3, 4, 5] rfl
  have hD := hD.sub (ws' := [(zhg, .inr (4, [.ref zgr, .ref zru, .ref zga, .ref zfo, .ref zco])), (zgr, .inr (2, [.int gG.1, .int gG.2.1, .int (bI gG.2.2.1), .long gG.2.2.2.1, .long gG.2.2.2.2.1, .long gG.2.2.2.2.2.1, .long gG.2.2.2.2.2.2.1, .long gG.2.2.2.2.2.2.2])), (zru, .inr (3, [.ref zgr, .ref zcr, .int rR.1, .int rR.2])), (zcr, .inr (0, [.long qC.1, .long qC.2.1, .long qC.2.2.1, .long qC.2.2.2])), (zga, .inr (1, [.ref zgr, .ref zru, .ref zag, .long dG.1, .int dG.2.1, .int dG.2.2.1, .int dG.2.2.2])), (zag, .inl (cI, 64, .inl aG))]) [0, 1, 2, 3, 4, 5] (by decide) rfl
  clear hPc hDc hFc hP1 hD1 hk1
  refine lv_lstore (lv' := [(4, .long (f_X3_cell cx cy)), (0, .ref zhg), (1, .int cx), (2, .int cy), (3, .int wh)]) hx hb dX5_fact_5 hl (by decide) rfl (fun ls hl => ?_)
  refine lv_iload_n hx hb dX5_fact_7 rfl (lv_at hl 4 rfl) ?_
  by_cases hc0 : wh = 0
  · rw [if_pos hc0] at hf
    refine lv_tableIn (off := 32) (tgt := 40) hx hb dX5_fact_8 (by rw [hc0]; decide) (by rw [hc0]; decide) (by rw [hc0]; rfl) (by decide) ?_
    refine lv_aload_n hx hb dX5_fact_40 rfl (lv_at hl 1 rfl) ?_
    refine va_get (D := (dC, dI)) (ci := 4) (v := .ref zga) (C := RX5) (T := TX5) (N := 5) hx hb hts hinX5 hown hK hP 0 rfl rfl 2 (by decide) hw0 (fun _ h9 => h9) rfl dX5_fact_41 ?_
    refine lv_lload hx hb dX5_fact_44 (lv_at hl 0 rfl) ?_
    have hPc := hP.sub (ws' := [(zga, .inr (1, [.ref zgr, .ref zru, .ref zag, .long dG.1, .int dG.2.1, .int dG.2.2.1, .int dG.2.2.2]))]) [4] rfl
    have hDc := hD.sub (ws' := [(zga, .inr (1, [.ref zgr, .ref zru, .ref zag, .long dG.1, .int dG.2.1, .int dG.2.2.1, .int dG.2.2.2]))]) [4] (by decide) rfl
    have hFc := va_free (wc := [(zga, .inr (1, [.ref zgr, .ref zru, .ref zag, .long dG.1, .int dG.2.1, .int dG.2.2.1, .int dG.2.2.2]))]) hD hS hA [4] rfl
    refine va_calli (va_runV (As := [.long (f_X3_cell cx cy)]) (rest := []) ⟨hx, hb, hml, hown, hts⟩ (c_X2_hasHedge l dC dI cI cJ zga zgr zru zag H.size dG (f_X3_cell cx cy)) (cwV 1 hts gX5_fact_X2_hasHedge rfl rfl rfl (by decide +kernel) ⟨Nat.le_of_ble_eq_true rfl, Nat.le_of_ble_eq_true rfl⟩) ⟨fun a U gg mk q => by obtain ⟨q0, q1, qP, qK, qD⟩ := q; exact ⟨q0, q1, qP, va_K.moved (u := U) (U := U.calling gg mk a) (Vm.Alike.refl U.vm) qK, qD⟩, va_recv hK hPc (ci := 1) (q0 := 0) rfl rfl, fun U hU hW => ⟨rfl, by rw [hU], by rw [hU]; exact hPc, va_K.moved hW.alike hK, hDc.weaken (fun _ _ _ _ => trivial)⟩⟩ rfl rfl hl.1 rfl (lv_room (Nat.le_of_ble_eq_true rfl)) dX5_fact_46 ⟨Nat.zero_le _, Nat.zero_le _⟩) hS (fun q _ h => hFc q h) hFc (fun r_ u_ t H locs ht hvm hw hB hz1 hk1 hS => ?_)
    obtain rfl := hw.symm
    obtain ⟨hP1, -, hD1⟩ := hB
    rw [ht] at hP1
    obtain ⟨hP, hD⟩ := va_join (wr := [(zhg, .inr (4, [.ref zgr, .ref zru, .ref zga, .ref zfo, .ref zco])), (zgr, .inr (2, [.int gG.1, .int gG.2.1, .int (bI gG.2.2.1), .long gG.2.2.2.1, .long gG.2.2.2.2.1, .long gG.2.2.2.2.2.1, .long gG.2.2.2.2.2.2.1, .long gG.2.2.2.2.2.2.2])), (zru, .inr (3, [.ref zgr, .ref zcr, .int rR.1, .int rR.2])), (zcr, .inr (0, [.long qC.1, .long qC.2.1, .long qC.2.2.1, .long qC.2.2.2])), (zag, .inl (cI, 64, .inl aG))]) (w1 := [(zga, .inr (1, [.ref zgr, .ref zru, .ref zag, .long dG.1, .int dG.2.1, .int dG.2.2.1, .int dG.2.2.2]))]) hP hD [4] [0, 1, 2, 3, 5] rfl rfl (by decide) (by decide) hk1 hFc hP1 hD1
    have hP := hP.sub (ws' := [(zhg, .inr (4, [.ref zgr, .ref zru, .ref zga, .ref zfo, .ref zco])), (zgr, .inr (2, [.int gG.1, .int gG.2.1, .int (bI gG.2.2.1), .long gG.2.2.2.1, .long gG.2.2.2.2.1, .long gG.2.2.2.2.2.1, .long gG.2.2.2.2.2.2.1, .long gG.2.2.2.2.2.2.2])), (zru, .inr (3, [.ref zgr, .ref zcr, .int rR.1, .int rR.2])), (zcr, .inr (0, [.long qC.1, .long qC.2.1, .long qC.2.2.1, .long qC.2.2.2])), (zga, .inr (1, [.ref zgr, .ref zru, .ref zag, .long dG.1, .int dG.2.1, .int dG.2.2.1, .int dG.2.2.2])), (zag, .inl (cI, 64, .inl aG))]) [0, 1, 2, 3, 5, 4] rfl
    have hD := hD.sub (ws' := [(zhg, .inr (4, [.ref zgr, .ref zru, .ref zga, .ref zfo, .ref zco])), (zgr, .inr (2, [.int gG.1, .int gG.2.1, .int (bI gG.2.2.1), .long gG.2.2.2.1, .long gG.2.2.2.2.1, .long gG.2.2.2.2.2.1, .long gG.2.2.2.2.2.2.1, .long gG.2.2.2.2.2.2.2])), (zru, .inr (3, [.ref zgr, .ref zcr, .int rR.1, .int rR.2])), (zcr, .inr (0, [.long qC.1, .long qC.2.1, .long qC.2.2.1, .long qC.2.2.2])), (zga, .inr (1, [.ref zgr, .ref zru, .ref zag, .long dG.1, .int dG.2.1, .int dG.2.2.1, .int dG.2.2.2])), (zag, .inl (cI, 64, .inl aG))]) [0, 1, 2, 3, 5, 4] (by decide) rfl
    clear hPc hDc hFc hP1 hD1 hk1
    refine lv_if_eq (tgt := 56) hx hb dX5_fact_49 (by decide) (fun hc => ?_) (fun hc => ?_)
    · rw [if_pos hc] at hf
      refine lv_iconst (v := 0) hx hb dX5_fact_56 (by decide) ?_
      obtain rfl := Option.some.inj hf
      exact W.iret (v := 0) hx hb hr (fun t ht hW => ⟨⟨0, (qC), rfl, rfl, by rw [ht]; exact hP, va_K.moved hW.alike hK, hD⟩, hS.F ht⟩) hS.2.2 dX5_fact_57
    · rw [if_neg hc] at hf
      refine lv_iconst (v := 1) hx hb dX5_fact_52 (by decide) ?_
      refine lv_goto (tgt := 57) hx hb dX5_fact_53 (by decide) ?_
      obtain rfl := Option.some.inj hf
      exact W.iret (v := 1) hx hb hr (fun t ht hW => ⟨⟨1, (qC), rfl, rfl, by rw [ht]; exact hP, va_K.moved hW.alike hK, hD⟩, hS.F ht⟩) hS.2.2 dX5_fact_57
  · rw [if_neg hc0] at hf
    by_cases hc1 : wh = 1
    · rw [if_pos hc1] at hf
      refine lv_tableIn (off := 50) (tgt := 58) hx hb dX5_fact_8 (by rw [hc1]; decide) (by rw [hc1]; decide) (by rw [hc1]; rfl) (by decide) ?_
      refine lv_aload_n hx hb dX5_fact_58 rfl (lv_at hl 1 rfl) ?_
      refine va_get (D := (dC, dI)) (ci := 4) (v := .ref zru) (C := RX5) (T := TX5) (N := 5) hx hb hts hinX5 hown hK hP 0 rfl rfl 1 (by decide) hw1 (fun _ h9 => h9) rfl dX5_fact_59 ?_
      refine lv_aload_n hx hb dX5_fact_62 rfl (lv_at hl 1 rfl) ?_
      refine va_get (D := (dC, dI)) (ci := 4) (v := .ref zga) (C := RX5) (T := TX5) (N := 5) hx hb hts hinX5 hown hK hP 0 rfl rfl 2 (by decide) hw0 (fun _ h9 => h9) rfl dX5_fact_63 ?_
      have hPc := hP.sub (ws' := [(zga, .inr (1, [.ref zgr, .ref zru, .ref zag, .long dG.1, .int dG.2.1, .int dG.2.2.1, .int dG.2.2.2]))]) [4] rfl
      have hDc := hD.sub (ws' := [(zga, .inr (1, [.ref zgr, .ref zru, .ref zag, .long dG.1, .int dG.2.1, .int dG.2.2.1, .int dG.2.2.2]))]) [4] (by decide) rfl
      have hFc := va_free (wc := [(zga, .inr (1, [.ref zgr, .ref zru, .ref zag, .long dG.1, .int dG.2.1, .int dG.2.2.1, .int dG.2.2.2]))]) hD hS hA [4] rfl
      refine va_calll (va_runV (As := []) (rest := [.ref zru]) ⟨hx, hb, hml, hown, hts⟩ (c_X2_hedges l dC dI cI cJ zga zgr zru zag H.size dG) (cwV 0 hts gX5_fact_X2_hedges rfl rfl rfl (by decide +kernel) ⟨Nat.le_of_ble_eq_true rfl, Nat.le_of_ble_eq_true rfl⟩) ⟨fun a U gg mk q => by obtain ⟨q0, q1, qP, qK, qD⟩ := q; exact ⟨q0, q1, qP, va_K.moved (u := U) (U := U.calling gg mk a) (Vm.Alike.refl U.vm) qK, qD⟩, va_recv hK hPc (ci := 1) (q0 := 0) rfl rfl, fun U hU hW => ⟨rfl, by rw [hU], by rw [hU]; exact hPc, va_K.moved hW.alike hK, hDc.weaken (fun _ _ _ _ => trivial)⟩⟩ rfl rfl hl.1 rfl (lv_room (Nat.le_of_ble_eq_true rfl)) dX5_fact_66 ⟨Nat.zero_le _, Nat.zero_le _⟩) hS (fun q _ h => hFc q h) hFc (fun r_ u_ t H locs ht hvm hw hB hz1 hk1 hS => ?_)
      obtain rfl := hw.symm
      obtain ⟨hP1, -, hD1⟩ := hB
      rw [ht] at hP1
      obtain ⟨hP, hD⟩ := va_join (wr := [(zhg, .inr (4, [.ref zgr, .ref zru, .ref zga, .ref zfo, .ref zco])), (zgr, .inr (2, [.int gG.1, .int gG.2.1, .int (bI gG.2.2.1), .long gG.2.2.2.1, .long gG.2.2.2.2.1, .long gG.2.2.2.2.2.1, .long gG.2.2.2.2.2.2.1, .long gG.2.2.2.2.2.2.2])), (zru, .inr (3, [.ref zgr, .ref zcr, .int rR.1, .int rR.2])), (zcr, .inr (0, [.long qC.1, .long qC.2.1, .long qC.2.2.1, .long qC.2.2.2])), (zag, .inl (cI, 64, .inl aG))]) (w1 := [(zga, .inr (1, [.ref zgr, .ref zru, .ref zag, .long dG.1, .int dG.2.1, .int dG.2.2.1, .int dG.2.2.2]))]) hP hD [4] [0, 1, 2, 3, 5] rfl rfl (by decide) (by decide) hk1 hFc hP1 hD1
      have hP := hP.sub (ws' := [(zhg, .inr (4, [.ref zgr, .ref zru, .ref zga, .ref zfo, .ref zco])), (zgr, .inr (2, [.int gG.1, .int gG.2.1, .int (bI gG.2.2.1), .long gG.2.2.2.1, .long gG.2.2.2.2.1, .long gG.2.2.2.2.2.1, .long gG.2.2.2.2.2.2.1, .long gG.2.2.2.2.2.2.2])), (zru, .inr (3, [.ref zgr, .ref zcr, .int rR.1, .int rR.2])), (zcr, .inr (0, [.long qC.1, .long qC.2.1, .long qC.2.2.1, .long qC.2.2.2])), (zga, .inr (1, [.ref zgr, .ref zru, .ref zag, .long dG.1, .int dG.2.1, .int dG.2.2.1, .int dG.2.2.2])), (zag, .inl (cI, 64, .inl aG))]) [0, 1, 2, 3, 5, 4] rfl
      have hD := hD.sub (ws' := [(zhg, .inr (4, [.ref zgr, .ref zru, .ref zga, .ref zfo, .ref zco])), (zgr, .inr (2, [.int gG.1, .int gG.2.1, .int (bI gG.2.2.1), .long gG.2.2.2.1, .long gG.2.2.2.2.1, .long gG.2.2.2.2.2.1, .long gG.2.2.2.2.2.2.1, .long gG.2.2.2.2.2.2.2])), (zru, .inr (3, [.ref zgr, .ref zcr, .int rR.1, .int rR.2])), (zcr, .inr (0, [.long qC.1, .long qC.2.1, .long qC.2.2.1, .long qC.2.2.2])), (zga, .inr (1, [.ref zgr, .ref zru, .ref zag, .long dG.1, .int dG.2.1, .int dG.2.2.1, .int dG.2.2.2])), (zag, .inl (cI, 64, .inl aG))]) [0, 1, 2, 3, 5, 4] (by decide) rfl
      clear hPc hDc hFc hP1 hD1 hk1
      refine lv_lload hx hb dX5_fact_69 (lv_at hl 0 rfl) ?_
      have hPc := hP.sub (ws' := [(zru, .inr (3, [.ref zgr, .ref zcr, .int rR.1, .int rR.2])), (zgr, .inr (2, [.int gG.1, .int gG.2.1, .int (bI gG.2.2.1), .long gG.2.2.2.1, .long gG.2.2.2.2.1, .long gG.2.2.2.2.2.1, .long gG.2.2.2.2.2.2.1, .long gG.2.2.2.2.2.2.2])), (zcr, .inr (0, [.long qC.1, .long qC.2.1, .long qC.2.2.1, .long qC.2.2.2]))]) [2, 1, 3] rfl
      have hDc := hD.sub (ws' := [(zru, .inr (3, [.ref zgr, .ref zcr, .int rR.1, .int rR.2])), (zgr, .inr (2, [.int gG.1, .int gG.2.1, .int (bI gG.2.2.1), .long gG.2.2.2.1, .long gG.2.2.2.2.1, .long gG.2.2.2.2.2.1, .long gG.2.2.2.2.2.2.1, .long gG.2.2.2.2.2.2.2])), (zcr, .inr (0, [.long qC.1, .long qC.2.1, .long qC.2.2.1, .long qC.2.2.2]))]) [2, 1, 3] (by decide) rfl
      have hFc := va_free (wc := [(zru, .inr (3, [.ref zgr, .ref zcr, .int rR.1, .int rR.2])), (zgr, .inr (2, [.int gG.1, .int gG.2.1, .int (bI gG.2.2.1), .long gG.2.2.2.1, .long gG.2.2.2.2.1, .long gG.2.2.2.2.2.1, .long gG.2.2.2.2.2.2.1, .long gG.2.2.2.2.2.2.2])), (zcr, .inr (0, [.long qC.1, .long qC.2.1, .long qC.2.2.1, .long qC.2.2.2]))]) hD hS hA [2, 1, 3] rfl
      refine va_calli (va_runV (As := [.long (f_X2_hedges dG), .long (f_X3_cell cx cy)]) (rest := []) ⟨hx, hb, hml, hown, hts⟩ (c_X4_neighbours l dC dI cI cJ zru zgr zcr H.size rR gG (f_X2_hedges dG) (f_X3_cell cx cy) qC) (cwV 2 hts gX5_fact_X4_neighbours rfl rfl rfl (by decide +kernel) ⟨Nat.le_of_ble_eq_true rfl, Nat.le_of_ble_eq_true rfl⟩) ⟨fun a U gg mk q => by obtain ⟨q0, q1, qP, qK, qD⟩ := q; exact ⟨q0, q1, qP, va_K.moved (u := U) (U := U.calling gg mk a) (Vm.Alike.refl U.vm) qK, qD⟩, va_recv hK hPc (ci := 3) (q0 := 0) rfl rfl, fun U hU hW => ⟨rfl, by rw [hU], by rw [hU]; exact hPc, va_K.moved hW.alike hK, hDc.weaken (fun _ _ _ _ => trivial)⟩⟩ rfl rfl hl.1 rfl (lv_room (Nat.le_of_ble_eq_true rfl)) dX5_fact_71 ⟨Nat.zero_le _, Nat.zero_le _⟩) hS (fun q _ h => hFc q h) hFc (fun r_ u_ t H locs ht hvm hw hB hz1 hk1 hS => ?_)
      obtain ⟨u1, rfl⟩ : ∃ z, z = u_ := ⟨_, rfl⟩
      obtain rfl := hw.symm
      obtain ⟨hP1, -, hD1⟩ := hB
      rw [ht] at hP1
      obtain ⟨hP, hD⟩ := va_join (wr := [(zhg, .inr (4, [.ref zgr, .ref zru, .ref zga, .ref zfo, .ref zco])), (zga, .inr (1, [.ref zgr, .ref zru, .ref zag, .long dG.1, .int dG.2.1, .int dG.2.2.1, .int dG.2.2.2])), (zag, .inl (cI, 64, .inl aG))]) (w1 := [(zru, .inr (3, [.ref zgr, .ref zcr, .int rR.1, .int rR.2])), (zgr, .inr (2, [.int gG.1, .int gG.2.1, .int (bI gG.2.2.1), .long gG.2.2.2.1, .long gG.2.2.2.2.1, .long gG.2.2.2.2.2.1, .long gG.2.2.2.2.2.2.1, .long gG.2.2.2.2.2.2.2])), (zcr, .inr (0, [.long u1.1, .long u1.2.1, .long u1.2.2.1, .long u1.2.2.2]))]) hP hD [2, 1, 3] [0, 4, 5] rfl rfl (by decide) (by decide) hk1 hFc hP1 hD1
      have hP := hP.sub (ws' := [(zhg, .inr (4, [.ref zgr, .ref zru, .ref zga, .ref zfo, .ref zco])), (zgr, .inr (2, [.int gG.1, .int gG.2.1, .int (bI gG.2.2.1), .long gG.2.2.2.1, .long gG.2.2.2.2.1, .long gG.2.2.2.2.2.1, .long gG.2.2.2.2.2.2.1, .long gG.2.2.2.2.2.2.2])), (zru, .inr (3, [.ref zgr, .ref zcr, .int rR.1, .int rR.2])), (zcr, .inr (0, [.long u1.1, .long u1.2.1, .long u1.2.2.1, .long u1.2.2.2])), (zga, .inr (1, [.ref zgr, .ref zru, .ref zag, .long dG.1, .int dG.2.1, .int dG.2.2.1, .int dG.2.2.2])), (zag, .inl (cI, 64, .inl aG))]) [0, 4, 3, 5, 1, 2] rfl
      have hD := hD.sub (ws' := [(zhg, .inr (4, [.ref zgr, .ref zru, .ref zga, .ref zfo, .ref zco])), (zgr, .inr (2, [.int gG.1, .int gG.2.1, .int (bI gG.2.2.1), .long gG.2.2.2.1, .long gG.2.2.2.2.1, .long gG.2.2.2.2.2.1, .long gG.2.2.2.2.2.2.1, .long gG.2.2.2.2.2.2.2])), (zru, .inr (3, [.ref zgr, .ref zcr, .int rR.1, .int rR.2])), (zcr, .inr (0, [.long u1.1, .long u1.2.1, .long u1.2.2.1, .long u1.2.2.2])), (zga, .inr (1, [.ref zgr, .ref zru, .ref zag, .long dG.1, .int dG.2.1, .int dG.2.2.1, .int dG.2.2.2])), (zag, .inl (cI, 64, .inl aG))]) [0, 4, 3, 5, 1, 2] (by decide) rfl
      clear hPc hDc hFc hP1 hD1 hk1
      obtain rfl := Option.some.inj hf
      exact W.iret (v := (f_X4_neighbours rR gG (f_X2_hedges dG) (f_X3_cell cx cy))) hx hb hr (fun t ht hW => ⟨⟨(f_X4_neighbours rR gG (f_X2_hedges dG) (f_X3_cell cx cy)), (u1), rfl, rfl, by rw [ht]; exact hP, va_K.moved hW.alike hK, hD⟩, hS.F ht⟩) hS.2.2 dX5_fact_74
    · rw [if_neg hc1] at hf
      by_cases hc2 : wh = 2
      · rw [if_pos hc2] at hf
        refine lv_tableIn (off := 67) (tgt := 75) hx hb dX5_fact_8 (by rw [hc2]; decide) (by rw [hc2]; decide) (by rw [hc2]; rfl) (by decide) ?_
        refine lv_aload_n hx hb dX5_fact_75 rfl (lv_at hl 1 rfl) ?_
        refine va_get (D := (dC, dI)) (ci := 4) (v := .ref zga) (C := RX5) (T := TX5) (N := 5) hx hb hts hinX5 hown hK hP 0 rfl rfl 2 (by decide) hw0 (fun _ h9 => h9) rfl dX5_fact_76 ?_
        refine lv_lload hx hb dX5_fact_79 (lv_at hl 0 rfl) ?_
        have hPc := hP.sub (ws' := [(zga, .inr (1, [.ref zgr, .ref zru, .ref zag, .long dG.1, .int dG.2.1, .int dG.2.2.1, .int dG.2.2.2]))]) [4] rfl
        have hDc := hD.sub (ws' := [(zga, .inr (1, [.ref zgr, .ref zru, .ref zag, .long dG.1, .int dG.2.1, .int dG.2.2.1, .int dG.2.2.2]))]) [4] (by decide) rfl
        have hFc := va_free (wc := [(zga, .inr (1, [.ref zgr, .ref zru, .ref zag, .long dG.1, .int dG.2.1, .int dG.2.2.1, .int dG.2.2.2]))]) hD hS hA [4] rfl
        refine va_calli (va_runV (As := [.long (f_X3_cell cx cy)]) (rest := []) ⟨hx, hb, hml, hown, hts⟩ (c_X2_hasHedge l dC dI cI cJ zga zgr zru zag H.size dG (f_X3_cell cx cy)) (cwV 1 hts gX5_fact_X2_hasHedge rfl rfl rfl (by decide +kernel) ⟨Nat.le_of_ble_eq_true rfl, Nat.le_of_ble_eq_true rfl⟩) ⟨fun a U gg mk q => by obtain ⟨q0, q1, qP, qK, qD⟩ := q; exact ⟨q0, q1, qP, va_K.moved (u := U) (U := U.calling gg mk a) (Vm.Alike.refl U.vm) qK, qD⟩, va_recv hK hPc (ci := 1) (q0 := 0) rfl rfl, fun U hU hW => ⟨rfl, by rw [hU], by rw [hU]; exact hPc, va_K.moved hW.alike hK, hDc.weaken (fun _ _ _ _ => trivial)⟩⟩ rfl rfl hl.1 rfl (lv_room (Nat.le_of_ble_eq_true rfl)) dX5_fact_81 ⟨Nat.zero_le _, Nat.zero_le _⟩) hS (fun q _ h => hFc q h) hFc (fun r_ u_ t H locs ht hvm hw hB hz1 hk1 hS => ?_)
        obtain rfl := hw.symm
        obtain ⟨hP1, -, hD1⟩ := hB
        rw [ht] at hP1
        obtain ⟨hP, hD⟩ := va_join (wr := [(zhg, .inr (4, [.ref zgr, .ref zru, .ref zga, .ref zfo, .ref zco])), (zgr, .inr (2, [.int gG.1, .int gG.2.1, .int (bI gG.2.2.1), .long gG.2.2.2.1, .long gG.2.2.2.2.1, .long gG.2.2.2.2.2.1, .long gG.2.2.2.2.2.2.1, .long gG.2.2.2.2.2.2.2])), (zru, .inr (3, [.ref zgr, .ref zcr, .int rR.1, .int rR.2])), (zcr, .inr (0, [.long qC.1, .long qC.2.1, .long qC.2.2.1, .long qC.2.2.2])), (zag, .inl (cI, 64, .inl aG))]) (w1 := [(zga, .inr (1, [.ref zgr, .ref zru, .ref zag, .long dG.1, .int dG.2.1, .int dG.2.2.1, .int dG.2.2.2]))]) hP hD [4] [0, 1, 2, 3, 5] rfl rfl (by decide) (by decide) hk1 hFc hP1 hD1
        have hP := hP.sub (ws' := [(zhg, .inr (4, [.ref zgr, .ref zru, .ref zga, .ref zfo, .ref zco])), (zgr, .inr (2, [.int gG.1, .int gG.2.1, .int (bI gG.2.2.1), .long gG.2.2.2.1, .long gG.2.2.2.2.1, .long gG.2.2.2.2.2.1, .long gG.2.2.2.2.2.2.1, .long gG.2.2.2.2.2.2.2])), (zru, .inr (3, [.ref zgr, .ref zcr, .int rR.1, .int rR.2])), (zcr, .inr (0, [.long qC.1, .long qC.2.1, .long qC.2.2.1, .long qC.2.2.2])), (zga, .inr (1, [.ref zgr, .ref zru, .ref zag, .long dG.1, .int dG.2.1, .int dG.2.2.1, .int dG.2.2.2])), (zag, .inl (cI, 64, .inl aG))]) [0, 1, 2, 3, 5, 4] rfl
        have hD := hD.sub (ws' := [(zhg, .inr (4, [.ref zgr, .ref zru, .ref zga, .ref zfo, .ref zco])), (zgr, .inr (2, [.int gG.1, .int gG.2.1, .int (bI gG.2.2.1), .long gG.2.2.2.1, .long gG.2.2.2.2.1, .long gG.2.2.2.2.2.1, .long gG.2.2.2.2.2.2.1, .long gG.2.2.2.2.2.2.2])), (zru, .inr (3, [.ref zgr, .ref zcr, .int rR.1, .int rR.2])), (zcr, .inr (0, [.long qC.1, .long qC.2.1, .long qC.2.2.1, .long qC.2.2.2])), (zga, .inr (1, [.ref zgr, .ref zru, .ref zag, .long dG.1, .int dG.2.1, .int dG.2.2.1, .int dG.2.2.2])), (zag, .inl (cI, 64, .inl aG))]) [0, 1, 2, 3, 5, 4] (by decide) rfl
        clear hPc hDc hFc hP1 hD1 hk1
        refine lv_if_eq (tgt := 99) hx hb dX5_fact_84 (by decide) (fun hc => ?_) (fun hc => ?_)
        · rw [if_pos hc] at hf
          refine lv_iconst (v := (-1)) hx hb dX5_fact_99 (by decide) ?_
          obtain rfl := Option.some.inj hf
          exact W.iret (v := (-1)) hx hb hr (fun t ht hW => ⟨⟨(-1), (qC), rfl, rfl, by rw [ht]; exact hP, va_K.moved hW.alike hK, hD⟩, hS.F ht⟩) hS.2.2 dX5_fact_100
        · rw [if_neg hc] at hf
          refine lv_aload_n hx hb dX5_fact_87 rfl (lv_at hl 1 rfl) ?_
          refine va_get (D := (dC, dI)) (ci := 4) (v := .ref zga) (C := RX5) (T := TX5) (N := 5) hx hb hts hinX5 hown hK hP 0 rfl rfl 2 (by decide) hw0 (fun _ h9 => h9) rfl dX5_fact_88 ?_
          refine lv_iload_n hx hb dX5_fact_91 rfl (lv_at hl 2 rfl) ?_
          refine lv_iload_n hx hb dX5_fact_92 rfl (lv_at hl 3 rfl) ?_
          obtain ⟨r2, hr2, hf⟩ := obind hf
          have hPc := hP.sub (ws' := [(zga, .inr (1, [.ref zgr, .ref zru, .ref zag, .long dG.1, .int dG.2.1, .int dG.2.2.1, .int dG.2.2.2])), (zag, .inl (cI, 64, .inl aG))]) [4, 5] rfl
          have hDc := hD.sub (ws' := [(zga, .inr (1, [.ref zgr, .ref zru, .ref zag, .long dG.1, .int dG.2.1, .int dG.2.2.1, .int dG.2.2.2])), (zag, .inl (cI, 64, .inl aG))]) [4, 5] (by decide) rfl
          have hFc := va_free (wc := [(zga, .inr (1, [.ref zgr, .ref zru, .ref zag, .long dG.1, .int dG.2.1, .int dG.2.2.1, .int dG.2.2.2])), (zag, .inl (cI, 64, .inl aG))]) hD hS hA [4, 5] rfl
          refine va_calli (va_runV (As := [.int cx, .int cy]) (rest := []) ⟨hx, hb, hml, hown, hts⟩ (c_X2_age l dC dI cI cJ zga zag zgr zru H.size dG aG cx cy _ hr2) (cwV 2 hts gX5_fact_X2_age rfl rfl rfl (by decide +kernel) ⟨Nat.le_of_ble_eq_true rfl, Nat.le_of_ble_eq_true rfl⟩) ⟨fun a U gg mk q => by obtain ⟨q0, q1, qP, qK, qD⟩ := q; exact ⟨q0, q1, qP, va_K.moved (u := U) (U := U.calling gg mk a) (Vm.Alike.refl U.vm) qK, qD⟩, va_recv hK hPc (ci := 1) (q0 := 0) rfl rfl, fun U hU hW => ⟨rfl, by rw [hU], by rw [hU]; exact hPc, va_K.moved hW.alike hK, hDc.weaken (fun _ _ _ _ => trivial)⟩⟩ rfl rfl hl.1 rfl (lv_room (Nat.le_of_ble_eq_true rfl)) dX5_fact_93 ⟨Nat.zero_le _, Nat.zero_le _⟩) hS (fun q _ h => hFc q h) hFc (fun r_ u_ t H locs ht hvm hw hB hz1 hk1 hS => ?_)
          obtain rfl := hw.symm
          obtain ⟨hP1, -, hD1⟩ := hB
          rw [ht] at hP1
          obtain ⟨hP, hD⟩ := va_join (wr := [(zhg, .inr (4, [.ref zgr, .ref zru, .ref zga, .ref zfo, .ref zco])), (zgr, .inr (2, [.int gG.1, .int gG.2.1, .int (bI gG.2.2.1), .long gG.2.2.2.1, .long gG.2.2.2.2.1, .long gG.2.2.2.2.2.1, .long gG.2.2.2.2.2.2.1, .long gG.2.2.2.2.2.2.2])), (zru, .inr (3, [.ref zgr, .ref zcr, .int rR.1, .int rR.2])), (zcr, .inr (0, [.long qC.1, .long qC.2.1, .long qC.2.2.1, .long qC.2.2.2]))]) (w1 := [(zga, .inr (1, [.ref zgr, .ref zru, .ref zag, .long dG.1, .int dG.2.1, .int dG.2.2.1, .int dG.2.2.2])), (zag, .inl (cI, 64, .inl aG))]) hP hD [4, 5] [0, 1, 2, 3] rfl rfl (by decide) (by decide) hk1 hFc hP1 hD1
          have hP := hP.sub (ws' := [(zhg, .inr (4, [.ref zgr, .ref zru, .ref zga, .ref zfo, .ref zco])), (zgr, .inr (2, [.int gG.1, .int gG.2.1, .int (bI gG.2.2.1), .long gG.2.2.2.1, .long gG.2.2.2.2.1, .long gG.2.2.2.2.2.1, .long gG.2.2.2.2.2.2.1, .long gG.2.2.2.2.2.2.2])), (zru, .inr (3, [.ref zgr, .ref zcr, .int rR.1, .int rR.2])), (zcr, .inr (0, [.long qC.1, .long qC.2.1, .long qC.2.2.1, .long qC.2.2.2])), (zga, .inr (1, [.ref zgr, .ref zru, .ref zag, .long dG.1, .int dG.2.1, .int dG.2.2.1, .int dG.2.2.2])), (zag, .inl (cI, 64, .inl aG))]) [0, 1, 2, 3, 4, 5] rfl
          have hD := hD.sub (ws' := [(zhg, .inr (4, [.ref zgr, .ref zru, .ref zga, .ref zfo, .ref zco])), (zgr, .inr (2, [.int gG.1, .int gG.2.1, .int (bI gG.2.2.1), .long gG.2.2.2.1, .long gG.2.2.2.2.1, .long gG.2.2.2.2.2.1, .long gG.2.2.2.2.2.2.1, .long gG.2.2.2.2.2.2.2])), (zru, .inr (3, [.ref zgr, .ref zcr, .int rR.1, .int rR.2])), (zcr, .inr (0, [.long qC.1, .long qC.2.1, .long qC.2.2.1, .long qC.2.2.2])), (zga, .inr (1, [.ref zgr, .ref zru, .ref zag, .long dG.1, .int dG.2.1, .int dG.2.2.1, .int dG.2.2.2])), (zag, .inl (cI, 64, .inl aG))]) [0, 1, 2, 3, 4, 5] (by decide) rfl
          clear hPc hDc hFc hP1 hD1 hk1
          refine lv_goto (tgt := 100) hx hb dX5_fact_96 (by decide) ?_
          obtain rfl := Option.some.inj hf
          exact W.iret (v := r2) hx hb hr (fun t ht hW => ⟨⟨r2, (qC), rfl, rfl, by rw [ht]; exact hP, va_K.moved hW.alike hK, hD⟩, hS.F ht⟩) hS.2.2 dX5_fact_100
      · rw [if_neg hc2] at hf
        by_cases hc3 : wh = 3
        · rw [if_pos hc3] at hf
          refine lv_tableIn (off := 93) (tgt := 101) hx hb dX5_fact_8 (by rw [hc3]; decide) (by rw [hc3]; decide) (by rw [hc3]; rfl) (by decide) ?_
          refine lv_aload_n hx hb dX5_fact_101 rfl (lv_at hl 1 rfl) ?_
          refine va_get (D := (dC, dI)) (ci := 4) (v := .ref zgr) (C := RX5) (T := TX5) (N := 5) hx hb hts hinX5 hown hK hP 0 rfl rfl 0 (by decide) hw2 (fun _ h9 => h9) rfl dX5_fact_102 ?_
          refine lv_lload hx hb dX5_fact_105 (lv_at hl 0 rfl) ?_
          refine lv_aload_n hx hb dX5_fact_107 rfl (lv_at hl 1 rfl) ?_
          refine va_get (D := (dC, dI)) (ci := 4) (v := .ref zga) (C := RX5) (T := TX5) (N := 5) hx hb hts hinX5 hown hK hP 0 rfl rfl 2 (by decide) hw0 (fun _ h9 => h9) rfl dX5_fact_108 ?_
          have hPc := hP.sub (ws' := [(zga, .inr (1, [.ref zgr, .ref zru, .ref zag, .long dG.1, .int dG.2.1, .int dG.2.2.1, .int dG.2.2.2])), (zgr, .inr (2, [.int gG.1, .int gG.2.1, .int (bI gG.2.2.1), .long gG.2.2.2.1, .long gG.2.2.2.2.1, .long gG.2.2.2.2.2.1, .long gG.2.2.2.2.2.2.1, .long gG.2.2.2.2.2.2.2]))]) [4, 1] rfl
          have hDc := hD.sub (ws' := [(zga, .inr (1, [.ref zgr, .ref zru, .ref zag, .long dG.1, .int dG.2.1, .int dG.2.2.1, .int dG.2.2.2])), (zgr, .inr (2, [.int gG.1, .int gG.2.1, .int (bI gG.2.2.1), .long gG.2.2.2.1, .long gG.2.2.2.2.1, .long gG.2.2.2.2.2.1, .long gG.2.2.2.2.2.2.1, .long gG.2.2.2.2.2.2.2]))]) [4, 1] (by decide) rfl
          have hFc := va_free (wc := [(zga, .inr (1, [.ref zgr, .ref zru, .ref zag, .long dG.1, .int dG.2.1, .int dG.2.2.1, .int dG.2.2.2])), (zgr, .inr (2, [.int gG.1, .int gG.2.1, .int (bI gG.2.2.1), .long gG.2.2.2.1, .long gG.2.2.2.2.1, .long gG.2.2.2.2.2.1, .long gG.2.2.2.2.2.2.1, .long gG.2.2.2.2.2.2.2]))]) hD hS hA [4, 1] rfl
          refine va_calll (va_runV (As := []) (rest := [.long (f_X3_cell cx cy), .ref zgr]) ⟨hx, hb, hml, hown, hts⟩ (c_X2_open l dC dI cI cJ zga zgr zru zag H.size dG gG) (cwV 0 hts gX5_fact_X2_open rfl rfl rfl (by decide +kernel) ⟨Nat.le_of_ble_eq_true rfl, Nat.le_of_ble_eq_true rfl⟩) ⟨fun a U gg mk q => by obtain ⟨q0, q1, qP, qK, qD⟩ := q; exact ⟨q0, q1, qP, va_K.moved (u := U) (U := U.calling gg mk a) (Vm.Alike.refl U.vm) qK, qD⟩, va_recv hK hPc (ci := 1) (q0 := 0) rfl rfl, fun U hU hW => ⟨rfl, by rw [hU], by rw [hU]; exact hPc, va_K.moved hW.alike hK, hDc.weaken (fun _ _ _ _ => trivial)⟩⟩ rfl rfl hl.1 rfl (lv_room (Nat.le_of_ble_eq_true rfl)) dX5_fact_111 ⟨Nat.zero_le _, Nat.zero_le _⟩) hS (fun q _ h => hFc q h) hFc (fun r_ u_ t H locs ht hvm hw hB hz1 hk1 hS => ?_)
          obtain rfl := hw.symm
          obtain ⟨hP1, -, hD1⟩ := hB
          rw [ht] at hP1
          obtain ⟨hP, hD⟩ := va_join (wr := [(zhg, .inr (4, [.ref zgr, .ref zru, .ref zga, .ref zfo, .ref zco])), (zru, .inr (3, [.ref zgr, .ref zcr, .int rR.1, .int rR.2])), (zcr, .inr (0, [.long qC.1, .long qC.2.1, .long qC.2.2.1, .long qC.2.2.2])), (zag, .inl (cI, 64, .inl aG))]) (w1 := [(zga, .inr (1, [.ref zgr, .ref zru, .ref zag, .long dG.1, .int dG.2.1, .int dG.2.2.1, .int dG.2.2.2])), (zgr, .inr (2, [.int gG.1, .int gG.2.1, .int (bI gG.2.2.1), .long gG.2.2.2.1, .long gG.2.2.2.2.1, .long gG.2.2.2.2.2.1, .long gG.2.2.2.2.2.2.1, .long gG.2.2.2.2.2.2.2]))]) hP hD [4, 1] [0, 2, 3, 5] rfl rfl (by decide) (by decide) hk1 hFc hP1 hD1
          have hP := hP.sub (ws' := [(zhg, .inr (4, [.ref zgr, .ref zru, .ref zga, .ref zfo, .ref zco])), (zgr, .inr (2, [.int gG.1, .int gG.2.1, .int (bI gG.2.2.1), .long gG.2.2.2.1, .long gG.2.2.2.2.1, .long gG.2.2.2.2.2.1, .long gG.2.2.2.2.2.2.1, .long gG.2.2.2.2.2.2.2])), (zru, .inr (3, [.ref zgr, .ref zcr, .int rR.1, .int rR.2])), (zcr, .inr (0, [.long qC.1, .long qC.2.1, .long qC.2.2.1, .long qC.2.2.2])), (zga, .inr (1, [.ref zgr, .ref zru, .ref zag, .long dG.1, .int dG.2.1, .int dG.2.2.1, .int dG.2.2.2])), (zag, .inl (cI, 64, .inl aG))]) [0, 5, 1, 2, 4, 3] rfl
          have hD := hD.sub (ws' := [(zhg, .inr (4, [.ref zgr, .ref zru, .ref zga, .ref zfo, .ref zco])), (zgr, .inr (2, [.int gG.1, .int gG.2.1, .int (bI gG.2.2.1), .long gG.2.2.2.1, .long gG.2.2.2.2.1, .long gG.2.2.2.2.2.1, .long gG.2.2.2.2.2.2.1, .long gG.2.2.2.2.2.2.2])), (zru, .inr (3, [.ref zgr, .ref zcr, .int rR.1, .int rR.2])), (zcr, .inr (0, [.long qC.1, .long qC.2.1, .long qC.2.2.1, .long qC.2.2.2])), (zga, .inr (1, [.ref zgr, .ref zru, .ref zag, .long dG.1, .int dG.2.1, .int dG.2.2.1, .int dG.2.2.2])), (zag, .inl (cI, 64, .inl aG))]) [0, 5, 1, 2, 4, 3] (by decide) rfl
          clear hPc hDc hFc hP1 hD1 hk1
          obtain ⟨r3, hr3, hf⟩ := obind hf
          have hPc := hP.sub (ws' := [(zgr, .inr (2, [.int gG.1, .int gG.2.1, .int (bI gG.2.2.1), .long gG.2.2.2.1, .long gG.2.2.2.2.1, .long gG.2.2.2.2.2.1, .long gG.2.2.2.2.2.2.1, .long gG.2.2.2.2.2.2.2]))]) [1] rfl
          have hDc := hD.sub (ws' := [(zgr, .inr (2, [.int gG.1, .int gG.2.1, .int (bI gG.2.2.1), .long gG.2.2.2.1, .long gG.2.2.2.2.1, .long gG.2.2.2.2.2.1, .long gG.2.2.2.2.2.2.1, .long gG.2.2.2.2.2.2.2]))]) [1] (by decide) rfl
          have hFc := va_free (wc := [(zgr, .inr (2, [.int gG.1, .int gG.2.1, .int (bI gG.2.2.1), .long gG.2.2.2.1, .long gG.2.2.2.2.1, .long gG.2.2.2.2.2.1, .long gG.2.2.2.2.2.2.1, .long gG.2.2.2.2.2.2.2]))]) hD hS hA [1] rfl
          refine va_calll (va_runV (As := [.long (f_X3_cell cx cy), .long (f_X2_open dG gG)]) (rest := []) ⟨hx, hb, hml, hown, hts⟩ (c_X3_lawn l dC dI cI cJ zgr H.size gG (f_X3_cell cx cy) (f_X2_open dG gG) _ hr3) (cwV 2 hts gX5_fact_X3_lawn rfl rfl rfl (by decide +kernel) ⟨Nat.le_of_ble_eq_true rfl, Nat.le_of_ble_eq_true rfl⟩) ⟨fun a U gg mk q => by obtain ⟨q0, q1, qP, qK, qD⟩ := q; exact ⟨q0, q1, qP, va_K.moved (u := U) (U := U.calling gg mk a) (Vm.Alike.refl U.vm) qK, qD⟩, va_recv hK hPc (ci := 2) (q0 := 0) rfl rfl, fun U hU hW => ⟨rfl, by rw [hU], by rw [hU]; exact hPc, va_K.moved hW.alike hK, hDc.weaken (fun _ _ _ _ => trivial)⟩⟩ rfl rfl hl.1 rfl (lv_room (Nat.le_of_ble_eq_true rfl)) dX5_fact_114 ⟨Nat.zero_le _, Nat.zero_le _⟩) hS (fun q _ h => hFc q h) hFc (fun r_ u_ t H locs ht hvm hw hB hz1 hk1 hS => ?_)
          obtain rfl := hw.symm
          obtain ⟨hP1, -, hD1⟩ := hB
          rw [ht] at hP1
          obtain ⟨hP, hD⟩ := va_join (wr := [(zhg, .inr (4, [.ref zgr, .ref zru, .ref zga, .ref zfo, .ref zco])), (zru, .inr (3, [.ref zgr, .ref zcr, .int rR.1, .int rR.2])), (zcr, .inr (0, [.long qC.1, .long qC.2.1, .long qC.2.2.1, .long qC.2.2.2])), (zga, .inr (1, [.ref zgr, .ref zru, .ref zag, .long dG.1, .int dG.2.1, .int dG.2.2.1, .int dG.2.2.2])), (zag, .inl (cI, 64, .inl aG))]) (w1 := [(zgr, .inr (2, [.int gG.1, .int gG.2.1, .int (bI gG.2.2.1), .long gG.2.2.2.1, .long gG.2.2.2.2.1, .long gG.2.2.2.2.2.1, .long gG.2.2.2.2.2.2.1, .long gG.2.2.2.2.2.2.2]))]) hP hD [1] [0, 2, 3, 4, 5] rfl rfl (by decide) (by decide) hk1 hFc hP1 hD1
          have hP := hP.sub (ws' := [(zhg, .inr (4, [.ref zgr, .ref zru, .ref zga, .ref zfo, .ref zco])), (zgr, .inr (2, [.int gG.1, .int gG.2.1, .int (bI gG.2.2.1), .long gG.2.2.2.1, .long gG.2.2.2.2.1, .long gG.2.2.2.2.2.1, .long gG.2.2.2.2.2.2.1, .long gG.2.2.2.2.2.2.2])), (zru, .inr (3, [.ref zgr, .ref zcr, .int rR.1, .int rR.2])), (zcr, .inr (0, [.long qC.1, .long qC.2.1, .long qC.2.2.1, .long qC.2.2.2])), (zga, .inr (1, [.ref zgr, .ref zru, .ref zag, .long dG.1, .int dG.2.1, .int dG.2.2.1, .int dG.2.2.2])), (zag, .inl (cI, 64, .inl aG))]) [0, 5, 1, 2, 3, 4] rfl
          have hD := hD.sub (ws' := [(zhg, .inr (4, [.ref zgr, .ref zru, .ref zga, .ref zfo, .ref zco])), (zgr, .inr (2, [.int gG.1, .int gG.2.1, .int (bI gG.2.2.1), .long gG.2.2.2.1, .long gG.2.2.2.2.1, .long gG.2.2.2.2.2.1, .long gG.2.2.2.2.2.2.1, .long gG.2.2.2.2.2.2.2])), (zru, .inr (3, [.ref zgr, .ref zcr, .int rR.1, .int rR.2])), (zcr, .inr (0, [.long qC.1, .long qC.2.1, .long qC.2.2.1, .long qC.2.2.2])), (zga, .inr (1, [.ref zgr, .ref zru, .ref zag, .long dG.1, .int dG.2.1, .int dG.2.2.1, .int dG.2.2.2])), (zag, .inl (cI, 64, .inl aG))]) [0, 5, 1, 2, 3, 4] (by decide) rfl
          clear hPc hDc hFc hP1 hD1 hk1
          have hPc := hP.sub (ws' := []) [] rfl
          have hDc := hD.sub (ws' := []) [] (by decide) rfl
          have hFc := va_free (wc := []) hD hS hA [] rfl
          refine va_calli (va_runS (As := [.long r3]) (rest := []) ⟨hx, hb, hml, hown, hts⟩ (c_J13_bitCount_95d88 l dC dI cI cJ  H.size r3) (va_cwS 1 hts gX5_fact_J13_bitCount_95d88 rfl rfl rfl (by decide +kernel) ⟨Nat.le_of_ble_eq_true rfl, Nat.le_of_ble_eq_true rfl⟩) ⟨fun a U gg mk q => by obtain ⟨q0, q1, qP, qK, qD⟩ := q; exact ⟨q0, q1, qP, va_K.moved (u := U) (U := U.calling gg mk a) (Vm.Alike.refl U.vm) qK, qD⟩, fun U hU hW => ⟨rfl, by rw [hU], by rw [hU]; exact hPc, va_K.moved hW.alike hK, hDc.weaken (fun _ _ _ _ => trivial)⟩⟩ rfl rfl hl.1 rfl (lv_room (Nat.le_of_ble_eq_true rfl)) dX5_fact_117 ⟨Nat.zero_le _, Nat.zero_le _⟩) hS (fun q _ h => hFc q h) hFc (fun r_ u_ t H locs ht hvm hw hB hz1 hk1 hS => ?_)
          obtain rfl := hw.symm
          obtain ⟨hP1, -, hD1⟩ := hB
          rw [ht] at hP1
          obtain ⟨hP, hD⟩ := va_join (wr := [(zhg, .inr (4, [.ref zgr, .ref zru, .ref zga, .ref zfo, .ref zco])), (zgr, .inr (2, [.int gG.1, .int gG.2.1, .int (bI gG.2.2.1), .long gG.2.2.2.1, .long gG.2.2.2.2.1, .long gG.2.2.2.2.2.1, .long gG.2.2.2.2.2.2.1, .long gG.2.2.2.2.2.2.2])), (zru, .inr (3, [.ref zgr, .ref zcr, .int rR.1, .int rR.2])), (zcr, .inr (0, [.long qC.1, .long qC.2.1, .long qC.2.2.1, .long qC.2.2.2])), (zga, .inr (1, [.ref zgr, .ref zru, .ref zag, .long dG.1, .int dG.2.1, .int dG.2.2.1, .int dG.2.2.2])), (zag, .inl (cI, 64, .inl aG))]) (w1 := []) hP hD [] [0, 1, 2, 3, 4, 5] rfl rfl (by decide) (by decide) hk1 hFc hP1 hD1
          have hP := hP.sub (ws' := [(zhg, .inr (4, [.ref zgr, .ref zru, .ref zga, .ref zfo, .ref zco])), (zgr, .inr (2, [.int gG.1, .int gG.2.1, .int (bI gG.2.2.1), .long gG.2.2.2.1, .long gG.2.2.2.2.1, .long gG.2.2.2.2.2.1, .long gG.2.2.2.2.2.2.1, .long gG.2.2.2.2.2.2.2])), (zru, .inr (3, [.ref zgr, .ref zcr, .int rR.1, .int rR.2])), (zcr, .inr (0, [.long qC.1, .long qC.2.1, .long qC.2.2.1, .long qC.2.2.2])), (zga, .inr (1, [.ref zgr, .ref zru, .ref zag, .long dG.1, .int dG.2.1, .int dG.2.2.1, .int dG.2.2.2])), (zag, .inl (cI, 64, .inl aG))]) [0, 1, 2, 3, 4, 5] rfl
          have hD := hD.sub (ws' := [(zhg, .inr (4, [.ref zgr, .ref zru, .ref zga, .ref zfo, .ref zco])), (zgr, .inr (2, [.int gG.1, .int gG.2.1, .int (bI gG.2.2.1), .long gG.2.2.2.1, .long gG.2.2.2.2.1, .long gG.2.2.2.2.2.1, .long gG.2.2.2.2.2.2.1, .long gG.2.2.2.2.2.2.2])), (zru, .inr (3, [.ref zgr, .ref zcr, .int rR.1, .int rR.2])), (zcr, .inr (0, [.long qC.1, .long qC.2.1, .long qC.2.2.1, .long qC.2.2.2])), (zga, .inr (1, [.ref zgr, .ref zru, .ref zag, .long dG.1, .int dG.2.1, .int dG.2.2.1, .int dG.2.2.2])), (zag, .inl (cI, 64, .inl aG))]) [0, 1, 2, 3, 4, 5] (by decide) rfl
          clear hPc hDc hFc hP1 hD1 hk1
          obtain rfl := Option.some.inj hf
          exact W.iret (v := (f_J13_bitCount_95d88 r3)) hx hb hr (fun t ht hW => ⟨⟨(f_J13_bitCount_95d88 r3), (qC), rfl, rfl, by rw [ht]; exact hP, va_K.moved hW.alike hK, hD⟩, hS.F ht⟩) hS.2.2 dX5_fact_120
        · rw [if_neg hc3] at hf
          have ht0 : (wh).toInt ≠ 0 := fun h9 => hc0 (Int32.toInt_inj.mp (h9.trans (by decide)))
          have ht1 : (wh).toInt ≠ 1 := fun h9 => hc1 (Int32.toInt_inj.mp (h9.trans (by decide)))
          have ht2 : (wh).toInt ≠ 2 := fun h9 => hc2 (Int32.toInt_inj.mp (h9.trans (by decide)))
          have ht3 : (wh).toInt ≠ 3 := fun h9 => hc3 (Int32.toInt_inj.mp (h9.trans (by decide)))
          refine lv_tableOut (tgt := 121) hx hb dX5_fact_8 (by omega) (by decide) ?_
          refine lv_aload_n hx hb dX5_fact_121 rfl (lv_at hl 1 rfl) ?_
          refine va_get (D := (dC, dI)) (ci := 4) (v := .ref zru) (C := RX5) (T := TX5) (N := 5) hx hb hts hinX5 hown hK hP 0 rfl rfl 1 (by decide) hw1 (fun _ h9 => h9) rfl dX5_fact_122 ?_
          refine lv_aload_n hx hb dX5_fact_125 rfl (lv_at hl 1 rfl) ?_
          refine va_get (D := (dC, dI)) (ci := 4) (v := .ref zga) (C := RX5) (T := TX5) (N := 5) hx hb hts hinX5 hown hK hP 0 rfl rfl 2 (by decide) hw0 (fun _ h9 => h9) rfl dX5_fact_126 ?_
          have hPc := hP.sub (ws' := [(zga, .inr (1, [.ref zgr, .ref zru, .ref zag, .long dG.1, .int dG.2.1, .int dG.2.2.1, .int dG.2.2.2]))]) [4] rfl
          have hDc := hD.sub (ws' := [(zga, .inr (1, [.ref zgr, .ref zru, .ref zag, .long dG.1, .int dG.2.1, .int dG.2.2.1, .int dG.2.2.2]))]) [4] (by decide) rfl
          have hFc := va_free (wc := [(zga, .inr (1, [.ref zgr, .ref zru, .ref zag, .long dG.1, .int dG.2.1, .int dG.2.2.1, .int dG.2.2.2]))]) hD hS hA [4] rfl
          refine va_calll (va_runV (As := []) (rest := [.ref zru]) ⟨hx, hb, hml, hown, hts⟩ (c_X2_hedges l dC dI cI cJ zga zgr zru zag H.size dG) (cwV 0 hts gX5_fact_X2_hedges rfl rfl rfl (by decide +kernel) ⟨Nat.le_of_ble_eq_true rfl, Nat.le_of_ble_eq_true rfl⟩) ⟨fun a U gg mk q => by obtain ⟨q0, q1, qP, qK, qD⟩ := q; exact ⟨q0, q1, qP, va_K.moved (u := U) (U := U.calling gg mk a) (Vm.Alike.refl U.vm) qK, qD⟩, va_recv hK hPc (ci := 1) (q0 := 0) rfl rfl, fun U hU hW => ⟨rfl, by rw [hU], by rw [hU]; exact hPc, va_K.moved hW.alike hK, hDc.weaken (fun _ _ _ _ => trivial)⟩⟩ rfl rfl hl.1 rfl (lv_room (Nat.le_of_ble_eq_true rfl)) dX5_fact_129 ⟨Nat.zero_le _, Nat.zero_le _⟩) hS (fun q _ h => hFc q h) hFc (fun r_ u_ t H locs ht hvm hw hB hz1 hk1 hS => ?_)
          obtain rfl := hw.symm
          obtain ⟨hP1, -, hD1⟩ := hB
          rw [ht] at hP1
          obtain ⟨hP, hD⟩ := va_join (wr := [(zhg, .inr (4, [.ref zgr, .ref zru, .ref zga, .ref zfo, .ref zco])), (zgr, .inr (2, [.int gG.1, .int gG.2.1, .int (bI gG.2.2.1), .long gG.2.2.2.1, .long gG.2.2.2.2.1, .long gG.2.2.2.2.2.1, .long gG.2.2.2.2.2.2.1, .long gG.2.2.2.2.2.2.2])), (zru, .inr (3, [.ref zgr, .ref zcr, .int rR.1, .int rR.2])), (zcr, .inr (0, [.long qC.1, .long qC.2.1, .long qC.2.2.1, .long qC.2.2.2])), (zag, .inl (cI, 64, .inl aG))]) (w1 := [(zga, .inr (1, [.ref zgr, .ref zru, .ref zag, .long dG.1, .int dG.2.1, .int dG.2.2.1, .int dG.2.2.2]))]) hP hD [4] [0, 1, 2, 3, 5] rfl rfl (by decide) (by decide) hk1 hFc hP1 hD1
          have hP := hP.sub (ws' := [(zhg, .inr (4, [.ref zgr, .ref zru, .ref zga, .ref zfo, .ref zco])), (zgr, .inr (2, [.int gG.1, .int gG.2.1, .int (bI gG.2.2.1), .long gG.2.2.2.1, .long gG.2.2.2.2.1, .long gG.2.2.2.2.2.1, .long gG.2.2.2.2.2.2.1, .long gG.2.2.2.2.2.2.2])), (zru, .inr (3, [.ref zgr, .ref zcr, .int rR.1, .int rR.2])), (zcr, .inr (0, [.long qC.1, .long qC.2.1, .long qC.2.2.1, .long qC.2.2.2])), (zga, .inr (1, [.ref zgr, .ref zru, .ref zag, .long dG.1, .int dG.2.1, .int dG.2.2.1, .int dG.2.2.2])), (zag, .inl (cI, 64, .inl aG))]) [0, 1, 2, 3, 5, 4] rfl
          have hD := hD.sub (ws' := [(zhg, .inr (4, [.ref zgr, .ref zru, .ref zga, .ref zfo, .ref zco])), (zgr, .inr (2, [.int gG.1, .int gG.2.1, .int (bI gG.2.2.1), .long gG.2.2.2.1, .long gG.2.2.2.2.1, .long gG.2.2.2.2.2.1, .long gG.2.2.2.2.2.2.1, .long gG.2.2.2.2.2.2.2])), (zru, .inr (3, [.ref zgr, .ref zcr, .int rR.1, .int rR.2])), (zcr, .inr (0, [.long qC.1, .long qC.2.1, .long qC.2.2.1, .long qC.2.2.2])), (zga, .inr (1, [.ref zgr, .ref zru, .ref zag, .long dG.1, .int dG.2.1, .int dG.2.2.1, .int dG.2.2.2])), (zag, .inl (cI, 64, .inl aG))]) [0, 1, 2, 3, 5, 4] (by decide) rfl
          clear hPc hDc hFc hP1 hD1 hk1
          refine lv_iconst (v := 1) hx hb dX5_fact_132 (by decide) ?_
          obtain ⟨r4, hr4, hf⟩ := obind hf
          have hPc := hP.sub (ws' := [(zru, .inr (3, [.ref zgr, .ref zcr, .int rR.1, .int rR.2])), (zgr, .inr (2, [.int gG.1, .int gG.2.1, .int (bI gG.2.2.1), .long gG.2.2.2.1, .long gG.2.2.2.2.1, .long gG.2.2.2.2.2.1, .long gG.2.2.2.2.2.2.1, .long gG.2.2.2.2.2.2.2])), (zcr, .inr (0, [.long qC.1, .long qC.2.1, .long qC.2.2.1, .long qC.2.2.2]))]) [2, 1, 3] rfl
          have hDc := hD.sub (ws' := [(zru, .inr (3, [.ref zgr, .ref zcr, .int rR.1, .int rR.2])), (zgr, .inr (2, [.int gG.1, .int gG.2.1, .int (bI gG.2.2.1), .long gG.2.2.2.1, .long gG.2.2.2.2.1, .long gG.2.2.2.2.2.1, .long gG.2.2.2.2.2.2.1, .long gG.2.2.2.2.2.2.2])), (zcr, .inr (0, [.long qC.1, .long qC.2.1, .long qC.2.2.1, .long qC.2.2.2]))]) [2, 1, 3] (by decide) rfl
          have hFc := va_free (wc := [(zru, .inr (3, [.ref zgr, .ref zcr, .int rR.1, .int rR.2])), (zgr, .inr (2, [.int gG.1, .int gG.2.1, .int (bI gG.2.2.1), .long gG.2.2.2.1, .long gG.2.2.2.2.1, .long gG.2.2.2.2.2.1, .long gG.2.2.2.2.2.2.1, .long gG.2.2.2.2.2.2.2])), (zcr, .inr (0, [.long qC.1, .long qC.2.1, .long qC.2.2.1, .long qC.2.2.2]))]) hD hS hA [2, 1, 3] rfl
          refine va_calll (va_runV (As := [.long (f_X2_hedges dG), .int 1]) (rest := []) ⟨hx, hb, hml, hown, hts⟩ (c_X4_behindYears l dC dI cI cJ zru zgr zcr H.size rR gG (f_X2_hedges dG) 1 qC _ hr4) (cwV 2 hts gX5_fact_X4_behindYears rfl rfl rfl (by decide +kernel) ⟨Nat.le_of_ble_eq_true rfl, Nat.le_of_ble_eq_true rfl⟩) ⟨fun a U gg mk q => by obtain ⟨q0, q1, qP, qK, qD⟩ := q; exact ⟨q0, q1, qP, va_K.moved (u := U) (U := U.calling gg mk a) (Vm.Alike.refl U.vm) qK, qD⟩, va_recv hK hPc (ci := 3) (q0 := 0) rfl rfl, fun U hU hW => ⟨rfl, by rw [hU], by rw [hU]; exact hPc, va_K.moved hW.alike hK, hDc.weaken (fun _ _ _ _ => trivial)⟩⟩ rfl rfl hl.1 rfl (lv_room (Nat.le_of_ble_eq_true rfl)) dX5_fact_133 ⟨Nat.zero_le _, Nat.zero_le _⟩) hS (fun q _ h => hFc q h) hFc (fun r_ u_ t H locs ht hvm hw hB hz1 hk1 hS => ?_)
          obtain ⟨u5, rfl⟩ : ∃ z, z = u_ := ⟨_, rfl⟩
          obtain rfl := hw.symm
          obtain ⟨hP1, -, hD1⟩ := hB
          rw [ht] at hP1
          obtain ⟨hP, hD⟩ := va_join (wr := [(zhg, .inr (4, [.ref zgr, .ref zru, .ref zga, .ref zfo, .ref zco])), (zga, .inr (1, [.ref zgr, .ref zru, .ref zag, .long dG.1, .int dG.2.1, .int dG.2.2.1, .int dG.2.2.2])), (zag, .inl (cI, 64, .inl aG))]) (w1 := [(zru, .inr (3, [.ref zgr, .ref zcr, .int rR.1, .int rR.2])), (zgr, .inr (2, [.int gG.1, .int gG.2.1, .int (bI gG.2.2.1), .long gG.2.2.2.1, .long gG.2.2.2.2.1, .long gG.2.2.2.2.2.1, .long gG.2.2.2.2.2.2.1, .long gG.2.2.2.2.2.2.2])), (zcr, .inr (0, [.long u5.1, .long u5.2.1, .long u5.2.2.1, .long u5.2.2.2]))]) hP hD [2, 1, 3] [0, 4, 5] rfl rfl (by decide) (by decide) hk1 hFc hP1 hD1
          have hP := hP.sub (ws' := [(zhg, .inr (4, [.ref zgr, .ref zru, .ref zga, .ref zfo, .ref zco])), (zgr, .inr (2, [.int gG.1, .int gG.2.1, .int (bI gG.2.2.1), .long gG.2.2.2.1, .long gG.2.2.2.2.1, .long gG.2.2.2.2.2.1, .long gG.2.2.2.2.2.2.1, .long gG.2.2.2.2.2.2.2])), (zru, .inr (3, [.ref zgr, .ref zcr, .int rR.1, .int rR.2])), (zcr, .inr (0, [.long u5.1, .long u5.2.1, .long u5.2.2.1, .long u5.2.2.2])), (zga, .inr (1, [.ref zgr, .ref zru, .ref zag, .long dG.1, .int dG.2.1, .int dG.2.2.1, .int dG.2.2.2])), (zag, .inl (cI, 64, .inl aG))]) [0, 4, 3, 5, 1, 2] rfl
          have hD := hD.sub (ws' := [(zhg, .inr (4, [.ref zgr, .ref zru, .ref zga, .ref zfo, .ref zco])), (zgr, .inr (2, [.int gG.1, .int gG.2.1, .int (bI gG.2.2.1), .long gG.2.2.2.1, .long gG.2.2.2.2.1, .long gG.2.2.2.2.2.1, .long gG.2.2.2.2.2.2.1, .long gG.2.2.2.2.2.2.2])), (zru, .inr (3, [.ref zgr, .ref zcr, .int rR.1, .int rR.2])), (zcr, .inr (0, [.long u5.1, .long u5.2.1, .long u5.2.2.1, .long u5.2.2.2])), (zga, .inr (1, [.ref zgr, .ref zru, .ref zag, .long dG.1, .int dG.2.1, .int dG.2.2.1, .int dG.2.2.2])), (zag, .inl (cI, 64, .inl aG))]) [0, 4, 3, 5, 1, 2] (by decide) rfl
          clear hPc hDc hFc hP1 hD1 hk1
          refine lv_lload hx hb dX5_fact_136 (lv_at hl 0 rfl) ?_
          refine lv_land hx hb dX5_fact_138 ?_
          refine lv_lconst (v := 0) hx hb dX5_fact_139 (by decide) ?_
          refine W.lcmp hx hb dX5_fact_140 ?_
          refine lv_if_eq (tgt := 148) hx hb dX5_fact_141 (by decide) (fun hc => ?_) (fun hc => ?_)
          · have hc := lgz.mp hc
            rw [if_pos hc] at hf
            refine lv_iconst (v := 0) hx hb dX5_fact_148 (by decide) ?_
            obtain rfl := Option.some.inj hf
            exact W.iret (v := 0) hx hb hr (fun t ht hW => ⟨⟨0, (u5), rfl, rfl, by rw [ht]; exact hP, va_K.moved hW.alike hK, hD⟩, hS.F ht⟩) hS.2.2 dX5_fact_149
          · have hc := fun h9 => hc (lgz.mpr h9)
            rw [if_neg hc] at hf
            refine lv_iconst (v := 1) hx hb dX5_fact_144 (by decide) ?_
            refine lv_goto (tgt := 149) hx hb dX5_fact_145 (by decide) ?_
            obtain rfl := Option.some.inj hf
            exact W.iret (v := 1) hx hb hr (fun t ht hW => ⟨⟨1, (u5), rfl, rfl, by rw [ht]; exact hP, va_K.moved hW.alike hK, hD⟩, hS.F ht⟩) hS.2.2 dX5_fact_149
/-! HedgeGliders.counted(LHedgeGliders$Garden;I)I -/
def f_X5_counted (gG : GrS) (rR : RuS) (dW : GaS) (aW : Nat → Int32) (wh : Int32) : Option (Int32) := if wh = 0 then (some (f_X2_year dW)) else if wh = 1 then (some (f_X3_wide gG)) else if wh = 2 then (some (f_X3_high gG)) else if wh = 3 then (some (f_X2_size dW)) else if wh = 4 then (some (f_X2_birthsInAll dW)) else if wh = 5 then (some (f_X2_deathsInAll dW)) else if wh = 6 then (if (f_X3_isRound gG) = 0 then (some 0) else (some 1)) else if wh = 7 then (Option.bind (f_X2_lawns dW gG) fun r1 => some r1) else if wh = 8 then (Option.bind (f_X2_greatestLawn dW gG) fun r2 => some r2) else if wh = 9 then (Option.bind (f_X2_stillLawns dW gG rR) fun r3 => some r3) else (Option.bind (f_X2_oldest dW aW) fun r5 => some r5)
abbrev rm_X5_counted : Room := ({ frames := 5, cells := 0, slots := 0, locals := 125 } : Room)
abbrev A_X5_counted (cI cJ : ClassId) (zhg zgr zru zcr zwg zwa zga zfo zco : Nat) (gG : GrS) (rR : RuS) (dW : GaS) (aW : Nat → Int32) (wh : Int32) (qC : CrS) (sz : Nat) : Nat → Prop := va_A [(zhg, .inr (4, [.ref zgr, .ref zru, .ref zga, .ref zfo, .ref zco])), (zgr, .inr (2, [.int gG.1, .int gG.2.1, .int (bI gG.2.2.1), .long gG.2.2.2.1, .long gG.2.2.2.2.1, .long gG.2.2.2.2.2.1, .long gG.2.2.2.2.2.2.1, .long gG.2.2.2.2.2.2.2])), (zru, .inr (3, [.ref zgr, .ref zcr, .int rR.1, .int rR.2])), (zcr, .inr (0, [.long qC.1, .long qC.2.1, .long qC.2.2.1, .long qC.2.2.2])), (zwg, .inr (1, [.ref zgr, .ref zru, .ref zwa, .long dW.1, .int dW.2.1, .int dW.2.2.1, .int dW.2.2.2])), (zwa, .inl (cI, 64, .inl aW))] sz
abbrev Q_X5_counted (dC : Nat → ClassId) (dI : Nat → Nat → Nat) (cI cJ : ClassId) (zhg zgr zru zcr zwg zwa zga zfo zco : Nat) (gG : GrS) (rR : RuS) (dW : GaS) (aW : Nat → Int32) (wh : Int32) (qC : CrS) (sz : Nat) (R : Int32) : Array Value → State → Outcome → State → Prop := va_Qi (fun (r : Int32) (_ : CrS) => r = R) (fun u_ t => va_P (dC, dI) vwCl [(zhg, .inr (4, [.ref zgr, .ref zru, .ref zga, .ref zfo, .ref zco])), (zgr, .inr (2, [.int gG.1, .int gG.2.1, .int (bI gG.2.2.1), .long gG.2.2.2.1, .long gG.2.2.2.2.1, .long gG.2.2.2.2.2.1, .long gG.2.2.2.2.2.2.1, .long gG.2.2.2.2.2.2.2])), (zru, .inr (3, [.ref zgr, .ref zcr, .int rR.1, .int rR.2])), (zcr, .inr (0, [.long u_.1, .long u_.2.1, .long u_.2.2.1, .long u_.2.2.2])), (zwg, .inr (1, [.ref zgr, .ref zru, .ref zwa, .long dW.1, .int dW.2.1, .int dW.2.2.1, .int dW.2.2.2])), (zwa, .inl (cI, 64, .inl aW))] t.heap ∧ va_K (dC, dI) vwCl [(cI, .int), (cJ, .long)] t ∧ va_D (A_X5_counted cI cJ zhg zgr zru zcr zwg zwa zga zfo zco gG rR dW aW wh qC sz) [(zhg, .inr (4, [.ref zgr, .ref zru, .ref zga, .ref zfo, .ref zco])), (zgr, .inr (2, [.int gG.1, .int gG.2.1, .int (bI gG.2.2.1), .long gG.2.2.2.1, .long gG.2.2.2.2.1, .long gG.2.2.2.2.2.1, .long gG.2.2.2.2.2.2.1, .long gG.2.2.2.2.2.2.2])), (zru, .inr (3, [.ref zgr, .ref zcr, .int rR.1, .int rR.2])), (zcr, .inr (0, [.long u_.1, .long u_.2.1, .long u_.2.2.1, .long u_.2.2.2])), (zwg, .inr (1, [.ref zgr, .ref zru, .ref zwa, .long dW.1, .int dW.2.1, .int dW.2.2.1, .int dW.2.2.2])), (zwa, .inl (cI, 64, .inl aW))]) (A_X5_counted cI cJ zhg zgr zru zcr zwg zwa zga zfo zco gG rR dW aW wh qC sz)
set_option maxHeartbeats 4000000 in
set_option maxRecDepth 100000 in
theorem c_X5_counted (l : Launch) (dC : Nat → ClassId) (dI : Nat → Nat → Nat) (cI cJ : ClassId) (zhg zgr zru zcr zwg zwa zga zfo zco : Nat) (sz : Nat) (gG : GrS) (rR : RuS) (dW : GaS) (aW : Nat → Int32) (wh : Int32) (qC : CrS) (R : Int32) (hR : f_X5_counted gG rR dW aW wh = some R) : Met l yX5_counted wsX5_counted rm_X5_counted (va_Pc [.ref zhg, .ref zwg, .int wh] (fun U => U.heap.size = sz ∧ va_P (dC, dI) vwCl [(zhg, .inr (4, [.ref zgr, .ref zru, .ref zga, .ref zfo, .ref zco])), (zgr, .inr (2, [.int gG.1, .int gG.2.1, .int (bI gG.2.2.1), .long gG.2.2.2.1, .long gG.2.2.2.2.1, .long gG.2.2.2.2.2.1, .long gG.2.2.2.2.2.2.1, .long gG.2.2.2.2.2.2.2])), (zru, .inr (3, [.ref zgr, .ref zcr, .int rR.1, .int rR.2])), (zcr, .inr (0, [.long qC.1, .long qC.2.1, .long qC.2.2.1, .long qC.2.2.2])), (zwg, .inr (1, [.ref zgr, .ref zru, .ref zwa, .long dW.1, .int dW.2.1, .int dW.2.2.1, .int dW.2.2.2])), (zwa, .inl (cI, 64, .inl aW))] U.heap ∧ va_K (dC, dI) vwCl [(cI, .int), (cJ, .long)] U ∧ va_D (fun _ => True) [(zhg, .inr (4, [.ref zgr, .ref zru, .ref zga, .ref zfo, .ref zco])), (zgr, .inr (2, [.int gG.1, .int gG.2.1, .int (bI gG.2.2.1), .long gG.2.2.2.1, .long gG.2.2.2.2.1, .long gG.2.2.2.2.2.1, .long gG.2.2.2.2.2.2.1, .long gG.2.2.2.2.2.2.2])), (zru, .inr (3, [.ref zgr, .ref zcr, .int rR.1, .int rR.2])), (zcr, .inr (0, [.long qC.1, .long qC.2.1, .long qC.2.2.1, .long qC.2.2.2])), (zwg, .inr (1, [.ref zgr, .ref zru, .ref zwa, .long dW.1, .int dW.2.1, .int dW.2.2.1, .int dW.2.2.2])), (zwa, .inl (cI, 64, .inl aW))])) (Q_X5_counted dC dI cI cJ zhg zgr zru zcr zwg zwa zga zfo zco gG rR dW aW wh qC sz R) 0 0 (A_X5_counted cI cJ zhg zgr zru zcr zwg zwa zga zfo zco gG rR dW aW wh qC sz) := by
  have hf := hR
  refine Met.ofW (cc := cX5_counted) (maxL := 3) (ret := (some .int)) (by decide) rfl ?_
  intro p e s m args below meth c s₁ B hml hv
  obtain ⟨hargs, hsz, hP, hK, hD0⟩ := hv
  have hx := B.exec
  have hb := B.bytes
  have hr := B.returns
  have hts := atoms_spec (ws := wsX5_counted) B.pre
  have hown : s.vm.findClass RX5 = some m.cls := findClass_of_methodNamed B.named
  have hlocks := B.notSynchronized
  subst hsz
  have hD : va_D (A_X5_counted cI cJ zhg zgr zru zcr zwg zwa zga zfo zco gG rR dW aW wh qC s.heap.size) [(zhg, .inr (4, [.ref zgr, .ref zru, .ref zga, .ref zfo, .ref zco])), (zgr, .inr (2, [.int gG.1, .int gG.2.1, .int (bI gG.2.2.1), .long gG.2.2.2.1, .long gG.2.2.2.2.1, .long gG.2.2.2.2.2.1, .long gG.2.2.2.2.2.2.1, .long gG.2.2.2.2.2.2.2])), (zru, .inr (3, [.ref zgr, .ref zcr, .int rR.1, .int rR.2])), (zcr, .inr (0, [.long qC.1, .long qC.2.1, .long qC.2.2.1, .long qC.2.2.2])), (zwg, .inr (1, [.ref zgr, .ref zru, .ref zwa, .long dW.1, .int dW.2.1, .int dW.2.2.1, .int dW.2.2.2])), (zwa, .inl (cI, 64, .inl aW))] := hD0.self (sz := s.heap.size)
  have hA : ∀ q : Nat, s.heap.size ≤ q → (A_X5_counted cI cJ zhg zgr zru zcr zwg zwa zga zfo zco gG rR dW aW wh qC s.heap.size) q := fun q h => Or.inr h
  have hS : va_S (A_X5_counted cI cJ zhg zgr zru zcr zwg zwa zga zfo zco gG rR dW aW wh qC s.heap.size) s.heap s.heap [] := va_S.rf
  have hinX5 : ∀ w ∈ wsX50, w ∈ wsX5_counted := by decide +kernel
  have hw0 := hts (.fieldLink RX5 10 "HedgeGliders" "ground" "LHedgeGliders$Ground;") (by decide +kernel)
  have hl := lv_entry ([.ref zhg, .ref zwg, .int wh]) (n := 3) (Nat.le_of_ble_eq_true rfl)
  have he0 : entryFrame m args 3 = entryFrame m ([.ref zhg, .ref zwg, .int wh] : List Value).toArray 3 := by rw [hargs]
  rw [he0, lg_entry_eq]
  generalize (lg_sl ([.ref zhg, .ref zwg, .int wh]) ++ List.replicate (3 - (lg_sl ([.ref zhg, .ref zwg, .int wh])).length) Slot.unset).toArray = ls at hl ⊢
  have hl : lv_has ls 3 [(0, .ref zhg), (1, .ref zwg), (2, .int wh)] := hl
  rw [f_X5_counted] at hf
  refine lv_iload_n hx hb dX5_counted_0 rfl (lv_at hl 2 rfl) ?_
  by_cases hc0 : wh = 0
  · rw [if_pos hc0] at hf
    refine lv_tableIn (off := 55) (tgt := 56) hx hb dX5_counted_1 (by rw [hc0]; decide) (by rw [hc0]; decide) (by rw [hc0]; rfl) (by decide) ?_
    refine lv_aload_n hx hb dX5_counted_56 rfl (lv_at hl 1 rfl) ?_
    have hPc := hP.sub (ws' := [(zwg, .inr (1, [.ref zgr, .ref zru, .ref zwa, .long dW.1, .int dW.2.1, .int dW.2.2.1, .int dW.2.2.2]))]) [4] rfl
    have hDc := hD.sub (ws' := [(zwg, .inr (1, [.ref zgr, .ref zru, .ref zwa, .long dW.1, .int dW.2.1, .int dW.2.2.1, .int dW.2.2.2]))]) [4] (by decide) rfl
    have hFc := va_free (wc := [(zwg, .inr (1, [.ref zgr, .ref zru, .ref zwa, .long dW.1, .int dW.2.1, .int dW.2.2.1, .int dW.2.2.2]))]) hD hS hA [4] rfl
    refine va_calli (va_runV (As := []) (rest := []) ⟨hx, hb, hml, hown, hts⟩ (c_X2_year l dC dI cI cJ zwg zgr zru zwa s.heap.size dW) (cwV 0 hts gX5_counted_X2_year rfl rfl rfl (by decide +kernel) ⟨Nat.le_of_ble_eq_true rfl, Nat.le_of_ble_eq_true rfl⟩) ⟨fun a U gg mk q => by obtain ⟨q0, q1, qP, qK, qD⟩ := q; exact ⟨q0, q1, qP, va_K.moved (u := U) (U := U.calling gg mk a) (Vm.Alike.refl U.vm) qK, qD⟩, va_recv hK hPc (ci := 1) (q0 := 0) rfl rfl, fun U hU hW => ⟨rfl, by rw [hU], by rw [hU]; exact hPc, va_K.moved hW.alike hK, hDc.weaken (fun _ _ _ _ => trivial)⟩⟩ rfl rfl hl.1 rfl (lv_room (Nat.le_of_ble_eq_true rfl)) dX5_counted_57 ⟨Nat.zero_le _, Nat.zero_le _⟩) hS (fun q _ h => hFc q h) hFc (fun r_ u_ t H locs ht hvm hw hB hz1 hk1 hS => ?_)
    obtain rfl := hw.symm
    obtain ⟨hP1, -, hD1⟩ := hB
    rw [ht] at hP1
    obtain ⟨hP, hD⟩ := va_join (wr := [(zhg, .inr (4, [.ref zgr, .ref zru, .ref zga, .ref zfo, .ref zco])), (zgr, .inr (2, [.int gG.1, .int gG.2.1, .int (bI gG.2.2.1), .long gG.2.2.2.1, .long gG.2.2.2.2.1, .long gG.2.2.2.2.2.1, .long gG.2.2.2.2.2.2.1, .long gG.2.2.2.2.2.2.2])), (zru, .inr (3, [.ref zgr, .ref zcr, .int rR.1, .int rR.2])), (zcr, .inr (0, [.long qC.1, .long qC.2.1, .long qC.2.2.1, .long qC.2.2.2])), (zwa, .inl (cI, 64, .inl aW))]) (w1 := [(zwg, .inr (1, [.ref zgr, .ref zru, .ref zwa, .long dW.1, .int dW.2.1, .int dW.2.2.1, .int dW.2.2.2]))]) hP hD [4] [0, 1, 2, 3, 5] rfl rfl (by decide) (by decide) hk1 hFc hP1 hD1
    have hP := hP.sub (ws' := [(zhg, .inr (4, [.ref zgr, .ref zru, .ref zga, .ref zfo, .ref zco])), (zgr, .inr (2, [.int gG.1, .int gG.2.1, .int (bI gG.2.2.1), .long gG.2.2.2.1, .long gG.2.2.2.2.1, .long gG.2.2.2.2.2.1, .long gG.2.2.2.2.2.2.1, .long gG.2.2.2.2.2.2.2])), (zru, .inr (3, [.ref zgr, .ref zcr, .int rR.1, .int rR.2])), (zcr, .inr (0, [.long qC.1, .long qC.2.1, .long qC.2.2.1, .long qC.2.2.2])), (zwg, .inr (1, [.ref zgr, .ref zru, .ref zwa, .long dW.1, .int dW.2.1, .int dW.2.2.1, .int dW.2.2.2])), (zwa, .inl (cI, 64, .inl aW))]) [0, 1, 2, 3, 5, 4] rfl
    have hD := hD.sub (ws' := [(zhg, .inr (4, [.ref zgr, .ref zru, .ref zga, .ref zfo, .ref zco])), (zgr, .inr (2, [.int gG.1, .int gG.2.1, .int (bI gG.2.2.1), .long gG.2.2.2.1, .long gG.2.2.2.2.1, .long gG.2.2.2.2.2.1, .long gG.2.2.2.2.2.2.1, .long gG.2.2.2.2.2.2.2])), (zru, .inr (3, [.ref zgr, .ref zcr, .int rR.1, .int rR.2])), (zcr, .inr (0, [.long qC.1, .long qC.2.1, .long qC.2.2.1, .long qC.2.2.2])), (zwg, .inr (1, [.ref zgr, .ref zru, .ref zwa, .long dW.1, .int dW.2.1, .int dW.2.2.1, .int dW.2.2.2])), (zwa, .inl (cI, 64, .inl aW))]) [0, 1, 2, 3, 5, 4] (by decide) rfl
    clear hPc hDc hFc hP1 hD1 hk1
    obtain rfl := Option.some.inj hf
    exact W.iret (v := (f_X2_year dW)) hx hb hr (fun t ht hW => ⟨⟨(f_X2_year dW), (qC), rfl, rfl, by rw [ht]; exact hP, va_K.moved hW.alike hK, hD⟩, hS.F ht⟩) hS.2.2 dX5_counted_60
  · rw [if_neg hc0] at hf
    by_cases hc1 : wh = 1
    · rw [if_pos hc1] at hf
      refine lv_tableIn (off := 60) (tgt := 61) hx hb dX5_counted_1 (by rw [hc1]; decide) (by rw [hc1]; decide) (by rw [hc1]; rfl) (by decide) ?_
      refine lv_aload_n hx hb dX5_counted_61 rfl (lv_at hl 0 rfl) ?_
      refine va_get (D := (dC, dI)) (ci := 4) (v := .ref zgr) (C := RX5) (T := TX5) (N := 5) hx hb hts hinX5 hown hK hP 0 rfl rfl 0 (by decide) hw0 (fun _ h9 => h9) rfl dX5_counted_62 ?_
      have hPc := hP.sub (ws' := [(zgr, .inr (2, [.int gG.1, .int gG.2.1, .int (bI gG.2.2.1), .long gG.2.2.2.1, .long gG.2.2.2.2.1, .long gG.2.2.2.2.2.1, .long gG.2.2.2.2.2.2.1, .long gG.2.2.2.2.2.2.2]))]) [1] rfl
      have hDc := hD.sub (ws' := [(zgr, .inr (2, [.int gG.1, .int gG.2.1, .int (bI gG.2.2.1), .long gG.2.2.2.1, .long gG.2.2.2.2.1, .long gG.2.2.2.2.2.1, .long gG.2.2.2.2.2.2.1, .long gG.2.2.2.2.2.2.2]))]) [1] (by decide) rfl
      have hFc := va_free (wc := [(zgr, .inr (2, [.int gG.1, .int gG.2.1, .int (bI gG.2.2.1), .long gG.2.2.2.1, .long gG.2.2.2.2.1, .long gG.2.2.2.2.2.1, .long gG.2.2.2.2.2.2.1, .long gG.2.2.2.2.2.2.2]))]) hD hS hA [1] rfl
      refine va_calli (va_runV (As := []) (rest := []) ⟨hx, hb, hml, hown, hts⟩ (c_X3_wide l dC dI cI cJ zgr s.heap.size gG) (cwV 0 hts gX5_counted_X3_wide rfl rfl rfl (by decide +kernel) ⟨Nat.le_of_ble_eq_true rfl, Nat.le_of_ble_eq_true rfl⟩) ⟨fun a U gg mk q => by obtain ⟨q0, q1, qP, qK, qD⟩ := q; exact ⟨q0, q1, qP, va_K.moved (u := U) (U := U.calling gg mk a) (Vm.Alike.refl U.vm) qK, qD⟩, va_recv hK hPc (ci := 2) (q0 := 0) rfl rfl, fun U hU hW => ⟨rfl, by rw [hU], by rw [hU]; exact hPc, va_K.moved hW.alike hK, hDc.weaken (fun _ _ _ _ => trivial)⟩⟩ rfl rfl hl.1 rfl (lv_room (Nat.le_of_ble_eq_true rfl)) dX5_counted_65 ⟨Nat.zero_le _, Nat.zero_le _⟩) hS (fun q _ h => hFc q h) hFc (fun r_ u_ t H locs ht hvm hw hB hz1 hk1 hS => ?_)
      obtain rfl := hw.symm
      obtain ⟨hP1, -, hD1⟩ := hB
      rw [ht] at hP1
      obtain ⟨hP, hD⟩ := va_join (wr := [(zhg, .inr (4, [.ref zgr, .ref zru, .ref zga, .ref zfo, .ref zco])), (zru, .inr (3, [.ref zgr, .ref zcr, .int rR.1, .int rR.2])), (zcr, .inr (0, [.long qC.1, .long qC.2.1, .long qC.2.2.1, .long qC.2.2.2])), (zwg, .inr (1, [.ref zgr, .ref zru, .ref zwa, .long dW.1, .int dW.2.1, .int dW.2.2.1, .int dW.2.2.2])), (zwa, .inl (cI, 64, .inl aW))]) (w1 := [(zgr, .inr (2, [.int gG.1, .int gG.2.1, .int (bI gG.2.2.1), .long gG.2.2.2.1, .long gG.2.2.2.2.1, .long gG.2.2.2.2.2.1, .long gG.2.2.2.2.2.2.1, .long gG.2.2.2.2.2.2.2]))]) hP hD [1] [0, 2, 3, 4, 5] rfl rfl (by decide) (by decide) hk1 hFc hP1 hD1
      have hP := hP.sub (ws' := [(zhg, .inr (4, [.ref zgr, .ref zru, .ref zga, .ref zfo, .ref zco])), (zgr, .inr (2, [.int gG.1, .int gG.2.1, .int (bI gG.2.2.1), .long gG.2.2.2.1, .long gG.2.2.2.2.1, .long gG.2.2.2.2.2.1, .long gG.2.2.2.2.2.2.1, .long gG.2.2.2.2.2.2.2])), (zru, .inr (3, [.ref zgr, .ref zcr, .int rR.1, .int rR.2])), (zcr, .inr (0, [.long qC.1, .long qC.2.1, .long qC.2.2.1, .long qC.2.2.2])), (zwg, .inr (1, [.ref zgr, .ref zru, .ref zwa, .long dW.1, .int dW.2.1, .int dW.2.2.1, .int dW.2.2.2])), (zwa, .inl (cI, 64, .inl aW))]) [0, 5, 1, 2, 3, 4] rfl
      have hD := hD.sub (ws' := [(zhg, .inr (4, [.ref zgr, .ref zru, .ref zga, .ref zfo, .ref zco])), (zgr, .inr (2, [.int gG.1, .int gG.2.1, .int (bI gG.2.2.1), .long gG.2.2.2.1, .long gG.2.2.2.2.1, .long gG.2.2.2.2.2.1, .long gG.2.2.2.2.2.2.1, .long gG.2.2.2.2.2.2.2])), (zru, .inr (3, [.ref zgr, .ref zcr, .int rR.1, .int rR.2])), (zcr, .inr (0, [.long qC.1, .long qC.2.1, .long qC.2.2.1, .long qC.2.2.2])), (zwg, .inr (1, [.ref zgr, .ref zru, .ref zwa, .long dW.1, .int dW.2.1, .int dW.2.2.1, .int dW.2.2.2])), (zwa, .inl (cI, 64, .inl aW))]) [0, 5, 1, 2, 3, 4] (by decide) rfl
      clear hPc hDc hFc hP1 hD1 hk1
      obtain rfl := Option.some.inj hf
      exact W.iret (v := (f_X3_wide gG)) hx hb hr (fun t ht hW => ⟨⟨(f_X3_wide gG), (qC), rfl, rfl, by rw [ht]; exact hP, va_K.moved hW.alike hK, hD⟩, hS.F ht⟩) hS.2.2 dX5_counted_68
    · rw [if_neg hc1] at hf
      by_cases hc2 : wh = 2
      · rw [if_pos hc2] at hf
        refine lv_tableIn (off := 68) (tgt := 69) hx hb dX5_counted_1 (by rw [hc2]; decide) (by rw [hc2]; decide) (by rw [hc2]; rfl) (by decide) ?_
        refine lv_aload_n hx hb dX5_counted_69 rfl (lv_at hl 0 rfl) ?_
        refine va_get (D := (dC, dI)) (ci := 4) (v := .ref zgr) (C := RX5) (T := TX5) (N := 5) hx hb hts hinX5 hown hK hP 0 rfl rfl 0 (by decide) hw0 (fun _ h9 => h9) rfl dX5_counted_70 ?_
        have hPc := hP.sub (ws' := [(zgr, .inr (2, [.int gG.1, .int gG.2.1, .int (bI gG.2.2.1), .long gG.2.2.2.1, .long gG.2.2.2.2.1, .long gG.2.2.2.2.2.1, .long gG.2.2.2.2.2.2.1, .long gG.2.2.2.2.2.2.2]))]) [1] rfl
        have hDc := hD.sub (ws' := [(zgr, .inr (2, [.int gG.1, .int gG.2.1, .int (bI gG.2.2.1), .long gG.2.2.2.1, .long gG.2.2.2.2.1, .long gG.2.2.2.2.2.1, .long gG.2.2.2.2.2.2.1, .long gG.2.2.2.2.2.2.2]))]) [1] (by decide) rfl
        have hFc := va_free (wc := [(zgr, .inr (2, [.int gG.1, .int gG.2.1, .int (bI gG.2.2.1), .long gG.2.2.2.1, .long gG.2.2.2.2.1, .long gG.2.2.2.2.2.1, .long gG.2.2.2.2.2.2.1, .long gG.2.2.2.2.2.2.2]))]) hD hS hA [1] rfl
        refine va_calli (va_runV (As := []) (rest := []) ⟨hx, hb, hml, hown, hts⟩ (c_X3_high l dC dI cI cJ zgr s.heap.size gG) (cwV 0 hts gX5_counted_X3_high rfl rfl rfl (by decide +kernel) ⟨Nat.le_of_ble_eq_true rfl, Nat.le_of_ble_eq_true rfl⟩) ⟨fun a U gg mk q => by obtain ⟨q0, q1, qP, qK, qD⟩ := q; exact ⟨q0, q1, qP, va_K.moved (u := U) (U := U.calling gg mk a) (Vm.Alike.refl U.vm) qK, qD⟩, va_recv hK hPc (ci := 2) (q0 := 0) rfl rfl, fun U hU hW => ⟨rfl, by rw [hU], by rw [hU]; exact hPc, va_K.moved hW.alike hK, hDc.weaken (fun _ _ _ _ => trivial)⟩⟩ rfl rfl hl.1 rfl (lv_room (Nat.le_of_ble_eq_true rfl)) dX5_counted_73 ⟨Nat.zero_le _, Nat.zero_le _⟩) hS (fun q _ h => hFc q h) hFc (fun r_ u_ t H locs ht hvm hw hB hz1 hk1 hS => ?_)
        obtain rfl := hw.symm
        obtain ⟨hP1, -, hD1⟩ := hB
        rw [ht] at hP1
        obtain ⟨hP, hD⟩ := va_join (wr := [(zhg, .inr (4, [.ref zgr, .ref zru, .ref zga, .ref zfo, .ref zco])), (zru, .inr (3, [.ref zgr, .ref zcr, .int rR.1, .int rR.2])), (zcr, .inr (0, [.long qC.1, .long qC.2.1, .long qC.2.2.1, .long qC.2.2.2])), (zwg, .inr (1, [.ref zgr, .ref zru, .ref zwa, .long dW.1, .int dW.2.1, .int dW.2.2.1, .int dW.2.2.2])), (zwa, .inl (cI, 64, .inl aW))]) (w1 := [(zgr, .inr (2, [.int gG.1, .int gG.2.1, .int (bI gG.2.2.1), .long gG.2.2.2.1, .long gG.2.2.2.2.1, .long gG.2.2.2.2.2.1, .long gG.2.2.2.2.2.2.1, .long gG.2.2.2.2.2.2.2]))]) hP hD [1] [0, 2, 3, 4, 5] rfl rfl (by decide) (by decide) hk1 hFc hP1 hD1
        have hP := hP.sub (ws' := [(zhg, .inr (4, [.ref zgr, .ref zru, .ref zga, .ref zfo, .ref zco])), (zgr, .inr (2, [.int gG.1, .int gG.2.1, .int (bI gG.2.2.1), .long gG.2.2.2.1, .long gG.2.2.2.2.1, .long gG.2.2.2.2.2.1, .long gG.2.2.2.2.2.2.1, .long gG.2.2.2.2.2.2.2])), (zru, .inr (3, [.ref zgr, .ref zcr, .int rR.1, .int rR.2])), (zcr, .inr (0, [.long qC.1, .long qC.2.1, .long qC.2.2.1, .long qC.2.2.2])), (zwg, .inr (1, [.ref zgr, .ref zru, .ref zwa, .long dW.1, .int dW.2.1, .int dW.2.2.1, .int dW.2.2.2])), (zwa, .inl (cI, 64, .inl aW))]) [0, 5, 1, 2, 3, 4] rfl
        have hD := hD.sub (ws' := [(zhg, .inr (4, [.ref zgr, .ref zru, .ref zga, .ref zfo, .ref zco])), (zgr, .inr (2, [.int gG.1, .int gG.2.1, .int (bI gG.2.2.1), .long gG.2.2.2.1, .long gG.2.2.2.2.1, .long gG.2.2.2.2.2.1, .long gG.2.2.2.2.2.2.1, .long gG.2.2.2.2.2.2.2])), (zru, .inr (3, [.ref zgr, .ref zcr, .int rR.1, .int rR.2])), (zcr, .inr (0, [.long qC.1, .long qC.2.1, .long qC.2.2.1, .long qC.2.2.2])), (zwg, .inr (1, [.ref zgr, .ref zru, .ref zwa, .long dW.1, .int dW.2.1, .int dW.2.2.1, .int dW.2.2.2])), (zwa, .inl (cI, 64, .inl aW))]) [0, 5, 1, 2, 3, 4] (by decide) rfl
        clear hPc hDc hFc hP1 hD1 hk1
        obtain rfl := Option.some.inj hf
        exact W.iret (v := (f_X3_high gG)) hx hb hr (fun t ht hW => ⟨⟨(f_X3_high gG), (qC), rfl, rfl, by rw [ht]; exact hP, va_K.moved hW.alike hK, hD⟩, hS.F ht⟩) hS.2.2 dX5_counted_76
      · rw [if_neg hc2] at hf
        by_cases hc3 : wh = 3
        · rw [if_pos hc3] at hf
          refine lv_tableIn (off := 76) (tgt := 77) hx hb dX5_counted_1 (by rw [hc3]; decide) (by rw [hc3]; decide) (by rw [hc3]; rfl) (by decide) ?_
          refine lv_aload_n hx hb dX5_counted_77 rfl (lv_at hl 1 rfl) ?_
          have hPc := hP.sub (ws' := [(zwg, .inr (1, [.ref zgr, .ref zru, .ref zwa, .long dW.1, .int dW.2.1, .int dW.2.2.1, .int dW.2.2.2]))]) [4] rfl
          have hDc := hD.sub (ws' := [(zwg, .inr (1, [.ref zgr, .ref zru, .ref zwa, .long dW.1, .int dW.2.1, .int dW.2.2.1, .int dW.2.2.2]))]) [4] (by decide) rfl
          have hFc := va_free (wc := [(zwg, .inr (1, [.ref zgr, .ref zru, .ref zwa, .long dW.1, .int dW.2.1, .int dW.2.2.1, .int dW.2.2.2]))]) hD hS hA [4] rfl
          refine va_calli (va_runV (As := []) (rest := []) ⟨hx, hb, hml, hown, hts⟩ (c_X2_size l dC dI cI cJ zwg zgr zru zwa s.heap.size dW) (cwV 0 hts gX5_counted_X2_size rfl rfl rfl (by decide +kernel) ⟨Nat.le_of_ble_eq_true rfl, Nat.le_of_ble_eq_true rfl⟩) ⟨fun a U gg mk q => by obtain ⟨q0, q1, qP, qK, qD⟩ := q; exact ⟨q0, q1, qP, va_K.moved (u := U) (U := U.calling gg mk a) (Vm.Alike.refl U.vm) qK, qD⟩, va_recv hK hPc (ci := 1) (q0 := 0) rfl rfl, fun U hU hW => ⟨rfl, by rw [hU], by rw [hU]; exact hPc, va_K.moved hW.alike hK, hDc.weaken (fun _ _ _ _ => trivial)⟩⟩ rfl rfl hl.1 rfl (lv_room (Nat.le_of_ble_eq_true rfl)) dX5_counted_78 ⟨Nat.zero_le _, Nat.zero_le _⟩) hS (fun q _ h => hFc q h) hFc (fun r_ u_ t H locs ht hvm hw hB hz1 hk1 hS => ?_)
          obtain rfl := hw.symm
          obtain ⟨hP1, -, hD1⟩ := hB
          rw [ht] at hP1
          obtain ⟨hP, hD⟩ := va_join (wr := [(zhg, .inr (4, [.ref zgr, .ref zru, .ref zga, .ref zfo, .ref zco])), (zgr, .inr (2, [.int gG.1, .int gG.2.1, .int (bI gG.2.2.1), .long gG.2.2.2.1, .long gG.2.2.2.2.1, .long gG.2.2.2.2.2.1, .long gG.2.2.2.2.2.2.1, .long gG.2.2.2.2.2.2.2])), (zru, .inr (3, [.ref zgr, .ref zcr, .int rR.1, .int rR.2])), (zcr, .inr (0, [.long qC.1, .long qC.2.1, .long qC.2.2.1, .long qC.2.2.2])), (zwa, .inl (cI, 64, .inl aW))]) (w1 := [(zwg, .inr (1, [.ref zgr, .ref zru, .ref zwa, .long dW.1, .int dW.2.1, .int dW.2.2.1, .int dW.2.2.2]))]) hP hD [4] [0, 1, 2, 3, 5] rfl rfl (by decide) (by decide) hk1 hFc hP1 hD1
          have hP := hP.sub (ws' := [(zhg, .inr (4, [.ref zgr, .ref zru, .ref zga, .ref zfo, .ref zco])), (zgr, .inr (2, [.int gG.1, .int gG.2.1, .int (bI gG.2.2.1), .long gG.2.2.2.1, .long gG.2.2.2.2.1, .long gG.2.2.2.2.2.1, .long gG.2.2.2.2.2.2.1, .long gG.2.2.2.2.2.2.2])), (zru, .inr (3, [.ref zgr, .ref zcr, .int rR.1, .int rR.2])), (zcr, .inr (0, [.long qC.1, .long qC.2.1, .long qC.2.2.1, .long qC.2.2.2])), (zwg, .inr (1, [.ref zgr, .ref zru, .ref zwa, .long dW.1, .int dW.2.1, .int dW.2.2.1, .int dW.2.2.2])), (zwa, .inl (cI, 64, .inl aW))]) [0, 1, 2, 3, 5, 4] rfl
          have hD := hD.sub (ws' := [(zhg, .inr (4, [.ref zgr, .ref zru, .ref zga, .ref zfo, .ref zco])), (zgr, .inr (2, [.int gG.1, .int gG.2.1, .int (bI gG.2.2.1), .long gG.2.2.2.1, .long gG.2.2.2.2.1, .long gG.2.2.2.2.2.1, .long gG.2.2.2.2.2.2.1, .long gG.2.2.2.2.2.2.2])), (zru, .inr (3, [.ref zgr, .ref zcr, .int rR.1, .int rR.2])), (zcr, .inr (0, [.long qC.1, .long qC.2.1, .long qC.2.2.1, .long qC.2.2.2])), (zwg, .inr (1, [.ref zgr, .ref zru, .ref zwa, .long dW.1, .int dW.2.1, .int dW.2.2.1, .int dW.2.2.2])), (zwa, .inl (cI, 64, .inl aW))]) [0, 1, 2, 3, 5, 4] (by decide) rfl
          clear hPc hDc hFc hP1 hD1 hk1
          obtain rfl := Option.some.inj hf
          exact W.iret (v := (f_X2_size dW)) hx hb hr (fun t ht hW => ⟨⟨(f_X2_size dW), (qC), rfl, rfl, by rw [ht]; exact hP, va_K.moved hW.alike hK, hD⟩, hS.F ht⟩) hS.2.2 dX5_counted_81
        · rw [if_neg hc3] at hf
          by_cases hc4 : wh = 4
          · rw [if_pos hc4] at hf
            refine lv_tableIn (off := 81) (tgt := 82) hx hb dX5_counted_1 (by rw [hc4]; decide) (by rw [hc4]; decide) (by rw [hc4]; rfl) (by decide) ?_
            refine lv_aload_n hx hb dX5_counted_82 rfl (lv_at hl 1 rfl) ?_
            have hPc := hP.sub (ws' := [(zwg, .inr (1, [.ref zgr, .ref zru, .ref zwa, .long dW.1, .int dW.2.1, .int dW.2.2.1, .int dW.2.2.2]))]) [4] rfl
            have hDc := hD.sub (ws' := [(zwg, .inr (1, [.ref zgr, .ref zru, .ref zwa, .long dW.1, .int dW.2.1, .int dW.2.2.1, .int dW.2.2.2]))]) [4] (by decide) rfl
            have hFc := va_free (wc := [(zwg, .inr (1, [.ref zgr, .ref zru, .ref zwa, .long dW.1, .int dW.2.1, .int dW.2.2.1, .int dW.2.2.2]))]) hD hS hA [4] rfl
            refine va_calli (va_runV (As := []) (rest := []) ⟨hx, hb, hml, hown, hts⟩ (c_X2_birthsInAll l dC dI cI cJ zwg zgr zru zwa s.heap.size dW) (cwV 0 hts gX5_counted_X2_birthsInAll rfl rfl rfl (by decide +kernel) ⟨Nat.le_of_ble_eq_true rfl, Nat.le_of_ble_eq_true rfl⟩) ⟨fun a U gg mk q => by obtain ⟨q0, q1, qP, qK, qD⟩ := q; exact ⟨q0, q1, qP, va_K.moved (u := U) (U := U.calling gg mk a) (Vm.Alike.refl U.vm) qK, qD⟩, va_recv hK hPc (ci := 1) (q0 := 0) rfl rfl, fun U hU hW => ⟨rfl, by rw [hU], by rw [hU]; exact hPc, va_K.moved hW.alike hK, hDc.weaken (fun _ _ _ _ => trivial)⟩⟩ rfl rfl hl.1 rfl (lv_room (Nat.le_of_ble_eq_true rfl)) dX5_counted_83 ⟨Nat.zero_le _, Nat.zero_le _⟩) hS (fun q _ h => hFc q h) hFc (fun r_ u_ t H locs ht hvm hw hB hz1 hk1 hS => ?_)
            obtain rfl := hw.symm
            obtain ⟨hP1, -, hD1⟩ := hB
            rw [ht] at hP1
            obtain ⟨hP, hD⟩ := va_join (wr := [(zhg, .inr (4, [.ref zgr, .ref zru, .ref zga, .ref zfo, .ref zco])), (zgr, .inr (2, [.int gG.1, .int gG.2.1, .int (bI gG.2.2.1), .long gG.2.2.2.1, .long gG.2.2.2.2.1, .long gG.2.2.2.2.2.1, .long gG.2.2.2.2.2.2.1, .long gG.2.2.2.2.2.2.2])), (zru, .inr (3, [.ref zgr, .ref zcr, .int rR.1, .int rR.2])), (zcr, .inr (0, [.long qC.1, .long qC.2.1, .long qC.2.2.1, .long qC.2.2.2])), (zwa, .inl (cI, 64, .inl aW))]) (w1 := [(zwg, .inr (1, [.ref zgr, .ref zru, .ref zwa, .long dW.1, .int dW.2.1, .int dW.2.2.1, .int dW.2.2.2]))]) hP hD [4] [0, 1, 2, 3, 5] rfl rfl (by decide) (by decide) hk1 hFc hP1 hD1
            have hP := hP.sub (ws' := [(zhg, .inr (4, [.ref zgr, .ref zru, .ref zga, .ref zfo, .ref zco])), (zgr, .inr (2, [.int gG.1, .int gG.2.1, .int (bI gG.2.2.1), .long gG.2.2.2.1, .long gG.2.2.2.2.1, .long gG.2.2.2.2.2.1, .long gG.2.2.2.2.2.2.1, .long gG.2.2.2.2.2.2.2])), (zru, .inr (3, [.ref zgr, .ref zcr, .int rR.1, .int rR.2])), (zcr, .inr (0, [.long qC.1, .long qC.2.1, .long qC.2.2.1, .long qC.2.2.2])), (zwg, .inr (1, [.ref zgr, .ref zru, .ref zwa, .long dW.1, .int dW.2.1, .int dW.2.2.1, .int dW.2.2.2])), (zwa, .inl (cI, 64, .inl aW))]) [0, 1, 2, 3, 5, 4] rfl
            have hD := hD.sub (ws' := [(zhg, .inr (4, [.ref zgr, .ref zru, .ref zga, .ref zfo, .ref zco])), (zgr, .inr (2, [.int gG.1, .int gG.2.1, .int (bI gG.2.2.1), .long gG.2.2.2.1, .long gG.2.2.2.2.1, .long gG.2.2.2.2.2.1, .long gG.2.2.2.2.2.2.1, .long gG.2.2.2.2.2.2.2])), (zru, .inr (3, [.ref zgr, .ref zcr, .int rR.1, .int rR.2])), (zcr, .inr (0, [.long qC.1, .long qC.2.1, .long qC.2.2.1, .long qC.2.2.2])), (zwg, .inr (1, [.ref zgr, .ref zru, .ref zwa, .long dW.1, .int dW.2.1, .int dW.2.2.1, .int dW.2.2.2])), (zwa, .inl (cI, 64, .inl aW))]) [0, 1, 2, 3, 5, 4] (by decide) rfl
            clear hPc hDc hFc hP1 hD1 hk1
            obtain rfl := Option.some.inj hf
            exact W.iret (v := (f_X2_birthsInAll dW)) hx hb hr (fun t ht hW => ⟨⟨(f_X2_birthsInAll dW), (qC), rfl, rfl, by rw [ht]; exact hP, va_K.moved hW.alike hK, hD⟩, hS.F ht⟩) hS.2.2 dX5_counted_86
          · rw [if_neg hc4] at hf
            by_cases hc5 : wh = 5
            · rw [if_pos hc5] at hf
              refine lv_tableIn (off := 86) (tgt := 87) hx hb dX5_counted_1 (by rw [hc5]; decide) (by rw [hc5]; decide) (by rw [hc5]; rfl) (by decide) ?_
              refine lv_aload_n hx hb dX5_counted_87 rfl (lv_at hl 1 rfl) ?_
              have hPc := hP.sub (ws' := [(zwg, .inr (1, [.ref zgr, .ref zru, .ref zwa, .long dW.1, .int dW.2.1, .int dW.2.2.1, .int dW.2.2.2]))]) [4] rfl
              have hDc := hD.sub (ws' := [(zwg, .inr (1, [.ref zgr, .ref zru, .ref zwa, .long dW.1, .int dW.2.1, .int dW.2.2.1, .int dW.2.2.2]))]) [4] (by decide) rfl
              have hFc := va_free (wc := [(zwg, .inr (1, [.ref zgr, .ref zru, .ref zwa, .long dW.1, .int dW.2.1, .int dW.2.2.1, .int dW.2.2.2]))]) hD hS hA [4] rfl
              refine va_calli (va_runV (As := []) (rest := []) ⟨hx, hb, hml, hown, hts⟩ (c_X2_deathsInAll l dC dI cI cJ zwg zgr zru zwa s.heap.size dW) (cwV 0 hts gX5_counted_X2_deathsInAll rfl rfl rfl (by decide +kernel) ⟨Nat.le_of_ble_eq_true rfl, Nat.le_of_ble_eq_true rfl⟩) ⟨fun a U gg mk q => by obtain ⟨q0, q1, qP, qK, qD⟩ := q; exact ⟨q0, q1, qP, va_K.moved (u := U) (U := U.calling gg mk a) (Vm.Alike.refl U.vm) qK, qD⟩, va_recv hK hPc (ci := 1) (q0 := 0) rfl rfl, fun U hU hW => ⟨rfl, by rw [hU], by rw [hU]; exact hPc, va_K.moved hW.alike hK, hDc.weaken (fun _ _ _ _ => trivial)⟩⟩ rfl rfl hl.1 rfl (lv_room (Nat.le_of_ble_eq_true rfl)) dX5_counted_88 ⟨Nat.zero_le _, Nat.zero_le _⟩) hS (fun q _ h => hFc q h) hFc (fun r_ u_ t H locs ht hvm hw hB hz1 hk1 hS => ?_)
              obtain rfl := hw.symm
              obtain ⟨hP1, -, hD1⟩ := hB
              rw [ht] at hP1
              obtain ⟨hP, hD⟩ := va_join (wr := [(zhg, .inr (4, [.ref zgr, .ref zru, .ref zga, .ref zfo, .ref zco])), (zgr, .inr (2, [.int gG.1, .int gG.2.1, .int (bI gG.2.2.1), .long gG.2.2.2.1, .long gG.2.2.2.2.1, .long gG.2.2.2.2.2.1, .long gG.2.2.2.2.2.2.1, .long gG.2.2.2.2.2.2.2])), (zru, .inr (3, [.ref zgr, .ref zcr, .int rR.1, .int rR.2])), (zcr, .inr (0, [.long qC.1, .long qC.2.1, .long qC.2.2.1, .long qC.2.2.2])), (zwa, .inl (cI, 64, .inl aW))]) (w1 := [(zwg, .inr (1, [.ref zgr, .ref zru, .ref zwa, .long dW.1, .int dW.2.1, .int dW.2.2.1, .int dW.2.2.2]))]) hP hD [4] [0, 1, 2, 3, 5] rfl rfl (by decide) (by decide) hk1 hFc hP1 hD1
              have hP := hP.sub (ws' := [(zhg, .inr (4, [.ref zgr, .ref zru, .ref zga, .ref zfo, .ref zco])), (zgr, .inr (2, [.int gG.1, .int gG.2.1, .int (bI gG.2.2.1), .long gG.2.2.2.1, .long gG.2.2.2.2.1, .long gG.2.2.2.2.2.1, .long gG.2.2.2.2.2.2.1, .long gG.2.2.2.2.2.2.2])), (zru, .inr (3, [.ref zgr, .ref zcr, .int rR.1, .int rR.2])), (zcr, .inr (0, [.long qC.1, .long qC.2.1, .long qC.2.2.1, .long qC.2.2.2])), (zwg, .inr (1, [.ref zgr, .ref zru, .ref zwa, .long dW.1, .int dW.2.1, .int dW.2.2.1, .int dW.2.2.2])), (zwa, .inl (cI, 64, .inl aW))]) [0, 1, 2, 3, 5, 4] rfl
              have hD := hD.sub (ws' := [(zhg, .inr (4, [.ref zgr, .ref zru, .ref zga, .ref zfo, .ref zco])), (zgr, .inr (2, [.int gG.1, .int gG.2.1, .int (bI gG.2.2.1), .long gG.2.2.2.1, .long gG.2.2.2.2.1, .long gG.2.2.2.2.2.1, .long gG.2.2.2.2.2.2.1, .long gG.2.2.2.2.2.2.2])), (zru, .inr (3, [.ref zgr, .ref zcr, .int rR.1, .int rR.2])), (zcr, .inr (0, [.long qC.1, .long qC.2.1, .long qC.2.2.1, .long qC.2.2.2])), (zwg, .inr (1, [.ref zgr, .ref zru, .ref zwa, .long dW.1, .int dW.2.1, .int dW.2.2.1, .int dW.2.2.2])), (zwa, .inl (cI, 64, .inl aW))]) [0, 1, 2, 3, 5, 4] (by decide) rfl
              clear hPc hDc hFc hP1 hD1 hk1
              obtain rfl := Option.some.inj hf
              exact W.iret (v := (f_X2_deathsInAll dW)) hx hb hr (fun t ht hW => ⟨⟨(f_X2_deathsInAll dW), (qC), rfl, rfl, by rw [ht]; exact hP, va_K.moved hW.alike hK, hD⟩, hS.F ht⟩) hS.2.2 dX5_counted_91
            · rw [if_neg hc5] at hf
              by_cases hc6 : wh = 6
              · rw [if_pos hc6] at hf
                refine lv_tableIn (off := 91) (tgt := 92) hx hb dX5_counted_1 (by rw [hc6]; decide) (by rw [hc6]; decide) (by rw [hc6]; rfl) (by decide) ?_
                refine lv_aload_n hx hb dX5_counted_92 rfl (lv_at hl 0 rfl) ?_
                refine va_get (D := (dC, dI)) (ci := 4) (v := .ref zgr) (C := RX5) (T := TX5) (N := 5) hx hb hts hinX5 hown hK hP 0 rfl rfl 0 (by decide) hw0 (fun _ h9 => h9) rfl dX5_counted_93 ?_
                have hPc := hP.sub (ws' := [(zgr, .inr (2, [.int gG.1, .int gG.2.1, .int (bI gG.2.2.1), .long gG.2.2.2.1, .long gG.2.2.2.2.1, .long gG.2.2.2.2.2.1, .long gG.2.2.2.2.2.2.1, .long gG.2.2.2.2.2.2.2]))]) [1] rfl
                have hDc := hD.sub (ws' := [(zgr, .inr (2, [.int gG.1, .int gG.2.1, .int (bI gG.2.2.1), .long gG.2.2.2.1, .long gG.2.2.2.2.1, .long gG.2.2.2.2.2.1, .long gG.2.2.2.2.2.2.1, .long gG.2.2.2.2.2.2.2]))]) [1] (by decide) rfl
                have hFc := va_free (wc := [(zgr, .inr (2, [.int gG.1, .int gG.2.1, .int (bI gG.2.2.1), .long gG.2.2.2.1, .long gG.2.2.2.2.1, .long gG.2.2.2.2.2.1, .long gG.2.2.2.2.2.2.1, .long gG.2.2.2.2.2.2.2]))]) hD hS hA [1] rfl
                refine va_calli (va_runV (As := []) (rest := []) ⟨hx, hb, hml, hown, hts⟩ (c_X3_isRound l dC dI cI cJ zgr s.heap.size gG) (cwV 0 hts gX5_counted_X3_isRound rfl rfl rfl (by decide +kernel) ⟨Nat.le_of_ble_eq_true rfl, Nat.le_of_ble_eq_true rfl⟩) ⟨fun a U gg mk q => by obtain ⟨q0, q1, qP, qK, qD⟩ := q; exact ⟨q0, q1, qP, va_K.moved (u := U) (U := U.calling gg mk a) (Vm.Alike.refl U.vm) qK, qD⟩, va_recv hK hPc (ci := 2) (q0 := 0) rfl rfl, fun U hU hW => ⟨rfl, by rw [hU], by rw [hU]; exact hPc, va_K.moved hW.alike hK, hDc.weaken (fun _ _ _ _ => trivial)⟩⟩ rfl rfl hl.1 rfl (lv_room (Nat.le_of_ble_eq_true rfl)) dX5_counted_96 ⟨Nat.zero_le _, Nat.zero_le _⟩) hS (fun q _ h => hFc q h) hFc (fun r_ u_ t H locs ht hvm hw hB hz1 hk1 hS => ?_)
                obtain rfl := hw.symm
                obtain ⟨hP1, -, hD1⟩ := hB
                rw [ht] at hP1
                obtain ⟨hP, hD⟩ := va_join (wr := [(zhg, .inr (4, [.ref zgr, .ref zru, .ref zga, .ref zfo, .ref zco])), (zru, .inr (3, [.ref zgr, .ref zcr, .int rR.1, .int rR.2])), (zcr, .inr (0, [.long qC.1, .long qC.2.1, .long qC.2.2.1, .long qC.2.2.2])), (zwg, .inr (1, [.ref zgr, .ref zru, .ref zwa, .long dW.1, .int dW.2.1, .int dW.2.2.1, .int dW.2.2.2])), (zwa, .inl (cI, 64, .inl aW))]) (w1 := [(zgr, .inr (2, [.int gG.1, .int gG.2.1, .int (bI gG.2.2.1), .long gG.2.2.2.1, .long gG.2.2.2.2.1, .long gG.2.2.2.2.2.1, .long gG.2.2.2.2.2.2.1, .long gG.2.2.2.2.2.2.2]))]) hP hD [1] [0, 2, 3, 4, 5] rfl rfl (by decide) (by decide) hk1 hFc hP1 hD1
                have hP := hP.sub (ws' := [(zhg, .inr (4, [.ref zgr, .ref zru, .ref zga, .ref zfo, .ref zco])), (zgr, .inr (2, [.int gG.1, .int gG.2.1, .int (bI gG.2.2.1), .long gG.2.2.2.1, .long gG.2.2.2.2.1, .long gG.2.2.2.2.2.1, .long gG.2.2.2.2.2.2.1, .long gG.2.2.2.2.2.2.2])), (zru, .inr (3, [.ref zgr, .ref zcr, .int rR.1, .int rR.2])), (zcr, .inr (0, [.long qC.1, .long qC.2.1, .long qC.2.2.1, .long qC.2.2.2])), (zwg, .inr (1, [.ref zgr, .ref zru, .ref zwa, .long dW.1, .int dW.2.1, .int dW.2.2.1, .int dW.2.2.2])), (zwa, .inl (cI, 64, .inl aW))]) [0, 5, 1, 2, 3, 4] rfl
                have hD := hD.sub (ws' := [(zhg, .inr (4, [.ref zgr, .ref zru, .ref zga, .ref zfo, .ref zco])), (zgr, .inr (2, [.int gG.1, .int gG.2.1, .int (bI gG.2.2.1), .long gG.2.2.2.1, .long gG.2.2.2.2.1, .long gG.2.2.2.2.2.1, .long gG.2.2.2.2.2.2.1, .long gG.2.2.2.2.2.2.2])), (zru, .inr (3, [.ref zgr, .ref zcr, .int rR.1, .int rR.2])), (zcr, .inr (0, [.long qC.1, .long qC.2.1, .long qC.2.2.1, .long qC.2.2.2])), (zwg, .inr (1, [.ref zgr, .ref zru, .ref zwa, .long dW.1, .int dW.2.1, .int dW.2.2.1, .int dW.2.2.2])), (zwa, .inl (cI, 64, .inl aW))]) [0, 5, 1, 2, 3, 4] (by decide) rfl
                clear hPc hDc hFc hP1 hD1 hk1
                refine lv_if_eq (tgt := 106) hx hb dX5_counted_99 (by decide) (fun hc => ?_) (fun hc => ?_)
                · rw [if_pos hc] at hf
                  refine lv_iconst (v := 0) hx hb dX5_counted_106 (by decide) ?_
                  obtain rfl := Option.some.inj hf
                  exact W.iret (v := 0) hx hb hr (fun t ht hW => ⟨⟨0, (qC), rfl, rfl, by rw [ht]; exact hP, va_K.moved hW.alike hK, hD⟩, hS.F ht⟩) hS.2.2 dX5_counted_107
                · rw [if_neg hc] at hf
                  refine lv_iconst (v := 1) hx hb dX5_counted_102 (by decide) ?_
                  refine lv_goto (tgt := 107) hx hb dX5_counted_103 (by decide) ?_
                  obtain rfl := Option.some.inj hf
                  exact W.iret (v := 1) hx hb hr (fun t ht hW => ⟨⟨1, (qC), rfl, rfl, by rw [ht]; exact hP, va_K.moved hW.alike hK, hD⟩, hS.F ht⟩) hS.2.2 dX5_counted_107
              · rw [if_neg hc6] at hf
                by_cases hc7 : wh = 7
                · rw [if_pos hc7] at hf
                  refine lv_tableIn (off := 107) (tgt := 108) hx hb dX5_counted_1 (by rw [hc7]; decide) (by rw [hc7]; decide) (by rw [hc7]; rfl) (by decide) ?_
                  refine lv_aload_n hx hb dX5_counted_108 rfl (lv_at hl 1 rfl) ?_
                  obtain ⟨r1, hr1, hf⟩ := obind hf
                  have hPc := hP.sub (ws' := [(zwg, .inr (1, [.ref zgr, .ref zru, .ref zwa, .long dW.1, .int dW.2.1, .int dW.2.2.1, .int dW.2.2.2])), (zgr, .inr (2, [.int gG.1, .int gG.2.1, .int (bI gG.2.2.1), .long gG.2.2.2.1, .long gG.2.2.2.2.1, .long gG.2.2.2.2.2.1, .long gG.2.2.2.2.2.2.1, .long gG.2.2.2.2.2.2.2]))]) [4, 1] rfl
                  have hDc := hD.sub (ws' := [(zwg, .inr (1, [.ref zgr, .ref zru, .ref zwa, .long dW.1, .int dW.2.1, .int dW.2.2.1, .int dW.2.2.2])), (zgr, .inr (2, [.int gG.1, .int gG.2.1, .int (bI gG.2.2.1), .long gG.2.2.2.1, .long gG.2.2.2.2.1, .long gG.2.2.2.2.2.1, .long gG.2.2.2.2.2.2.1, .long gG.2.2.2.2.2.2.2]))]) [4, 1] (by decide) rfl
                  have hFc := va_free (wc := [(zwg, .inr (1, [.ref zgr, .ref zru, .ref zwa, .long dW.1, .int dW.2.1, .int dW.2.2.1, .int dW.2.2.2])), (zgr, .inr (2, [.int gG.1, .int gG.2.1, .int (bI gG.2.2.1), .long gG.2.2.2.1, .long gG.2.2.2.2.1, .long gG.2.2.2.2.2.1, .long gG.2.2.2.2.2.2.1, .long gG.2.2.2.2.2.2.2]))]) hD hS hA [4, 1] rfl
                  refine va_calli (va_runV (As := []) (rest := []) ⟨hx, hb, hml, hown, hts⟩ (c_X2_lawns l dC dI cI cJ zwg zgr zru zwa s.heap.size dW gG _ hr1) (cwV 0 hts gX5_counted_X2_lawns rfl rfl rfl (by decide +kernel) ⟨Nat.le_of_ble_eq_true rfl, Nat.le_of_ble_eq_true rfl⟩) ⟨fun a U gg mk q => by obtain ⟨q0, q1, qP, qK, qD⟩ := q; exact ⟨q0, q1, qP, va_K.moved (u := U) (U := U.calling gg mk a) (Vm.Alike.refl U.vm) qK, qD⟩, va_recv hK hPc (ci := 1) (q0 := 0) rfl rfl, fun U hU hW => ⟨rfl, by rw [hU], by rw [hU]; exact hPc, va_K.moved hW.alike hK, hDc.weaken (fun _ _ _ _ => trivial)⟩⟩ rfl rfl hl.1 rfl (lv_room (Nat.le_of_ble_eq_true rfl)) dX5_counted_109 ⟨Nat.zero_le _, Nat.zero_le _⟩) hS (fun q _ h => hFc q h) hFc (fun r_ u_ t H locs ht hvm hw hB hz1 hk1 hS => ?_)
                  obtain rfl := hw.symm
                  obtain ⟨hP1, -, hD1⟩ := hB
                  rw [ht] at hP1
                  obtain ⟨hP, hD⟩ := va_join (wr := [(zhg, .inr (4, [.ref zgr, .ref zru, .ref zga, .ref zfo, .ref zco])), (zru, .inr (3, [.ref zgr, .ref zcr, .int rR.1, .int rR.2])), (zcr, .inr (0, [.long qC.1, .long qC.2.1, .long qC.2.2.1, .long qC.2.2.2])), (zwa, .inl (cI, 64, .inl aW))]) (w1 := [(zwg, .inr (1, [.ref zgr, .ref zru, .ref zwa, .long dW.1, .int dW.2.1, .int dW.2.2.1, .int dW.2.2.2])), (zgr, .inr (2, [.int gG.1, .int gG.2.1, .int (bI gG.2.2.1), .long gG.2.2.2.1, .long gG.2.2.2.2.1, .long gG.2.2.2.2.2.1, .long gG.2.2.2.2.2.2.1, .long gG.2.2.2.2.2.2.2]))]) hP hD [4, 1] [0, 2, 3, 5] rfl rfl (by decide) (by decide) hk1 hFc hP1 hD1
                  have hP := hP.sub (ws' := [(zhg, .inr (4, [.ref zgr, .ref zru, .ref zga, .ref zfo, .ref zco])), (zgr, .inr (2, [.int gG.1, .int gG.2.1, .int (bI gG.2.2.1), .long gG.2.2.2.1, .long gG.2.2.2.2.1, .long gG.2.2.2.2.2.1, .long gG.2.2.2.2.2.2.1, .long gG.2.2.2.2.2.2.2])), (zru, .inr (3, [.ref zgr, .ref zcr, .int rR.1, .int rR.2])), (zcr, .inr (0, [.long qC.1, .long qC.2.1, .long qC.2.2.1, .long qC.2.2.2])), (zwg, .inr (1, [.ref zgr, .ref zru, .ref zwa, .long dW.1, .int dW.2.1, .int dW.2.2.1, .int dW.2.2.2])), (zwa, .inl (cI, 64, .inl aW))]) [0, 5, 1, 2, 4, 3] rfl
                  have hD := hD.sub (ws' := [(zhg, .inr (4, [.ref zgr, .ref zru, .ref zga, .ref zfo, .ref zco])), (zgr, .inr (2, [.int gG.1, .int gG.2.1, .int (bI gG.2.2.1), .long gG.2.2.2.1, .long gG.2.2.2.2.1, .long gG.2.2.2.2.2.1, .long gG.2.2.2.2.2.2.1, .long gG.2.2.2.2.2.2.2])), (zru, .inr (3, [.ref zgr, .ref zcr, .int rR.1, .int rR.2])), (zcr, .inr (0, [.long qC.1, .long qC.2.1, .long qC.2.2.1, .long qC.2.2.2])), (zwg, .inr (1, [.ref zgr, .ref zru, .ref zwa, .long dW.1, .int dW.2.1, .int dW.2.2.1, .int dW.2.2.2])), (zwa, .inl (cI, 64, .inl aW))]) [0, 5, 1, 2, 4, 3] (by decide) rfl
                  clear hPc hDc hFc hP1 hD1 hk1
                  obtain rfl := Option.some.inj hf
                  exact W.iret (v := r1) hx hb hr (fun t ht hW => ⟨⟨r1, (qC), rfl, rfl, by rw [ht]; exact hP, va_K.moved hW.alike hK, hD⟩, hS.F ht⟩) hS.2.2 dX5_counted_112
                · rw [if_neg hc7] at hf
                  by_cases hc8 : wh = 8
                  · rw [if_pos hc8] at hf
                    refine lv_tableIn (off := 112) (tgt := 113) hx hb dX5_counted_1 (by rw [hc8]; decide) (by rw [hc8]; decide) (by rw [hc8]; rfl) (by decide) ?_
                    refine lv_aload_n hx hb dX5_counted_113 rfl (lv_at hl 1 rfl) ?_
                    obtain ⟨r2, hr2, hf⟩ := obind hf
                    have hPc := hP.sub (ws' := [(zwg, .inr (1, [.ref zgr, .ref zru, .ref zwa, .long dW.1, .int dW.2.1, .int dW.2.2.1, .int dW.2.2.2])), (zgr, .inr (2, [.int gG.1, .int gG.2.1, .int (bI gG.2.2.1), .long gG.2.2.2.1, .long gG.2.2.2.2.1, .long gG.2.2.2.2.2.1, .long gG.2.2.2.2.2.2.1, .long gG.2.2.2.2.2.2.2]))]) [4, 1] rfl
                    have hDc := hD.sub (ws' := [(zwg, .inr (1, [.ref zgr, .ref zru, .ref zwa, .long dW.1, .int dW.2.1, .int dW.2.2.1, .int dW.2.2.2])), (zgr, .inr (2, [.int gG.1, .int gG.2.1, .int (bI gG.2.2.1), .long gG.2.2.2.1, .long gG.2.2.2.2.1, .long gG.2.2.2.2.2.1, .long gG.2.2.2.2.2.2.1, .long gG.2.2.2.2.2.2.2]))]) [4, 1] (by decide) rfl
                    have hFc := va_free (wc := [(zwg, .inr (1, [.ref zgr, .ref zru, .ref zwa, .long dW.1, .int dW.2.1, .int dW.2.2.1, .int dW.2.2.2])), (zgr, .inr (2, [.int gG.1, .int gG.2.1, .int (bI gG.2.2.1), .long gG.2.2.2.1, .long gG.2.2.2.2.1, .long gG.2.2.2.2.2.1, .long gG.2.2.2.2.2.2.1, .long gG.2.2.2.2.2.2.2]))]) hD hS hA [4, 1] rfl
                    refine va_calli (va_runV (As := []) (rest := []) ⟨hx, hb, hml, hown, hts⟩ (c_X2_greatestLawn l dC dI cI cJ zwg zgr zru zwa s.heap.size dW gG _ hr2) (cwV 0 hts gX5_counted_X2_greatestLawn rfl rfl rfl (by decide +kernel) ⟨Nat.le_of_ble_eq_true rfl, Nat.le_of_ble_eq_true rfl⟩) ⟨fun a U gg mk q => by obtain ⟨q0, q1, qP, qK, qD⟩ := q; exact ⟨q0, q1, qP, va_K.moved (u := U) (U := U.calling gg mk a) (Vm.Alike.refl U.vm) qK, qD⟩, va_recv hK hPc (ci := 1) (q0 := 0) rfl rfl, fun U hU hW => ⟨rfl, by rw [hU], by rw [hU]; exact hPc, va_K.moved hW.alike hK, hDc.weaken (fun _ _ _ _ => trivial)⟩⟩ rfl rfl hl.1 rfl (lv_room (Nat.le_of_ble_eq_true rfl)) dX5_counted_114 ⟨Nat.zero_le _, Nat.zero_le _⟩) hS (fun q _ h => hFc q h) hFc (fun r_ u_ t H locs ht hvm hw hB hz1 hk1 hS => ?_)
                    obtain rfl := hw.symm
                    obtain ⟨hP1, -, hD1⟩ := hB
                    rw [ht] at hP1
                    obtain ⟨hP, hD⟩ := va_join (wr := [(zhg, .inr (4, [.ref zgr, .ref zru, .ref zga, .ref zfo, .ref zco])), (zru, .inr (3, [.ref zgr, .ref zcr, .int rR.1, .int rR.2])), (zcr, .inr (0, [.long qC.1, .long qC.2.1, .long qC.2.2.1, .long qC.2.2.2])), (zwa, .inl (cI, 64, .inl aW))]) (w1 := [(zwg, .inr (1, [.ref zgr, .ref zru, .ref zwa, .long dW.1, .int dW.2.1, .int dW.2.2.1, .int dW.2.2.2])), (zgr, .inr (2, [.int gG.1, .int gG.2.1, .int (bI gG.2.2.1), .long gG.2.2.2.1, .long gG.2.2.2.2.1, .long gG.2.2.2.2.2.1, .long gG.2.2.2.2.2.2.1, .long gG.2.2.2.2.2.2.2]))]) hP hD [4, 1] [0, 2, 3, 5] rfl rfl (by decide) (by decide) hk1 hFc hP1 hD1
                    have hP := hP.sub (ws' := [(zhg, .inr (4, [.ref zgr, .ref zru, .ref zga, .ref zfo, .ref zco])), (zgr, .inr (2, [.int gG.1, .int gG.2.1, .int (bI gG.2.2.1), .long gG.2.2.2.1, .long gG.2.2.2.2.1, .long gG.2.2.2.2.2.1, .long gG.2.2.2.2.2.2.1, .long gG.2.2.2.2.2.2.2])), (zru, .inr (3, [.ref zgr, .ref zcr, .int rR.1, .int rR.2])), (zcr, .inr (0, [.long qC.1, .long qC.2.1, .long qC.2.2.1, .long qC.2.2.2])), (zwg, .inr (1, [.ref zgr, .ref zru, .ref zwa, .long dW.1, .int dW.2.1, .int dW.2.2.1, .int dW.2.2.2])), (zwa, .inl (cI, 64, .inl aW))]) [0, 5, 1, 2, 4, 3] rfl
                    have hD := hD.sub (ws' := [(zhg, .inr (4, [.ref zgr, .ref zru, .ref zga, .ref zfo, .ref zco])), (zgr, .inr (2, [.int gG.1, .int gG.2.1, .int (bI gG.2.2.1), .long gG.2.2.2.1, .long gG.2.2.2.2.1, .long gG.2.2.2.2.2.1, .long gG.2.2.2.2.2.2.1, .long gG.2.2.2.2.2.2.2])), (zru, .inr (3, [.ref zgr, .ref zcr, .int rR.1, .int rR.2])), (zcr, .inr (0, [.long qC.1, .long qC.2.1, .long qC.2.2.1, .long qC.2.2.2])), (zwg, .inr (1, [.ref zgr, .ref zru, .ref zwa, .long dW.1, .int dW.2.1, .int dW.2.2.1, .int dW.2.2.2])), (zwa, .inl (cI, 64, .inl aW))]) [0, 5, 1, 2, 4, 3] (by decide) rfl
                    clear hPc hDc hFc hP1 hD1 hk1
                    obtain rfl := Option.some.inj hf
                    exact W.iret (v := r2) hx hb hr (fun t ht hW => ⟨⟨r2, (qC), rfl, rfl, by rw [ht]; exact hP, va_K.moved hW.alike hK, hD⟩, hS.F ht⟩) hS.2.2 dX5_counted_117
                  · rw [if_neg hc8] at hf
                    by_cases hc9 : wh = 9
                    · rw [if_pos hc9] at hf
                      refine lv_tableIn (off := 117) (tgt := 118) hx hb dX5_counted_1 (by rw [hc9]; decide) (by rw [hc9]; decide) (by rw [hc9]; rfl) (by decide) ?_
                      refine lv_aload_n hx hb dX5_counted_118 rfl (lv_at hl 1 rfl) ?_
                      obtain ⟨r3, hr3, hf⟩ := obind hf
                      have hPc := hP.sub (ws' := [(zwg, .inr (1, [.ref zgr, .ref zru, .ref zwa, .long dW.1, .int dW.2.1, .int dW.2.2.1, .int dW.2.2.2])), (zgr, .inr (2, [.int gG.1, .int gG.2.1, .int (bI gG.2.2.1), .long gG.2.2.2.1, .long gG.2.2.2.2.1, .long gG.2.2.2.2.2.1, .long gG.2.2.2.2.2.2.1, .long gG.2.2.2.2.2.2.2])), (zru, .inr (3, [.ref zgr, .ref zcr, .int rR.1, .int rR.2])), (zcr, .inr (0, [.long qC.1, .long qC.2.1, .long qC.2.2.1, .long qC.2.2.2]))]) [4, 1, 2, 3] rfl
                      have hDc := hD.sub (ws' := [(zwg, .inr (1, [.ref zgr, .ref zru, .ref zwa, .long dW.1, .int dW.2.1, .int dW.2.2.1, .int dW.2.2.2])), (zgr, .inr (2, [.int gG.1, .int gG.2.1, .int (bI gG.2.2.1), .long gG.2.2.2.1, .long gG.2.2.2.2.1, .long gG.2.2.2.2.2.1, .long gG.2.2.2.2.2.2.1, .long gG.2.2.2.2.2.2.2])), (zru, .inr (3, [.ref zgr, .ref zcr, .int rR.1, .int rR.2])), (zcr, .inr (0, [.long qC.1, .long qC.2.1, .long qC.2.2.1, .long qC.2.2.2]))]) [4, 1, 2, 3] (by decide) rfl
                      have hFc := va_free (wc := [(zwg, .inr (1, [.ref zgr, .ref zru, .ref zwa, .long dW.1, .int dW.2.1, .int dW.2.2.1, .int dW.2.2.2])), (zgr, .inr (2, [.int gG.1, .int gG.2.1, .int (bI gG.2.2.1), .long gG.2.2.2.1, .long gG.2.2.2.2.1, .long gG.2.2.2.2.2.1, .long gG.2.2.2.2.2.2.1, .long gG.2.2.2.2.2.2.2])), (zru, .inr (3, [.ref zgr, .ref zcr, .int rR.1, .int rR.2])), (zcr, .inr (0, [.long qC.1, .long qC.2.1, .long qC.2.2.1, .long qC.2.2.2]))]) hD hS hA [4, 1, 2, 3] rfl
                      refine va_calli (va_runV (As := []) (rest := []) ⟨hx, hb, hml, hown, hts⟩ (c_X2_stillLawns l dC dI cI cJ zwg zgr zru zcr zwa s.heap.size dW gG rR qC _ hr3) (cwV 0 hts gX5_counted_X2_stillLawns rfl rfl rfl (by decide +kernel) ⟨Nat.le_of_ble_eq_true rfl, Nat.le_of_ble_eq_true rfl⟩) ⟨fun a U gg mk q => by obtain ⟨q0, q1, qP, qK, qD⟩ := q; exact ⟨q0, q1, qP, va_K.moved (u := U) (U := U.calling gg mk a) (Vm.Alike.refl U.vm) qK, qD⟩, va_recv hK hPc (ci := 1) (q0 := 0) rfl rfl, fun U hU hW => ⟨rfl, by rw [hU], by rw [hU]; exact hPc, va_K.moved hW.alike hK, hDc.weaken (fun _ _ _ _ => trivial)⟩⟩ rfl rfl hl.1 rfl (lv_room (Nat.le_of_ble_eq_true rfl)) dX5_counted_119 ⟨Nat.zero_le _, Nat.zero_le _⟩) hS (fun q _ h => hFc q h) hFc (fun r_ u_ t H locs ht hvm hw hB hz1 hk1 hS => ?_)
                      obtain ⟨u4, rfl⟩ : ∃ z, z = u_ := ⟨_, rfl⟩
                      obtain rfl := hw.symm
                      obtain ⟨hP1, -, hD1⟩ := hB
                      rw [ht] at hP1
                      obtain ⟨hP, hD⟩ := va_join (wr := [(zhg, .inr (4, [.ref zgr, .ref zru, .ref zga, .ref zfo, .ref zco])), (zwa, .inl (cI, 64, .inl aW))]) (w1 := [(zwg, .inr (1, [.ref zgr, .ref zru, .ref zwa, .long dW.1, .int dW.2.1, .int dW.2.2.1, .int dW.2.2.2])), (zgr, .inr (2, [.int gG.1, .int gG.2.1, .int (bI gG.2.2.1), .long gG.2.2.2.1, .long gG.2.2.2.2.1, .long gG.2.2.2.2.2.1, .long gG.2.2.2.2.2.2.1, .long gG.2.2.2.2.2.2.2])), (zru, .inr (3, [.ref zgr, .ref zcr, .int rR.1, .int rR.2])), (zcr, .inr (0, [.long u4.1, .long u4.2.1, .long u4.2.2.1, .long u4.2.2.2]))]) hP hD [4, 1, 2, 3] [0, 5] rfl rfl (by decide) (by decide) hk1 hFc hP1 hD1
                      have hP := hP.sub (ws' := [(zhg, .inr (4, [.ref zgr, .ref zru, .ref zga, .ref zfo, .ref zco])), (zgr, .inr (2, [.int gG.1, .int gG.2.1, .int (bI gG.2.2.1), .long gG.2.2.2.1, .long gG.2.2.2.2.1, .long gG.2.2.2.2.2.1, .long gG.2.2.2.2.2.2.1, .long gG.2.2.2.2.2.2.2])), (zru, .inr (3, [.ref zgr, .ref zcr, .int rR.1, .int rR.2])), (zcr, .inr (0, [.long u4.1, .long u4.2.1, .long u4.2.2.1, .long u4.2.2.2])), (zwg, .inr (1, [.ref zgr, .ref zru, .ref zwa, .long dW.1, .int dW.2.1, .int dW.2.2.1, .int dW.2.2.2])), (zwa, .inl (cI, 64, .inl aW))]) [0, 3, 4, 5, 2, 1] rfl
                      have hD := hD.sub (ws' := [(zhg, .inr (4, [.ref zgr, .ref zru, .ref zga, .ref zfo, .ref zco])), (zgr, .inr (2, [.int gG.1, .int gG.2.1, .int (bI gG.2.2.1), .long gG.2.2.2.1, .long gG.2.2.2.2.1, .long gG.2.2.2.2.2.1, .long gG.2.2.2.2.2.2.1, .long gG.2.2.2.2.2.2.2])), (zru, .inr (3, [.ref zgr, .ref zcr, .int rR.1, .int rR.2])), (zcr, .inr (0, [.long u4.1, .long u4.2.1, .long u4.2.2.1, .long u4.2.2.2])), (zwg, .inr (1, [.ref zgr, .ref zru, .ref zwa, .long dW.1, .int dW.2.1, .int dW.2.2.1, .int dW.2.2.2])), (zwa, .inl (cI, 64, .inl aW))]) [0, 3, 4, 5, 2, 1] (by decide) rfl
                      clear hPc hDc hFc hP1 hD1 hk1
                      obtain rfl := Option.some.inj hf
                      exact W.iret (v := r3) hx hb hr (fun t ht hW => ⟨⟨r3, (u4), rfl, rfl, by rw [ht]; exact hP, va_K.moved hW.alike hK, hD⟩, hS.F ht⟩) hS.2.2 dX5_counted_122
                    · rw [if_neg hc9] at hf
                      have ht0 : (wh).toInt ≠ 0 := fun h9 => hc0 (Int32.toInt_inj.mp (h9.trans (by decide)))
                      have ht1 : (wh).toInt ≠ 1 := fun h9 => hc1 (Int32.toInt_inj.mp (h9.trans (by decide)))
                      have ht2 : (wh).toInt ≠ 2 := fun h9 => hc2 (Int32.toInt_inj.mp (h9.trans (by decide)))
                      have ht3 : (wh).toInt ≠ 3 := fun h9 => hc3 (Int32.toInt_inj.mp (h9.trans (by decide)))
                      have ht4 : (wh).toInt ≠ 4 := fun h9 => hc4 (Int32.toInt_inj.mp (h9.trans (by decide)))
                      have ht5 : (wh).toInt ≠ 5 := fun h9 => hc5 (Int32.toInt_inj.mp (h9.trans (by decide)))
                      have ht6 : (wh).toInt ≠ 6 := fun h9 => hc6 (Int32.toInt_inj.mp (h9.trans (by decide)))
                      have ht7 : (wh).toInt ≠ 7 := fun h9 => hc7 (Int32.toInt_inj.mp (h9.trans (by decide)))
                      have ht8 : (wh).toInt ≠ 8 := fun h9 => hc8 (Int32.toInt_inj.mp (h9.trans (by decide)))
                      have ht9 : (wh).toInt ≠ 9 := fun h9 => hc9 (Int32.toInt_inj.mp (h9.trans (by decide)))
                      refine lv_tableOut (tgt := 123) hx hb dX5_counted_1 (by omega) (by decide) ?_
                      refine lv_aload_n hx hb dX5_counted_123 rfl (lv_at hl 1 rfl) ?_
                      obtain ⟨r5, hr5, hf⟩ := obind hf
                      have hPc := hP.sub (ws' := [(zwg, .inr (1, [.ref zgr, .ref zru, .ref zwa, .long dW.1, .int dW.2.1, .int dW.2.2.1, .int dW.2.2.2])), (zwa, .inl (cI, 64, .inl aW))]) [4, 5] rfl
                      have hDc := hD.sub (ws' := [(zwg, .inr (1, [.ref zgr, .ref zru, .ref zwa, .long dW.1, .int dW.2.1, .int dW.2.2.1, .int dW.2.2.2])), (zwa, .inl (cI, 64, .inl aW))]) [4, 5] (by decide) rfl
                      have hFc := va_free (wc := [(zwg, .inr (1, [.ref zgr, .ref zru, .ref zwa, .long dW.1, .int dW.2.1, .int dW.2.2.1, .int dW.2.2.2])), (zwa, .inl (cI, 64, .inl aW))]) hD hS hA [4, 5] rfl
                      refine va_calli (va_runV (As := []) (rest := []) ⟨hx, hb, hml, hown, hts⟩ (c_X2_oldest l dC dI cI cJ zwg zwa zgr zru s.heap.size dW aW _ hr5) (cwV 0 hts gX5_counted_X2_oldest rfl rfl rfl (by decide +kernel) ⟨Nat.le_of_ble_eq_true rfl, Nat.le_of_ble_eq_true rfl⟩) ⟨fun a U gg mk q => by obtain ⟨q0, q1, qP, qK, qD⟩ := q; exact ⟨q0, q1, qP, va_K.moved (u := U) (U := U.calling gg mk a) (Vm.Alike.refl U.vm) qK, qD⟩, va_recv hK hPc (ci := 1) (q0 := 0) rfl rfl, fun U hU hW => ⟨rfl, by rw [hU], by rw [hU]; exact hPc, va_K.moved hW.alike hK, hDc.weaken (fun _ _ _ _ => trivial)⟩⟩ rfl rfl hl.1 rfl (lv_room (Nat.le_of_ble_eq_true rfl)) dX5_counted_124 ⟨Nat.zero_le _, Nat.zero_le _⟩) hS (fun q _ h => hFc q h) hFc (fun r_ u_ t H locs ht hvm hw hB hz1 hk1 hS => ?_)
                      obtain rfl := hw.symm
                      obtain ⟨hP1, -, hD1⟩ := hB
                      rw [ht] at hP1
                      obtain ⟨hP, hD⟩ := va_join (wr := [(zhg, .inr (4, [.ref zgr, .ref zru, .ref zga, .ref zfo, .ref zco])), (zgr, .inr (2, [.int gG.1, .int gG.2.1, .int (bI gG.2.2.1), .long gG.2.2.2.1, .long gG.2.2.2.2.1, .long gG.2.2.2.2.2.1, .long gG.2.2.2.2.2.2.1, .long gG.2.2.2.2.2.2.2])), (zru, .inr (3, [.ref zgr, .ref zcr, .int rR.1, .int rR.2])), (zcr, .inr (0, [.long qC.1, .long qC.2.1, .long qC.2.2.1, .long qC.2.2.2]))]) (w1 := [(zwg, .inr (1, [.ref zgr, .ref zru, .ref zwa, .long dW.1, .int dW.2.1, .int dW.2.2.1, .int dW.2.2.2])), (zwa, .inl (cI, 64, .inl aW))]) hP hD [4, 5] [0, 1, 2, 3] rfl rfl (by decide) (by decide) hk1 hFc hP1 hD1
                      have hP := hP.sub (ws' := [(zhg, .inr (4, [.ref zgr, .ref zru, .ref zga, .ref zfo, .ref zco])), (zgr, .inr (2, [.int gG.1, .int gG.2.1, .int (bI gG.2.2.1), .long gG.2.2.2.1, .long gG.2.2.2.2.1, .long gG.2.2.2.2.2.1, .long gG.2.2.2.2.2.2.1, .long gG.2.2.2.2.2.2.2])), (zru, .inr (3, [.ref zgr, .ref zcr, .int rR.1, .int rR.2])), (zcr, .inr (0, [.long qC.1, .long qC.2.1, .long qC.2.2.1, .long qC.2.2.2])), (zwg, .inr (1, [.ref zgr, .ref zru, .ref zwa, .long dW.1, .int dW.2.1, .int dW.2.2.1, .int dW.2.2.2])), (zwa, .inl (cI, 64, .inl aW))]) [0, 1, 2, 3, 4, 5] rfl
                      have hD := hD.sub (ws' := [(zhg, .inr (4, [.ref zgr, .ref zru, .ref zga, .ref zfo, .ref zco])), (zgr, .inr (2, [.int gG.1, .int gG.2.1, .int (bI gG.2.2.1), .long gG.2.2.2.1, .long gG.2.2.2.2.1, .long gG.2.2.2.2.2.1, .long gG.2.2.2.2.2.2.1, .long gG.2.2.2.2.2.2.2])), (zru, .inr (3, [.ref zgr, .ref zcr, .int rR.1, .int rR.2])), (zcr, .inr (0, [.long qC.1, .long qC.2.1, .long qC.2.2.1, .long qC.2.2.2])), (zwg, .inr (1, [.ref zgr, .ref zru, .ref zwa, .long dW.1, .int dW.2.1, .int dW.2.2.1, .int dW.2.2.2])), (zwa, .inl (cI, 64, .inl aW))]) [0, 1, 2, 3, 4, 5] (by decide) rfl
                      clear hPc hDc hFc hP1 hD1 hk1
                      obtain rfl := Option.some.inj hf
                      exact W.iret (v := r5) hx hb hr (fun t ht hW => ⟨⟨r5, (qC), rfl, rfl, by rw [ht]; exact hP, va_K.moved hW.alike hK, hD⟩, hS.F ht⟩) hS.2.2 dX5_counted_127
/-! HedgeGliders.foreseeComing()V -/
def lp_X5_foreseeComing_10 (gG : GrS) (rR : RuS) : Nat → Int64 → Int32 → (Nat → Int64) → Option ((Nat → Int64))
  | 0, _, _, _ => none
  | nf + 1, y9, y10, y11 => if 61 ≤ y10 then (some y11) else (if y10 < 0 ∨ 61 ≤ y10.toNatClampNeg then none else Option.bind (f_X4_behindYears rR gG y9 1) fun r13 => lp_X5_foreseeComing_10 gG rR nf r13 (y10 + 1) (vp_updL y11 y10.toNatClampNeg y9))
def f_X5_foreseeComing (gG : GrS) (rR : RuS) (dG : GaS) (kC : Nat → Int64) : Option ((Nat → Int64)) := Option.bind (lp_X5_foreseeComing_10 gG rR 100 (f_X2_hedges dG) 0 kC) fun v15 => some v15
abbrev rm_X5_foreseeComing : Room := ({ frames := 5, cells := 0, slots := 0, locals := 114 } : Room)
abbrev A_X5_foreseeComing (cI cJ : ClassId) (zhg zgr zru zcr zga zco zfo zag : Nat) (gG : GrS) (rR : RuS) (dG : GaS) (kC : Nat → Int64) (qC : CrS) (sz : Nat) : Nat → Prop := va_A [(zhg, .inr (4, [.ref zgr, .ref zru, .ref zga, .ref zfo, .ref zco])), (zgr, .inr (2, [.int gG.1, .int gG.2.1, .int (bI gG.2.2.1), .long gG.2.2.2.1, .long gG.2.2.2.2.1, .long gG.2.2.2.2.2.1, .long gG.2.2.2.2.2.2.1, .long gG.2.2.2.2.2.2.2])), (zru, .inr (3, [.ref zgr, .ref zcr, .int rR.1, .int rR.2])), (zcr, .inr (0, [.long qC.1, .long qC.2.1, .long qC.2.2.1, .long qC.2.2.2])), (zga, .inr (1, [.ref zgr, .ref zru, .ref zag, .long dG.1, .int dG.2.1, .int dG.2.2.1, .int dG.2.2.2])), (zco, .inl (cJ, 61, .inr (.inl kC)))] sz
abbrev Q_X5_foreseeComing (dC : Nat → ClassId) (dI : Nat → Nat → Nat) (cI cJ : ClassId) (zhg zgr zru zcr zga zco zfo zag : Nat) (gG : GrS) (rR : RuS) (dG : GaS) (kC : Nat → Int64) (qC : CrS) (sz : Nat) (R : (Nat → Int64)) : Array Value → State → Outcome → State → Prop := va_Qv (fun _ : CrS => True) (fun u_ t => va_P (dC, dI) vwCl [(zhg, .inr (4, [.ref zgr, .ref zru, .ref zga, .ref zfo, .ref zco])), (zgr, .inr (2, [.int gG.1, .int gG.2.1, .int (bI gG.2.2.1), .long gG.2.2.2.1, .long gG.2.2.2.2.1, .long gG.2.2.2.2.2.1, .long gG.2.2.2.2.2.2.1, .long gG.2.2.2.2.2.2.2])), (zru, .inr (3, [.ref zgr, .ref zcr, .int rR.1, .int rR.2])), (zcr, .inr (0, [.long u_.1, .long u_.2.1, .long u_.2.2.1, .long u_.2.2.2])), (zga, .inr (1, [.ref zgr, .ref zru, .ref zag, .long dG.1, .int dG.2.1, .int dG.2.2.1, .int dG.2.2.2])), (zco, .inl (cJ, 61, .inr (.inl R)))] t.heap ∧ va_K (dC, dI) vwCl [(cI, .int), (cJ, .long)] t ∧ va_D (A_X5_foreseeComing cI cJ zhg zgr zru zcr zga zco zfo zag gG rR dG kC qC sz) [(zhg, .inr (4, [.ref zgr, .ref zru, .ref zga, .ref zfo, .ref zco])), (zgr, .inr (2, [.int gG.1, .int gG.2.1, .int (bI gG.2.2.1), .long gG.2.2.2.1, .long gG.2.2.2.2.1, .long gG.2.2.2.2.2.1, .long gG.2.2.2.2.2.2.1, .long gG.2.2.2.2.2.2.2])), (zru, .inr (3, [.ref zgr, .ref zcr, .int rR.1, .int rR.2])), (zcr, .inr (0, [.long u_.1, .long u_.2.1, .long u_.2.2.1, .long u_.2.2.2])), (zga, .inr (1, [.ref zgr, .ref zru, .ref zag, .long dG.1, .int dG.2.1, .int dG.2.2.1, .int dG.2.2.2])), (zco, .inl (cJ, 61, .inr (.inl R)))]) (A_X5_foreseeComing cI cJ zhg zgr zru zcr zga zco zfo zag gG rR dG kC qC sz)
set_option maxHeartbeats 4000000 in
set_option maxRecDepth 100000 in
theorem c_X5_foreseeComing (l : Launch) (dC : Nat → ClassId) (dI : Nat → Nat → Nat) (cI cJ : ClassId) (zhg zgr zru zcr zga zco zfo zag : Nat) (sz : Nat) (gG : GrS) (rR : RuS) (dG : GaS) (kC : Nat → Int64) (qC : CrS) (R : (Nat → Int64)) (hR : f_X5_foreseeComing gG rR dG kC = some R) : Met l yX5_foreseeComing wsX5_foreseeComing rm_X5_foreseeComing (va_Pc [.ref zhg] (fun U => U.heap.size = sz ∧ va_P (dC, dI) vwCl [(zhg, .inr (4, [.ref zgr, .ref zru, .ref zga, .ref zfo, .ref zco])), (zgr, .inr (2, [.int gG.1, .int gG.2.1, .int (bI gG.2.2.1), .long gG.2.2.2.1, .long gG.2.2.2.2.1, .long gG.2.2.2.2.2.1, .long gG.2.2.2.2.2.2.1, .long gG.2.2.2.2.2.2.2])), (zru, .inr (3, [.ref zgr, .ref zcr, .int rR.1, .int rR.2])), (zcr, .inr (0, [.long qC.1, .long qC.2.1, .long qC.2.2.1, .long qC.2.2.2])), (zga, .inr (1, [.ref zgr, .ref zru, .ref zag, .long dG.1, .int dG.2.1, .int dG.2.2.1, .int dG.2.2.2])), (zco, .inl (cJ, 61, .inr (.inl kC)))] U.heap ∧ va_K (dC, dI) vwCl [(cI, .int), (cJ, .long)] U ∧ va_D (fun _ => True) [(zhg, .inr (4, [.ref zgr, .ref zru, .ref zga, .ref zfo, .ref zco])), (zgr, .inr (2, [.int gG.1, .int gG.2.1, .int (bI gG.2.2.1), .long gG.2.2.2.1, .long gG.2.2.2.2.1, .long gG.2.2.2.2.2.1, .long gG.2.2.2.2.2.2.1, .long gG.2.2.2.2.2.2.2])), (zru, .inr (3, [.ref zgr, .ref zcr, .int rR.1, .int rR.2])), (zcr, .inr (0, [.long qC.1, .long qC.2.1, .long qC.2.2.1, .long qC.2.2.2])), (zga, .inr (1, [.ref zgr, .ref zru, .ref zag, .long dG.1, .int dG.2.1, .int dG.2.2.1, .int dG.2.2.2])), (zco, .inl (cJ, 61, .inr (.inl kC)))])) (Q_X5_foreseeComing dC dI cI cJ zhg zgr zru zcr zga zco zfo zag gG rR dG kC qC sz R) 0 0 (A_X5_foreseeComing cI cJ zhg zgr zru zcr zga zco zfo zag gG rR dG kC qC sz) := by
  have hf := hR
  refine Met.ofW (cc := cX5_foreseeComing) (maxL := 4) (ret := none) (by decide) rfl ?_
  intro p e s m args below meth c s₁ B hml hv
  obtain ⟨hargs, hsz, hP, hK, hD0⟩ := hv
  have hx := B.exec
  have hb := B.bytes
  have hr := B.returns
  have hts := atoms_spec (ws := wsX5_foreseeComing) B.pre
  have hown : s.vm.findClass RX5 = some m.cls := findClass_of_methodNamed B.named
  have hlocks := B.notSynchronized
  subst hsz
  have hD : va_D (A_X5_foreseeComing cI cJ zhg zgr zru zcr zga zco zfo zag gG rR dG kC qC s.heap.size) [(zhg, .inr (4, [.ref zgr, .ref zru, .ref zga, .ref zfo, .ref zco])), (zgr, .inr (2, [.int gG.1, .int gG.2.1, .int (bI gG.2.2.1), .long gG.2.2.2.1, .long gG.2.2.2.2.1, .long gG.2.2.2.2.2.1, .long gG.2.2.2.2.2.2.1, .long gG.2.2.2.2.2.2.2])), (zru, .inr (3, [.ref zgr, .ref zcr, .int rR.1, .int rR.2])), (zcr, .inr (0, [.long qC.1, .long qC.2.1, .long qC.2.2.1, .long qC.2.2.2])), (zga, .inr (1, [.ref zgr, .ref zru, .ref zag, .long dG.1, .int dG.2.1, .int dG.2.2.1, .int dG.2.2.2])), (zco, .inl (cJ, 61, .inr (.inl kC)))] := hD0.self (sz := s.heap.size)
  have hA : ∀ q : Nat, s.heap.size ≤ q → (A_X5_foreseeComing cI cJ zhg zgr zru zcr zga zco zfo zag gG rR dG kC qC s.heap.size) q := fun q h => Or.inr h
  have hS : va_S (A_X5_foreseeComing cI cJ zhg zgr zru zcr zga zco zfo zag gG rR dG kC qC s.heap.size) s.heap s.heap [] := va_S.rf
  have hinX5 : ∀ w ∈ wsX50, w ∈ wsX5_foreseeComing := by decide +kernel
  have hw0 := hts (.fieldLink RX5 30 "HedgeGliders" "garden" "LHedgeGliders$Garden;") (by decide +kernel)
  have hw1 := hts (.fieldLink RX5 37 "HedgeGliders" "coming" "[J") (by decide +kernel)
  have hw2 := hts (.fieldLink RX5 21 "HedgeGliders" "rules" "LHedgeGliders$Rules;") (by decide +kernel)
  have hl := lv_entry ([.ref zhg]) (n := 4) (Nat.le_of_ble_eq_true rfl)
  have he0 : entryFrame m args 4 = entryFrame m ([.ref zhg] : List Value).toArray 4 := by rw [hargs]
  rw [he0, lg_entry_eq]
  generalize (lg_sl ([.ref zhg]) ++ List.replicate (4 - (lg_sl ([.ref zhg])).length) Slot.unset).toArray = ls at hl ⊢
  have hl : lv_has ls 4 [(0, .ref zhg)] := hl
  rw [f_X5_foreseeComing] at hf
  refine lv_aload_n hx hb dX5_foreseeComing_0 rfl (lv_at hl 0 rfl) ?_
  refine va_get (D := (dC, dI)) (ci := 4) (v := .ref zga) (C := RX5) (T := TX5) (N := 5) hx hb hts hinX5 hown hK hP 0 rfl rfl 2 (by decide) hw0 (fun _ h9 => h9) rfl dX5_foreseeComing_1 ?_
  have hPc := hP.sub (ws' := [(zga, .inr (1, [.ref zgr, .ref zru, .ref zag, .long dG.1, .int dG.2.1, .int dG.2.2.1, .int dG.2.2.2]))]) [4] rfl
  have hDc := hD.sub (ws' := [(zga, .inr (1, [.ref zgr, .ref zru, .ref zag, .long dG.1, .int dG.2.1, .int dG.2.2.1, .int dG.2.2.2]))]) [4] (by decide) rfl
  have hFc := va_free (wc := [(zga, .inr (1, [.ref zgr, .ref zru, .ref zag, .long dG.1, .int dG.2.1, .int dG.2.2.1, .int dG.2.2.2]))]) hD hS hA [4] rfl
  refine va_calll (va_runV (As := []) (rest := []) ⟨hx, hb, hml, hown, hts⟩ (c_X2_hedges l dC dI cI cJ zga zgr zru zag s.heap.size dG) (cwV 0 hts gX5_foreseeComing_X2_hedges rfl rfl rfl (by decide +kernel) ⟨Nat.le_of_ble_eq_true rfl, Nat.le_of_ble_eq_true rfl⟩) ⟨fun a U gg mk q => by obtain ⟨q0, q1, qP, qK, qD⟩ := q; exact ⟨q0, q1, qP, va_K.moved (u := U) (U := U.calling gg mk a) (Vm.Alike.refl U.vm) qK, qD⟩, va_recv hK hPc (ci := 1) (q0 := 0) rfl rfl, fun U hU hW => ⟨rfl, by rw [hU], by rw [hU]; exact hPc, va_K.moved hW.alike hK, hDc.weaken (fun _ _ _ _ => trivial)⟩⟩ rfl rfl hl.1 rfl (lv_room (Nat.le_of_ble_eq_true rfl)) dX5_foreseeComing_4 ⟨Nat.zero_le _, Nat.zero_le _⟩) hS (fun q _ h => hFc q h) hFc (fun r_ u_ t H locs ht hvm hw hB hz1 hk1 hS => ?_)
  obtain rfl := hw.symm
  obtain ⟨hP1, -, hD1⟩ := hB
  rw [ht] at hP1
  obtain ⟨hP, hD⟩ := va_join (wr := [(zhg, .inr (4, [.ref zgr, .ref zru, .ref zga, .ref zfo, .ref zco])), (zgr, .inr (2, [.int gG.1, .int gG.2.1, .int (bI gG.2.2.1), .long gG.2.2.2.1, .long gG.2.2.2.2.1, .long gG.2.2.2.2.2.1, .long gG.2.2.2.2.2.2.1, .long gG.2.2.2.2.2.2.2])), (zru, .inr (3, [.ref zgr, .ref zcr, .int rR.1, .int rR.2])), (zcr, .inr (0, [.long qC.1, .long qC.2.1, .long qC.2.2.1, .long qC.2.2.2])), (zco, .inl (cJ, 61, .inr (.inl kC)))]) (w1 := [(zga, .inr (1, [.ref zgr, .ref zru, .ref zag, .long dG.1, .int dG.2.1, .int dG.2.2.1, .int dG.2.2.2]))]) hP hD [4] [0, 1, 2, 3, 5] rfl rfl (by decide) (by decide) hk1 hFc hP1 hD1
  have hP := hP.sub (ws' := [(zhg, .inr (4, [.ref zgr, .ref zru, .ref zga, .ref zfo, .ref zco])), (zgr, .inr (2, [.int gG.1, .int gG.2.1, .int (bI gG.2.2.1), .long gG.2.2.2.1, .long gG.2.2.2.2.1, .long gG.2.2.2.2.2.1, .long gG.2.2.2.2.2.2.1, .long gG.2.2.2.2.2.2.2])), (zru, .inr (3, [.ref zgr, .ref zcr, .int rR.1, .int rR.2])), (zcr, .inr (0, [.long qC.1, .long qC.2.1, .long qC.2.2.1, .long qC.2.2.2])), (zga, .inr (1, [.ref zgr, .ref zru, .ref zag, .long dG.1, .int dG.2.1, .int dG.2.2.1, .int dG.2.2.2])), (zco, .inl (cJ, 61, .inr (.inl kC)))]) [0, 1, 2, 3, 5, 4] rfl
  have hD := hD.sub (ws' := [(zhg, .inr (4, [.ref zgr, .ref zru, .ref zga, .ref zfo, .ref zco])), (zgr, .inr (2, [.int gG.1, .int gG.2.1, .int (bI gG.2.2.1), .long gG.2.2.2.1, .long gG.2.2.2.2.1, .long gG.2.2.2.2.2.1, .long gG.2.2.2.2.2.2.1, .long gG.2.2.2.2.2.2.2])), (zru, .inr (3, [.ref zgr, .ref zcr, .int rR.1, .int rR.2])), (zcr, .inr (0, [.long qC.1, .long qC.2.1, .long qC.2.2.1, .long qC.2.2.2])), (zga, .inr (1, [.ref zgr, .ref zru, .ref zag, .long dG.1, .int dG.2.1, .int dG.2.2.1, .int dG.2.2.2])), (zco, .inl (cJ, 61, .inr (.inl kC)))]) [0, 1, 2, 3, 5, 4] (by decide) rfl
  clear hPc hDc hFc hP1 hD1 hk1
  refine lv_lstore_n (lv' := [(1, .long (f_X2_hedges dG)), (0, .ref zhg)]) hx hb dX5_foreseeComing_7 rfl hl (by decide) rfl (fun ls hl => ?_)
  refine lv_iconst (v := 0) hx hb dX5_foreseeComing_8 (by decide) ?_
  refine lv_istore_n (lv' := [(3, .int 0), (1, .long (f_X2_hedges dG)), (0, .ref zhg)]) hx hb dX5_foreseeComing_9 rfl hl (by decide) rfl (fun ls hl => ?_)
  obtain ⟨v15, hv, hf⟩ := obind hf
  have K17 : ∀ (u16 : CrS) (H : Heap) (locs : List Loc) (ls : Array Slot), va_P (dC, dI) vwCl [(zhg, .inr (4, [.ref zgr, .ref zru, .ref zga, .ref zfo, .ref zco])), (zgr, .inr (2, [.int gG.1, .int gG.2.1, .int (bI gG.2.2.1), .long gG.2.2.2.1, .long gG.2.2.2.2.1, .long gG.2.2.2.2.2.1, .long gG.2.2.2.2.2.2.1, .long gG.2.2.2.2.2.2.2])), (zru, .inr (3, [.ref zgr, .ref zcr, .int rR.1, .int rR.2])), (zcr, .inr (0, [.long u16.1, .long u16.2.1, .long u16.2.2.1, .long u16.2.2.2])), (zga, .inr (1, [.ref zgr, .ref zru, .ref zag, .long dG.1, .int dG.2.1, .int dG.2.2.1, .int dG.2.2.2])), (zco, .inl (cJ, 61, .inr (.inl v15)))] H → va_D (A_X5_foreseeComing cI cJ zhg zgr zru zcr zga zco zfo zag gG rR dG kC qC s.heap.size) [(zhg, .inr (4, [.ref zgr, .ref zru, .ref zga, .ref zfo, .ref zco])), (zgr, .inr (2, [.int gG.1, .int gG.2.1, .int (bI gG.2.2.1), .long gG.2.2.2.1, .long gG.2.2.2.2.1, .long gG.2.2.2.2.2.1, .long gG.2.2.2.2.2.2.1, .long gG.2.2.2.2.2.2.2])), (zru, .inr (3, [.ref zgr, .ref zcr, .int rR.1, .int rR.2])), (zcr, .inr (0, [.long u16.1, .long u16.2.1, .long u16.2.2.1, .long u16.2.2.2])), (zga, .inr (1, [.ref zgr, .ref zru, .ref zag, .long dG.1, .int dG.2.1, .int dG.2.2.1, .int dG.2.2.2])), (zco, .inl (cJ, 61, .inr (.inl v15)))] → va_S (A_X5_foreseeComing cI cJ zhg zgr zru zcr zga zco zfo zag gG rR dG kC qC s.heap.size) s.heap H locs → lv_has ls 4 [] → W p l e rm_X5_foreseeComing s m args below meth c H locs 0 0 (MQ below (Q_X5_foreseeComing dC dI cI cJ zhg zgr zru zcr zga zco zfo zag gG rR dG kC qC s.heap.size R) args s 0 0 (A_X5_foreseeComing cI cJ zhg zgr zru zcr zga zco zfo zag gG rR dG kC qC s.heap.size)) (F0 m 42 ls []) := by
    intro u16 H locs ls hP hD hS hl
    obtain rfl := Option.some.inj hf
    exact W.vret hx hb hr (fun t ht hW => ⟨⟨(u16), rfl, trivial, by rw [ht]; exact hP, va_K.moved hW.alike hK, hD⟩, hS.F ht⟩) hS.2.2 dX5_foreseeComing_42
  have lp18 : ∀ (nf : Nat) (y9 : Int64) (y10 : Int32) (y11 : Nat → Int64) (u12 : CrS) (H : Heap) (locs : List Loc) (ls : Array Slot), lp_X5_foreseeComing_10 gG rR nf y9 y10 y11 = some v15 → va_P (dC, dI) vwCl [(zhg, .inr (4, [.ref zgr, .ref zru, .ref zga, .ref zfo, .ref zco])), (zgr, .inr (2, [.int gG.1, .int gG.2.1, .int (bI gG.2.2.1), .long gG.2.2.2.1, .long gG.2.2.2.2.1, .long gG.2.2.2.2.2.1, .long gG.2.2.2.2.2.2.1, .long gG.2.2.2.2.2.2.2])), (zru, .inr (3, [.ref zgr, .ref zcr, .int rR.1, .int rR.2])), (zcr, .inr (0, [.long u12.1, .long u12.2.1, .long u12.2.2.1, .long u12.2.2.2])), (zga, .inr (1, [.ref zgr, .ref zru, .ref zag, .long dG.1, .int dG.2.1, .int dG.2.2.1, .int dG.2.2.2])), (zco, .inl (cJ, 61, .inr (.inl y11)))] H → va_D (A_X5_foreseeComing cI cJ zhg zgr zru zcr zga zco zfo zag gG rR dG kC qC s.heap.size) [(zhg, .inr (4, [.ref zgr, .ref zru, .ref zga, .ref zfo, .ref zco])), (zgr, .inr (2, [.int gG.1, .int gG.2.1, .int (bI gG.2.2.1), .long gG.2.2.2.1, .long gG.2.2.2.2.1, .long gG.2.2.2.2.2.1, .long gG.2.2.2.2.2.2.1, .long gG.2.2.2.2.2.2.2])), (zru, .inr (3, [.ref zgr, .ref zcr, .int rR.1, .int rR.2])), (zcr, .inr (0, [.long u12.1, .long u12.2.1, .long u12.2.2.1, .long u12.2.2.2])), (zga, .inr (1, [.ref zgr, .ref zru, .ref zag, .long dG.1, .int dG.2.1, .int dG.2.2.1, .int dG.2.2.2])), (zco, .inl (cJ, 61, .inr (.inl y11)))] → va_S (A_X5_foreseeComing cI cJ zhg zgr zru zcr zga zco zfo zag gG rR dG kC qC s.heap.size) s.heap H locs → lv_has ls 4 [(0, .ref zhg), (1, .long y9), (3, .int y10)] → W p l e rm_X5_foreseeComing s m args below meth c H locs 0 0 (MQ below (Q_X5_foreseeComing dC dI cI cJ zhg zgr zru zcr zga zco zfo zag gG rR dG kC qC s.heap.size R) args s 0 0 (A_X5_foreseeComing cI cJ zhg zgr zru zcr zga zco zfo zag gG rR dG kC qC s.heap.size)) (F0 m 10 ls []) := by
    intro nf
    induction nf with
    | zero => intro y9 y10 y11 u12 H locs ls h9; exact nomatch h9
    | succ nf ih19 =>
      intro y9 y10 y11 u12 H locs ls hf hP hD hS hl
      rw [lp_X5_foreseeComing_10.eq_2] at hf
      refine lv_iload_n hx hb dX5_foreseeComing_10 rfl (lv_at hl 2 rfl) ?_
      refine lv_aload_n hx hb dX5_foreseeComing_11 rfl (lv_at hl 0 rfl) ?_
      refine va_get (D := (dC, dI)) (ci := 4) (v := .ref zco) (C := RX5) (T := TX5) (N := 5) hx hb hts hinX5 hown hK hP 0 rfl rfl 4 (by decide) hw1 (fun _ h9 => h9) rfl dX5_foreseeComing_12 ?_
      refine va_alen (v := 61) hx hb hK hP 5 1 rfl rfl rfl dX5_foreseeComing_15 ?_
      refine lv_icmp_ge (tgt := 42) hx hb dX5_foreseeComing_16 (by decide) (fun hc => ?_) (fun hc => ?_)
      · rw [if_pos hc] at hf
        obtain rfl := Option.some.inj hf
        exact K17 u12 _ _ _ hP hD hS (lv_sub hl [] rfl)
      · rw [if_neg hc] at hf
        refine lv_aload_n hx hb dX5_foreseeComing_19 rfl (lv_at hl 0 rfl) ?_
        refine va_get (D := (dC, dI)) (ci := 4) (v := .ref zco) (C := RX5) (T := TX5) (N := 5) hx hb hts hinX5 hown hK hP 0 rfl rfl 4 (by decide) hw1 (fun _ h9 => h9) rfl dX5_foreseeComing_20 ?_
        refine lv_iload_n hx hb dX5_foreseeComing_23 rfl (lv_at hl 2 rfl) ?_
        refine lv_lload_n hx hb dX5_foreseeComing_24 rfl (lv_at hl 1 rfl) ?_
        have hg0 : ¬ (y10 < 0 ∨ 61 ≤ y10.toNatClampNeg) := fun hq => by rw [if_pos hq] at hf; exact nomatch hf
        rw [if_neg hg0] at hf
        have hg : vp_in y10 61 := hg0
        refine va_last hx hb hK hP hD hS 5 1 rfl rfl hg dX5_foreseeComing_25 (fun H locs hP hD hS => ?_)
        have hP : va_P (dC, dI) vwCl [(zhg, .inr (4, [.ref zgr, .ref zru, .ref zga, .ref zfo, .ref zco])), (zgr, .inr (2, [.int gG.1, .int gG.2.1, .int (bI gG.2.2.1), .long gG.2.2.2.1, .long gG.2.2.2.2.1, .long gG.2.2.2.2.2.1, .long gG.2.2.2.2.2.2.1, .long gG.2.2.2.2.2.2.2])), (zru, .inr (3, [.ref zgr, .ref zcr, .int rR.1, .int rR.2])), (zcr, .inr (0, [.long u12.1, .long u12.2.1, .long u12.2.2.1, .long u12.2.2.2])), (zga, .inr (1, [.ref zgr, .ref zru, .ref zag, .long dG.1, .int dG.2.1, .int dG.2.2.1, .int dG.2.2.2])), (zco, .inl (cJ, 61, .inr (.inl (vp_updL y11 y10.toNatClampNeg y9))))] H := hP
        have hD : va_D (A_X5_foreseeComing cI cJ zhg zgr zru zcr zga zco zfo zag gG rR dG kC qC s.heap.size) [(zhg, .inr (4, [.ref zgr, .ref zru, .ref zga, .ref zfo, .ref zco])), (zgr, .inr (2, [.int gG.1, .int gG.2.1, .int (bI gG.2.2.1), .long gG.2.2.2.1, .long gG.2.2.2.2.1, .long gG.2.2.2.2.2.1, .long gG.2.2.2.2.2.2.1, .long gG.2.2.2.2.2.2.2])), (zru, .inr (3, [.ref zgr, .ref zcr, .int rR.1, .int rR.2])), (zcr, .inr (0, [.long u12.1, .long u12.2.1, .long u12.2.2.1, .long u12.2.2.2])), (zga, .inr (1, [.ref zgr, .ref zru, .ref zag, .long dG.1, .int dG.2.1, .int dG.2.2.1, .int dG.2.2.2])), (zco, .inl (cJ, 61, .inr (.inl (vp_updL y11 y10.toNatClampNeg y9))))] := hD
        refine lv_aload_n hx hb dX5_foreseeComing_26 rfl (lv_at hl 0 rfl) ?_
        refine va_get (D := (dC, dI)) (ci := 4) (v := .ref zru) (C := RX5) (T := TX5) (N := 5) hx hb hts hinX5 hown hK hP 0 rfl rfl 1 (by decide) hw2 (fun _ h9 => h9) rfl dX5_foreseeComing_27 ?_
        refine lv_lload_n hx hb dX5_foreseeComing_30 rfl (lv_at hl 1 rfl) ?_
        refine lv_iconst (v := 1) hx hb dX5_foreseeComing_31 (by decide) ?_
        obtain ⟨r13, hr13, hf⟩ := obind hf
        have hPc := hP.sub (ws' := [(zru, .inr (3, [.ref zgr, .ref zcr, .int rR.1, .int rR.2])), (zgr, .inr (2, [.int gG.1, .int gG.2.1, .int (bI gG.2.2.1), .long gG.2.2.2.1, .long gG.2.2.2.2.1, .long gG.2.2.2.2.2.1, .long gG.2.2.2.2.2.2.1, .long gG.2.2.2.2.2.2.2])), (zcr, .inr (0, [.long u12.1, .long u12.2.1, .long u12.2.2.1, .long u12.2.2.2]))]) [2, 1, 3] rfl
        have hDc := hD.sub (ws' := [(zru, .inr (3, [.ref zgr, .ref zcr, .int rR.1, .int rR.2])), (zgr, .inr (2, [.int gG.1, .int gG.2.1, .int (bI gG.2.2.1), .long gG.2.2.2.1, .long gG.2.2.2.2.1, .long gG.2.2.2.2.2.1, .long gG.2.2.2.2.2.2.1, .long gG.2.2.2.2.2.2.2])), (zcr, .inr (0, [.long u12.1, .long u12.2.1, .long u12.2.2.1, .long u12.2.2.2]))]) [2, 1, 3] (by decide) rfl
        have hFc := va_free (wc := [(zru, .inr (3, [.ref zgr, .ref zcr, .int rR.1, .int rR.2])), (zgr, .inr (2, [.int gG.1, .int gG.2.1, .int (bI gG.2.2.1), .long gG.2.2.2.1, .long gG.2.2.2.2.1, .long gG.2.2.2.2.2.1, .long gG.2.2.2.2.2.2.1, .long gG.2.2.2.2.2.2.2])), (zcr, .inr (0, [.long u12.1, .long u12.2.1, .long u12.2.2.1, .long u12.2.2.2]))]) hD hS hA [2, 1, 3] rfl
        refine va_calll (va_runV (As := [.long y9, .int 1]) (rest := []) ⟨hx, hb, hml, hown, hts⟩ (c_X4_behindYears l dC dI cI cJ zru zgr zcr H.size rR gG y9 1 u12 _ hr13) (cwV 2 hts gX5_foreseeComing_X4_behindYears rfl rfl rfl (by decide +kernel) ⟨Nat.le_of_ble_eq_true rfl, Nat.le_of_ble_eq_true rfl⟩) ⟨fun a U gg mk q => by obtain ⟨q0, q1, qP, qK, qD⟩ := q; exact ⟨q0, q1, qP, va_K.moved (u := U) (U := U.calling gg mk a) (Vm.Alike.refl U.vm) qK, qD⟩, va_recv hK hPc (ci := 3) (q0 := 0) rfl rfl, fun U hU hW => ⟨rfl, by rw [hU], by rw [hU]; exact hPc, va_K.moved hW.alike hK, hDc.weaken (fun _ _ _ _ => trivial)⟩⟩ rfl rfl hl.1 rfl (lv_room (Nat.le_of_ble_eq_true rfl)) dX5_foreseeComing_32 ⟨Nat.zero_le _, Nat.zero_le _⟩) hS (fun q _ h => hFc q h) hFc (fun r_ u_ t H locs ht hvm hw hB hz1 hk1 hS => ?_)
        obtain ⟨u14, rfl⟩ : ∃ z, z = u_ := ⟨_, rfl⟩
        obtain rfl := hw.symm
        obtain ⟨hP1, -, hD1⟩ := hB
        rw [ht] at hP1
        obtain ⟨hP, hD⟩ := va_join (wr := [(zhg, .inr (4, [.ref zgr, .ref zru, .ref zga, .ref zfo, .ref zco])), (zga, .inr (1, [.ref zgr, .ref zru, .ref zag, .long dG.1, .int dG.2.1, .int dG.2.2.1, .int dG.2.2.2])), (zco, .inl (cJ, 61, .inr (.inl (vp_updL y11 y10.toNatClampNeg y9))))]) (w1 := [(zru, .inr (3, [.ref zgr, .ref zcr, .int rR.1, .int rR.2])), (zgr, .inr (2, [.int gG.1, .int gG.2.1, .int (bI gG.2.2.1), .long gG.2.2.2.1, .long gG.2.2.2.2.1, .long gG.2.2.2.2.2.1, .long gG.2.2.2.2.2.2.1, .long gG.2.2.2.2.2.2.2])), (zcr, .inr (0, [.long u14.1, .long u14.2.1, .long u14.2.2.1, .long u14.2.2.2]))]) hP hD [2, 1, 3] [0, 4, 5] rfl rfl (by decide) (by decide) hk1 hFc hP1 hD1
        have hP := hP.sub (ws' := [(zhg, .inr (4, [.ref zgr, .ref zru, .ref zga, .ref zfo, .ref zco])), (zgr, .inr (2, [.int gG.1, .int gG.2.1, .int (bI gG.2.2.1), .long gG.2.2.2.1, .long gG.2.2.2.2.1, .long gG.2.2.2.2.2.1, .long gG.2.2.2.2.2.2.1, .long gG.2.2.2.2.2.2.2])), (zru, .inr (3, [.ref zgr, .ref zcr, .int rR.1, .int rR.2])), (zcr, .inr (0, [.long u14.1, .long u14.2.1, .long u14.2.2.1, .long u14.2.2.2])), (zga, .inr (1, [.ref zgr, .ref zru, .ref zag, .long dG.1, .int dG.2.1, .int dG.2.2.1, .int dG.2.2.2])), (zco, .inl (cJ, 61, .inr (.inl (vp_updL y11 y10.toNatClampNeg y9))))]) [0, 4, 3, 5, 1, 2] rfl
        have hD := hD.sub (ws' := [(zhg, .inr (4, [.ref zgr, .ref zru, .ref zga, .ref zfo, .ref zco])), (zgr, .inr (2, [.int gG.1, .int gG.2.1, .int (bI gG.2.2.1), .long gG.2.2.2.1, .long gG.2.2.2.2.1, .long gG.2.2.2.2.2.1, .long gG.2.2.2.2.2.2.1, .long gG.2.2.2.2.2.2.2])), (zru, .inr (3, [.ref zgr, .ref zcr, .int rR.1, .int rR.2])), (zcr, .inr (0, [.long u14.1, .long u14.2.1, .long u14.2.2.1, .long u14.2.2.2])), (zga, .inr (1, [.ref zgr, .ref zru, .ref zag, .long dG.1, .int dG.2.1, .int dG.2.2.1, .int dG.2.2.2])), (zco, .inl (cJ, 61, .inr (.inl (vp_updL y11 y10.toNatClampNeg y9))))]) [0, 4, 3, 5, 1, 2] (by decide) rfl
        clear hPc hDc hFc hP1 hD1 hk1
        refine lv_lstore_n (lv' := [(1, .long r13), (0, .ref zhg), (3, .int y10)]) hx hb dX5_foreseeComing_35 rfl hl (by decide) rfl (fun ls hl => ?_)
        refine lv_iinc (v := (y10 + 1)) (lv' := [(3, .int (y10 + 1)), (1, .long r13), (0, .ref zhg)]) hx hb dX5_foreseeComing_36 hl (k := 2) rfl rfl (by decide) rfl (fun ls hl => ?_)
        refine lv_goto (tgt := 10) hx hb dX5_foreseeComing_39 (by decide) ?_
        exact ih19 _ _ _ u14 _ _ _ hf hP hD hS (lv_sub hl [2, 1, 0] rfl)
  exact lp18 100 _ _ _ qC _ _ _ hv hP hD hS (lv_sub hl [2, 1, 0] rfl)
/-! HedgeGliders.sizeBehind(IJ)I -/
def f_X5_sizeBehind (gG : GrS) (rR : RuS) (yr : Int32) (hs : Int64) : Option (Int32) := Option.bind (f_X4_behindYears rR gG hs yr) fun r1 => some (f_J13_bitCount_95d88 r1)
abbrev rm_X5_sizeBehind : Room := ({ frames := 5, cells := 0, slots := 0, locals := 114 } : Room)
abbrev A_X5_sizeBehind (cI cJ : ClassId) (zhg zgr zru zcr zga zfo zco : Nat) (gG : GrS) (rR : RuS) (yr : Int32) (hs : Int64) (qC : CrS) (sz : Nat) : Nat → Prop := va_A [(zhg, .inr (4, [.ref zgr, .ref zru, .ref zga, .ref zfo, .ref zco])), (zgr, .inr (2, [.int gG.1, .int gG.2.1, .int (bI gG.2.2.1), .long gG.2.2.2.1, .long gG.2.2.2.2.1, .long gG.2.2.2.2.2.1, .long gG.2.2.2.2.2.2.1, .long gG.2.2.2.2.2.2.2])), (zru, .inr (3, [.ref zgr, .ref zcr, .int rR.1, .int rR.2])), (zcr, .inr (0, [.long qC.1, .long qC.2.1, .long qC.2.2.1, .long qC.2.2.2]))] sz
abbrev Q_X5_sizeBehind (dC : Nat → ClassId) (dI : Nat → Nat → Nat) (cI cJ : ClassId) (zhg zgr zru zcr zga zfo zco : Nat) (gG : GrS) (rR : RuS) (yr : Int32) (hs : Int64) (qC : CrS) (sz : Nat) (R : Int32) : Array Value → State → Outcome → State → Prop := va_Qi (fun (r : Int32) (_ : CrS) => r = R) (fun u_ t => va_P (dC, dI) vwCl [(zhg, .inr (4, [.ref zgr, .ref zru, .ref zga, .ref zfo, .ref zco])), (zgr, .inr (2, [.int gG.1, .int gG.2.1, .int (bI gG.2.2.1), .long gG.2.2.2.1, .long gG.2.2.2.2.1, .long gG.2.2.2.2.2.1, .long gG.2.2.2.2.2.2.1, .long gG.2.2.2.2.2.2.2])), (zru, .inr (3, [.ref zgr, .ref zcr, .int rR.1, .int rR.2])), (zcr, .inr (0, [.long u_.1, .long u_.2.1, .long u_.2.2.1, .long u_.2.2.2]))] t.heap ∧ va_K (dC, dI) vwCl [(cI, .int), (cJ, .long)] t ∧ va_D (A_X5_sizeBehind cI cJ zhg zgr zru zcr zga zfo zco gG rR yr hs qC sz) [(zhg, .inr (4, [.ref zgr, .ref zru, .ref zga, .ref zfo, .ref zco])), (zgr, .inr (2, [.int gG.1, .int gG.2.1, .int (bI gG.2.2.1), .long gG.2.2.2.1, .long gG.2.2.2.2.1, .long gG.2.2.2.2.2.1, .long gG.2.2.2.2.2.2.1, .long gG.2.2.2.2.2.2.2])), (zru, .inr (3, [.ref zgr, .ref zcr, .int rR.1, .int rR.2])), (zcr, .inr (0, [.long u_.1, .long u_.2.1, .long u_.2.2.1, .long u_.2.2.2]))]) (A_X5_sizeBehind cI cJ zhg zgr zru zcr zga zfo zco gG rR yr hs qC sz)
set_option maxHeartbeats 4000000 in
set_option maxRecDepth 100000 in
theorem c_X5_sizeBehind (l : Launch) (dC : Nat → ClassId) (dI : Nat → Nat → Nat) (cI cJ : ClassId) (zhg zgr zru zcr zga zfo zco : Nat) (sz : Nat) (gG : GrS) (rR : RuS) (yr : Int32) (hs : Int64) (qC : CrS) (R : Int32) (hR : f_X5_sizeBehind gG rR yr hs = some R) : Met l yX5_sizeBehind wsX5_sizeBehind rm_X5_sizeBehind (va_Pc [.ref zhg, .int yr, .long hs] (fun U => U.heap.size = sz ∧ va_P (dC, dI) vwCl [(zhg, .inr (4, [.ref zgr, .ref zru, .ref zga, .ref zfo, .ref zco])), (zgr, .inr (2, [.int gG.1, .int gG.2.1, .int (bI gG.2.2.1), .long gG.2.2.2.1, .long gG.2.2.2.2.1, .long gG.2.2.2.2.2.1, .long gG.2.2.2.2.2.2.1, .long gG.2.2.2.2.2.2.2])), (zru, .inr (3, [.ref zgr, .ref zcr, .int rR.1, .int rR.2])), (zcr, .inr (0, [.long qC.1, .long qC.2.1, .long qC.2.2.1, .long qC.2.2.2]))] U.heap ∧ va_K (dC, dI) vwCl [(cI, .int), (cJ, .long)] U ∧ va_D (fun _ => True) [(zhg, .inr (4, [.ref zgr, .ref zru, .ref zga, .ref zfo, .ref zco])), (zgr, .inr (2, [.int gG.1, .int gG.2.1, .int (bI gG.2.2.1), .long gG.2.2.2.1, .long gG.2.2.2.2.1, .long gG.2.2.2.2.2.1, .long gG.2.2.2.2.2.2.1, .long gG.2.2.2.2.2.2.2])), (zru, .inr (3, [.ref zgr, .ref zcr, .int rR.1, .int rR.2])), (zcr, .inr (0, [.long qC.1, .long qC.2.1, .long qC.2.2.1, .long qC.2.2.2]))])) (Q_X5_sizeBehind dC dI cI cJ zhg zgr zru zcr zga zfo zco gG rR yr hs qC sz R) 0 0 (A_X5_sizeBehind cI cJ zhg zgr zru zcr zga zfo zco gG rR yr hs qC sz) := by
  have hf := hR
  refine Met.ofW (cc := cX5_sizeBehind) (maxL := 4) (ret := (some .int)) (by decide) rfl ?_
  intro p e s m args below meth c s₁ B hml hv
  obtain ⟨hargs, hsz, hP, hK, hD0⟩ := hv
  have hx := B.exec
  have hb := B.bytes
  have hr := B.returns
  have hts := atoms_spec (ws := wsX5_sizeBehind) B.pre
  have hown : s.vm.findClass RX5 = some m.cls := findClass_of_methodNamed B.named
  have hlocks := B.notSynchronized
  subst hsz
  have hD : va_D (A_X5_sizeBehind cI cJ zhg zgr zru zcr zga zfo zco gG rR yr hs qC s.heap.size) [(zhg, .inr (4, [.ref zgr, .ref zru, .ref zga, .ref zfo, .ref zco])), (zgr, .inr (2, [.int gG.1, .int gG.2.1, .int (bI gG.2.2.1), .long gG.2.2.2.1, .long gG.2.2.2.2.1, .long gG.2.2.2.2.2.1, .long gG.2.2.2.2.2.2.1, .long gG.2.2.2.2.2.2.2])), (zru, .inr (3, [.ref zgr, .ref zcr, .int rR.1, .int rR.2])), (zcr, .inr (0, [.long qC.1, .long qC.2.1, .long qC.2.2.1, .long qC.2.2.2]))] := hD0.self (sz := s.heap.size)
  have hA : ∀ q : Nat, s.heap.size ≤ q → (A_X5_sizeBehind cI cJ zhg zgr zru zcr zga zfo zco gG rR yr hs qC s.heap.size) q := fun q h => Or.inr h
  have hS : va_S (A_X5_sizeBehind cI cJ zhg zgr zru zcr zga zfo zco gG rR yr hs qC s.heap.size) s.heap s.heap [] := va_S.rf
  have hinX5 : ∀ w ∈ wsX50, w ∈ wsX5_sizeBehind := by decide +kernel
  have hw0 := hts (.fieldLink RX5 21 "HedgeGliders" "rules" "LHedgeGliders$Rules;") (by decide +kernel)
  have hl := lv_entry ([.ref zhg, .int yr, .long hs]) (n := 4) (Nat.le_of_ble_eq_true rfl)
  have he0 : entryFrame m args 4 = entryFrame m ([.ref zhg, .int yr, .long hs] : List Value).toArray 4 := by rw [hargs]
  rw [he0, lg_entry_eq]
  generalize (lg_sl ([.ref zhg, .int yr, .long hs]) ++ List.replicate (4 - (lg_sl ([.ref zhg, .int yr, .long hs])).length) Slot.unset).toArray = ls at hl ⊢
  have hl : lv_has ls 4 [(0, .ref zhg), (1, .int yr), (2, .long hs)] := hl
  rw [f_X5_sizeBehind] at hf
  refine lv_aload_n hx hb dX5_sizeBehind_0 rfl (lv_at hl 0 rfl) ?_
  refine va_get (D := (dC, dI)) (ci := 4) (v := .ref zru) (C := RX5) (T := TX5) (N := 5) hx hb hts hinX5 hown hK hP 0 rfl rfl 1 (by decide) hw0 (fun _ h9 => h9) rfl dX5_sizeBehind_1 ?_
  refine lv_lload_n hx hb dX5_sizeBehind_4 rfl (lv_at hl 2 rfl) ?_
  refine lv_iload_n hx hb dX5_sizeBehind_5 rfl (lv_at hl 1 rfl) ?_
  obtain ⟨r1, hr1, hf⟩ := obind hf
  have hPc := hP.sub (ws' := [(zru, .inr (3, [.ref zgr, .ref zcr, .int rR.1, .int rR.2])), (zgr, .inr (2, [.int gG.1, .int gG.2.1, .int (bI gG.2.2.1), .long gG.2.2.2.1, .long gG.2.2.2.2.1, .long gG.2.2.2.2.2.1, .long gG.2.2.2.2.2.2.1, .long gG.2.2.2.2.2.2.2])), (zcr, .inr (0, [.long qC.1, .long qC.2.1, .long qC.2.2.1, .long qC.2.2.2]))]) [2, 1, 3] rfl
  have hDc := hD.sub (ws' := [(zru, .inr (3, [.ref zgr, .ref zcr, .int rR.1, .int rR.2])), (zgr, .inr (2, [.int gG.1, .int gG.2.1, .int (bI gG.2.2.1), .long gG.2.2.2.1, .long gG.2.2.2.2.1, .long gG.2.2.2.2.2.1, .long gG.2.2.2.2.2.2.1, .long gG.2.2.2.2.2.2.2])), (zcr, .inr (0, [.long qC.1, .long qC.2.1, .long qC.2.2.1, .long qC.2.2.2]))]) [2, 1, 3] (by decide) rfl
  have hFc := va_free (wc := [(zru, .inr (3, [.ref zgr, .ref zcr, .int rR.1, .int rR.2])), (zgr, .inr (2, [.int gG.1, .int gG.2.1, .int (bI gG.2.2.1), .long gG.2.2.2.1, .long gG.2.2.2.2.1, .long gG.2.2.2.2.2.1, .long gG.2.2.2.2.2.2.1, .long gG.2.2.2.2.2.2.2])), (zcr, .inr (0, [.long qC.1, .long qC.2.1, .long qC.2.2.1, .long qC.2.2.2]))]) hD hS hA [2, 1, 3] rfl
  refine va_calll (va_runV (As := [.long hs, .int yr]) (rest := []) ⟨hx, hb, hml, hown, hts⟩ (c_X4_behindYears l dC dI cI cJ zru zgr zcr s.heap.size rR gG hs yr qC _ hr1) (cwV 2 hts gX5_sizeBehind_X4_behindYears rfl rfl rfl (by decide +kernel) ⟨Nat.le_of_ble_eq_true rfl, Nat.le_of_ble_eq_true rfl⟩) ⟨fun a U gg mk q => by obtain ⟨q0, q1, qP, qK, qD⟩ := q; exact ⟨q0, q1, qP, va_K.moved (u := U) (U := U.calling gg mk a) (Vm.Alike.refl U.vm) qK, qD⟩, va_recv hK hPc (ci := 3) (q0 := 0) rfl rfl, fun U hU hW => ⟨rfl, by rw [hU], by rw [hU]; exact hPc, va_K.moved hW.alike hK, hDc.weaken (fun _ _ _ _ => trivial)⟩⟩ rfl rfl hl.1 rfl (lv_room (Nat.le_of_ble_eq_true rfl)) dX5_sizeBehind_6 ⟨Nat.zero_le _, Nat.zero_le _⟩) hS (fun q _ h => hFc q h) hFc (fun r_ u_ t H locs ht hvm hw hB hz1 hk1 hS => ?_)
  obtain ⟨u2, rfl⟩ : ∃ z, z = u_ := ⟨_, rfl⟩
  obtain rfl := hw.symm
  obtain ⟨hP1, -, hD1⟩ := hB
  rw [ht] at hP1
  obtain ⟨hP, hD⟩ := va_join (wr := [(zhg, .inr (4, [.ref zgr, .ref zru, .ref zga, .ref zfo, .ref zco]))]) (w1 := [(zru, .inr (3, [.ref zgr, .ref zcr, .int rR.1, .int rR.2])), (zgr, .inr (2, [.int gG.1, .int gG.2.1, .int (bI gG.2.2.1), .long gG.2.2.2.1, .long gG.2.2.2.2.1, .long gG.2.2.2.2.2.1, .long gG.2.2.2.2.2.2.1, .long gG.2.2.2.2.2.2.2])), (zcr, .inr (0, [.long u2.1, .long u2.2.1, .long u2.2.2.1, .long u2.2.2.2]))]) hP hD [2, 1, 3] [0] rfl rfl (by decide) (by decide) hk1 hFc hP1 hD1
  have hP := hP.sub (ws' := [(zhg, .inr (4, [.ref zgr, .ref zru, .ref zga, .ref zfo, .ref zco])), (zgr, .inr (2, [.int gG.1, .int gG.2.1, .int (bI gG.2.2.1), .long gG.2.2.2.1, .long gG.2.2.2.2.1, .long gG.2.2.2.2.2.1, .long gG.2.2.2.2.2.2.1, .long gG.2.2.2.2.2.2.2])), (zru, .inr (3, [.ref zgr, .ref zcr, .int rR.1, .int rR.2])), (zcr, .inr (0, [.long u2.1, .long u2.2.1, .long u2.2.2.1, .long u2.2.2.2]))]) [0, 2, 1, 3] rfl
  have hD := hD.sub (ws' := [(zhg, .inr (4, [.ref zgr, .ref zru, .ref zga, .ref zfo, .ref zco])), (zgr, .inr (2, [.int gG.1, .int gG.2.1, .int (bI gG.2.2.1), .long gG.2.2.2.1, .long gG.2.2.2.2.1, .long gG.2.2.2.2.2.1, .long gG.2.2.2.2.2.2.1, .long gG.2.2.2.2.2.2.2])), (zru, .inr (3, [.ref zgr, .ref zcr, .int rR.1, .int rR.2])), (zcr, .inr (0, [.long u2.1, .long u2.2.1, .long u2.2.2.1, .long u2.2.2.2]))]) [0, 2, 1, 3] (by decide) rfl
  clear hPc hDc hFc hP1 hD1 hk1
  have hPc := hP.sub (ws' := []) [] rfl
  have hDc := hD.sub (ws' := []) [] (by decide) rfl
  have hFc := va_free (wc := []) hD hS hA [] rfl
  refine va_calli (va_runS (As := [.long r1]) (rest := []) ⟨hx, hb, hml, hown, hts⟩ (c_J13_bitCount_95d88 l dC dI cI cJ  H.size r1) (va_cwS 1 hts gX5_sizeBehind_J13_bitCount_95d88 rfl rfl rfl (by decide +kernel) ⟨Nat.le_of_ble_eq_true rfl, Nat.le_of_ble_eq_true rfl⟩) ⟨fun a U gg mk q => by obtain ⟨q0, q1, qP, qK, qD⟩ := q; exact ⟨q0, q1, qP, va_K.moved (u := U) (U := U.calling gg mk a) (Vm.Alike.refl U.vm) qK, qD⟩, fun U hU hW => ⟨rfl, by rw [hU], by rw [hU]; exact hPc, va_K.moved hW.alike hK, hDc.weaken (fun _ _ _ _ => trivial)⟩⟩ rfl rfl hl.1 rfl (lv_room (Nat.le_of_ble_eq_true rfl)) dX5_sizeBehind_9 ⟨Nat.zero_le _, Nat.zero_le _⟩) hS (fun q _ h => hFc q h) hFc (fun r_ u_ t H locs ht hvm hw hB hz1 hk1 hS => ?_)
  obtain rfl := hw.symm
  obtain ⟨hP1, -, hD1⟩ := hB
  rw [ht] at hP1
  obtain ⟨hP, hD⟩ := va_join (wr := [(zhg, .inr (4, [.ref zgr, .ref zru, .ref zga, .ref zfo, .ref zco])), (zgr, .inr (2, [.int gG.1, .int gG.2.1, .int (bI gG.2.2.1), .long gG.2.2.2.1, .long gG.2.2.2.2.1, .long gG.2.2.2.2.2.1, .long gG.2.2.2.2.2.2.1, .long gG.2.2.2.2.2.2.2])), (zru, .inr (3, [.ref zgr, .ref zcr, .int rR.1, .int rR.2])), (zcr, .inr (0, [.long u2.1, .long u2.2.1, .long u2.2.2.1, .long u2.2.2.2]))]) (w1 := []) hP hD [] [0, 1, 2, 3] rfl rfl (by decide) (by decide) hk1 hFc hP1 hD1
  have hP := hP.sub (ws' := [(zhg, .inr (4, [.ref zgr, .ref zru, .ref zga, .ref zfo, .ref zco])), (zgr, .inr (2, [.int gG.1, .int gG.2.1, .int (bI gG.2.2.1), .long gG.2.2.2.1, .long gG.2.2.2.2.1, .long gG.2.2.2.2.2.1, .long gG.2.2.2.2.2.2.1, .long gG.2.2.2.2.2.2.2])), (zru, .inr (3, [.ref zgr, .ref zcr, .int rR.1, .int rR.2])), (zcr, .inr (0, [.long u2.1, .long u2.2.1, .long u2.2.2.1, .long u2.2.2.2]))]) [0, 1, 2, 3] rfl
  have hD := hD.sub (ws' := [(zhg, .inr (4, [.ref zgr, .ref zru, .ref zga, .ref zfo, .ref zco])), (zgr, .inr (2, [.int gG.1, .int gG.2.1, .int (bI gG.2.2.1), .long gG.2.2.2.1, .long gG.2.2.2.2.1, .long gG.2.2.2.2.2.1, .long gG.2.2.2.2.2.2.1, .long gG.2.2.2.2.2.2.2])), (zru, .inr (3, [.ref zgr, .ref zcr, .int rR.1, .int rR.2])), (zcr, .inr (0, [.long u2.1, .long u2.2.1, .long u2.2.2.1, .long u2.2.2.2]))]) [0, 1, 2, 3] (by decide) rfl
  clear hPc hDc hFc hP1 hD1 hk1
  obtain rfl := Option.some.inj hf
  exact W.iret (v := (f_J13_bitCount_95d88 r1)) hx hb hr (fun t ht hW => ⟨⟨(f_J13_bitCount_95d88 r1), (u2), rfl, rfl, by rw [ht]; exact hP, va_K.moved hW.alike hK, hD⟩, hS.F ht⟩) hS.2.2 dX5_sizeBehind_12
/-! HedgeGliders.setEdge(Z)Z -/
def f_X5_setEdge (gG : GrS) (rn : Bool) : Int32 × GrS := ((f_X3_isRound gG), (f_X3_makeRound gG rn))
abbrev rm_X5_setEdge : Room := ({ frames := 1, cells := 0, slots := 0, locals := 21 } : Room)
abbrev A_X5_setEdge (cI cJ : ClassId) (zhg zgr zru zga zfo zco : Nat) (gG : GrS) (rn : Bool) (sz : Nat) : Nat → Prop := va_A [(zhg, .inr (4, [.ref zgr, .ref zru, .ref zga, .ref zfo, .ref zco])), (zgr, .inr (2, [.int gG.1, .int gG.2.1, .int (bI gG.2.2.1), .long gG.2.2.2.1, .long gG.2.2.2.2.1, .long gG.2.2.2.2.2.1, .long gG.2.2.2.2.2.2.1, .long gG.2.2.2.2.2.2.2]))] sz
abbrev Q_X5_setEdge (dC : Nat → ClassId) (dI : Nat → Nat → Nat) (cI cJ : ClassId) (zhg zgr zru zga zfo zco : Nat) (gG : GrS) (rn : Bool) (sz : Nat) (R : Int32 × GrS) : Array Value → State → Outcome → State → Prop := va_Qi (fun (r : Int32) (_ : Unit) => r = R.1) (fun u_ t => va_P (dC, dI) vwCl [(zhg, .inr (4, [.ref zgr, .ref zru, .ref zga, .ref zfo, .ref zco])), (zgr, .inr (2, [.int R.2.1, .int R.2.2.1, .int (bI R.2.2.2.1), .long R.2.2.2.2.1, .long R.2.2.2.2.2.1, .long R.2.2.2.2.2.2.1, .long R.2.2.2.2.2.2.2.1, .long R.2.2.2.2.2.2.2.2]))] t.heap ∧ va_K (dC, dI) vwCl [(cI, .int), (cJ, .long)] t ∧ va_D (A_X5_setEdge cI cJ zhg zgr zru zga zfo zco gG rn sz) [(zhg, .inr (4, [.ref zgr, .ref zru, .ref zga, .ref zfo, .ref zco])), (zgr, .inr (2, [.int R.2.1, .int R.2.2.1, .int (bI R.2.2.2.1), .long R.2.2.2.2.1, .long R.2.2.2.2.2.1, .long R.2.2.2.2.2.2.1, .long R.2.2.2.2.2.2.2.1, .long R.2.2.2.2.2.2.2.2]))]) (A_X5_setEdge cI cJ zhg zgr zru zga zfo zco gG rn sz)
set_option maxHeartbeats 4000000 in
set_option maxRecDepth 100000 in
theorem c_X5_setEdge (l : Launch) (dC : Nat → ClassId) (dI : Nat → Nat → Nat) (cI cJ : ClassId) (zhg zgr zru zga zfo zco : Nat) (sz : Nat) (gG : GrS) (rn : Bool) : Met l yX5_setEdge wsX5_setEdge rm_X5_setEdge (va_Pc [.ref zhg, .int (bI rn)] (fun U => U.heap.size = sz ∧ va_P (dC, dI) vwCl [(zhg, .inr (4, [.ref zgr, .ref zru, .ref zga, .ref zfo, .ref zco])), (zgr, .inr (2, [.int gG.1, .int gG.2.1, .int (bI gG.2.2.1), .long gG.2.2.2.1, .long gG.2.2.2.2.1, .long gG.2.2.2.2.2.1, .long gG.2.2.2.2.2.2.1, .long gG.2.2.2.2.2.2.2]))] U.heap ∧ va_K (dC, dI) vwCl [(cI, .int), (cJ, .long)] U ∧ va_D (fun _ => True) [(zhg, .inr (4, [.ref zgr, .ref zru, .ref zga, .ref zfo, .ref zco])), (zgr, .inr (2, [.int gG.1, .int gG.2.1, .int (bI gG.2.2.1), .long gG.2.2.2.1, .long gG.2.2.2.2.1, .long gG.2.2.2.2.2.1, .long gG.2.2.2.2.2.2.1, .long gG.2.2.2.2.2.2.2]))])) (Q_X5_setEdge dC dI cI cJ zhg zgr zru zga zfo zco gG rn sz (f_X5_setEdge gG rn)) 0 0 (A_X5_setEdge cI cJ zhg zgr zru zga zfo zco gG rn sz) := by
  generalize hf : (f_X5_setEdge gG rn) = R
  refine Met.ofW (cc := cX5_setEdge) (maxL := 3) (ret := (some .boolean)) (by decide) rfl ?_
  intro p e s m args below meth c s₁ B hml hv
  obtain ⟨hargs, hsz, hP, hK, hD0⟩ := hv
  have hx := B.exec
  have hb := B.bytes
  have hr := B.returns
  have hts := atoms_spec (ws := wsX5_setEdge) B.pre
  have hown : s.vm.findClass RX5 = some m.cls := findClass_of_methodNamed B.named
  have hlocks := B.notSynchronized
  subst hsz
  have hD : va_D (A_X5_setEdge cI cJ zhg zgr zru zga zfo zco gG rn s.heap.size) [(zhg, .inr (4, [.ref zgr, .ref zru, .ref zga, .ref zfo, .ref zco])), (zgr, .inr (2, [.int gG.1, .int gG.2.1, .int (bI gG.2.2.1), .long gG.2.2.2.1, .long gG.2.2.2.2.1, .long gG.2.2.2.2.2.1, .long gG.2.2.2.2.2.2.1, .long gG.2.2.2.2.2.2.2]))] := hD0.self (sz := s.heap.size)
  have hA : ∀ q : Nat, s.heap.size ≤ q → (A_X5_setEdge cI cJ zhg zgr zru zga zfo zco gG rn s.heap.size) q := fun q h => Or.inr h
  have hS : va_S (A_X5_setEdge cI cJ zhg zgr zru zga zfo zco gG rn s.heap.size) s.heap s.heap [] := va_S.rf
  have hinX5 : ∀ w ∈ wsX50, w ∈ wsX5_setEdge := by decide +kernel
  have hw0 := hts (.fieldLink RX5 10 "HedgeGliders" "ground" "LHedgeGliders$Ground;") (by decide +kernel)
  have hl := lv_entry ([.ref zhg, .int (bI rn)]) (n := 3) (Nat.le_of_ble_eq_true rfl)
  have he0 : entryFrame m args 3 = entryFrame m ([.ref zhg, .int (bI rn)] : List Value).toArray 3 := by rw [hargs]
  rw [he0, lg_entry_eq]
  generalize (lg_sl ([.ref zhg, .int (bI rn)]) ++ List.replicate (3 - (lg_sl ([.ref zhg, .int (bI rn)])).length) Slot.unset).toArray = ls at hl ⊢
  have hl : lv_has ls 3 [(0, .ref zhg), (1, .int (bI rn))] := hl
  rw [f_X5_setEdge] at hf
  refine lv_aload_n hx hb dX5_setEdge_0 rfl (lv_at hl 0 rfl) ?_
  refine va_get (D := (dC, dI)) (ci := 4) (v := .ref zgr) (C := RX5) (T := TX5) (N := 5) hx hb hts hinX5 hown hK hP 0 rfl rfl 0 (by decide) hw0 (fun _ h9 => h9) rfl dX5_setEdge_1 ?_
  have hPc := hP.sub (ws' := [(zgr, .inr (2, [.int gG.1, .int gG.2.1, .int (bI gG.2.2.1), .long gG.2.2.2.1, .long gG.2.2.2.2.1, .long gG.2.2.2.2.2.1, .long gG.2.2.2.2.2.2.1, .long gG.2.2.2.2.2.2.2]))]) [1] rfl
  have hDc := hD.sub (ws' := [(zgr, .inr (2, [.int gG.1, .int gG.2.1, .int (bI gG.2.2.1), .long gG.2.2.2.1, .long gG.2.2.2.2.1, .long gG.2.2.2.2.2.1, .long gG.2.2.2.2.2.2.1, .long gG.2.2.2.2.2.2.2]))]) [1] (by decide) rfl
  have hFc := va_free (wc := [(zgr, .inr (2, [.int gG.1, .int gG.2.1, .int (bI gG.2.2.1), .long gG.2.2.2.1, .long gG.2.2.2.2.1, .long gG.2.2.2.2.2.1, .long gG.2.2.2.2.2.2.1, .long gG.2.2.2.2.2.2.2]))]) hD hS hA [1] rfl
  refine va_calli (va_runV (As := []) (rest := []) ⟨hx, hb, hml, hown, hts⟩ (c_X3_isRound l dC dI cI cJ zgr s.heap.size gG) (cwV 0 hts gX5_setEdge_X3_isRound rfl rfl rfl (by decide +kernel) ⟨Nat.le_of_ble_eq_true rfl, Nat.le_of_ble_eq_true rfl⟩) ⟨fun a U gg mk q => by obtain ⟨q0, q1, qP, qK, qD⟩ := q; exact ⟨q0, q1, qP, va_K.moved (u := U) (U := U.calling gg mk a) (Vm.Alike.refl U.vm) qK, qD⟩, va_recv hK hPc (ci := 2) (q0 := 0) rfl rfl, fun U hU hW => ⟨rfl, by rw [hU], by rw [hU]; exact hPc, va_K.moved hW.alike hK, hDc.weaken (fun _ _ _ _ => trivial)⟩⟩ rfl rfl hl.1 rfl (lv_room (Nat.le_of_ble_eq_true rfl)) dX5_setEdge_4 ⟨Nat.zero_le _, Nat.zero_le _⟩) hS (fun q _ h => hFc q h) hFc (fun r_ u_ t H locs ht hvm hw hB hz1 hk1 hS => ?_)
  obtain rfl := hw.symm
  obtain ⟨hP1, -, hD1⟩ := hB
  rw [ht] at hP1
  obtain ⟨hP, hD⟩ := va_join (wr := [(zhg, .inr (4, [.ref zgr, .ref zru, .ref zga, .ref zfo, .ref zco]))]) (w1 := [(zgr, .inr (2, [.int gG.1, .int gG.2.1, .int (bI gG.2.2.1), .long gG.2.2.2.1, .long gG.2.2.2.2.1, .long gG.2.2.2.2.2.1, .long gG.2.2.2.2.2.2.1, .long gG.2.2.2.2.2.2.2]))]) hP hD [1] [0] rfl rfl (by decide) (by decide) hk1 hFc hP1 hD1
  have hP := hP.sub (ws' := [(zhg, .inr (4, [.ref zgr, .ref zru, .ref zga, .ref zfo, .ref zco])), (zgr, .inr (2, [.int gG.1, .int gG.2.1, .int (bI gG.2.2.1), .long gG.2.2.2.1, .long gG.2.2.2.2.1, .long gG.2.2.2.2.2.1, .long gG.2.2.2.2.2.2.1, .long gG.2.2.2.2.2.2.2]))]) [0, 1] rfl
  have hD := hD.sub (ws' := [(zhg, .inr (4, [.ref zgr, .ref zru, .ref zga, .ref zfo, .ref zco])), (zgr, .inr (2, [.int gG.1, .int gG.2.1, .int (bI gG.2.2.1), .long gG.2.2.2.1, .long gG.2.2.2.2.1, .long gG.2.2.2.2.2.1, .long gG.2.2.2.2.2.2.1, .long gG.2.2.2.2.2.2.2]))]) [0, 1] (by decide) rfl
  clear hPc hDc hFc hP1 hD1 hk1
  refine lv_istore_n (lv' := [(2, .int (f_X3_isRound gG)), (0, .ref zhg), (1, .int (bI rn))]) hx hb dX5_setEdge_7 rfl hl (by decide) rfl (fun ls hl => ?_)
  refine lv_aload_n hx hb dX5_setEdge_8 rfl (lv_at hl 1 rfl) ?_
  refine va_get (D := (dC, dI)) (ci := 4) (v := .ref zgr) (C := RX5) (T := TX5) (N := 5) hx hb hts hinX5 hown hK hP 0 rfl rfl 0 (by decide) hw0 (fun _ h9 => h9) rfl dX5_setEdge_9 ?_
  refine lv_iload_n hx hb dX5_setEdge_12 rfl (lv_at hl 2 rfl) ?_
  have hPc := hP.sub (ws' := [(zgr, .inr (2, [.int gG.1, .int gG.2.1, .int (bI gG.2.2.1), .long gG.2.2.2.1, .long gG.2.2.2.2.1, .long gG.2.2.2.2.2.1, .long gG.2.2.2.2.2.2.1, .long gG.2.2.2.2.2.2.2]))]) [1] rfl
  have hDc := hD.sub (ws' := [(zgr, .inr (2, [.int gG.1, .int gG.2.1, .int (bI gG.2.2.1), .long gG.2.2.2.1, .long gG.2.2.2.2.1, .long gG.2.2.2.2.2.1, .long gG.2.2.2.2.2.2.1, .long gG.2.2.2.2.2.2.2]))]) [1] (by decide) rfl
  have hFc := va_free (wc := [(zgr, .inr (2, [.int gG.1, .int gG.2.1, .int (bI gG.2.2.1), .long gG.2.2.2.1, .long gG.2.2.2.2.1, .long gG.2.2.2.2.2.1, .long gG.2.2.2.2.2.2.1, .long gG.2.2.2.2.2.2.2]))]) hD hS hA [1] rfl
  refine va_callv (va_runV (As := [.int (bI rn)]) (rest := []) ⟨hx, hb, hml, hown, hts⟩ (c_X3_makeRound l dC dI cI cJ zgr H.size gG rn) (cwV 1 hts gX5_setEdge_X3_makeRound rfl rfl rfl (by decide +kernel) ⟨Nat.le_of_ble_eq_true rfl, Nat.le_of_ble_eq_true rfl⟩) ⟨fun a U gg mk q => by obtain ⟨q0, q1, qP, qK, qD⟩ := q; exact ⟨q0, q1, qP, va_K.moved (u := U) (U := U.calling gg mk a) (Vm.Alike.refl U.vm) qK, qD⟩, va_recv hK hPc (ci := 2) (q0 := 0) rfl rfl, fun U hU hW => ⟨rfl, by rw [hU], by rw [hU]; exact hPc, va_K.moved hW.alike hK, hDc.weaken (fun _ _ _ _ => trivial)⟩⟩ rfl rfl hl.1 rfl (lv_room (Nat.le_of_ble_eq_true rfl)) dX5_setEdge_13 ⟨Nat.zero_le _, Nat.zero_le _⟩) hS (fun q _ h => hFc q h) hFc (fun u_ t H locs ht hvm hw hB hz1 hk1 hS => ?_)
  obtain ⟨hP1, -, hD1⟩ := hB
  rw [ht] at hP1
  obtain ⟨hP, hD⟩ := va_join (wr := [(zhg, .inr (4, [.ref zgr, .ref zru, .ref zga, .ref zfo, .ref zco]))]) (w1 := [(zgr, .inr (2, [.int (f_X3_makeRound gG rn).1, .int (f_X3_makeRound gG rn).2.1, .int (bI (f_X3_makeRound gG rn).2.2.1), .long (f_X3_makeRound gG rn).2.2.2.1, .long (f_X3_makeRound gG rn).2.2.2.2.1, .long (f_X3_makeRound gG rn).2.2.2.2.2.1, .long (f_X3_makeRound gG rn).2.2.2.2.2.2.1, .long (f_X3_makeRound gG rn).2.2.2.2.2.2.2]))]) hP hD [1] [0] rfl rfl (by decide) (by decide) hk1 hFc hP1 hD1
  have hP := hP.sub (ws' := [(zhg, .inr (4, [.ref zgr, .ref zru, .ref zga, .ref zfo, .ref zco])), (zgr, .inr (2, [.int (f_X3_makeRound gG rn).1, .int (f_X3_makeRound gG rn).2.1, .int (bI (f_X3_makeRound gG rn).2.2.1), .long (f_X3_makeRound gG rn).2.2.2.1, .long (f_X3_makeRound gG rn).2.2.2.2.1, .long (f_X3_makeRound gG rn).2.2.2.2.2.1, .long (f_X3_makeRound gG rn).2.2.2.2.2.2.1, .long (f_X3_makeRound gG rn).2.2.2.2.2.2.2]))]) [0, 1] rfl
  have hD := hD.sub (ws' := [(zhg, .inr (4, [.ref zgr, .ref zru, .ref zga, .ref zfo, .ref zco])), (zgr, .inr (2, [.int (f_X3_makeRound gG rn).1, .int (f_X3_makeRound gG rn).2.1, .int (bI (f_X3_makeRound gG rn).2.2.1), .long (f_X3_makeRound gG rn).2.2.2.1, .long (f_X3_makeRound gG rn).2.2.2.2.1, .long (f_X3_makeRound gG rn).2.2.2.2.2.1, .long (f_X3_makeRound gG rn).2.2.2.2.2.2.1, .long (f_X3_makeRound gG rn).2.2.2.2.2.2.2]))]) [0, 1] (by decide) rfl
  clear hPc hDc hFc hP1 hD1 hk1
  refine lv_iload_n hx hb dX5_setEdge_16 rfl (lv_at hl 0 rfl) ?_
  obtain rfl := hf
  exact W.zret (v := (f_X3_isRound gG)) (ty := .boolean) hx hb hr (bI_nar _) (fun t ht hW => ⟨⟨(f_X3_isRound gG), (), rfl, rfl, by rw [ht]; exact hP, va_K.moved hW.alike hK, hD⟩, hS.F ht⟩) hS.2.2 dX5_setEdge_17
/-! HedgeGliders.digest()J -/
def lp_X5_digest_6 (gG : GrS) (rR : RuS) (dG : GaS) (aG : Nat → Int32) : Nat → Int64 → Int32 → Option (Int64)
  | 0, _, _ => none
  | nf + 1, y8, y9 => if 11 ≤ y9 then (some y8) else (Option.bind (f_X5_counted gG rR dG aG y9) fun r11 => lp_X5_digest_6 gG rR dG aG nf ((y8 * 31) + (Int32.toInt64 r11)) (y9 + 1))
def lp_X5_digest_96 (gG : GrS) (rR : RuS) (dG : GaS) (aG : Nat → Int32) (y120 : Int32) (y154 : Int32) : Nat → Int64 → Int32 → Option (Int64)
  | 0, _, _ => none
  | nf + 1, y163, y164 => if 5 ≤ y164 then (some y163) else (Option.bind (f_X5_fact gG rR dG aG y154 y120 y164) fun r166 => lp_X5_digest_96 gG rR dG aG y120 y154 nf ((y163 * 31) + (Int32.toInt64 r166)) (y164 + 1))
def lp_X5_digest_81 (gG : GrS) (rR : RuS) (dG : GaS) (aG : Nat → Int32) (y120 : Int32) : Nat → Int64 → Int32 → Option (Int64)
  | 0, _, _ => none
  | nf + 1, y153, y154 => if (f_X3_wide gG) ≤ y154 then (some y153) else (Option.bind (lp_X5_digest_96 gG rR dG aG y120 y154 100 y153 0) fun v168 => lp_X5_digest_81 gG rR dG aG y120 nf v168 (y154 + 1))
def lp_X5_digest_67 (gG : GrS) (rR : RuS) (dG : GaS) (aG : Nat → Int32) : Nat → Int64 → Int32 → Option (Int64)
  | 0, _, _ => none
  | nf + 1, y119, y120 => if (f_X3_high gG) ≤ y120 then (some y119) else (Option.bind (lp_X5_digest_81 gG rR dG aG y120 100 y119 0) fun v170 => lp_X5_digest_67 gG rR dG aG nf v170 (y120 + 1))
def f_X5_digest (gG : GrS) (rR : RuS) (dG : GaS) (aG : Nat → Int32) : Option (Int64) := Option.bind (lp_X5_digest_6 gG rR dG aG 100 1597 0) fun v13 => bindv ((((v13 * 31) + (Int32.toInt64 (f_X4_births rR))) * 31) + (Int32.toInt64 (f_X4_stays rR))) fun x15 => Option.bind (lp_X5_digest_67 gG rR dG aG 100 x15 0) fun v172 => some v172
abbrev rm_X5_digest : Room := ({ frames := 6, cells := 0, slots := 0, locals := 147 } : Room)
abbrev A_X5_digest (cI cJ : ClassId) (zhg zgr zru zcr zga zag zfo zco : Nat) (gG : GrS) (rR : RuS) (dG : GaS) (aG : Nat → Int32) (qC : CrS) (sz : Nat) : Nat → Prop := va_A [(zhg, .inr (4, [.ref zgr, .ref zru, .ref zga, .ref zfo, .ref zco])), (zgr, .inr (2, [.int gG.1, .int gG.2.1, .int (bI gG.2.2.1), .long gG.2.2.2.1, .long gG.2.2.2.2.1, .long gG.2.2.2.2.2.1, .long gG.2.2.2.2.2.2.1, .long gG.2.2.2.2.2.2.2])), (zru, .inr (3, [.ref zgr, .ref zcr, .int rR.1, .int rR.2])), (zcr, .inr (0, [.long qC.1, .long qC.2.1, .long qC.2.2.1, .long qC.2.2.2])), (zga, .inr (1, [.ref zgr, .ref zru, .ref zag, .long dG.1, .int dG.2.1, .int dG.2.2.1, .int dG.2.2.2])), (zag, .inl (cI, 64, .inl aG))] sz
abbrev Q_X5_digest (dC : Nat → ClassId) (dI : Nat → Nat → Nat) (cI cJ : ClassId) (zhg zgr zru zcr zga zag zfo zco : Nat) (gG : GrS) (rR : RuS) (dG : GaS) (aG : Nat → Int32) (qC : CrS) (sz : Nat) (R : Int64) : Array Value → State → Outcome → State → Prop := va_Ql (fun (r : Int64) (_ : CrS) => r = R) (fun u_ t => va_P (dC, dI) vwCl [(zhg, .inr (4, [.ref zgr, .ref zru, .ref zga, .ref zfo, .ref zco])), (zgr, .inr (2, [.int gG.1, .int gG.2.1, .int (bI gG.2.2.1), .long gG.2.2.2.1, .long gG.2.2.2.2.1, .long gG.2.2.2.2.2.1, .long gG.2.2.2.2.2.2.1, .long gG.2.2.2.2.2.2.2])), (zru, .inr (3, [.ref zgr, .ref zcr, .int rR.1, .int rR.2])), (zcr, .inr (0, [.long u_.1, .long u_.2.1, .long u_.2.2.1, .long u_.2.2.2])), (zga, .inr (1, [.ref zgr, .ref zru, .ref zag, .long dG.1, .int dG.2.1, .int dG.2.2.1, .int dG.2.2.2])), (zag, .inl (cI, 64, .inl aG))] t.heap ∧ va_K (dC, dI) vwCl [(cI, .int), (cJ, .long)] t ∧ va_D (A_X5_digest cI cJ zhg zgr zru zcr zga zag zfo zco gG rR dG aG qC sz) [(zhg, .inr (4, [.ref zgr, .ref zru, .ref zga, .ref zfo, .ref zco])), (zgr, .inr (2, [.int gG.1, .int gG.2.1, .int (bI gG.2.2.1), .long gG.2.2.2.1, .long gG.2.2.2.2.1, .long gG.2.2.2.2.2.1, .long gG.2.2.2.2.2.2.1, .long gG.2.2.2.2.2.2.2])), (zru, .inr (3, [.ref zgr, .ref zcr, .int rR.1, .int rR.2])), (zcr, .inr (0, [.long u_.1, .long u_.2.1, .long u_.2.2.1, .long u_.2.2.2])), (zga, .inr (1, [.ref zgr, .ref zru, .ref zag, .long dG.1, .int dG.2.1, .int dG.2.2.1, .int dG.2.2.2])), (zag, .inl (cI, 64, .inl aG))]) (A_X5_digest cI cJ zhg zgr zru zcr zga zag zfo zco gG rR dG aG qC sz)
set_option maxHeartbeats 4000000 in
set_option maxRecDepth 100000 in
theorem c_X5_digest (l : Launch) (dC : Nat → ClassId) (dI : Nat → Nat → Nat) (cI cJ : ClassId) (zhg zgr zru zcr zga zag zfo zco : Nat) (sz : Nat) (gG : GrS) (rR : RuS) (dG : GaS) (aG : Nat → Int32) (qC : CrS) (R : Int64) (hR : f_X5_digest gG rR dG aG = some R) : Met l yX5_digest wsX5_digest rm_X5_digest (va_Pc [.ref zhg] (fun U => U.heap.size = sz ∧ va_P (dC, dI) vwCl [(zhg, .inr (4, [.ref zgr, .ref zru, .ref zga, .ref zfo, .ref zco])), (zgr, .inr (2, [.int gG.1, .int gG.2.1, .int (bI gG.2.2.1), .long gG.2.2.2.1, .long gG.2.2.2.2.1, .long gG.2.2.2.2.2.1, .long gG.2.2.2.2.2.2.1, .long gG.2.2.2.2.2.2.2])), (zru, .inr (3, [.ref zgr, .ref zcr, .int rR.1, .int rR.2])), (zcr, .inr (0, [.long qC.1, .long qC.2.1, .long qC.2.2.1, .long qC.2.2.2])), (zga, .inr (1, [.ref zgr, .ref zru, .ref zag, .long dG.1, .int dG.2.1, .int dG.2.2.1, .int dG.2.2.2])), (zag, .inl (cI, 64, .inl aG))] U.heap ∧ va_K (dC, dI) vwCl [(cI, .int), (cJ, .long)] U ∧ va_D (fun _ => True) [(zhg, .inr (4, [.ref zgr, .ref zru, .ref zga, .ref zfo, .ref zco])), (zgr, .inr (2, [.int gG.1, .int gG.2.1, .int (bI gG.2.2.1), .long gG.2.2.2.1, .long gG.2.2.2.2.1, .long gG.2.2.2.2.2.1, .long gG.2.2.2.2.2.2.1, .long gG.2.2.2.2.2.2.2])), (zru, .inr (3, [.ref zgr, .ref zcr, .int rR.1, .int rR.2])), (zcr, .inr (0, [.long qC.1, .long qC.2.1, .long qC.2.2.1, .long qC.2.2.2])), (zga, .inr (1, [.ref zgr, .ref zru, .ref zag, .long dG.1, .int dG.2.1, .int dG.2.2.1, .int dG.2.2.2])), (zag, .inl (cI, 64, .inl aG))])) (Q_X5_digest dC dI cI cJ zhg zgr zru zcr zga zag zfo zco gG rR dG aG qC sz R) 0 0 (A_X5_digest cI cJ zhg zgr zru zcr zga zag zfo zco gG rR dG aG qC sz) := by
  have hf := hR
  refine Met.ofW (cc := cX5_digest) (maxL := 6) (ret := (some .long)) (by decide) rfl ?_
  intro p e s m args below meth c s₁ B hml hv
  obtain ⟨hargs, hsz, hP, hK, hD0⟩ := hv
  have hx := B.exec
  have hb := B.bytes
  have hr := B.returns
  have hts := atoms_spec (ws := wsX5_digest) B.pre
  have hown : s.vm.findClass RX5 = some m.cls := findClass_of_methodNamed B.named
  have hlocks := B.notSynchronized
  subst hsz
  have hD : va_D (A_X5_digest cI cJ zhg zgr zru zcr zga zag zfo zco gG rR dG aG qC s.heap.size) [(zhg, .inr (4, [.ref zgr, .ref zru, .ref zga, .ref zfo, .ref zco])), (zgr, .inr (2, [.int gG.1, .int gG.2.1, .int (bI gG.2.2.1), .long gG.2.2.2.1, .long gG.2.2.2.2.1, .long gG.2.2.2.2.2.1, .long gG.2.2.2.2.2.2.1, .long gG.2.2.2.2.2.2.2])), (zru, .inr (3, [.ref zgr, .ref zcr, .int rR.1, .int rR.2])), (zcr, .inr (0, [.long qC.1, .long qC.2.1, .long qC.2.2.1, .long qC.2.2.2])), (zga, .inr (1, [.ref zgr, .ref zru, .ref zag, .long dG.1, .int dG.2.1, .int dG.2.2.1, .int dG.2.2.2])), (zag, .inl (cI, 64, .inl aG))] := hD0.self (sz := s.heap.size)
  have hA : ∀ q : Nat, s.heap.size ≤ q → (A_X5_digest cI cJ zhg zgr zru zcr zga zag zfo zco gG rR dG aG qC s.heap.size) q := fun q h => Or.inr h
  have hS : va_S (A_X5_digest cI cJ zhg zgr zru zcr zga zag zfo zco gG rR dG aG qC s.heap.size) s.heap s.heap [] := va_S.rf
  have hinX5 : ∀ w ∈ wsX50, w ∈ wsX5_digest := by decide +kernel
  have hw0 := hts (.constantLong RX5 205 (1597)) (by decide +kernel)
  have hw1 := hts (.constantLong RX5 207 (31)) (by decide +kernel)
  have hw2 := hts (.fieldLink RX5 30 "HedgeGliders" "garden" "LHedgeGliders$Garden;") (by decide +kernel)
  have hw3 := hts (.fieldLink RX5 21 "HedgeGliders" "rules" "LHedgeGliders$Rules;") (by decide +kernel)
  have hw4 := hts (.fieldLink RX5 10 "HedgeGliders" "ground" "LHedgeGliders$Ground;") (by decide +kernel)
  have hl := lv_entry ([.ref zhg]) (n := 6) (Nat.le_of_ble_eq_true rfl)
  have he0 : entryFrame m args 6 = entryFrame m ([.ref zhg] : List Value).toArray 6 := by rw [hargs]
  rw [he0, lg_entry_eq]
  generalize (lg_sl ([.ref zhg]) ++ List.replicate (6 - (lg_sl ([.ref zhg])).length) Slot.unset).toArray = ls at hl ⊢
  have hl : lv_has ls 6 [(0, .ref zhg)] := hl
  rw [f_X5_digest] at hf
  refine lv_ldc2 (v := 1597) hx hb hown hw0 dX5_digest_0 ?_
  refine lv_lstore_n (lv' := [(1, .long 1597), (0, .ref zhg)]) hx hb dX5_digest_3 rfl hl (by decide) rfl (fun ls hl => ?_)
  refine lv_iconst (v := 0) hx hb dX5_digest_4 (by decide) ?_
  refine lv_istore_n (lv' := [(3, .int 0), (1, .long 1597), (0, .ref zhg)]) hx hb dX5_digest_5 rfl hl (by decide) rfl (fun ls hl => ?_)
  obtain ⟨v13, hv, hf⟩ := obind hf
  have K174 : ∀ (u14 : CrS) (H : Heap) (locs : List Loc) (ls : Array Slot), va_P (dC, dI) vwCl [(zhg, .inr (4, [.ref zgr, .ref zru, .ref zga, .ref zfo, .ref zco])), (zgr, .inr (2, [.int gG.1, .int gG.2.1, .int (bI gG.2.2.1), .long gG.2.2.2.1, .long gG.2.2.2.2.1, .long gG.2.2.2.2.2.1, .long gG.2.2.2.2.2.2.1, .long gG.2.2.2.2.2.2.2])), (zru, .inr (3, [.ref zgr, .ref zcr, .int rR.1, .int rR.2])), (zcr, .inr (0, [.long u14.1, .long u14.2.1, .long u14.2.2.1, .long u14.2.2.2])), (zga, .inr (1, [.ref zgr, .ref zru, .ref zag, .long dG.1, .int dG.2.1, .int dG.2.2.1, .int dG.2.2.2])), (zag, .inl (cI, 64, .inl aG))] H → va_D (A_X5_digest cI cJ zhg zgr zru zcr zga zag zfo zco gG rR dG aG qC s.heap.size) [(zhg, .inr (4, [.ref zgr, .ref zru, .ref zga, .ref zfo, .ref zco])), (zgr, .inr (2, [.int gG.1, .int gG.2.1, .int (bI gG.2.2.1), .long gG.2.2.2.1, .long gG.2.2.2.2.1, .long gG.2.2.2.2.2.1, .long gG.2.2.2.2.2.2.1, .long gG.2.2.2.2.2.2.2])), (zru, .inr (3, [.ref zgr, .ref zcr, .int rR.1, .int rR.2])), (zcr, .inr (0, [.long u14.1, .long u14.2.1, .long u14.2.2.1, .long u14.2.2.2])), (zga, .inr (1, [.ref zgr, .ref zru, .ref zag, .long dG.1, .int dG.2.1, .int dG.2.2.1, .int dG.2.2.2])), (zag, .inl (cI, 64, .inl aG))] → va_S (A_X5_digest cI cJ zhg zgr zru zcr zga zag zfo zco gG rR dG aG qC s.heap.size) s.heap H locs → lv_has ls 6 [(0, .ref zhg), (1, .long v13)] → W p l e rm_X5_digest s m args below meth c H locs 0 0 (MQ below (Q_X5_digest dC dI cI cJ zhg zgr zru zcr zga zag zfo zco gG rR dG aG qC s.heap.size R) args s 0 0 (A_X5_digest cI cJ zhg zgr zru zcr zga zag zfo zco gG rR dG aG qC s.heap.size)) (F0 m 35 ls []) := by
    intro u14 H locs ls hP hD hS hl
    refine lv_lload_n hx hb dX5_digest_35 rfl (lv_at hl 1 rfl) ?_
    refine lv_ldc2 (v := 31) hx hb hown hw1 dX5_digest_36 ?_
    refine lv_lmul hx hb dX5_digest_39 ?_
    refine lv_aload_n hx hb dX5_digest_40 rfl (lv_at hl 0 rfl) ?_
    refine va_get (D := (dC, dI)) (ci := 4) (v := .ref zru) (C := RX5) (T := TX5) (N := 5) hx hb hts hinX5 hown hK hP 0 rfl rfl 1 (by decide) hw3 (fun _ h9 => h9) rfl dX5_digest_41 ?_
    have hPc := hP.sub (ws' := [(zru, .inr (3, [.ref zgr, .ref zcr, .int rR.1, .int rR.2]))]) [2] rfl
    have hDc := hD.sub (ws' := [(zru, .inr (3, [.ref zgr, .ref zcr, .int rR.1, .int rR.2]))]) [2] (by decide) rfl
    have hFc := va_free (wc := [(zru, .inr (3, [.ref zgr, .ref zcr, .int rR.1, .int rR.2]))]) hD hS hA [2] rfl
    refine va_calli (va_runV (As := []) (rest := [.long (v13 * 31)]) ⟨hx, hb, hml, hown, hts⟩ (c_X4_births l dC dI cI cJ zru zgr zcr H.size rR) (cwV 0 hts gX5_digest_X4_births rfl rfl rfl (by decide +kernel) ⟨Nat.le_of_ble_eq_true rfl, Nat.le_of_ble_eq_true rfl⟩) ⟨fun a U gg mk q => by obtain ⟨q0, q1, qP, qK, qD⟩ := q; exact ⟨q0, q1, qP, va_K.moved (u := U) (U := U.calling gg mk a) (Vm.Alike.refl U.vm) qK, qD⟩, va_recv hK hPc (ci := 3) (q0 := 0) rfl rfl, fun U hU hW => ⟨rfl, by rw [hU], by rw [hU]; exact hPc, va_K.moved hW.alike hK, hDc.weaken (fun _ _ _ _ => trivial)⟩⟩ rfl rfl hl.1 rfl (lv_room (Nat.le_of_ble_eq_true rfl)) dX5_digest_44 ⟨Nat.zero_le _, Nat.zero_le _⟩) hS (fun q _ h => hFc q h) hFc (fun r_ u_ t H locs ht hvm hw hB hz1 hk1 hS => ?_)
    obtain rfl := hw.symm
    obtain ⟨hP1, -, hD1⟩ := hB
    rw [ht] at hP1
    obtain ⟨hP, hD⟩ := va_join (wr := [(zhg, .inr (4, [.ref zgr, .ref zru, .ref zga, .ref zfo, .ref zco])), (zgr, .inr (2, [.int gG.1, .int gG.2.1, .int (bI gG.2.2.1), .long gG.2.2.2.1, .long gG.2.2.2.2.1, .long gG.2.2.2.2.2.1, .long gG.2.2.2.2.2.2.1, .long gG.2.2.2.2.2.2.2])), (zcr, .inr (0, [.long u14.1, .long u14.2.1, .long u14.2.2.1, .long u14.2.2.2])), (zga, .inr (1, [.ref zgr, .ref zru, .ref zag, .long dG.1, .int dG.2.1, .int dG.2.2.1, .int dG.2.2.2])), (zag, .inl (cI, 64, .inl aG))]) (w1 := [(zru, .inr (3, [.ref zgr, .ref zcr, .int rR.1, .int rR.2]))]) hP hD [2] [0, 1, 3, 4, 5] rfl rfl (by decide) (by decide) hk1 hFc hP1 hD1
    have hP := hP.sub (ws' := [(zhg, .inr (4, [.ref zgr, .ref zru, .ref zga, .ref zfo, .ref zco])), (zgr, .inr (2, [.int gG.1, .int gG.2.1, .int (bI gG.2.2.1), .long gG.2.2.2.1, .long gG.2.2.2.2.1, .long gG.2.2.2.2.2.1, .long gG.2.2.2.2.2.2.1, .long gG.2.2.2.2.2.2.2])), (zru, .inr (3, [.ref zgr, .ref zcr, .int rR.1, .int rR.2])), (zcr, .inr (0, [.long u14.1, .long u14.2.1, .long u14.2.2.1, .long u14.2.2.2])), (zga, .inr (1, [.ref zgr, .ref zru, .ref zag, .long dG.1, .int dG.2.1, .int dG.2.2.1, .int dG.2.2.2])), (zag, .inl (cI, 64, .inl aG))]) [0, 1, 5, 2, 3, 4] rfl
    have hD := hD.sub (ws' := [(zhg, .inr (4, [.ref zgr, .ref zru, .ref zga, .ref zfo, .ref zco])), (zgr, .inr (2, [.int gG.1, .int gG.2.1, .int (bI gG.2.2.1), .long gG.2.2.2.1, .long gG.2.2.2.2.1, .long gG.2.2.2.2.2.1, .long gG.2.2.2.2.2.2.1, .long gG.2.2.2.2.2.2.2])), (zru, .inr (3, [.ref zgr, .ref zcr, .int rR.1, .int rR.2])), (zcr, .inr (0, [.long u14.1, .long u14.2.1, .long u14.2.2.1, .long u14.2.2.2])), (zga, .inr (1, [.ref zgr, .ref zru, .ref zag, .long dG.1, .int dG.2.1, .int dG.2.2.1, .int dG.2.2.2])), (zag, .inl (cI, 64, .inl aG))]) [0, 1, 5, 2, 3, 4] (by decide) rfl
    clear hPc hDc hFc hP1 hD1 hk1
    refine lv_i2l (v := (Int32.toInt64 (f_X4_births rR))) hx hb dX5_digest_47 rfl ?_
    refine lv_ladd hx hb dX5_digest_48 ?_
    refine lv_lstore_n (lv' := [(1, .long ((v13 * 31) + (Int32.toInt64 (f_X4_births rR)))), (0, .ref zhg)]) hx hb dX5_digest_49 rfl hl (by decide) rfl (fun ls hl => ?_)
    refine lv_lload_n hx hb dX5_digest_50 rfl (lv_at hl 0 rfl) ?_
    refine lv_ldc2 (v := 31) hx hb hown hw1 dX5_digest_51 ?_
    refine lv_lmul hx hb dX5_digest_54 ?_
    refine lv_aload_n hx hb dX5_digest_55 rfl (lv_at hl 1 rfl) ?_
    refine va_get (D := (dC, dI)) (ci := 4) (v := .ref zru) (C := RX5) (T := TX5) (N := 5) hx hb hts hinX5 hown hK hP 0 rfl rfl 1 (by decide) hw3 (fun _ h9 => h9) rfl dX5_digest_56 ?_
    have hPc := hP.sub (ws' := [(zru, .inr (3, [.ref zgr, .ref zcr, .int rR.1, .int rR.2]))]) [2] rfl
    have hDc := hD.sub (ws' := [(zru, .inr (3, [.ref zgr, .ref zcr, .int rR.1, .int rR.2]))]) [2] (by decide) rfl
    have hFc := va_free (wc := [(zru, .inr (3, [.ref zgr, .ref zcr, .int rR.1, .int rR.2]))]) hD hS hA [2] rfl
    refine va_calli (va_runV (As := []) (rest := [.long (((v13 * 31) + (Int32.toInt64 (f_X4_births rR))) * 31)]) ⟨hx, hb, hml, hown, hts⟩ (c_X4_stays l dC dI cI cJ zru zgr zcr H.size rR) (cwV 0 hts gX5_digest_X4_stays rfl rfl rfl (by decide +kernel) ⟨Nat.le_of_ble_eq_true rfl, Nat.le_of_ble_eq_true rfl⟩) ⟨fun a U gg mk q => by obtain ⟨q0, q1, qP, qK, qD⟩ := q; exact ⟨q0, q1, qP, va_K.moved (u := U) (U := U.calling gg mk a) (Vm.Alike.refl U.vm) qK, qD⟩, va_recv hK hPc (ci := 3) (q0 := 0) rfl rfl, fun U hU hW => ⟨rfl, by rw [hU], by rw [hU]; exact hPc, va_K.moved hW.alike hK, hDc.weaken (fun _ _ _ _ => trivial)⟩⟩ rfl rfl hl.1 rfl (lv_room (Nat.le_of_ble_eq_true rfl)) dX5_digest_59 ⟨Nat.zero_le _, Nat.zero_le _⟩) hS (fun q _ h => hFc q h) hFc (fun r_ u_ t H locs ht hvm hw hB hz1 hk1 hS => ?_)
    obtain rfl := hw.symm
    obtain ⟨hP1, -, hD1⟩ := hB
    rw [ht] at hP1
    obtain ⟨hP, hD⟩ := va_join (wr := [(zhg, .inr (4, [.ref zgr, .ref zru, .ref zga, .ref zfo, .ref zco])), (zgr, .inr (2, [.int gG.1, .int gG.2.1, .int (bI gG.2.2.1), .long gG.2.2.2.1, .long gG.2.2.2.2.1, .long gG.2.2.2.2.2.1, .long gG.2.2.2.2.2.2.1, .long gG.2.2.2.2.2.2.2])), (zcr, .inr (0, [.long u14.1, .long u14.2.1, .long u14.2.2.1, .long u14.2.2.2])), (zga, .inr (1, [.ref zgr, .ref zru, .ref zag, .long dG.1, .int dG.2.1, .int dG.2.2.1, .int dG.2.2.2])), (zag, .inl (cI, 64, .inl aG))]) (w1 := [(zru, .inr (3, [.ref zgr, .ref zcr, .int rR.1, .int rR.2]))]) hP hD [2] [0, 1, 3, 4, 5] rfl rfl (by decide) (by decide) hk1 hFc hP1 hD1
    have hP := hP.sub (ws' := [(zhg, .inr (4, [.ref zgr, .ref zru, .ref zga, .ref zfo, .ref zco])), (zgr, .inr (2, [.int gG.1, .int gG.2.1, .int (bI gG.2.2.1), .long gG.2.2.2.1, .long gG.2.2.2.2.1, .long gG.2.2.2.2.2.1, .long gG.2.2.2.2.2.2.1, .long gG.2.2.2.2.2.2.2])), (zru, .inr (3, [.ref zgr, .ref zcr, .int rR.1, .int rR.2])), (zcr, .inr (0, [.long u14.1, .long u14.2.1, .long u14.2.2.1, .long u14.2.2.2])), (zga, .inr (1, [.ref zgr, .ref zru, .ref zag, .long dG.1, .int dG.2.1, .int dG.2.2.1, .int dG.2.2.2])), (zag, .inl (cI, 64, .inl aG))]) [0, 1, 5, 2, 3, 4] rfl
    have hD := hD.sub (ws' := [(zhg, .inr (4, [.ref zgr, .ref zru, .ref zga, .ref zfo, .ref zco])), (zgr, .inr (2, [.int gG.1, .int gG.2.1, .int (bI gG.2.2.1), .long gG.2.2.2.1, .long gG.2.2.2.2.1, .long gG.2.2.2.2.2.1, .long gG.2.2.2.2.2.2.1, .long gG.2.2.2.2.2.2.2])), (zru, .inr (3, [.ref zgr, .ref zcr, .int rR.1, .int rR.2])), (zcr, .inr (0, [.long u14.1, .long u14.2.1, .long u14.2.2.1, .long u14.2.2.2])), (zga, .inr (1, [.ref zgr, .ref zru, .ref zag, .long dG.1, .int dG.2.1, .int dG.2.2.1, .int dG.2.2.2])), (zag, .inl (cI, 64, .inl aG))]) [0, 1, 5, 2, 3, 4] (by decide) rfl
    clear hPc hDc hFc hP1 hD1 hk1
    refine lv_i2l (v := (Int32.toInt64 (f_X4_stays rR))) hx hb dX5_digest_62 rfl ?_
    refine lv_ladd hx hb dX5_digest_63 ?_
    obtain ⟨x15, hx15, hf⟩ := vbind hf
    refine topl_e hx15 ?_
    refine lv_lstore_n (lv' := [(1, .long x15), (0, .ref zhg)]) hx hb dX5_digest_64 rfl hl (by decide) rfl (fun ls hl => ?_)
    refine lv_iconst (v := 0) hx hb dX5_digest_65 (by decide) ?_
    refine lv_istore_n (lv' := [(3, .int 0), (1, .long x15), (0, .ref zhg)]) hx hb dX5_digest_66 rfl hl (by decide) rfl (fun ls hl => ?_)
    obtain ⟨v172, hv, hf⟩ := obind hf
    have K175 : ∀ (u173 : CrS) (H : Heap) (locs : List Loc) (ls : Array Slot), va_P (dC, dI) vwCl [(zhg, .inr (4, [.ref zgr, .ref zru, .ref zga, .ref zfo, .ref zco])), (zgr, .inr (2, [.int gG.1, .int gG.2.1, .int (bI gG.2.2.1), .long gG.2.2.2.1, .long gG.2.2.2.2.1, .long gG.2.2.2.2.2.1, .long gG.2.2.2.2.2.2.1, .long gG.2.2.2.2.2.2.2])), (zru, .inr (3, [.ref zgr, .ref zcr, .int rR.1, .int rR.2])), (zcr, .inr (0, [.long u173.1, .long u173.2.1, .long u173.2.2.1, .long u173.2.2.2])), (zga, .inr (1, [.ref zgr, .ref zru, .ref zag, .long dG.1, .int dG.2.1, .int dG.2.2.1, .int dG.2.2.2])), (zag, .inl (cI, 64, .inl aG))] H → va_D (A_X5_digest cI cJ zhg zgr zru zcr zga zag zfo zco gG rR dG aG qC s.heap.size) [(zhg, .inr (4, [.ref zgr, .ref zru, .ref zga, .ref zfo, .ref zco])), (zgr, .inr (2, [.int gG.1, .int gG.2.1, .int (bI gG.2.2.1), .long gG.2.2.2.1, .long gG.2.2.2.2.1, .long gG.2.2.2.2.2.1, .long gG.2.2.2.2.2.2.1, .long gG.2.2.2.2.2.2.2])), (zru, .inr (3, [.ref zgr, .ref zcr, .int rR.1, .int rR.2])), (zcr, .inr (0, [.long u173.1, .long u173.2.1, .long u173.2.2.1, .long u173.2.2.2])), (zga, .inr (1, [.ref zgr, .ref zru, .ref zag, .long dG.1, .int dG.2.1, .int dG.2.2.1, .int dG.2.2.2])), (zag, .inl (cI, 64, .inl aG))] → va_S (A_X5_digest cI cJ zhg zgr zru zcr zga zag zfo zco gG rR dG aG qC s.heap.size) s.heap H locs → lv_has ls 6 [(1, .long v172)] → W p l e rm_X5_digest s m args below meth c H locs 0 0 (MQ below (Q_X5_digest dC dI cI cJ zhg zgr zru zcr zga zag zfo zco gG rR dG aG qC s.heap.size R) args s 0 0 (A_X5_digest cI cJ zhg zgr zru zcr zga zag zfo zco gG rR dG aG qC s.heap.size)) (F0 m 137 ls []) := by
      intro u173 H locs ls hP hD hS hl
      refine lv_lload_n hx hb dX5_digest_137 rfl (lv_at hl 0 rfl) ?_
      obtain rfl := Option.some.inj hf
      exact W.lret (v := v172) hx hb hr (fun t ht hW => ⟨⟨v172, (u173), rfl, rfl, by rw [ht]; exact hP, va_K.moved hW.alike hK, hD⟩, hS.F ht⟩) hS.2.2 dX5_digest_138
    have lp176 : ∀ (nf : Nat) (y119 : Int64) (y120 : Int32) (u121 : CrS) (H : Heap) (locs : List Loc) (ls : Array Slot), lp_X5_digest_67 gG rR dG aG nf y119 y120 = some v172 → va_P (dC, dI) vwCl [(zhg, .inr (4, [.ref zgr, .ref zru, .ref zga, .ref zfo, .ref zco])), (zgr, .inr (2, [.int gG.1, .int gG.2.1, .int (bI gG.2.2.1), .long gG.2.2.2.1, .long gG.2.2.2.2.1, .long gG.2.2.2.2.2.1, .long gG.2.2.2.2.2.2.1, .long gG.2.2.2.2.2.2.2])), (zru, .inr (3, [.ref zgr, .ref zcr, .int rR.1, .int rR.2])), (zcr, .inr (0, [.long u121.1, .long u121.2.1, .long u121.2.2.1, .long u121.2.2.2])), (zga, .inr (1, [.ref zgr, .ref zru, .ref zag, .long dG.1, .int dG.2.1, .int dG.2.2.1, .int dG.2.2.2])), (zag, .inl (cI, 64, .inl aG))] H → va_D (A_X5_digest cI cJ zhg zgr zru zcr zga zag zfo zco gG rR dG aG qC s.heap.size) [(zhg, .inr (4, [.ref zgr, .ref zru, .ref zga, .ref zfo, .ref zco])), (zgr, .inr (2, [.int gG.1, .int gG.2.1, .int (bI gG.2.2.1), .long gG.2.2.2.1, .long gG.2.2.2.2.1, .long gG.2.2.2.2.2.1, .long gG.2.2.2.2.2.2.1, .long gG.2.2.2.2.2.2.2])), (zru, .inr (3, [.ref zgr, .ref zcr, .int rR.1, .int rR.2])), (zcr, .inr (0, [.long u121.1, .long u121.2.1, .long u121.2.2.1, .long u121.2.2.2])), (zga, .inr (1, [.ref zgr, .ref zru, .ref zag, .long dG.1, .int dG.2.1, .int dG.2.2.1, .int dG.2.2.2])), (zag, .inl (cI, 64, .inl aG))] → va_S (A_X5_digest cI cJ zhg zgr zru zcr zga zag zfo zco gG rR dG aG qC s.heap.size) s.heap H locs → lv_has ls 6 [(0, .ref zhg), (1, .long y119), (3, .int y120)] → W p l e rm_X5_digest s m args below meth c H locs 0 0 (MQ below (Q_X5_digest dC dI cI cJ zhg zgr zru zcr zga zag zfo zco gG rR dG aG qC s.heap.size R) args s 0 0 (A_X5_digest cI cJ zhg zgr zru zcr zga zag zfo zco gG rR dG aG qC s.heap.size)) (F0 m 67 ls []) := by
      intro nf
      induction nf with
      | zero => intro y119 y120 u121 H locs ls h9; exact nomatch h9
      | succ nf ih177 =>
        intro y119 y120 u121 H locs ls hf hP hD hS hl
        rw [lp_X5_digest_67.eq_2] at hf
        refine lv_iload_n hx hb dX5_digest_67 rfl (lv_at hl 2 rfl) ?_
        refine lv_aload_n hx hb dX5_digest_68 rfl (lv_at hl 0 rfl) ?_
        refine va_get (D := (dC, dI)) (ci := 4) (v := .ref zgr) (C := RX5) (T := TX5) (N := 5) hx hb hts hinX5 hown hK hP 0 rfl rfl 0 (by decide) hw4 (fun _ h9 => h9) rfl dX5_digest_69 ?_
        have hPc := hP.sub (ws' := [(zgr, .inr (2, [.int gG.1, .int gG.2.1, .int (bI gG.2.2.1), .long gG.2.2.2.1, .long gG.2.2.2.2.1, .long gG.2.2.2.2.2.1, .long gG.2.2.2.2.2.2.1, .long gG.2.2.2.2.2.2.2]))]) [1] rfl
        have hDc := hD.sub (ws' := [(zgr, .inr (2, [.int gG.1, .int gG.2.1, .int (bI gG.2.2.1), .long gG.2.2.2.1, .long gG.2.2.2.2.1, .long gG.2.2.2.2.2.1, .long gG.2.2.2.2.2.2.1, .long gG.2.2.2.2.2.2.2]))]) [1] (by decide) rfl
        have hFc := va_free (wc := [(zgr, .inr (2, [.int gG.1, .int gG.2.1, .int (bI gG.2.2.1), .long gG.2.2.2.1, .long gG.2.2.2.2.1, .long gG.2.2.2.2.2.1, .long gG.2.2.2.2.2.2.1, .long gG.2.2.2.2.2.2.2]))]) hD hS hA [1] rfl
        refine va_calli (va_runV (As := []) (rest := [.int y120]) ⟨hx, hb, hml, hown, hts⟩ (c_X3_high l dC dI cI cJ zgr H.size gG) (cwV 0 hts gX5_digest_X3_high rfl rfl rfl (by decide +kernel) ⟨Nat.le_of_ble_eq_true rfl, Nat.le_of_ble_eq_true rfl⟩) ⟨fun a U gg mk q => by obtain ⟨q0, q1, qP, qK, qD⟩ := q; exact ⟨q0, q1, qP, va_K.moved (u := U) (U := U.calling gg mk a) (Vm.Alike.refl U.vm) qK, qD⟩, va_recv hK hPc (ci := 2) (q0 := 0) rfl rfl, fun U hU hW => ⟨rfl, by rw [hU], by rw [hU]; exact hPc, va_K.moved hW.alike hK, hDc.weaken (fun _ _ _ _ => trivial)⟩⟩ rfl rfl hl.1 rfl (lv_room (Nat.le_of_ble_eq_true rfl)) dX5_digest_72 ⟨Nat.zero_le _, Nat.zero_le _⟩) hS (fun q _ h => hFc q h) hFc (fun r_ u_ t H locs ht hvm hw hB hz1 hk1 hS => ?_)
        obtain rfl := hw.symm
        obtain ⟨hP1, -, hD1⟩ := hB
        rw [ht] at hP1
        obtain ⟨hP, hD⟩ := va_join (wr := [(zhg, .inr (4, [.ref zgr, .ref zru, .ref zga, .ref zfo, .ref zco])), (zru, .inr (3, [.ref zgr, .ref zcr, .int rR.1, .int rR.2])), (zcr, .inr (0, [.long u121.1, .long u121.2.1, .long u121.2.2.1, .long u121.2.2.2])), (zga, .inr (1, [.ref zgr, .ref zru, .ref zag, .long dG.1, .int dG.2.1, .int dG.2.2.1, .int dG.2.2.2])), (zag, .inl (cI, 64, .inl aG))]) (w1 := [(zgr, .inr (2, [.int gG.1, .int gG.2.1, .int (bI gG.2.2.1), .long gG.2.2.2.1, .long gG.2.2.2.2.1, .long gG.2.2.2.2.2.1, .long gG.2.2.2.2.2.2.1, .long gG.2.2.2.2.2.2.2]))]) hP hD [1] [0, 2, 3, 4, 5] rfl rfl (by decide) (by decide) hk1 hFc hP1 hD1
        have hP := hP.sub (ws' := [(zhg, .inr (4, [.ref zgr, .ref zru, .ref zga, .ref zfo, .ref zco])), (zgr, .inr (2, [.int gG.1, .int gG.2.1, .int (bI gG.2.2.1), .long gG.2.2.2.1, .long gG.2.2.2.2.1, .long gG.2.2.2.2.2.1, .long gG.2.2.2.2.2.2.1, .long gG.2.2.2.2.2.2.2])), (zru, .inr (3, [.ref zgr, .ref zcr, .int rR.1, .int rR.2])), (zcr, .inr (0, [.long u121.1, .long u121.2.1, .long u121.2.2.1, .long u121.2.2.2])), (zga, .inr (1, [.ref zgr, .ref zru, .ref zag, .long dG.1, .int dG.2.1, .int dG.2.2.1, .int dG.2.2.2])), (zag, .inl (cI, 64, .inl aG))]) [0, 5, 1, 2, 3, 4] rfl
        have hD := hD.sub (ws' := [(zhg, .inr (4, [.ref zgr, .ref zru, .ref zga, .ref zfo, .ref zco])), (zgr, .inr (2, [.int gG.1, .int gG.2.1, .int (bI gG.2.2.1), .long gG.2.2.2.1, .long gG.2.2.2.2.1, .long gG.2.2.2.2.2.1, .long gG.2.2.2.2.2.2.1, .long gG.2.2.2.2.2.2.2])), (zru, .inr (3, [.ref zgr, .ref zcr, .int rR.1, .int rR.2])), (zcr, .inr (0, [.long u121.1, .long u121.2.1, .long u121.2.2.1, .long u121.2.2.2])), (zga, .inr (1, [.ref zgr, .ref zru, .ref zag, .long dG.1, .int dG.2.1, .int dG.2.2.1, .int dG.2.2.2])), (zag, .inl (cI, 64, .inl aG))]) [0, 5, 1, 2, 3, 4] (by decide) rfl
        clear hPc hDc hFc hP1 hD1 hk1
        refine lv_icmp_ge (tgt := 137) hx hb dX5_digest_75 (by decide) (fun hc => ?_) (fun hc => ?_)
        · rw [if_pos hc] at hf
          obtain rfl := Option.some.inj hf
          exact K175 u121 _ _ _ hP hD hS (lv_sub hl [1] rfl)
        · rw [if_neg hc] at hf
          refine lv_iconst (v := 0) hx hb dX5_digest_78 (by decide) ?_
          refine lv_istore (lv' := [(4, .int 0), (0, .ref zhg), (1, .long y119), (3, .int y120)]) hx hb dX5_digest_79 hl (by decide) rfl (fun ls hl => ?_)
          obtain ⟨v170, hv, hf⟩ := obind hf
          have K178 : ∀ (u171 : CrS) (H : Heap) (locs : List Loc) (ls : Array Slot), va_P (dC, dI) vwCl [(zhg, .inr (4, [.ref zgr, .ref zru, .ref zga, .ref zfo, .ref zco])), (zgr, .inr (2, [.int gG.1, .int gG.2.1, .int (bI gG.2.2.1), .long gG.2.2.2.1, .long gG.2.2.2.2.1, .long gG.2.2.2.2.2.1, .long gG.2.2.2.2.2.2.1, .long gG.2.2.2.2.2.2.2])), (zru, .inr (3, [.ref zgr, .ref zcr, .int rR.1, .int rR.2])), (zcr, .inr (0, [.long u171.1, .long u171.2.1, .long u171.2.2.1, .long u171.2.2.2])), (zga, .inr (1, [.ref zgr, .ref zru, .ref zag, .long dG.1, .int dG.2.1, .int dG.2.2.1, .int dG.2.2.2])), (zag, .inl (cI, 64, .inl aG))] H → va_D (A_X5_digest cI cJ zhg zgr zru zcr zga zag zfo zco gG rR dG aG qC s.heap.size) [(zhg, .inr (4, [.ref zgr, .ref zru, .ref zga, .ref zfo, .ref zco])), (zgr, .inr (2, [.int gG.1, .int gG.2.1, .int (bI gG.2.2.1), .long gG.2.2.2.1, .long gG.2.2.2.2.1, .long gG.2.2.2.2.2.1, .long gG.2.2.2.2.2.2.1, .long gG.2.2.2.2.2.2.2])), (zru, .inr (3, [.ref zgr, .ref zcr, .int rR.1, .int rR.2])), (zcr, .inr (0, [.long u171.1, .long u171.2.1, .long u171.2.2.1, .long u171.2.2.2])), (zga, .inr (1, [.ref zgr, .ref zru, .ref zag, .long dG.1, .int dG.2.1, .int dG.2.2.1, .int dG.2.2.2])), (zag, .inl (cI, 64, .inl aG))] → va_S (A_X5_digest cI cJ zhg zgr zru zcr zga zag zfo zco gG rR dG aG qC s.heap.size) s.heap H locs → lv_has ls 6 [(0, .ref zhg), (1, .long v170), (3, .int y120)] → W p l e rm_X5_digest s m args below meth c H locs 0 0 (MQ below (Q_X5_digest dC dI cI cJ zhg zgr zru zcr zga zag zfo zco gG rR dG aG qC s.heap.size R) args s 0 0 (A_X5_digest cI cJ zhg zgr zru zcr zga zag zfo zco gG rR dG aG qC s.heap.size)) (F0 m 131 ls []) := by
            intro u171 H locs ls hP hD hS hl
            refine lv_iinc (v := (y120 + 1)) (lv' := [(3, .int (y120 + 1)), (0, .ref zhg), (1, .long v170)]) hx hb dX5_digest_131 hl (k := 2) rfl rfl (by decide) rfl (fun ls hl => ?_)
            refine lv_goto (tgt := 67) hx hb dX5_digest_134 (by decide) ?_
            exact ih177 _ _ u171 _ _ _ hf hP hD hS (lv_sub hl [1, 2, 0] rfl)
          have lp179 : ∀ (nf : Nat) (y153 : Int64) (y154 : Int32) (u155 : CrS) (H : Heap) (locs : List Loc) (ls : Array Slot), lp_X5_digest_81 gG rR dG aG y120 nf y153 y154 = some v170 → va_P (dC, dI) vwCl [(zhg, .inr (4, [.ref zgr, .ref zru, .ref zga, .ref zfo, .ref zco])), (zgr, .inr (2, [.int gG.1, .int gG.2.1, .int (bI gG.2.2.1), .long gG.2.2.2.1, .long gG.2.2.2.2.1, .long gG.2.2.2.2.2.1, .long gG.2.2.2.2.2.2.1, .long gG.2.2.2.2.2.2.2])), (zru, .inr (3, [.ref zgr, .ref zcr, .int rR.1, .int rR.2])), (zcr, .inr (0, [.long u155.1, .long u155.2.1, .long u155.2.2.1, .long u155.2.2.2])), (zga, .inr (1, [.ref zgr, .ref zru, .ref zag, .long dG.1, .int dG.2.1, .int dG.2.2.1, .int dG.2.2.2])), (zag, .inl (cI, 64, .inl aG))] H → va_D (A_X5_digest cI cJ zhg zgr zru zcr zga zag zfo zco gG rR dG aG qC s.heap.size) [(zhg, .inr (4, [.ref zgr, .ref zru, .ref zga, .ref zfo, .ref zco])), (zgr, .inr (2, [.int gG.1, .int gG.2.1, .int (bI gG.2.2.1), .long gG.2.2.2.1, .long gG.2.2.2.2.1, .long gG.2.2.2.2.2.1, .long gG.2.2.2.2.2.2.1, .long gG.2.2.2.2.2.2.2])), (zru, .inr (3, [.ref zgr, .ref zcr, .int rR.1, .int rR.2])), (zcr, .inr (0, [.long u155.1, .long u155.2.1, .long u155.2.2.1, .long u155.2.2.2])), (zga, .inr (1, [.ref zgr, .ref zru, .ref zag, .long dG.1, .int dG.2.1, .int dG.2.2.1, .int dG.2.2.2])), (zag, .inl (cI, 64, .inl aG))] → va_S (A_X5_digest cI cJ zhg zgr zru zcr zga zag zfo zco gG rR dG aG qC s.heap.size) s.heap H locs → lv_has ls 6 [(0, .ref zhg), (1, .long y153), (3, .int y120), (4, .int y154)] → W p l e rm_X5_digest s m args below meth c H locs 0 0 (MQ below (Q_X5_digest dC dI cI cJ zhg zgr zru zcr zga zag zfo zco gG rR dG aG qC s.heap.size R) args s 0 0 (A_X5_digest cI cJ zhg zgr zru zcr zga zag zfo zco gG rR dG aG qC s.heap.size)) (F0 m 81 ls []) := by
            intro nf
            induction nf with
            | zero => intro y153 y154 u155 H locs ls h9; exact nomatch h9
            | succ nf ih180 =>
              intro y153 y154 u155 H locs ls hf hP hD hS hl
              rw [lp_X5_digest_81.eq_2] at hf
              refine lv_iload hx hb dX5_digest_81 (lv_at hl 3 rfl) ?_
              refine lv_aload_n hx hb dX5_digest_83 rfl (lv_at hl 0 rfl) ?_
              refine va_get (D := (dC, dI)) (ci := 4) (v := .ref zgr) (C := RX5) (T := TX5) (N := 5) hx hb hts hinX5 hown hK hP 0 rfl rfl 0 (by decide) hw4 (fun _ h9 => h9) rfl dX5_digest_84 ?_
              have hPc := hP.sub (ws' := [(zgr, .inr (2, [.int gG.1, .int gG.2.1, .int (bI gG.2.2.1), .long gG.2.2.2.1, .long gG.2.2.2.2.1, .long gG.2.2.2.2.2.1, .long gG.2.2.2.2.2.2.1, .long gG.2.2.2.2.2.2.2]))]) [1] rfl
              have hDc := hD.sub (ws' := [(zgr, .inr (2, [.int gG.1, .int gG.2.1, .int (bI gG.2.2.1), .long gG.2.2.2.1, .long gG.2.2.2.2.1, .long gG.2.2.2.2.2.1, .long gG.2.2.2.2.2.2.1, .long gG.2.2.2.2.2.2.2]))]) [1] (by decide) rfl
              have hFc := va_free (wc := [(zgr, .inr (2, [.int gG.1, .int gG.2.1, .int (bI gG.2.2.1), .long gG.2.2.2.1, .long gG.2.2.2.2.1, .long gG.2.2.2.2.2.1, .long gG.2.2.2.2.2.2.1, .long gG.2.2.2.2.2.2.2]))]) hD hS hA [1] rfl
              refine va_calli (va_runV (As := []) (rest := [.int y154]) ⟨hx, hb, hml, hown, hts⟩ (c_X3_wide l dC dI cI cJ zgr H.size gG) (cwV 0 hts gX5_digest_X3_wide rfl rfl rfl (by decide +kernel) ⟨Nat.le_of_ble_eq_true rfl, Nat.le_of_ble_eq_true rfl⟩) ⟨fun a U gg mk q => by obtain ⟨q0, q1, qP, qK, qD⟩ := q; exact ⟨q0, q1, qP, va_K.moved (u := U) (U := U.calling gg mk a) (Vm.Alike.refl U.vm) qK, qD⟩, va_recv hK hPc (ci := 2) (q0 := 0) rfl rfl, fun U hU hW => ⟨rfl, by rw [hU], by rw [hU]; exact hPc, va_K.moved hW.alike hK, hDc.weaken (fun _ _ _ _ => trivial)⟩⟩ rfl rfl hl.1 rfl (lv_room (Nat.le_of_ble_eq_true rfl)) dX5_digest_87 ⟨Nat.zero_le _, Nat.zero_le _⟩) hS (fun q _ h => hFc q h) hFc (fun r_ u_ t H locs ht hvm hw hB hz1 hk1 hS => ?_)
              obtain rfl := hw.symm
              obtain ⟨hP1, -, hD1⟩ := hB
              rw [ht] at hP1
              obtain ⟨hP, hD⟩ := va_join (wr := [(zhg, .inr (4, [.ref zgr, .ref zru, .ref zga, .ref zfo, .ref zco])), (zru, .inr (3, [.ref zgr, .ref zcr, .int rR.1, .int rR.2])), (zcr, .inr (0, [.long u155.1, .long u155.2.1, .long u155.2.2.1, .long u155.2.2.2])), (zga, .inr (1, [.ref zgr, .ref zru, .ref zag, .long dG.1, .int dG.2.1, .int dG.2.2.1, .int dG.2.2.2])), (zag, .inl (cI, 64, .inl aG))]) (w1 := [(zgr, .inr (2, [.int gG.1, .int gG.2.1, .int (bI gG.2.2.1), .long gG.2.2.2.1, .long gG.2.2.2.2.1, .long gG.2.2.2.2.2.1, .long gG.2.2.2.2.2.2.1, .long gG.2.2.2.2.2.2.2]))]) hP hD [1] [0, 2, 3, 4, 5] rfl rfl (by decide) (by decide) hk1 hFc hP1 hD1
              have hP := hP.sub (ws' := [(zhg, .inr (4, [.ref zgr, .ref zru, .ref zga, .ref zfo, .ref zco])), (zgr, .inr (2, [.int gG.1, .int gG.2.1, .int (bI gG.2.2.1), .long gG.2.2.2.1, .long gG.2.2.2.2.1, .long gG.2.2.2.2.2.1, .long gG.2.2.2.2.2.2.1, .long gG.2.2.2.2.2.2.2])), (zru, .inr (3, [.ref zgr, .ref zcr, .int rR.1, .int rR.2])), (zcr, .inr (0, [.long u155.1, .long u155.2.1, .long u155.2.2.1, .long u155.2.2.2])), (zga, .inr (1, [.ref zgr, .ref zru, .ref zag, .long dG.1, .int dG.2.1, .int dG.2.2.1, .int dG.2.2.2])), (zag, .inl (cI, 64, .inl aG))]) [0, 5, 1, 2, 3, 4] rfl
              have hD := hD.sub (ws' := [(zhg, .inr (4, [.ref zgr, .ref zru, .ref zga, .ref zfo, .ref zco])), (zgr, .inr (2, [.int gG.1, .int gG.2.1, .int (bI gG.2.2.1), .long gG.2.2.2.1, .long gG.2.2.2.2.1, .long gG.2.2.2.2.2.1, .long gG.2.2.2.2.2.2.1, .long gG.2.2.2.2.2.2.2])), (zru, .inr (3, [.ref zgr, .ref zcr, .int rR.1, .int rR.2])), (zcr, .inr (0, [.long u155.1, .long u155.2.1, .long u155.2.2.1, .long u155.2.2.2])), (zga, .inr (1, [.ref zgr, .ref zru, .ref zag, .long dG.1, .int dG.2.1, .int dG.2.2.1, .int dG.2.2.2])), (zag, .inl (cI, 64, .inl aG))]) [0, 5, 1, 2, 3, 4] (by decide) rfl
              clear hPc hDc hFc hP1 hD1 hk1
              refine lv_icmp_ge (tgt := 131) hx hb dX5_digest_90 (by decide) (fun hc => ?_) (fun hc => ?_)
              · rw [if_pos hc] at hf
                obtain rfl := Option.some.inj hf
                exact K178 u155 _ _ _ hP hD hS (lv_sub hl [0, 1, 2] rfl)
              · rw [if_neg hc] at hf
                refine lv_iconst (v := 0) hx hb dX5_digest_93 (by decide) ?_
                refine lv_istore (lv' := [(5, .int 0), (0, .ref zhg), (1, .long y153), (3, .int y120), (4, .int y154)]) hx hb dX5_digest_94 hl (by decide) rfl (fun ls hl => ?_)
                obtain ⟨v168, hv, hf⟩ := obind hf
                have K181 : ∀ (u169 : CrS) (H : Heap) (locs : List Loc) (ls : Array Slot), va_P (dC, dI) vwCl [(zhg, .inr (4, [.ref zgr, .ref zru, .ref zga, .ref zfo, .ref zco])), (zgr, .inr (2, [.int gG.1, .int gG.2.1, .int (bI gG.2.2.1), .long gG.2.2.2.1, .long gG.2.2.2.2.1, .long gG.2.2.2.2.2.1, .long gG.2.2.2.2.2.2.1, .long gG.2.2.2.2.2.2.2])), (zru, .inr (3, [.ref zgr, .ref zcr, .int rR.1, .int rR.2])), (zcr, .inr (0, [.long u169.1, .long u169.2.1, .long u169.2.2.1, .long u169.2.2.2])), (zga, .inr (1, [.ref zgr, .ref zru, .ref zag, .long dG.1, .int dG.2.1, .int dG.2.2.1, .int dG.2.2.2])), (zag, .inl (cI, 64, .inl aG))] H → va_D (A_X5_digest cI cJ zhg zgr zru zcr zga zag zfo zco gG rR dG aG qC s.heap.size) [(zhg, .inr (4, [.ref zgr, .ref zru, .ref zga, .ref zfo, .ref zco])), (zgr, .inr (2, [.int gG.1, .int gG.2.1, .int (bI gG.2.2.1), .long gG.2.2.2.1, .long gG.2.2.2.2.1, .long gG.2.2.2.2.2.1, .long gG.2.2.2.2.2.2.1, .long gG.2.2.2.2.2.2.2])), (zru, .inr (3, [.ref zgr, .ref zcr, .int rR.1, .int rR.2])), (zcr, .inr (0, [.long u169.1, .long u169.2.1, .long u169.2.2.1, .long u169.2.2.2])), (zga, .inr (1, [.ref zgr, .ref zru, .ref zag, .long dG.1, .int dG.2.1, .int dG.2.2.1, .int dG.2.2.2])), (zag, .inl (cI, 64, .inl aG))] → va_S (A_X5_digest cI cJ zhg zgr zru zcr zga zag zfo zco gG rR dG aG qC s.heap.size) s.heap H locs → lv_has ls 6 [(0, .ref zhg), (1, .long v168), (3, .int y120), (4, .int y154)] → W p l e rm_X5_digest s m args below meth c H locs 0 0 (MQ below (Q_X5_digest dC dI cI cJ zhg zgr zru zcr zga zag zfo zco gG rR dG aG qC s.heap.size R) args s 0 0 (A_X5_digest cI cJ zhg zgr zru zcr zga zag zfo zco gG rR dG aG qC s.heap.size)) (F0 m 125 ls []) := by
                  intro u169 H locs ls hP hD hS hl
                  refine lv_iinc (v := (y154 + 1)) (lv' := [(4, .int (y154 + 1)), (0, .ref zhg), (1, .long v168), (3, .int y120)]) hx hb dX5_digest_125 hl (k := 3) rfl rfl (by decide) rfl (fun ls hl => ?_)
                  refine lv_goto (tgt := 81) hx hb dX5_digest_128 (by decide) ?_
                  exact ih180 _ _ u169 _ _ _ hf hP hD hS (lv_sub hl [1, 2, 3, 0] rfl)
                have lp182 : ∀ (nf : Nat) (y163 : Int64) (y164 : Int32) (u165 : CrS) (H : Heap) (locs : List Loc) (ls : Array Slot), lp_X5_digest_96 gG rR dG aG y120 y154 nf y163 y164 = some v168 → va_P (dC, dI) vwCl [(zhg, .inr (4, [.ref zgr, .ref zru, .ref zga, .ref zfo, .ref zco])), (zgr, .inr (2, [.int gG.1, .int gG.2.1, .int (bI gG.2.2.1), .long gG.2.2.2.1, .long gG.2.2.2.2.1, .long gG.2.2.2.2.2.1, .long gG.2.2.2.2.2.2.1, .long gG.2.2.2.2.2.2.2])), (zru, .inr (3, [.ref zgr, .ref zcr, .int rR.1, .int rR.2])), (zcr, .inr (0, [.long u165.1, .long u165.2.1, .long u165.2.2.1, .long u165.2.2.2])), (zga, .inr (1, [.ref zgr, .ref zru, .ref zag, .long dG.1, .int dG.2.1, .int dG.2.2.1, .int dG.2.2.2])), (zag, .inl (cI, 64, .inl aG))] H → va_D (A_X5_digest cI cJ zhg zgr zru zcr zga zag zfo zco gG rR dG aG qC s.heap.size) [(zhg, .inr (4, [.ref zgr, .ref zru, .ref zga, .ref zfo, .ref zco])), (zgr, .inr (2, [.int gG.1, .int gG.2.1, .int (bI gG.2.2.1), .long gG.2.2.2.1, .long gG.2.2.2.2.1, .long gG.2.2.2.2.2.1, .long gG.2.2.2.2.2.2.1, .long gG.2.2.2.2.2.2.2])), (zru, .inr (3, [.ref zgr, .ref zcr, .int rR.1, .int rR.2])), (zcr, .inr (0, [.long u165.1, .long u165.2.1, .long u165.2.2.1, .long u165.2.2.2])), (zga, .inr (1, [.ref zgr, .ref zru, .ref zag, .long dG.1, .int dG.2.1, .int dG.2.2.1, .int dG.2.2.2])), (zag, .inl (cI, 64, .inl aG))] → va_S (A_X5_digest cI cJ zhg zgr zru zcr zga zag zfo zco gG rR dG aG qC s.heap.size) s.heap H locs → lv_has ls 6 [(0, .ref zhg), (1, .long y163), (3, .int y120), (4, .int y154), (5, .int y164)] → W p l e rm_X5_digest s m args below meth c H locs 0 0 (MQ below (Q_X5_digest dC dI cI cJ zhg zgr zru zcr zga zag zfo zco gG rR dG aG qC s.heap.size R) args s 0 0 (A_X5_digest cI cJ zhg zgr zru zcr zga zag zfo zco gG rR dG aG qC s.heap.size)) (F0 m 96 ls []) := by
                  intro nf
                  induction nf with
                  | zero => intro y163 y164 u165 H locs ls h9; exact nomatch h9
                  | succ nf ih183 =>
                    intro y163 y164 u165 H locs ls hf hP hD hS hl
                    rw [lp_X5_digest_96.eq_2] at hf
                    refine lv_iload hx hb dX5_digest_96 (lv_at hl 4 rfl) ?_
                    refine lv_iconst (v := 5) hx hb dX5_digest_98 (by decide) ?_
                    refine lv_icmp_ge (tgt := 125) hx hb dX5_digest_99 (by decide) (fun hc => ?_) (fun hc => ?_)
                    · rw [if_pos hc] at hf
                      obtain rfl := Option.some.inj hf
                      exact K181 u165 _ _ _ hP hD hS (lv_sub hl [0, 1, 2, 3] rfl)
                    · rw [if_neg hc] at hf
                      refine lv_lload_n hx hb dX5_digest_102 rfl (lv_at hl 1 rfl) ?_
                      refine lv_ldc2 (v := 31) hx hb hown hw1 dX5_digest_103 ?_
                      refine lv_lmul hx hb dX5_digest_106 ?_
                      refine lv_aload_n hx hb dX5_digest_107 rfl (lv_at hl 0 rfl) ?_
                      refine lv_iload hx hb dX5_digest_108 (lv_at hl 3 rfl) ?_
                      refine lv_iload_n hx hb dX5_digest_110 rfl (lv_at hl 2 rfl) ?_
                      refine lv_iload hx hb dX5_digest_111 (lv_at hl 4 rfl) ?_
                      obtain ⟨r166, hr166, hf⟩ := obind hf
                      have hPc := hP.sub (ws' := [(zhg, .inr (4, [.ref zgr, .ref zru, .ref zga, .ref zfo, .ref zco])), (zgr, .inr (2, [.int gG.1, .int gG.2.1, .int (bI gG.2.2.1), .long gG.2.2.2.1, .long gG.2.2.2.2.1, .long gG.2.2.2.2.2.1, .long gG.2.2.2.2.2.2.1, .long gG.2.2.2.2.2.2.2])), (zru, .inr (3, [.ref zgr, .ref zcr, .int rR.1, .int rR.2])), (zcr, .inr (0, [.long u165.1, .long u165.2.1, .long u165.2.2.1, .long u165.2.2.2])), (zga, .inr (1, [.ref zgr, .ref zru, .ref zag, .long dG.1, .int dG.2.1, .int dG.2.2.1, .int dG.2.2.2])), (zag, .inl (cI, 64, .inl aG))]) [0, 1, 2, 3, 4, 5] rfl
                      have hDc := hD.sub (ws' := [(zhg, .inr (4, [.ref zgr, .ref zru, .ref zga, .ref zfo, .ref zco])), (zgr, .inr (2, [.int gG.1, .int gG.2.1, .int (bI gG.2.2.1), .long gG.2.2.2.1, .long gG.2.2.2.2.1, .long gG.2.2.2.2.2.1, .long gG.2.2.2.2.2.2.1, .long gG.2.2.2.2.2.2.2])), (zru, .inr (3, [.ref zgr, .ref zcr, .int rR.1, .int rR.2])), (zcr, .inr (0, [.long u165.1, .long u165.2.1, .long u165.2.2.1, .long u165.2.2.2])), (zga, .inr (1, [.ref zgr, .ref zru, .ref zag, .long dG.1, .int dG.2.1, .int dG.2.2.1, .int dG.2.2.2])), (zag, .inl (cI, 64, .inl aG))]) [0, 1, 2, 3, 4, 5] (by decide) rfl
                      have hFc := va_free (wc := [(zhg, .inr (4, [.ref zgr, .ref zru, .ref zga, .ref zfo, .ref zco])), (zgr, .inr (2, [.int gG.1, .int gG.2.1, .int (bI gG.2.2.1), .long gG.2.2.2.1, .long gG.2.2.2.2.1, .long gG.2.2.2.2.2.1, .long gG.2.2.2.2.2.2.1, .long gG.2.2.2.2.2.2.2])), (zru, .inr (3, [.ref zgr, .ref zcr, .int rR.1, .int rR.2])), (zcr, .inr (0, [.long u165.1, .long u165.2.1, .long u165.2.2.1, .long u165.2.2.2])), (zga, .inr (1, [.ref zgr, .ref zru, .ref zag, .long dG.1, .int dG.2.1, .int dG.2.2.1, .int dG.2.2.2])), (zag, .inl (cI, 64, .inl aG))]) hD hS hA [0, 1, 2, 3, 4, 5] rfl
                      refine va_calli (va_runV (As := [.int y154, .int y120, .int y164]) (rest := [.long (y163 * 31)]) ⟨hx, hb, hml, hown, hts⟩ (c_X5_fact l dC dI cI cJ zhg zgr zru zcr zga zag zfo zco H.size gG rR dG aG y154 y120 y164 u165 _ hr166) (cwV 3 hts gX5_digest_X5_fact rfl rfl rfl (by decide +kernel) ⟨Nat.le_of_ble_eq_true rfl, Nat.le_of_ble_eq_true rfl⟩) ⟨fun a U gg mk q => by obtain ⟨q0, q1, qP, qK, qD⟩ := q; exact ⟨q0, q1, qP, va_K.moved (u := U) (U := U.calling gg mk a) (Vm.Alike.refl U.vm) qK, qD⟩, va_recv hK hPc (ci := 4) (q0 := 0) rfl rfl, fun U hU hW => ⟨rfl, by rw [hU], by rw [hU]; exact hPc, va_K.moved hW.alike hK, hDc.weaken (fun _ _ _ _ => trivial)⟩⟩ rfl rfl hl.1 rfl (lv_room (Nat.le_of_ble_eq_true rfl)) dX5_digest_113 ⟨Nat.zero_le _, Nat.zero_le _⟩) hS (fun q _ h => hFc q h) hFc (fun r_ u_ t H locs ht hvm hw hB hz1 hk1 hS => ?_)
                      obtain ⟨u167, rfl⟩ : ∃ z, z = u_ := ⟨_, rfl⟩
                      obtain rfl := hw.symm
                      obtain ⟨hP1, -, hD1⟩ := hB
                      rw [ht] at hP1
                      obtain ⟨hP, hD⟩ := va_join (wr := []) (w1 := [(zhg, .inr (4, [.ref zgr, .ref zru, .ref zga, .ref zfo, .ref zco])), (zgr, .inr (2, [.int gG.1, .int gG.2.1, .int (bI gG.2.2.1), .long gG.2.2.2.1, .long gG.2.2.2.2.1, .long gG.2.2.2.2.2.1, .long gG.2.2.2.2.2.2.1, .long gG.2.2.2.2.2.2.2])), (zru, .inr (3, [.ref zgr, .ref zcr, .int rR.1, .int rR.2])), (zcr, .inr (0, [.long u167.1, .long u167.2.1, .long u167.2.2.1, .long u167.2.2.2])), (zga, .inr (1, [.ref zgr, .ref zru, .ref zag, .long dG.1, .int dG.2.1, .int dG.2.2.1, .int dG.2.2.2])), (zag, .inl (cI, 64, .inl aG))]) hP hD [0, 1, 2, 3, 4, 5] [] rfl rfl (by decide) (by decide) hk1 hFc hP1 hD1
                      have hP := hP.sub (ws' := [(zhg, .inr (4, [.ref zgr, .ref zru, .ref zga, .ref zfo, .ref zco])), (zgr, .inr (2, [.int gG.1, .int gG.2.1, .int (bI gG.2.2.1), .long gG.2.2.2.1, .long gG.2.2.2.2.1, .long gG.2.2.2.2.2.1, .long gG.2.2.2.2.2.2.1, .long gG.2.2.2.2.2.2.2])), (zru, .inr (3, [.ref zgr, .ref zcr, .int rR.1, .int rR.2])), (zcr, .inr (0, [.long u167.1, .long u167.2.1, .long u167.2.2.1, .long u167.2.2.2])), (zga, .inr (1, [.ref zgr, .ref zru, .ref zag, .long dG.1, .int dG.2.1, .int dG.2.2.1, .int dG.2.2.2])), (zag, .inl (cI, 64, .inl aG))]) [0, 1, 2, 3, 4, 5] rfl
                      have hD := hD.sub (ws' := [(zhg, .inr (4, [.ref zgr, .ref zru, .ref zga, .ref zfo, .ref zco])), (zgr, .inr (2, [.int gG.1, .int gG.2.1, .int (bI gG.2.2.1), .long gG.2.2.2.1, .long gG.2.2.2.2.1, .long gG.2.2.2.2.2.1, .long gG.2.2.2.2.2.2.1, .long gG.2.2.2.2.2.2.2])), (zru, .inr (3, [.ref zgr, .ref zcr, .int rR.1, .int rR.2])), (zcr, .inr (0, [.long u167.1, .long u167.2.1, .long u167.2.2.1, .long u167.2.2.2])), (zga, .inr (1, [.ref zgr, .ref zru, .ref zag, .long dG.1, .int dG.2.1, .int dG.2.2.1, .int dG.2.2.2])), (zag, .inl (cI, 64, .inl aG))]) [0, 1, 2, 3, 4, 5] (by decide) rfl
                      clear hPc hDc hFc hP1 hD1 hk1
                      refine lv_i2l (v := (Int32.toInt64 r166)) hx hb dX5_digest_116 rfl ?_
                      refine lv_ladd hx hb dX5_digest_117 ?_
                      refine lv_lstore_n (lv' := [(1, .long ((y163 * 31) + (Int32.toInt64 r166))), (0, .ref zhg), (3, .int y120), (4, .int y154), (5, .int y164)]) hx hb dX5_digest_118 rfl hl (by decide) rfl (fun ls hl => ?_)
                      refine lv_iinc (v := (y164 + 1)) (lv' := [(5, .int (y164 + 1)), (1, .long ((y163 * 31) + (Int32.toInt64 r166))), (0, .ref zhg), (3, .int y120), (4, .int y154)]) hx hb dX5_digest_119 hl (k := 4) rfl rfl (by decide) rfl (fun ls hl => ?_)
                      refine lv_goto (tgt := 96) hx hb dX5_digest_122 (by decide) ?_
                      exact ih183 _ _ u167 _ _ _ hf hP hD hS (lv_sub hl [2, 1, 3, 4, 0] rfl)
                exact lp182 100 _ _ u155 _ _ _ hv hP hD hS (lv_sub hl [1, 2, 3, 4, 0] rfl)
          exact lp179 100 _ _ u121 _ _ _ hv hP hD hS (lv_sub hl [1, 2, 3, 0] rfl)
    exact lp176 100 _ _ u14 _ _ _ hv hP hD hS (lv_sub hl [2, 1, 0] rfl)
  have lp184 : ∀ (nf : Nat) (y8 : Int64) (y9 : Int32) (u10 : CrS) (H : Heap) (locs : List Loc) (ls : Array Slot), lp_X5_digest_6 gG rR dG aG nf y8 y9 = some v13 → va_P (dC, dI) vwCl [(zhg, .inr (4, [.ref zgr, .ref zru, .ref zga, .ref zfo, .ref zco])), (zgr, .inr (2, [.int gG.1, .int gG.2.1, .int (bI gG.2.2.1), .long gG.2.2.2.1, .long gG.2.2.2.2.1, .long gG.2.2.2.2.2.1, .long gG.2.2.2.2.2.2.1, .long gG.2.2.2.2.2.2.2])), (zru, .inr (3, [.ref zgr, .ref zcr, .int rR.1, .int rR.2])), (zcr, .inr (0, [.long u10.1, .long u10.2.1, .long u10.2.2.1, .long u10.2.2.2])), (zga, .inr (1, [.ref zgr, .ref zru, .ref zag, .long dG.1, .int dG.2.1, .int dG.2.2.1, .int dG.2.2.2])), (zag, .inl (cI, 64, .inl aG))] H → va_D (A_X5_digest cI cJ zhg zgr zru zcr zga zag zfo zco gG rR dG aG qC s.heap.size) [(zhg, .inr (4, [.ref zgr, .ref zru, .ref zga, .ref zfo, .ref zco])), (zgr, .inr (2, [.int gG.1, .int gG.2.1, .int (bI gG.2.2.1), .long gG.2.2.2.1, .long gG.2.2.2.2.1, .long gG.2.2.2.2.2.1, .long gG.2.2.2.2.2.2.1, .long gG.2.2.2.2.2.2.2])), (zru, .inr (3, [.ref zgr, .ref zcr, .int rR.1, .int rR.2])), (zcr, .inr (0, [.long u10.1, .long u10.2.1, .long u10.2.2.1, .long u10.2.2.2])), (zga, .inr (1, [.ref zgr, .ref zru, .ref zag, .long dG.1, .int dG.2.1, .int dG.2.2.1, .int dG.2.2.2])), (zag, .inl (cI, 64, .inl aG))] → va_S (A_X5_digest cI cJ zhg zgr zru zcr zga zag zfo zco gG rR dG aG qC s.heap.size) s.heap H locs → lv_has ls 6 [(0, .ref zhg), (1, .long y8), (3, .int y9)] → W p l e rm_X5_digest s m args below meth c H locs 0 0 (MQ below (Q_X5_digest dC dI cI cJ zhg zgr zru zcr zga zag zfo zco gG rR dG aG qC s.heap.size R) args s 0 0 (A_X5_digest cI cJ zhg zgr zru zcr zga zag zfo zco gG rR dG aG qC s.heap.size)) (F0 m 6 ls []) := by
    intro nf
    induction nf with
    | zero => intro y8 y9 u10 H locs ls h9; exact nomatch h9
    | succ nf ih185 =>
      intro y8 y9 u10 H locs ls hf hP hD hS hl
      rw [lp_X5_digest_6.eq_2] at hf
      refine lv_iload_n hx hb dX5_digest_6 rfl (lv_at hl 2 rfl) ?_
      refine lv_bipush (v := 11) hx hb dX5_digest_7 (by decide) ?_
      refine lv_icmp_ge (tgt := 35) hx hb dX5_digest_9 (by decide) (fun hc => ?_) (fun hc => ?_)
      · rw [if_pos hc] at hf
        obtain rfl := Option.some.inj hf
        exact K174 u10 _ _ _ hP hD hS (lv_sub hl [0, 1] rfl)
      · rw [if_neg hc] at hf
        refine lv_lload_n hx hb dX5_digest_12 rfl (lv_at hl 1 rfl) ?_
        refine lv_ldc2 (v := 31) hx hb hown hw1 dX5_digest_13 ?_
        refine lv_lmul hx hb dX5_digest_16 ?_
        refine lv_aload_n hx hb dX5_digest_17 rfl (lv_at hl 0 rfl) ?_
        refine lv_aload_n hx hb dX5_digest_18 rfl (lv_at hl 0 rfl) ?_
        refine va_get (D := (dC, dI)) (ci := 4) (v := .ref zga) (C := RX5) (T := TX5) (N := 5) hx hb hts hinX5 hown hK hP 0 rfl rfl 2 (by decide) hw2 (fun _ h9 => h9) rfl dX5_digest_19 ?_
        refine lv_iload_n hx hb dX5_digest_22 rfl (lv_at hl 2 rfl) ?_
        obtain ⟨r11, hr11, hf⟩ := obind hf
        have hPc := hP.sub (ws' := [(zhg, .inr (4, [.ref zgr, .ref zru, .ref zga, .ref zfo, .ref zco])), (zgr, .inr (2, [.int gG.1, .int gG.2.1, .int (bI gG.2.2.1), .long gG.2.2.2.1, .long gG.2.2.2.2.1, .long gG.2.2.2.2.2.1, .long gG.2.2.2.2.2.2.1, .long gG.2.2.2.2.2.2.2])), (zru, .inr (3, [.ref zgr, .ref zcr, .int rR.1, .int rR.2])), (zcr, .inr (0, [.long u10.1, .long u10.2.1, .long u10.2.2.1, .long u10.2.2.2])), (zga, .inr (1, [.ref zgr, .ref zru, .ref zag, .long dG.1, .int dG.2.1, .int dG.2.2.1, .int dG.2.2.2])), (zag, .inl (cI, 64, .inl aG))]) [0, 1, 2, 3, 4, 5] rfl
        have hDc := hD.sub (ws' := [(zhg, .inr (4, [.ref zgr, .ref zru, .ref zga, .ref zfo, .ref zco])), (zgr, .inr (2, [.int gG.1, .int gG.2.1, .int (bI gG.2.2.1), .long gG.2.2.2.1, .long gG.2.2.2.2.1, .long gG.2.2.2.2.2.1, .long gG.2.2.2.2.2.2.1, .long gG.2.2.2.2.2.2.2])), (zru, .inr (3, [.ref zgr, .ref zcr, .int rR.1, .int rR.2])), (zcr, .inr (0, [.long u10.1, .long u10.2.1, .long u10.2.2.1, .long u10.2.2.2])), (zga, .inr (1, [.ref zgr, .ref zru, .ref zag, .long dG.1, .int dG.2.1, .int dG.2.2.1, .int dG.2.2.2])), (zag, .inl (cI, 64, .inl aG))]) [0, 1, 2, 3, 4, 5] (by decide) rfl
        have hFc := va_free (wc := [(zhg, .inr (4, [.ref zgr, .ref zru, .ref zga, .ref zfo, .ref zco])), (zgr, .inr (2, [.int gG.1, .int gG.2.1, .int (bI gG.2.2.1), .long gG.2.2.2.1, .long gG.2.2.2.2.1, .long gG.2.2.2.2.2.1, .long gG.2.2.2.2.2.2.1, .long gG.2.2.2.2.2.2.2])), (zru, .inr (3, [.ref zgr, .ref zcr, .int rR.1, .int rR.2])), (zcr, .inr (0, [.long u10.1, .long u10.2.1, .long u10.2.2.1, .long u10.2.2.2])), (zga, .inr (1, [.ref zgr, .ref zru, .ref zag, .long dG.1, .int dG.2.1, .int dG.2.2.1, .int dG.2.2.2])), (zag, .inl (cI, 64, .inl aG))]) hD hS hA [0, 1, 2, 3, 4, 5] rfl
        refine va_calli (va_runV (As := [.ref zga, .int y9]) (rest := [.long (y8 * 31)]) ⟨hx, hb, hml, hown, hts⟩ (c_X5_counted l dC dI cI cJ zhg zgr zru zcr zga zag zga zfo zco H.size gG rR dG aG y9 u10 _ hr11) (cwV 2 hts gX5_digest_X5_counted rfl rfl rfl (by decide +kernel) ⟨Nat.le_of_ble_eq_true rfl, Nat.le_of_ble_eq_true rfl⟩) ⟨fun a U gg mk q => by obtain ⟨q0, q1, qP, qK, qD⟩ := q; exact ⟨q0, q1, qP, va_K.moved (u := U) (U := U.calling gg mk a) (Vm.Alike.refl U.vm) qK, qD⟩, va_recv hK hPc (ci := 4) (q0 := 0) rfl rfl, fun U hU hW => ⟨rfl, by rw [hU], by rw [hU]; exact hPc, va_K.moved hW.alike hK, hDc.weaken (fun _ _ _ _ => trivial)⟩⟩ rfl rfl hl.1 rfl (lv_room (Nat.le_of_ble_eq_true rfl)) dX5_digest_23 ⟨Nat.zero_le _, Nat.zero_le _⟩) hS (fun q _ h => hFc q h) hFc (fun r_ u_ t H locs ht hvm hw hB hz1 hk1 hS => ?_)
        obtain ⟨u12, rfl⟩ : ∃ z, z = u_ := ⟨_, rfl⟩
        obtain rfl := hw.symm
        obtain ⟨hP1, -, hD1⟩ := hB
        rw [ht] at hP1
        obtain ⟨hP, hD⟩ := va_join (wr := []) (w1 := [(zhg, .inr (4, [.ref zgr, .ref zru, .ref zga, .ref zfo, .ref zco])), (zgr, .inr (2, [.int gG.1, .int gG.2.1, .int (bI gG.2.2.1), .long gG.2.2.2.1, .long gG.2.2.2.2.1, .long gG.2.2.2.2.2.1, .long gG.2.2.2.2.2.2.1, .long gG.2.2.2.2.2.2.2])), (zru, .inr (3, [.ref zgr, .ref zcr, .int rR.1, .int rR.2])), (zcr, .inr (0, [.long u12.1, .long u12.2.1, .long u12.2.2.1, .long u12.2.2.2])), (zga, .inr (1, [.ref zgr, .ref zru, .ref zag, .long dG.1, .int dG.2.1, .int dG.2.2.1, .int dG.2.2.2])), (zag, .inl (cI, 64, .inl aG))]) hP hD [0, 1, 2, 3, 4, 5] [] rfl rfl (by decide) (by decide) hk1 hFc hP1 hD1
        have hP := hP.sub (ws' := [(zhg, .inr (4, [.ref zgr, .ref zru, .ref zga, .ref zfo, .ref zco])), (zgr, .inr (2, [.int gG.1, .int gG.2.1, .int (bI gG.2.2.1), .long gG.2.2.2.1, .long gG.2.2.2.2.1, .long gG.2.2.2.2.2.1, .long gG.2.2.2.2.2.2.1, .long gG.2.2.2.2.2.2.2])), (zru, .inr (3, [.ref zgr, .ref zcr, .int rR.1, .int rR.2])), (zcr, .inr (0, [.long u12.1, .long u12.2.1, .long u12.2.2.1, .long u12.2.2.2])), (zga, .inr (1, [.ref zgr, .ref zru, .ref zag, .long dG.1, .int dG.2.1, .int dG.2.2.1, .int dG.2.2.2])), (zag, .inl (cI, 64, .inl aG))]) [0, 1, 2, 3, 4, 5] rfl
        have hD := hD.sub (ws' := [(zhg, .inr (4, [.ref zgr, .ref zru, .ref zga, .ref zfo, .ref zco])), (zgr, .inr (2, [.int gG.1, .int gG.2.1, .int (bI gG.2.2.1), .long gG.2.2.2.1, .long gG.2.2.2.2.1, .long gG.2.2.2.2.2.1, .long gG.2.2.2.2.2.2.1, .long gG.2.2.2.2.2.2.2])), (zru, .inr (3, [.ref zgr, .ref zcr, .int rR.1, .int rR.2])), (zcr, .inr (0, [.long u12.1, .long u12.2.1, .long u12.2.2.1, .long u12.2.2.2])), (zga, .inr (1, [.ref zgr, .ref zru, .ref zag, .long dG.1, .int dG.2.1, .int dG.2.2.1, .int dG.2.2.2])), (zag, .inl (cI, 64, .inl aG))]) [0, 1, 2, 3, 4, 5] (by decide) rfl
        clear hPc hDc hFc hP1 hD1 hk1
        refine lv_i2l (v := (Int32.toInt64 r11)) hx hb dX5_digest_26 rfl ?_
        refine lv_ladd hx hb dX5_digest_27 ?_
        refine lv_lstore_n (lv' := [(1, .long ((y8 * 31) + (Int32.toInt64 r11))), (0, .ref zhg), (3, .int y9)]) hx hb dX5_digest_28 rfl hl (by decide) rfl (fun ls hl => ?_)
        refine lv_iinc (v := (y9 + 1)) (lv' := [(3, .int (y9 + 1)), (1, .long ((y8 * 31) + (Int32.toInt64 r11))), (0, .ref zhg)]) hx hb dX5_digest_29 hl (k := 2) rfl rfl (by decide) rfl (fun ls hl => ?_)
        refine lv_goto (tgt := 6) hx hb dX5_digest_32 (by decide) ?_
        exact ih185 _ _ u12 _ _ _ hf hP hD hS (lv_sub hl [2, 1, 0] rfl)
  exact lp184 100 _ _ qC _ _ _ hv hP hD hS (lv_sub hl [2, 1, 0] rfl)
