/-! java/lang/Long.bitCount(J)I -/
def f_J13_bitCount_95d88 (xb : Int64) : Int32 := bindv (((xb - ((jushr xb 1) &&& 6148914691236517205)) &&& 3689348814741910323) + ((jushr (xb - ((jushr xb 1) &&& 6148914691236517205)) 2) &&& 3689348814741910323)) fun x1 => bindv (((x1 + (jushr x1 4)) &&& 1085102592571150095) + (jushr ((x1 + (jushr x1 4)) &&& 1085102592571150095) 8)) fun x2 => ((Int64.toInt32 ((x2 + (jushr x2 16)) + (jushr (x2 + (jushr x2 16)) 32))) &&& 127)
abbrev rm_J13_bitCount_95d88 : Room := ({ frames := 0, cells := 0, slots := 0, locals := 0 } : Room)
abbrev A_J13_bitCount_95d88 (cI cJ : ClassId) (xb : Int64) (sz : Nat) : Nat → Prop := va_A [] sz
abbrev Q_J13_bitCount_95d88 (dC : Nat → ClassId) (dI : Nat → Nat → Nat) (cI cJ : ClassId) (xb : Int64) (sz : Nat) (R : Int32) : Array Value → State → Outcome → State → Prop := va_Qi (fun (r : Int32) (_ : Unit) => r = R) (fun u_ t => va_P (dC, dI) vwCl [] t.heap ∧ va_K (dC, dI) vwCl [(cI, .int), (cJ, .long)] t ∧ va_D (A_J13_bitCount_95d88 cI cJ xb sz) []) (A_J13_bitCount_95d88 cI cJ xb sz)
set_option maxHeartbeats 4000000 in
set_option maxRecDepth 100000 in
theorem c_J13_bitCount_95d88 (l : Launch) (dC : Nat → ClassId) (dI : Nat → Nat → Nat) (cI cJ : ClassId) (sz : Nat) (xb : Int64) : Met l yJ13_bitCount_95d88 wsJ13_bitCount_95d88 rm_J13_bitCount_95d88 (va_Pc [.long xb] (fun U => U.heap.size = sz ∧ va_P (dC, dI) vwCl [] U.heap ∧ va_K (dC, dI) vwCl [(cI, .int), (cJ, .long)] U ∧ va_D (fun _ => True) [])) (Q_J13_bitCount_95d88 dC dI cI cJ xb sz (f_J13_bitCount_95d88 xb)) 0 0 (A_J13_bitCount_95d88 cI cJ xb sz) := by
  generalize hf : (f_J13_bitCount_95d88 xb) = R
  refine Met.ofW (cc := cJ13_bitCount_95d88) (maxL := 2) (ret := (some .int)) (by decide) rfl ?_
  intro p e s m args below meth c s₁ B hml hv
  obtain ⟨hargs, hsz, hP, hK, hD0⟩ := hv
  have hx := B.exec
  have hb := B.bytes
  have hr := B.returns
  have hts := atoms_spec (ws := wsJ13_bitCount_95d88) B.pre
  have hown : s.vm.findClass RJ13 = some m.cls := findClass_of_methodNamed B.named
  have hlocks := B.notSynchronized
  subst hsz
  have hD : va_D (A_J13_bitCount_95d88 cI cJ xb s.heap.size) [] := hD0.self (sz := s.heap.size)
  have hA : ∀ q : Nat, s.heap.size ≤ q → (A_J13_bitCount_95d88 cI cJ xb s.heap.size) q := fun q h => Or.inr h
  have hS : va_S (A_J13_bitCount_95d88 cI cJ xb s.heap.size) s.heap s.heap [] := va_S.rf
  have hw0 := hts (.constantLong RJ13 314 (6148914691236517205)) (by decide +kernel)
  have hw1 := hts (.constantLong RJ13 316 (3689348814741910323)) (by decide +kernel)
  have hw2 := hts (.constantLong RJ13 318 (1085102592571150095)) (by decide +kernel)
  have hl := lv_entry ([.long xb]) (n := 2) (Nat.le_of_ble_eq_true rfl)
  have he0 : entryFrame m args 2 = entryFrame m ([.long xb] : List Value).toArray 2 := by rw [hargs]
  rw [he0, lg_entry_eq]
  generalize (lg_sl ([.long xb]) ++ List.replicate (2 - (lg_sl ([.long xb])).length) Slot.unset).toArray = ls at hl ⊢
  have hl : lv_has ls 2 [(0, .long xb)] := hl
  rw [f_J13_bitCount_95d88] at hf
  refine lv_lload_n hx hb dJ13_bitCount_95d88_0 rfl (lv_at hl 0 rfl) ?_
  refine lv_lload_n hx hb dJ13_bitCount_95d88_1 rfl (lv_at hl 0 rfl) ?_
  refine lv_iconst (v := 1) hx hb dJ13_bitCount_95d88_2 (by decide) ?_
  refine lv_lushr (v := (jushr xb 1)) hx hb dJ13_bitCount_95d88_3 rfl ?_
  refine lv_ldc2 (v := 6148914691236517205) hx hb hown hw0 dJ13_bitCount_95d88_4 ?_
  refine lv_land hx hb dJ13_bitCount_95d88_7 ?_
  refine lv_lsub hx hb dJ13_bitCount_95d88_8 ?_
  refine lv_lstore_n (lv' := [(0, .long (xb - ((jushr xb 1) &&& 6148914691236517205)))]) hx hb dJ13_bitCount_95d88_9 rfl hl (by decide) rfl (fun ls hl => ?_)
  refine lv_lload_n hx hb dJ13_bitCount_95d88_10 rfl (lv_at hl 0 rfl) ?_
  refine lv_ldc2 (v := 3689348814741910323) hx hb hown hw1 dJ13_bitCount_95d88_11 ?_
  refine lv_land hx hb dJ13_bitCount_95d88_14 ?_
  refine lv_lload_n hx hb dJ13_bitCount_95d88_15 rfl (lv_at hl 0 rfl) ?_
  refine lv_iconst (v := 2) hx hb dJ13_bitCount_95d88_16 (by decide) ?_
  refine lv_lushr (v := (jushr (xb - ((jushr xb 1) &&& 6148914691236517205)) 2)) hx hb dJ13_bitCount_95d88_17 rfl ?_
  refine lv_ldc2 (v := 3689348814741910323) hx hb hown hw1 dJ13_bitCount_95d88_18 ?_
  refine lv_land hx hb dJ13_bitCount_95d88_21 ?_
  refine lv_ladd hx hb dJ13_bitCount_95d88_22 ?_
  obtain ⟨x1, hx1, hf⟩ := vbind hf
  refine topl_e hx1 ?_
  refine lv_lstore_n (lv' := [(0, .long x1)]) hx hb dJ13_bitCount_95d88_23 rfl hl (by decide) rfl (fun ls hl => ?_)
  refine lv_lload_n hx hb dJ13_bitCount_95d88_24 rfl (lv_at hl 0 rfl) ?_
  refine lv_lload_n hx hb dJ13_bitCount_95d88_25 rfl (lv_at hl 0 rfl) ?_
  refine lv_iconst (v := 4) hx hb dJ13_bitCount_95d88_26 (by decide) ?_
  refine lv_lushr (v := (jushr x1 4)) hx hb dJ13_bitCount_95d88_27 rfl ?_
  refine lv_ladd hx hb dJ13_bitCount_95d88_28 ?_
  refine lv_ldc2 (v := 1085102592571150095) hx hb hown hw2 dJ13_bitCount_95d88_29 ?_
  refine lv_land hx hb dJ13_bitCount_95d88_32 ?_
  refine lv_lstore_n (lv' := [(0, .long ((x1 + (jushr x1 4)) &&& 1085102592571150095))]) hx hb dJ13_bitCount_95d88_33 rfl hl (by decide) rfl (fun ls hl => ?_)
  refine lv_lload_n hx hb dJ13_bitCount_95d88_34 rfl (lv_at hl 0 rfl) ?_
  refine lv_lload_n hx hb dJ13_bitCount_95d88_35 rfl (lv_at hl 0 rfl) ?_
  refine lv_bipush (v := 8) hx hb dJ13_bitCount_95d88_36 (by decide) ?_
  refine lv_lushr (v := (jushr ((x1 + (jushr x1 4)) &&& 1085102592571150095) 8)) hx hb dJ13_bitCount_95d88_38 rfl ?_
  refine lv_ladd hx hb dJ13_bitCount_95d88_39 ?_
  obtain ⟨x2, hx2, hf⟩ := vbind hf
  refine topl_e hx2 ?_
  refine lv_lstore_n (lv' := [(0, .long x2)]) hx hb dJ13_bitCount_95d88_40 rfl hl (by decide) rfl (fun ls hl => ?_)
  refine lv_lload_n hx hb dJ13_bitCount_95d88_41 rfl (lv_at hl 0 rfl) ?_
  refine lv_lload_n hx hb dJ13_bitCount_95d88_42 rfl (lv_at hl 0 rfl) ?_
  refine lv_bipush (v := 16) hx hb dJ13_bitCount_95d88_43 (by decide) ?_
  refine lv_lushr (v := (jushr x2 16)) hx hb dJ13_bitCount_95d88_45 rfl ?_
  refine lv_ladd hx hb dJ13_bitCount_95d88_46 ?_
  refine lv_lstore_n (lv' := [(0, .long (x2 + (jushr x2 16)))]) hx hb dJ13_bitCount_95d88_47 rfl hl (by decide) rfl (fun ls hl => ?_)
  refine lv_lload_n hx hb dJ13_bitCount_95d88_48 rfl (lv_at hl 0 rfl) ?_
  refine lv_lload_n hx hb dJ13_bitCount_95d88_49 rfl (lv_at hl 0 rfl) ?_
  refine lv_bipush (v := 32) hx hb dJ13_bitCount_95d88_50 (by decide) ?_
  refine lv_lushr (v := (jushr (x2 + (jushr x2 16)) 32)) hx hb dJ13_bitCount_95d88_52 rfl ?_
  refine lv_ladd hx hb dJ13_bitCount_95d88_53 ?_
  refine lv_lstore_n (lv' := [(0, .long ((x2 + (jushr x2 16)) + (jushr (x2 + (jushr x2 16)) 32)))]) hx hb dJ13_bitCount_95d88_54 rfl hl (by decide) rfl (fun ls hl => ?_)
  refine lv_lload_n hx hb dJ13_bitCount_95d88_55 rfl (lv_at hl 0 rfl) ?_
  refine lv_l2i (v := (Int64.toInt32 ((x2 + (jushr x2 16)) + (jushr (x2 + (jushr x2 16)) 32)))) hx hb dJ13_bitCount_95d88_56 rfl ?_
  refine lv_bipush (v := 127) hx hb dJ13_bitCount_95d88_57 (by decide) ?_
  refine lv_iand hx hb dJ13_bitCount_95d88_59 ?_
  obtain rfl := hf
  exact W.iret (v := ((Int64.toInt32 ((x2 + (jushr x2 16)) + (jushr (x2 + (jushr x2 16)) 32))) &&& 127)) hx hb hr (fun t ht hW => ⟨⟨((Int64.toInt32 ((x2 + (jushr x2 16)) + (jushr (x2 + (jushr x2 16)) 32))) &&& 127), (), rfl, rfl, by rw [ht]; exact hP, va_K.moved hW.alike hK, hD⟩, hS.F ht⟩) hS.2.2 dJ13_bitCount_95d88_60
/-! HedgeGliders$Ground.cell(II)J -/
def f_X3_cell (cx : Int32) (cy : Int32) : Int64 := (jshl 1 ((8 * cy) + cx))
abbrev rm_X3_cell : Room := ({ frames := 0, cells := 0, slots := 0, locals := 0 } : Room)
abbrev A_X3_cell (cI cJ : ClassId) (cx : Int32) (cy : Int32) (sz : Nat) : Nat → Prop := va_A [] sz
abbrev Q_X3_cell (dC : Nat → ClassId) (dI : Nat → Nat → Nat) (cI cJ : ClassId) (cx : Int32) (cy : Int32) (sz : Nat) (R : Int64) : Array Value → State → Outcome → State → Prop := va_Ql (fun (r : Int64) (_ : Unit) => r = R) (fun u_ t => va_P (dC, dI) vwCl [] t.heap ∧ va_K (dC, dI) vwCl [(cI, .int), (cJ, .long)] t ∧ va_D (A_X3_cell cI cJ cx cy sz) []) (A_X3_cell cI cJ cx cy sz)
set_option maxHeartbeats 4000000 in
set_option maxRecDepth 100000 in
theorem c_X3_cell (l : Launch) (dC : Nat → ClassId) (dI : Nat → Nat → Nat) (cI cJ : ClassId) (sz : Nat) (cx : Int32) (cy : Int32) : Met l yX3_cell wsX3_cell rm_X3_cell (va_Pc [.int cx, .int cy] (fun U => U.heap.size = sz ∧ va_P (dC, dI) vwCl [] U.heap ∧ va_K (dC, dI) vwCl [(cI, .int), (cJ, .long)] U ∧ va_D (fun _ => True) [])) (Q_X3_cell dC dI cI cJ cx cy sz (f_X3_cell cx cy)) 0 0 (A_X3_cell cI cJ cx cy sz) := by
  generalize hf : (f_X3_cell cx cy) = R
  refine Met.ofW (cc := cX3_cell) (maxL := 2) (ret := (some .long)) (by decide) rfl ?_
  intro p e s m args below meth c s₁ B hml hv
  obtain ⟨hargs, hsz, hP, hK, hD0⟩ := hv
  have hx := B.exec
  have hb := B.bytes
  have hr := B.returns
  have hts := atoms_spec (ws := wsX3_cell) B.pre
  have hown : s.vm.findClass RX3 = some m.cls := findClass_of_methodNamed B.named
  have hlocks := B.notSynchronized
  subst hsz
  have hD : va_D (A_X3_cell cI cJ cx cy s.heap.size) [] := hD0.self (sz := s.heap.size)
  have hA : ∀ q : Nat, s.heap.size ≤ q → (A_X3_cell cI cJ cx cy s.heap.size) q := fun q h => Or.inr h
  have hS : va_S (A_X3_cell cI cJ cx cy s.heap.size) s.heap s.heap [] := va_S.rf
  have hl := lv_entry ([.int cx, .int cy]) (n := 2) (Nat.le_of_ble_eq_true rfl)
  have he0 : entryFrame m args 2 = entryFrame m ([.int cx, .int cy] : List Value).toArray 2 := by rw [hargs]
  rw [he0, lg_entry_eq]
  generalize (lg_sl ([.int cx, .int cy]) ++ List.replicate (2 - (lg_sl ([.int cx, .int cy])).length) Slot.unset).toArray = ls at hl ⊢
  have hl : lv_has ls 2 [(0, .int cx), (1, .int cy)] := hl
  rw [f_X3_cell] at hf
  refine lv_lconst (v := 1) hx hb dX3_cell_0 (by decide) ?_
  refine lv_bipush (v := 8) hx hb dX3_cell_1 (by decide) ?_
  refine lv_iload_n hx hb dX3_cell_3 rfl (lv_at hl 1 rfl) ?_
  refine lv_imul hx hb dX3_cell_4 ?_
  refine lv_iload_n hx hb dX3_cell_5 rfl (lv_at hl 0 rfl) ?_
  refine lv_iadd hx hb dX3_cell_6 ?_
  refine lv_lshl (v := (jshl 1 ((8 * cy) + cx))) hx hb dX3_cell_7 rfl ?_
  obtain rfl := hf
  exact W.lret (v := (jshl 1 ((8 * cy) + cx))) hx hb hr (fun t ht hW => ⟨⟨(jshl 1 ((8 * cy) + cx)), (), rfl, rfl, by rw [ht]; exact hP, va_K.moved hW.alike hK, hD⟩, hS.F ht⟩) hS.2.2 dX3_cell_8
/-! HedgeGliders$Ground.wide()I -/
def f_X3_wide (gG : GrS) : Int32 := gG.1
abbrev rm_X3_wide : Room := ({ frames := 0, cells := 0, slots := 0, locals := 0 } : Room)
abbrev A_X3_wide (cI cJ : ClassId) (zgr : Nat) (gG : GrS) (sz : Nat) : Nat → Prop := va_A [(zgr, .inr (2, [.int gG.1, .int gG.2.1, .int (bI gG.2.2.1), .long gG.2.2.2.1, .long gG.2.2.2.2.1, .long gG.2.2.2.2.2.1, .long gG.2.2.2.2.2.2.1, .long gG.2.2.2.2.2.2.2]))] sz
abbrev Q_X3_wide (dC : Nat → ClassId) (dI : Nat → Nat → Nat) (cI cJ : ClassId) (zgr : Nat) (gG : GrS) (sz : Nat) (R : Int32) : Array Value → State → Outcome → State → Prop := va_Qi (fun (r : Int32) (_ : Unit) => r = R) (fun u_ t => va_P (dC, dI) vwCl [(zgr, .inr (2, [.int gG.1, .int gG.2.1, .int (bI gG.2.2.1), .long gG.2.2.2.1, .long gG.2.2.2.2.1, .long gG.2.2.2.2.2.1, .long gG.2.2.2.2.2.2.1, .long gG.2.2.2.2.2.2.2]))] t.heap ∧ va_K (dC, dI) vwCl [(cI, .int), (cJ, .long)] t ∧ va_D (A_X3_wide cI cJ zgr gG sz) [(zgr, .inr (2, [.int gG.1, .int gG.2.1, .int (bI gG.2.2.1), .long gG.2.2.2.1, .long gG.2.2.2.2.1, .long gG.2.2.2.2.2.1, .long gG.2.2.2.2.2.2.1, .long gG.2.2.2.2.2.2.2]))]) (A_X3_wide cI cJ zgr gG sz)
set_option maxHeartbeats 4000000 in
set_option maxRecDepth 100000 in
theorem c_X3_wide (l : Launch) (dC : Nat → ClassId) (dI : Nat → Nat → Nat) (cI cJ : ClassId) (zgr : Nat) (sz : Nat) (gG : GrS) : Met l yX3_wide wsX3_wide rm_X3_wide (va_Pc [.ref zgr] (fun U => U.heap.size = sz ∧ va_P (dC, dI) vwCl [(zgr, .inr (2, [.int gG.1, .int gG.2.1, .int (bI gG.2.2.1), .long gG.2.2.2.1, .long gG.2.2.2.2.1, .long gG.2.2.2.2.2.1, .long gG.2.2.2.2.2.2.1, .long gG.2.2.2.2.2.2.2]))] U.heap ∧ va_K (dC, dI) vwCl [(cI, .int), (cJ, .long)] U ∧ va_D (fun _ => True) [(zgr, .inr (2, [.int gG.1, .int gG.2.1, .int (bI gG.2.2.1), .long gG.2.2.2.1, .long gG.2.2.2.2.1, .long gG.2.2.2.2.2.1, .long gG.2.2.2.2.2.2.1, .long gG.2.2.2.2.2.2.2]))])) (Q_X3_wide dC dI cI cJ zgr gG sz (f_X3_wide gG)) 0 0 (A_X3_wide cI cJ zgr gG sz) := by
  generalize hf : (f_X3_wide gG) = R
  refine Met.ofW (cc := cX3_wide) (maxL := 1) (ret := (some .int)) (by decide) rfl ?_
  intro p e s m args below meth c s₁ B hml hv
  obtain ⟨hargs, hsz, hP, hK, hD0⟩ := hv
  have hx := B.exec
  have hb := B.bytes
  have hr := B.returns
  have hts := atoms_spec (ws := wsX3_wide) B.pre
  have hown : s.vm.findClass RX3 = some m.cls := findClass_of_methodNamed B.named
  have hlocks := B.notSynchronized
  subst hsz
  have hD : va_D (A_X3_wide cI cJ zgr gG s.heap.size) [(zgr, .inr (2, [.int gG.1, .int gG.2.1, .int (bI gG.2.2.1), .long gG.2.2.2.1, .long gG.2.2.2.2.1, .long gG.2.2.2.2.2.1, .long gG.2.2.2.2.2.2.1, .long gG.2.2.2.2.2.2.2]))] := hD0.self (sz := s.heap.size)
  have hA : ∀ q : Nat, s.heap.size ≤ q → (A_X3_wide cI cJ zgr gG s.heap.size) q := fun q h => Or.inr h
  have hS : va_S (A_X3_wide cI cJ zgr gG s.heap.size) s.heap s.heap [] := va_S.rf
  have hinX3 : ∀ w ∈ wsX30, w ∈ wsX3_wide := by decide +kernel
  have hw0 := hts (.fieldLink RX3 9 "HedgeGliders$Ground" "wide" "I") (by decide +kernel)
  have hl := lv_entry ([.ref zgr]) (n := 1) (Nat.le_of_ble_eq_true rfl)
  have he0 : entryFrame m args 1 = entryFrame m ([.ref zgr] : List Value).toArray 1 := by rw [hargs]
  rw [he0, lg_entry_eq]
  generalize (lg_sl ([.ref zgr]) ++ List.replicate (1 - (lg_sl ([.ref zgr])).length) Slot.unset).toArray = ls at hl ⊢
  have hl : lv_has ls 1 [(0, .ref zgr)] := hl
  rw [f_X3_wide] at hf
  refine lv_aload_n hx hb dX3_wide_0 rfl (lv_at hl 0 rfl) ?_
  refine va_get (D := (dC, dI)) (ci := 2) (v := .int gG.1) (C := RX3) (T := TX3) (N := 8) hx hb hts hinX3 hown hK hP 0 rfl rfl 0 (by decide) hw0 (fun _ h9 => h9) rfl dX3_wide_1 ?_
  obtain rfl := hf
  exact W.iret (v := gG.1) hx hb hr (fun t ht hW => ⟨⟨gG.1, (), rfl, rfl, by rw [ht]; exact hP, va_K.moved hW.alike hK, hD⟩, hS.F ht⟩) hS.2.2 dX3_wide_4
/-! HedgeGliders$Ground.high()I -/
def f_X3_high (gG : GrS) : Int32 := gG.2.1
abbrev rm_X3_high : Room := ({ frames := 0, cells := 0, slots := 0, locals := 0 } : Room)
abbrev A_X3_high (cI cJ : ClassId) (zgr : Nat) (gG : GrS) (sz : Nat) : Nat → Prop := va_A [(zgr, .inr (2, [.int gG.1, .int gG.2.1, .int (bI gG.2.2.1), .long gG.2.2.2.1, .long gG.2.2.2.2.1, .long gG.2.2.2.2.2.1, .long gG.2.2.2.2.2.2.1, .long gG.2.2.2.2.2.2.2]))] sz
abbrev Q_X3_high (dC : Nat → ClassId) (dI : Nat → Nat → Nat) (cI cJ : ClassId) (zgr : Nat) (gG : GrS) (sz : Nat) (R : Int32) : Array Value → State → Outcome → State → Prop := va_Qi (fun (r : Int32) (_ : Unit) => r = R) (fun u_ t => va_P (dC, dI) vwCl [(zgr, .inr (2, [.int gG.1, .int gG.2.1, .int (bI gG.2.2.1), .long gG.2.2.2.1, .long gG.2.2.2.2.1, .long gG.2.2.2.2.2.1, .long gG.2.2.2.2.2.2.1, .long gG.2.2.2.2.2.2.2]))] t.heap ∧ va_K (dC, dI) vwCl [(cI, .int), (cJ, .long)] t ∧ va_D (A_X3_high cI cJ zgr gG sz) [(zgr, .inr (2, [.int gG.1, .int gG.2.1, .int (bI gG.2.2.1), .long gG.2.2.2.1, .long gG.2.2.2.2.1, .long gG.2.2.2.2.2.1, .long gG.2.2.2.2.2.2.1, .long gG.2.2.2.2.2.2.2]))]) (A_X3_high cI cJ zgr gG sz)
set_option maxHeartbeats 4000000 in
set_option maxRecDepth 100000 in
theorem c_X3_high (l : Launch) (dC : Nat → ClassId) (dI : Nat → Nat → Nat) (cI cJ : ClassId) (zgr : Nat) (sz : Nat) (gG : GrS) : Met l yX3_high wsX3_high rm_X3_high (va_Pc [.ref zgr] (fun U => U.heap.size = sz ∧ va_P (dC, dI) vwCl [(zgr, .inr (2, [.int gG.1, .int gG.2.1, .int (bI gG.2.2.1), .long gG.2.2.2.1, .long gG.2.2.2.2.1, .long gG.2.2.2.2.2.1, .long gG.2.2.2.2.2.2.1, .long gG.2.2.2.2.2.2.2]))] U.heap ∧ va_K (dC, dI) vwCl [(cI, .int), (cJ, .long)] U ∧ va_D (fun _ => True) [(zgr, .inr (2, [.int gG.1, .int gG.2.1, .int (bI gG.2.2.1), .long gG.2.2.2.1, .long gG.2.2.2.2.1, .long gG.2.2.2.2.2.1, .long gG.2.2.2.2.2.2.1, .long gG.2.2.2.2.2.2.2]))])) (Q_X3_high dC dI cI cJ zgr gG sz (f_X3_high gG)) 0 0 (A_X3_high cI cJ zgr gG sz) := by
  generalize hf : (f_X3_high gG) = R
  refine Met.ofW (cc := cX3_high) (maxL := 1) (ret := (some .int)) (by decide) rfl ?_
  intro p e s m args below meth c s₁ B hml hv
  obtain ⟨hargs, hsz, hP, hK, hD0⟩ := hv
  have hx := B.exec
  have hb := B.bytes
  have hr := B.returns
  have hts := atoms_spec (ws := wsX3_high) B.pre
  have hown : s.vm.findClass RX3 = some m.cls := findClass_of_methodNamed B.named
  have hlocks := B.notSynchronized
  subst hsz
  have hD : va_D (A_X3_high cI cJ zgr gG s.heap.size) [(zgr, .inr (2, [.int gG.1, .int gG.2.1, .int (bI gG.2.2.1), .long gG.2.2.2.1, .long gG.2.2.2.2.1, .long gG.2.2.2.2.2.1, .long gG.2.2.2.2.2.2.1, .long gG.2.2.2.2.2.2.2]))] := hD0.self (sz := s.heap.size)
  have hA : ∀ q : Nat, s.heap.size ≤ q → (A_X3_high cI cJ zgr gG s.heap.size) q := fun q h => Or.inr h
  have hS : va_S (A_X3_high cI cJ zgr gG s.heap.size) s.heap s.heap [] := va_S.rf
  have hinX3 : ∀ w ∈ wsX30, w ∈ wsX3_high := by decide +kernel
  have hw0 := hts (.fieldLink RX3 13 "HedgeGliders$Ground" "high" "I") (by decide +kernel)
  have hl := lv_entry ([.ref zgr]) (n := 1) (Nat.le_of_ble_eq_true rfl)
  have he0 : entryFrame m args 1 = entryFrame m ([.ref zgr] : List Value).toArray 1 := by rw [hargs]
  rw [he0, lg_entry_eq]
  generalize (lg_sl ([.ref zgr]) ++ List.replicate (1 - (lg_sl ([.ref zgr])).length) Slot.unset).toArray = ls at hl ⊢
  have hl : lv_has ls 1 [(0, .ref zgr)] := hl
  rw [f_X3_high] at hf
  refine lv_aload_n hx hb dX3_high_0 rfl (lv_at hl 0 rfl) ?_
  refine va_get (D := (dC, dI)) (ci := 2) (v := .int gG.2.1) (C := RX3) (T := TX3) (N := 8) hx hb hts hinX3 hown hK hP 0 rfl rfl 1 (by decide) hw0 (fun _ h9 => h9) rfl dX3_high_1 ?_
  obtain rfl := hf
  exact W.iret (v := gG.2.1) hx hb hr (fun t ht hW => ⟨⟨gG.2.1, (), rfl, rfl, by rw [ht]; exact hP, va_K.moved hW.alike hK, hD⟩, hS.F ht⟩) hS.2.2 dX3_high_4
/-! HedgeGliders$Ground.isRound()Z -/
def f_X3_isRound (gG : GrS) : Int32 := (bI gG.2.2.1)
abbrev rm_X3_isRound : Room := ({ frames := 0, cells := 0, slots := 0, locals := 0 } : Room)
abbrev A_X3_isRound (cI cJ : ClassId) (zgr : Nat) (gG : GrS) (sz : Nat) : Nat → Prop := va_A [(zgr, .inr (2, [.int gG.1, .int gG.2.1, .int (bI gG.2.2.1), .long gG.2.2.2.1, .long gG.2.2.2.2.1, .long gG.2.2.2.2.2.1, .long gG.2.2.2.2.2.2.1, .long gG.2.2.2.2.2.2.2]))] sz
abbrev Q_X3_isRound (dC : Nat → ClassId) (dI : Nat → Nat → Nat) (cI cJ : ClassId) (zgr : Nat) (gG : GrS) (sz : Nat) (R : Int32) : Array Value → State → Outcome → State → Prop := va_Qi (fun (r : Int32) (_ : Unit) => r = R) (fun u_ t => va_P (dC, dI) vwCl [(zgr, .inr (2, [.int gG.1, .int gG.2.1, .int (bI gG.2.2.1), .long gG.2.2.2.1, .long gG.2.2.2.2.1, .long gG.2.2.2.2.2.1, .long gG.2.2.2.2.2.2.1, .long gG.2.2.2.2.2.2.2]))] t.heap ∧ va_K (dC, dI) vwCl [(cI, .int), (cJ, .long)] t ∧ va_D (A_X3_isRound cI cJ zgr gG sz) [(zgr, .inr (2, [.int gG.1, .int gG.2.1, .int (bI gG.2.2.1), .long gG.2.2.2.1, .long gG.2.2.2.2.1, .long gG.2.2.2.2.2.1, .long gG.2.2.2.2.2.2.1, .long gG.2.2.2.2.2.2.2]))]) (A_X3_isRound cI cJ zgr gG sz)
set_option maxHeartbeats 4000000 in
set_option maxRecDepth 100000 in
theorem c_X3_isRound (l : Launch) (dC : Nat → ClassId) (dI : Nat → Nat → Nat) (cI cJ : ClassId) (zgr : Nat) (sz : Nat) (gG : GrS) : Met l yX3_isRound wsX3_isRound rm_X3_isRound (va_Pc [.ref zgr] (fun U => U.heap.size = sz ∧ va_P (dC, dI) vwCl [(zgr, .inr (2, [.int gG.1, .int gG.2.1, .int (bI gG.2.2.1), .long gG.2.2.2.1, .long gG.2.2.2.2.1, .long gG.2.2.2.2.2.1, .long gG.2.2.2.2.2.2.1, .long gG.2.2.2.2.2.2.2]))] U.heap ∧ va_K (dC, dI) vwCl [(cI, .int), (cJ, .long)] U ∧ va_D (fun _ => True) [(zgr, .inr (2, [.int gG.1, .int gG.2.1, .int (bI gG.2.2.1), .long gG.2.2.2.1, .long gG.2.2.2.2.1, .long gG.2.2.2.2.2.1, .long gG.2.2.2.2.2.2.1, .long gG.2.2.2.2.2.2.2]))])) (Q_X3_isRound dC dI cI cJ zgr gG sz (f_X3_isRound gG)) 0 0 (A_X3_isRound cI cJ zgr gG sz) := by
  generalize hf : (f_X3_isRound gG) = R
  refine Met.ofW (cc := cX3_isRound) (maxL := 1) (ret := (some .boolean)) (by decide) rfl ?_
  intro p e s m args below meth c s₁ B hml hv
  obtain ⟨hargs, hsz, hP, hK, hD0⟩ := hv
  have hx := B.exec
  have hb := B.bytes
  have hr := B.returns
  have hts := atoms_spec (ws := wsX3_isRound) B.pre
  have hown : s.vm.findClass RX3 = some m.cls := findClass_of_methodNamed B.named
  have hlocks := B.notSynchronized
  subst hsz
  have hD : va_D (A_X3_isRound cI cJ zgr gG s.heap.size) [(zgr, .inr (2, [.int gG.1, .int gG.2.1, .int (bI gG.2.2.1), .long gG.2.2.2.1, .long gG.2.2.2.2.1, .long gG.2.2.2.2.2.1, .long gG.2.2.2.2.2.2.1, .long gG.2.2.2.2.2.2.2]))] := hD0.self (sz := s.heap.size)
  have hA : ∀ q : Nat, s.heap.size ≤ q → (A_X3_isRound cI cJ zgr gG s.heap.size) q := fun q h => Or.inr h
  have hS : va_S (A_X3_isRound cI cJ zgr gG s.heap.size) s.heap s.heap [] := va_S.rf
  have hinX3 : ∀ w ∈ wsX30, w ∈ wsX3_isRound := by decide +kernel
  have hw0 := hts (.fieldLink RX3 36 "HedgeGliders$Ground" "round" "Z") (by decide +kernel)
  have hl := lv_entry ([.ref zgr]) (n := 1) (Nat.le_of_ble_eq_true rfl)
  have he0 : entryFrame m args 1 = entryFrame m ([.ref zgr] : List Value).toArray 1 := by rw [hargs]
  rw [he0, lg_entry_eq]
  generalize (lg_sl ([.ref zgr]) ++ List.replicate (1 - (lg_sl ([.ref zgr])).length) Slot.unset).toArray = ls at hl ⊢
  have hl : lv_has ls 1 [(0, .ref zgr)] := hl
  rw [f_X3_isRound] at hf
  refine lv_aload_n hx hb dX3_isRound_0 rfl (lv_at hl 0 rfl) ?_
  refine va_get (D := (dC, dI)) (ci := 2) (v := .int (bI gG.2.2.1)) (C := RX3) (T := TX3) (N := 8) hx hb hts hinX3 hown hK hP 0 rfl rfl 2 (by decide) hw0 (fun _ h9 => h9) rfl dX3_isRound_1 ?_
  obtain rfl := hf
  exact W.zret (v := (bI gG.2.2.1)) (ty := .boolean) hx hb hr (bI_nar _) (fun t ht hW => ⟨⟨(bI gG.2.2.1), (), rfl, rfl, by rw [ht]; exact hP, va_K.moved hW.alike hK, hD⟩, hS.F ht⟩) hS.2.2 dX3_isRound_4
/-! HedgeGliders$Ground.has(II)Z -/
def f_X3_has (gG : GrS) (cx : Int32) (cy : Int32) : Int32 := if cx < 0 then (0) else (if gG.1 ≤ cx then (0) else (if cy < 0 then (0) else (if gG.2.1 ≤ cy then (0) else (1))))
abbrev rm_X3_has : Room := ({ frames := 0, cells := 0, slots := 0, locals := 0 } : Room)
abbrev A_X3_has (cI cJ : ClassId) (zgr : Nat) (gG : GrS) (cx : Int32) (cy : Int32) (sz : Nat) : Nat → Prop := va_A [(zgr, .inr (2, [.int gG.1, .int gG.2.1, .int (bI gG.2.2.1), .long gG.2.2.2.1, .long gG.2.2.2.2.1, .long gG.2.2.2.2.2.1, .long gG.2.2.2.2.2.2.1, .long gG.2.2.2.2.2.2.2]))] sz
abbrev Q_X3_has (dC : Nat → ClassId) (dI : Nat → Nat → Nat) (cI cJ : ClassId) (zgr : Nat) (gG : GrS) (cx : Int32) (cy : Int32) (sz : Nat) (R : Int32) : Array Value → State → Outcome → State → Prop := va_Qi (fun (r : Int32) (_ : Unit) => r = R) (fun u_ t => va_P (dC, dI) vwCl [(zgr, .inr (2, [.int gG.1, .int gG.2.1, .int (bI gG.2.2.1), .long gG.2.2.2.1, .long gG.2.2.2.2.1, .long gG.2.2.2.2.2.1, .long gG.2.2.2.2.2.2.1, .long gG.2.2.2.2.2.2.2]))] t.heap ∧ va_K (dC, dI) vwCl [(cI, .int), (cJ, .long)] t ∧ va_D (A_X3_has cI cJ zgr gG cx cy sz) [(zgr, .inr (2, [.int gG.1, .int gG.2.1, .int (bI gG.2.2.1), .long gG.2.2.2.1, .long gG.2.2.2.2.1, .long gG.2.2.2.2.2.1, .long gG.2.2.2.2.2.2.1, .long gG.2.2.2.2.2.2.2]))]) (A_X3_has cI cJ zgr gG cx cy sz)
set_option maxHeartbeats 4000000 in
set_option maxRecDepth 100000 in
theorem c_X3_has (l : Launch) (dC : Nat → ClassId) (dI : Nat → Nat → Nat) (cI cJ : ClassId) (zgr : Nat) (sz : Nat) (gG : GrS) (cx : Int32) (cy : Int32) : Met l yX3_has wsX3_has rm_X3_has (va_Pc [.ref zgr, .int cx, .int cy] (fun U => U.heap.size = sz ∧ va_P (dC, dI) vwCl [(zgr, .inr (2, [.int gG.1, .int gG.2.1, .int (bI gG.2.2.1), .long gG.2.2.2.1, .long gG.2.2.2.2.1, .long gG.2.2.2.2.2.1, .long gG.2.2.2.2.2.2.1, .long gG.2.2.2.2.2.2.2]))] U.heap ∧ va_K (dC, dI) vwCl [(cI, .int), (cJ, .long)] U ∧ va_D (fun _ => True) [(zgr, .inr (2, [.int gG.1, .int gG.2.1, .int (bI gG.2.2.1), .long gG.2.2.2.1, .long gG.2.2.2.2.1, .long gG.2.2.2.2.2.1, .long gG.2.2.2.2.2.2.1, .long gG.2.2.2.2.2.2.2]))])) (Q_X3_has dC dI cI cJ zgr gG cx cy sz (f_X3_has gG cx cy)) 0 0 (A_X3_has cI cJ zgr gG cx cy sz) := by
  generalize hf : (f_X3_has gG cx cy) = R
  refine Met.ofW (cc := cX3_has) (maxL := 3) (ret := (some .boolean)) (by decide) rfl ?_
  intro p e s m args below meth c s₁ B hml hv
  obtain ⟨hargs, hsz, hP, hK, hD0⟩ := hv
  have hx := B.exec
  have hb := B.bytes
  have hr := B.returns
  have hts := atoms_spec (ws := wsX3_has) B.pre
  have hown : s.vm.findClass RX3 = some m.cls := findClass_of_methodNamed B.named
  have hlocks := B.notSynchronized
  subst hsz
  have hD : va_D (A_X3_has cI cJ zgr gG cx cy s.heap.size) [(zgr, .inr (2, [.int gG.1, .int gG.2.1, .int (bI gG.2.2.1), .long gG.2.2.2.1, .long gG.2.2.2.2.1, .long gG.2.2.2.2.2.1, .long gG.2.2.2.2.2.2.1, .long gG.2.2.2.2.2.2.2]))] := hD0.self (sz := s.heap.size)
  have hA : ∀ q : Nat, s.heap.size ≤ q → (A_X3_has cI cJ zgr gG cx cy s.heap.size) q := fun q h => Or.inr h
  have hS : va_S (A_X3_has cI cJ zgr gG cx cy s.heap.size) s.heap s.heap [] := va_S.rf
  have hinX3 : ∀ w ∈ wsX30, w ∈ wsX3_has := by decide +kernel
  have hw0 := hts (.fieldLink RX3 9 "HedgeGliders$Ground" "wide" "I") (by decide +kernel)
  have hw1 := hts (.fieldLink RX3 13 "HedgeGliders$Ground" "high" "I") (by decide +kernel)
  have hl := lv_entry ([.ref zgr, .int cx, .int cy]) (n := 3) (Nat.le_of_ble_eq_true rfl)
  have he0 : entryFrame m args 3 = entryFrame m ([.ref zgr, .int cx, .int cy] : List Value).toArray 3 := by rw [hargs]
  rw [he0, lg_entry_eq]
  generalize (lg_sl ([.ref zgr, .int cx, .int cy]) ++ List.replicate (3 - (lg_sl ([.ref zgr, .int cx, .int cy])).length) Slot.unset).toArray = ls at hl ⊢
  have hl : lv_has ls 3 [(0, .ref zgr), (1, .int cx), (2, .int cy)] := hl
  rw [f_X3_has] at hf
  refine lv_iload_n hx hb dX3_has_0 rfl (lv_at hl 1 rfl) ?_
  refine lv_if_lt (tgt := 28) hx hb dX3_has_1 (by decide) (fun hc => ?_) (fun hc => ?_)
  · rw [if_pos hc] at hf
    refine lv_iconst (v := 0) hx hb dX3_has_28 (by decide) ?_
    obtain rfl := hf
    exact W.zret (v := 0) (ty := .boolean) hx hb hr rfl (fun t ht hW => ⟨⟨0, (), rfl, rfl, by rw [ht]; exact hP, va_K.moved hW.alike hK, hD⟩, hS.F ht⟩) hS.2.2 dX3_has_29
  · rw [if_neg hc] at hf
    refine lv_iload_n hx hb dX3_has_4 rfl (lv_at hl 1 rfl) ?_
    refine lv_aload_n hx hb dX3_has_5 rfl (lv_at hl 0 rfl) ?_
    refine va_get (D := (dC, dI)) (ci := 2) (v := .int gG.1) (C := RX3) (T := TX3) (N := 8) hx hb hts hinX3 hown hK hP 0 rfl rfl 0 (by decide) hw0 (fun _ h9 => h9) rfl dX3_has_6 ?_
    refine lv_icmp_ge (tgt := 28) hx hb dX3_has_9 (by decide) (fun hc => ?_) (fun hc => ?_)
    · rw [if_pos hc] at hf
      refine lv_iconst (v := 0) hx hb dX3_has_28 (by decide) ?_
      obtain rfl := hf
      exact W.zret (v := 0) (ty := .boolean) hx hb hr rfl (fun t ht hW => ⟨⟨0, (), rfl, rfl, by rw [ht]; exact hP, va_K.moved hW.alike hK, hD⟩, hS.F ht⟩) hS.2.2 dX3_has_29
    · rw [if_neg hc] at hf
      refine lv_iload_n hx hb dX3_has_12 rfl (lv_at hl 2 rfl) ?_
      refine lv_if_lt (tgt := 28) hx hb dX3_has_13 (by decide) (fun hc => ?_) (fun hc => ?_)
      · rw [if_pos hc] at hf
        refine lv_iconst (v := 0) hx hb dX3_has_28 (by decide) ?_
        obtain rfl := hf
        exact W.zret (v := 0) (ty := .boolean) hx hb hr rfl (fun t ht hW => ⟨⟨0, (), rfl, rfl, by rw [ht]; exact hP, va_K.moved hW.alike hK, hD⟩, hS.F ht⟩) hS.2.2 dX3_has_29
      · rw [if_neg hc] at hf
        refine lv_iload_n hx hb dX3_has_16 rfl (lv_at hl 2 rfl) ?_
        refine lv_aload_n hx hb dX3_has_17 rfl (lv_at hl 0 rfl) ?_
        refine va_get (D := (dC, dI)) (ci := 2) (v := .int gG.2.1) (C := RX3) (T := TX3) (N := 8) hx hb hts hinX3 hown hK hP 0 rfl rfl 1 (by decide) hw1 (fun _ h9 => h9) rfl dX3_has_18 ?_
        refine lv_icmp_ge (tgt := 28) hx hb dX3_has_21 (by decide) (fun hc => ?_) (fun hc => ?_)
        · rw [if_pos hc] at hf
          refine lv_iconst (v := 0) hx hb dX3_has_28 (by decide) ?_
          obtain rfl := hf
          exact W.zret (v := 0) (ty := .boolean) hx hb hr rfl (fun t ht hW => ⟨⟨0, (), rfl, rfl, by rw [ht]; exact hP, va_K.moved hW.alike hK, hD⟩, hS.F ht⟩) hS.2.2 dX3_has_29
        · rw [if_neg hc] at hf
          refine lv_iconst (v := 1) hx hb dX3_has_24 (by decide) ?_
          refine lv_goto (tgt := 29) hx hb dX3_has_25 (by decide) ?_
          obtain rfl := hf
          exact W.zret (v := 1) (ty := .boolean) hx hb hr rfl (fun t ht hW => ⟨⟨1, (), rfl, rfl, by rw [ht]; exact hP, va_K.moved hW.alike hK, hD⟩, hS.F ht⟩) hS.2.2 dX3_has_29
/-! HedgeGliders$Ground.left(J)J -/
def f_X3_left (gG : GrS) (cs : Int64) : Int64 := if (bI gG.2.2.1) = 0 then ((jushr (cs &&& (gG.2.2.2.2.1 ^^^ (-1))) 1)) else (((jushr (cs &&& (gG.2.2.2.2.1 ^^^ (-1))) 1) ||| (jshl (cs &&& gG.2.2.2.2.1) (gG.1 - 1))))
abbrev rm_X3_left : Room := ({ frames := 0, cells := 0, slots := 0, locals := 0 } : Room)
abbrev A_X3_left (cI cJ : ClassId) (zgr : Nat) (gG : GrS) (cs : Int64) (sz : Nat) : Nat → Prop := va_A [(zgr, .inr (2, [.int gG.1, .int gG.2.1, .int (bI gG.2.2.1), .long gG.2.2.2.1, .long gG.2.2.2.2.1, .long gG.2.2.2.2.2.1, .long gG.2.2.2.2.2.2.1, .long gG.2.2.2.2.2.2.2]))] sz
abbrev Q_X3_left (dC : Nat → ClassId) (dI : Nat → Nat → Nat) (cI cJ : ClassId) (zgr : Nat) (gG : GrS) (cs : Int64) (sz : Nat) (R : Int64) : Array Value → State → Outcome → State → Prop := va_Ql (fun (r : Int64) (_ : Unit) => r = R) (fun u_ t => va_P (dC, dI) vwCl [(zgr, .inr (2, [.int gG.1, .int gG.2.1, .int (bI gG.2.2.1), .long gG.2.2.2.1, .long gG.2.2.2.2.1, .long gG.2.2.2.2.2.1, .long gG.2.2.2.2.2.2.1, .long gG.2.2.2.2.2.2.2]))] t.heap ∧ va_K (dC, dI) vwCl [(cI, .int), (cJ, .long)] t ∧ va_D (A_X3_left cI cJ zgr gG cs sz) [(zgr, .inr (2, [.int gG.1, .int gG.2.1, .int (bI gG.2.2.1), .long gG.2.2.2.1, .long gG.2.2.2.2.1, .long gG.2.2.2.2.2.1, .long gG.2.2.2.2.2.2.1, .long gG.2.2.2.2.2.2.2]))]) (A_X3_left cI cJ zgr gG cs sz)
set_option maxHeartbeats 4000000 in
set_option maxRecDepth 100000 in
theorem c_X3_left (l : Launch) (dC : Nat → ClassId) (dI : Nat → Nat → Nat) (cI cJ : ClassId) (zgr : Nat) (sz : Nat) (gG : GrS) (cs : Int64) : Met l yX3_left wsX3_left rm_X3_left (va_Pc [.ref zgr, .long cs] (fun U => U.heap.size = sz ∧ va_P (dC, dI) vwCl [(zgr, .inr (2, [.int gG.1, .int gG.2.1, .int (bI gG.2.2.1), .long gG.2.2.2.1, .long gG.2.2.2.2.1, .long gG.2.2.2.2.2.1, .long gG.2.2.2.2.2.2.1, .long gG.2.2.2.2.2.2.2]))] U.heap ∧ va_K (dC, dI) vwCl [(cI, .int), (cJ, .long)] U ∧ va_D (fun _ => True) [(zgr, .inr (2, [.int gG.1, .int gG.2.1, .int (bI gG.2.2.1), .long gG.2.2.2.1, .long gG.2.2.2.2.1, .long gG.2.2.2.2.2.1, .long gG.2.2.2.2.2.2.1, .long gG.2.2.2.2.2.2.2]))])) (Q_X3_left dC dI cI cJ zgr gG cs sz (f_X3_left gG cs)) 0 0 (A_X3_left cI cJ zgr gG cs sz) := by
  generalize hf : (f_X3_left gG cs) = R
  refine Met.ofW (cc := cX3_left) (maxL := 5) (ret := (some .long)) (by decide) rfl ?_
  intro p e s m args below meth c s₁ B hml hv
  obtain ⟨hargs, hsz, hP, hK, hD0⟩ := hv
  have hx := B.exec
  have hb := B.bytes
  have hr := B.returns
  have hts := atoms_spec (ws := wsX3_left) B.pre
  have hown : s.vm.findClass RX3 = some m.cls := findClass_of_methodNamed B.named
  have hlocks := B.notSynchronized
  subst hsz
  have hD : va_D (A_X3_left cI cJ zgr gG cs s.heap.size) [(zgr, .inr (2, [.int gG.1, .int gG.2.1, .int (bI gG.2.2.1), .long gG.2.2.2.1, .long gG.2.2.2.2.1, .long gG.2.2.2.2.2.1, .long gG.2.2.2.2.2.2.1, .long gG.2.2.2.2.2.2.2]))] := hD0.self (sz := s.heap.size)
  have hA : ∀ q : Nat, s.heap.size ≤ q → (A_X3_left cI cJ zgr gG cs s.heap.size) q := fun q h => Or.inr h
  have hS : va_S (A_X3_left cI cJ zgr gG cs s.heap.size) s.heap s.heap [] := va_S.rf
  have hinX3 : ∀ w ∈ wsX30, w ∈ wsX3_left := by decide +kernel
  have hw0 := hts (.fieldLink RX3 23 "HedgeGliders$Ground" "firstColumn" "J") (by decide +kernel)
  have hw1 := hts (.constantLong RX3 40 (-1)) (by decide +kernel)
  have hw2 := hts (.fieldLink RX3 36 "HedgeGliders$Ground" "round" "Z") (by decide +kernel)
  have hw3 := hts (.fieldLink RX3 9 "HedgeGliders$Ground" "wide" "I") (by decide +kernel)
  have hl := lv_entry ([.ref zgr, .long cs]) (n := 5) (Nat.le_of_ble_eq_true rfl)
  have he0 : entryFrame m args 5 = entryFrame m ([.ref zgr, .long cs] : List Value).toArray 5 := by rw [hargs]
  rw [he0, lg_entry_eq]
  generalize (lg_sl ([.ref zgr, .long cs]) ++ List.replicate (5 - (lg_sl ([.ref zgr, .long cs])).length) Slot.unset).toArray = ls at hl ⊢
  have hl : lv_has ls 5 [(0, .ref zgr), (1, .long cs)] := hl
  rw [f_X3_left] at hf
  refine lv_lload_n hx hb dX3_left_0 rfl (lv_at hl 1 rfl) ?_
  refine lv_aload_n hx hb dX3_left_1 rfl (lv_at hl 0 rfl) ?_
  refine va_get (D := (dC, dI)) (ci := 2) (v := .long gG.2.2.2.2.1) (C := RX3) (T := TX3) (N := 8) hx hb hts hinX3 hown hK hP 0 rfl rfl 4 (by decide) hw0 (fun _ h9 => h9) rfl dX3_left_2 ?_
  refine lv_ldc2 (v := (-1)) hx hb hown hw1 dX3_left_5 ?_
  refine lv_lxor hx hb dX3_left_8 ?_
  refine lv_land hx hb dX3_left_9 ?_
  refine lv_iconst (v := 1) hx hb dX3_left_10 (by decide) ?_
  refine lv_lushr (v := (jushr (cs &&& (gG.2.2.2.2.1 ^^^ (-1))) 1)) hx hb dX3_left_11 rfl ?_
  refine lv_lstore_n (lv' := [(3, .long (jushr (cs &&& (gG.2.2.2.2.1 ^^^ (-1))) 1)), (0, .ref zgr), (1, .long cs)]) hx hb dX3_left_12 rfl hl (by decide) rfl (fun ls hl => ?_)
  refine lv_aload_n hx hb dX3_left_13 rfl (lv_at hl 1 rfl) ?_
  refine va_get (D := (dC, dI)) (ci := 2) (v := .int (bI gG.2.2.1)) (C := RX3) (T := TX3) (N := 8) hx hb hts hinX3 hown hK hP 0 rfl rfl 2 (by decide) hw2 (fun _ h9 => h9) rfl dX3_left_14 ?_
  refine lv_if_eq (tgt := 38) hx hb dX3_left_17 (by decide) (fun hc => ?_) (fun hc => ?_)
  · rw [if_pos hc] at hf
    refine lv_lload_n hx hb dX3_left_38 rfl (lv_at hl 0 rfl) ?_
    obtain rfl := hf
    exact W.lret (v := (jushr (cs &&& (gG.2.2.2.2.1 ^^^ (-1))) 1)) hx hb hr (fun t ht hW => ⟨⟨(jushr (cs &&& (gG.2.2.2.2.1 ^^^ (-1))) 1), (), rfl, rfl, by rw [ht]; exact hP, va_K.moved hW.alike hK, hD⟩, hS.F ht⟩) hS.2.2 dX3_left_39
  · rw [if_neg hc] at hf
    refine lv_lload_n hx hb dX3_left_20 rfl (lv_at hl 0 rfl) ?_
    refine lv_lload_n hx hb dX3_left_21 rfl (lv_at hl 2 rfl) ?_
    refine lv_aload_n hx hb dX3_left_22 rfl (lv_at hl 1 rfl) ?_
    refine va_get (D := (dC, dI)) (ci := 2) (v := .long gG.2.2.2.2.1) (C := RX3) (T := TX3) (N := 8) hx hb hts hinX3 hown hK hP 0 rfl rfl 4 (by decide) hw0 (fun _ h9 => h9) rfl dX3_left_23 ?_
    refine lv_land hx hb dX3_left_26 ?_
    refine lv_aload_n hx hb dX3_left_27 rfl (lv_at hl 1 rfl) ?_
    refine va_get (D := (dC, dI)) (ci := 2) (v := .int gG.1) (C := RX3) (T := TX3) (N := 8) hx hb hts hinX3 hown hK hP 0 rfl rfl 0 (by decide) hw3 (fun _ h9 => h9) rfl dX3_left_28 ?_
    refine lv_iconst (v := 1) hx hb dX3_left_31 (by decide) ?_
    refine lv_isub hx hb dX3_left_32 ?_
    refine lv_lshl (v := (jshl (cs &&& gG.2.2.2.2.1) (gG.1 - 1))) hx hb dX3_left_33 rfl ?_
    refine lv_lor hx hb dX3_left_34 ?_
    refine lv_goto (tgt := 39) hx hb dX3_left_35 (by decide) ?_
    obtain rfl := hf
    exact W.lret (v := ((jushr (cs &&& (gG.2.2.2.2.1 ^^^ (-1))) 1) ||| (jshl (cs &&& gG.2.2.2.2.1) (gG.1 - 1)))) hx hb hr (fun t ht hW => ⟨⟨((jushr (cs &&& (gG.2.2.2.2.1 ^^^ (-1))) 1) ||| (jshl (cs &&& gG.2.2.2.2.1) (gG.1 - 1))), (), rfl, rfl, by rw [ht]; exact hP, va_K.moved hW.alike hK, hD⟩, hS.F ht⟩) hS.2.2 dX3_left_39
/-! HedgeGliders$Ground.right(J)J -/
def f_X3_right (gG : GrS) (cs : Int64) : Int64 := if (bI gG.2.2.1) = 0 then ((jshl (cs &&& (gG.2.2.2.2.2.1 ^^^ (-1))) 1)) else (((jshl (cs &&& (gG.2.2.2.2.2.1 ^^^ (-1))) 1) ||| (jushr (cs &&& gG.2.2.2.2.2.1) (gG.1 - 1))))
abbrev rm_X3_right : Room := ({ frames := 0, cells := 0, slots := 0, locals := 0 } : Room)
abbrev A_X3_right (cI cJ : ClassId) (zgr : Nat) (gG : GrS) (cs : Int64) (sz : Nat) : Nat → Prop := va_A [(zgr, .inr (2, [.int gG.1, .int gG.2.1, .int (bI gG.2.2.1), .long gG.2.2.2.1, .long gG.2.2.2.2.1, .long gG.2.2.2.2.2.1, .long gG.2.2.2.2.2.2.1, .long gG.2.2.2.2.2.2.2]))] sz
abbrev Q_X3_right (dC : Nat → ClassId) (dI : Nat → Nat → Nat) (cI cJ : ClassId) (zgr : Nat) (gG : GrS) (cs : Int64) (sz : Nat) (R : Int64) : Array Value → State → Outcome → State → Prop := va_Ql (fun (r : Int64) (_ : Unit) => r = R) (fun u_ t => va_P (dC, dI) vwCl [(zgr, .inr (2, [.int gG.1, .int gG.2.1, .int (bI gG.2.2.1), .long gG.2.2.2.1, .long gG.2.2.2.2.1, .long gG.2.2.2.2.2.1, .long gG.2.2.2.2.2.2.1, .long gG.2.2.2.2.2.2.2]))] t.heap ∧ va_K (dC, dI) vwCl [(cI, .int), (cJ, .long)] t ∧ va_D (A_X3_right cI cJ zgr gG cs sz) [(zgr, .inr (2, [.int gG.1, .int gG.2.1, .int (bI gG.2.2.1), .long gG.2.2.2.1, .long gG.2.2.2.2.1, .long gG.2.2.2.2.2.1, .long gG.2.2.2.2.2.2.1, .long gG.2.2.2.2.2.2.2]))]) (A_X3_right cI cJ zgr gG cs sz)
set_option maxHeartbeats 4000000 in
set_option maxRecDepth 100000 in
theorem c_X3_right (l : Launch) (dC : Nat → ClassId) (dI : Nat → Nat → Nat) (cI cJ : ClassId) (zgr : Nat) (sz : Nat) (gG : GrS) (cs : Int64) : Met l yX3_right wsX3_right rm_X3_right (va_Pc [.ref zgr, .long cs] (fun U => U.heap.size = sz ∧ va_P (dC, dI) vwCl [(zgr, .inr (2, [.int gG.1, .int gG.2.1, .int (bI gG.2.2.1), .long gG.2.2.2.1, .long gG.2.2.2.2.1, .long gG.2.2.2.2.2.1, .long gG.2.2.2.2.2.2.1, .long gG.2.2.2.2.2.2.2]))] U.heap ∧ va_K (dC, dI) vwCl [(cI, .int), (cJ, .long)] U ∧ va_D (fun _ => True) [(zgr, .inr (2, [.int gG.1, .int gG.2.1, .int (bI gG.2.2.1), .long gG.2.2.2.1, .long gG.2.2.2.2.1, .long gG.2.2.2.2.2.1, .long gG.2.2.2.2.2.2.1, .long gG.2.2.2.2.2.2.2]))])) (Q_X3_right dC dI cI cJ zgr gG cs sz (f_X3_right gG cs)) 0 0 (A_X3_right cI cJ zgr gG cs sz) := by
  generalize hf : (f_X3_right gG cs) = R
  refine Met.ofW (cc := cX3_right) (maxL := 5) (ret := (some .long)) (by decide) rfl ?_
  intro p e s m args below meth c s₁ B hml hv
  obtain ⟨hargs, hsz, hP, hK, hD0⟩ := hv
  have hx := B.exec
  have hb := B.bytes
  have hr := B.returns
  have hts := atoms_spec (ws := wsX3_right) B.pre
  have hown : s.vm.findClass RX3 = some m.cls := findClass_of_methodNamed B.named
  have hlocks := B.notSynchronized
  subst hsz
  have hD : va_D (A_X3_right cI cJ zgr gG cs s.heap.size) [(zgr, .inr (2, [.int gG.1, .int gG.2.1, .int (bI gG.2.2.1), .long gG.2.2.2.1, .long gG.2.2.2.2.1, .long gG.2.2.2.2.2.1, .long gG.2.2.2.2.2.2.1, .long gG.2.2.2.2.2.2.2]))] := hD0.self (sz := s.heap.size)
  have hA : ∀ q : Nat, s.heap.size ≤ q → (A_X3_right cI cJ zgr gG cs s.heap.size) q := fun q h => Or.inr h
  have hS : va_S (A_X3_right cI cJ zgr gG cs s.heap.size) s.heap s.heap [] := va_S.rf
  have hinX3 : ∀ w ∈ wsX30, w ∈ wsX3_right := by decide +kernel
  have hw0 := hts (.fieldLink RX3 33 "HedgeGliders$Ground" "lastColumn" "J") (by decide +kernel)
  have hw1 := hts (.constantLong RX3 40 (-1)) (by decide +kernel)
  have hw2 := hts (.fieldLink RX3 36 "HedgeGliders$Ground" "round" "Z") (by decide +kernel)
  have hw3 := hts (.fieldLink RX3 9 "HedgeGliders$Ground" "wide" "I") (by decide +kernel)
  have hl := lv_entry ([.ref zgr, .long cs]) (n := 5) (Nat.le_of_ble_eq_true rfl)
  have he0 : entryFrame m args 5 = entryFrame m ([.ref zgr, .long cs] : List Value).toArray 5 := by rw [hargs]
  rw [he0, lg_entry_eq]
  generalize (lg_sl ([.ref zgr, .long cs]) ++ List.replicate (5 - (lg_sl ([.ref zgr, .long cs])).length) Slot.unset).toArray = ls at hl ⊢
  have hl : lv_has ls 5 [(0, .ref zgr), (1, .long cs)] := hl
  rw [f_X3_right] at hf
  refine lv_lload_n hx hb dX3_right_0 rfl (lv_at hl 1 rfl) ?_
  refine lv_aload_n hx hb dX3_right_1 rfl (lv_at hl 0 rfl) ?_
  refine va_get (D := (dC, dI)) (ci := 2) (v := .long gG.2.2.2.2.2.1) (C := RX3) (T := TX3) (N := 8) hx hb hts hinX3 hown hK hP 0 rfl rfl 5 (by decide) hw0 (fun _ h9 => h9) rfl dX3_right_2 ?_
  refine lv_ldc2 (v := (-1)) hx hb hown hw1 dX3_right_5 ?_
  refine lv_lxor hx hb dX3_right_8 ?_
  refine lv_land hx hb dX3_right_9 ?_
  refine lv_iconst (v := 1) hx hb dX3_right_10 (by decide) ?_
  refine lv_lshl (v := (jshl (cs &&& (gG.2.2.2.2.2.1 ^^^ (-1))) 1)) hx hb dX3_right_11 rfl ?_
  refine lv_lstore_n (lv' := [(3, .long (jshl (cs &&& (gG.2.2.2.2.2.1 ^^^ (-1))) 1)), (0, .ref zgr), (1, .long cs)]) hx hb dX3_right_12 rfl hl (by decide) rfl (fun ls hl => ?_)
  refine lv_aload_n hx hb dX3_right_13 rfl (lv_at hl 1 rfl) ?_
  refine va_get (D := (dC, dI)) (ci := 2) (v := .int (bI gG.2.2.1)) (C := RX3) (T := TX3) (N := 8) hx hb hts hinX3 hown hK hP 0 rfl rfl 2 (by decide) hw2 (fun _ h9 => h9) rfl dX3_right_14 ?_
  refine lv_if_eq (tgt := 38) hx hb dX3_right_17 (by decide) (fun hc => ?_) (fun hc => ?_)
  · rw [if_pos hc] at hf
    refine lv_lload_n hx hb dX3_right_38 rfl (lv_at hl 0 rfl) ?_
    obtain rfl := hf
    exact W.lret (v := (jshl (cs &&& (gG.2.2.2.2.2.1 ^^^ (-1))) 1)) hx hb hr (fun t ht hW => ⟨⟨(jshl (cs &&& (gG.2.2.2.2.2.1 ^^^ (-1))) 1), (), rfl, rfl, by rw [ht]; exact hP, va_K.moved hW.alike hK, hD⟩, hS.F ht⟩) hS.2.2 dX3_right_39
  · rw [if_neg hc] at hf
    refine lv_lload_n hx hb dX3_right_20 rfl (lv_at hl 0 rfl) ?_
    refine lv_lload_n hx hb dX3_right_21 rfl (lv_at hl 2 rfl) ?_
    refine lv_aload_n hx hb dX3_right_22 rfl (lv_at hl 1 rfl) ?_
    refine va_get (D := (dC, dI)) (ci := 2) (v := .long gG.2.2.2.2.2.1) (C := RX3) (T := TX3) (N := 8) hx hb hts hinX3 hown hK hP 0 rfl rfl 5 (by decide) hw0 (fun _ h9 => h9) rfl dX3_right_23 ?_
    refine lv_land hx hb dX3_right_26 ?_
    refine lv_aload_n hx hb dX3_right_27 rfl (lv_at hl 1 rfl) ?_
    refine va_get (D := (dC, dI)) (ci := 2) (v := .int gG.1) (C := RX3) (T := TX3) (N := 8) hx hb hts hinX3 hown hK hP 0 rfl rfl 0 (by decide) hw3 (fun _ h9 => h9) rfl dX3_right_28 ?_
    refine lv_iconst (v := 1) hx hb dX3_right_31 (by decide) ?_
    refine lv_isub hx hb dX3_right_32 ?_
    refine lv_lushr (v := (jushr (cs &&& gG.2.2.2.2.2.1) (gG.1 - 1))) hx hb dX3_right_33 rfl ?_
    refine lv_lor hx hb dX3_right_34 ?_
    refine lv_goto (tgt := 39) hx hb dX3_right_35 (by decide) ?_
    obtain rfl := hf
    exact W.lret (v := ((jshl (cs &&& (gG.2.2.2.2.2.1 ^^^ (-1))) 1) ||| (jushr (cs &&& gG.2.2.2.2.2.1) (gG.1 - 1)))) hx hb hr (fun t ht hW => ⟨⟨((jshl (cs &&& (gG.2.2.2.2.2.1 ^^^ (-1))) 1) ||| (jushr (cs &&& gG.2.2.2.2.2.1) (gG.1 - 1))), (), rfl, rfl, by rw [ht]; exact hP, va_K.moved hW.alike hK, hD⟩, hS.F ht⟩) hS.2.2 dX3_right_39
/-! HedgeGliders$Ground.up(J)J -/
def f_X3_up (gG : GrS) (cs : Int64) : Int64 := if (bI gG.2.2.1) = 0 then ((jushr (cs &&& (gG.2.2.2.2.2.2.1 ^^^ (-1))) 8)) else (((jushr (cs &&& (gG.2.2.2.2.2.2.1 ^^^ (-1))) 8) ||| (jshl (cs &&& gG.2.2.2.2.2.2.1) (8 * (gG.2.1 - 1)))))
abbrev rm_X3_up : Room := ({ frames := 0, cells := 0, slots := 0, locals := 0 } : Room)
abbrev A_X3_up (cI cJ : ClassId) (zgr : Nat) (gG : GrS) (cs : Int64) (sz : Nat) : Nat → Prop := va_A [(zgr, .inr (2, [.int gG.1, .int gG.2.1, .int (bI gG.2.2.1), .long gG.2.2.2.1, .long gG.2.2.2.2.1, .long gG.2.2.2.2.2.1, .long gG.2.2.2.2.2.2.1, .long gG.2.2.2.2.2.2.2]))] sz
abbrev Q_X3_up (dC : Nat → ClassId) (dI : Nat → Nat → Nat) (cI cJ : ClassId) (zgr : Nat) (gG : GrS) (cs : Int64) (sz : Nat) (R : Int64) : Array Value → State → Outcome → State → Prop := va_Ql (fun (r : Int64) (_ : Unit) => r = R) (fun u_ t => va_P (dC, dI) vwCl [(zgr, .inr (2, [.int gG.1, .int gG.2.1, .int (bI gG.2.2.1), .long gG.2.2.2.1, .long gG.2.2.2.2.1, .long gG.2.2.2.2.2.1, .long gG.2.2.2.2.2.2.1, .long gG.2.2.2.2.2.2.2]))] t.heap ∧ va_K (dC, dI) vwCl [(cI, .int), (cJ, .long)] t ∧ va_D (A_X3_up cI cJ zgr gG cs sz) [(zgr, .inr (2, [.int gG.1, .int gG.2.1, .int (bI gG.2.2.1), .long gG.2.2.2.1, .long gG.2.2.2.2.1, .long gG.2.2.2.2.2.1, .long gG.2.2.2.2.2.2.1, .long gG.2.2.2.2.2.2.2]))]) (A_X3_up cI cJ zgr gG cs sz)
set_option maxHeartbeats 4000000 in
set_option maxRecDepth 100000 in
theorem c_X3_up (l : Launch) (dC : Nat → ClassId) (dI : Nat → Nat → Nat) (cI cJ : ClassId) (zgr : Nat) (sz : Nat) (gG : GrS) (cs : Int64) : Met l yX3_up wsX3_up rm_X3_up (va_Pc [.ref zgr, .long cs] (fun U => U.heap.size = sz ∧ va_P (dC, dI) vwCl [(zgr, .inr (2, [.int gG.1, .int gG.2.1, .int (bI gG.2.2.1), .long gG.2.2.2.1, .long gG.2.2.2.2.1, .long gG.2.2.2.2.2.1, .long gG.2.2.2.2.2.2.1, .long gG.2.2.2.2.2.2.2]))] U.heap ∧ va_K (dC, dI) vwCl [(cI, .int), (cJ, .long)] U ∧ va_D (fun _ => True) [(zgr, .inr (2, [.int gG.1, .int gG.2.1, .int (bI gG.2.2.1), .long gG.2.2.2.1, .long gG.2.2.2.2.1, .long gG.2.2.2.2.2.1, .long gG.2.2.2.2.2.2.1, .long gG.2.2.2.2.2.2.2]))])) (Q_X3_up dC dI cI cJ zgr gG cs sz (f_X3_up gG cs)) 0 0 (A_X3_up cI cJ zgr gG cs sz) := by
  generalize hf : (f_X3_up gG cs) = R
  refine Met.ofW (cc := cX3_up) (maxL := 5) (ret := (some .long)) (by decide) rfl ?_
  intro p e s m args below meth c s₁ B hml hv
  obtain ⟨hargs, hsz, hP, hK, hD0⟩ := hv
  have hx := B.exec
  have hb := B.bytes
  have hr := B.returns
  have hts := atoms_spec (ws := wsX3_up) B.pre
  have hown : s.vm.findClass RX3 = some m.cls := findClass_of_methodNamed B.named
  have hlocks := B.notSynchronized
  subst hsz
  have hD : va_D (A_X3_up cI cJ zgr gG cs s.heap.size) [(zgr, .inr (2, [.int gG.1, .int gG.2.1, .int (bI gG.2.2.1), .long gG.2.2.2.1, .long gG.2.2.2.2.1, .long gG.2.2.2.2.2.1, .long gG.2.2.2.2.2.2.1, .long gG.2.2.2.2.2.2.2]))] := hD0.self (sz := s.heap.size)
  have hA : ∀ q : Nat, s.heap.size ≤ q → (A_X3_up cI cJ zgr gG cs s.heap.size) q := fun q h => Or.inr h
  have hS : va_S (A_X3_up cI cJ zgr gG cs s.heap.size) s.heap s.heap [] := va_S.rf
  have hinX3 : ∀ w ∈ wsX30, w ∈ wsX3_up := by decide +kernel
  have hw0 := hts (.fieldLink RX3 16 "HedgeGliders$Ground" "firstRow" "J") (by decide +kernel)
  have hw1 := hts (.constantLong RX3 40 (-1)) (by decide +kernel)
  have hw2 := hts (.fieldLink RX3 36 "HedgeGliders$Ground" "round" "Z") (by decide +kernel)
  have hw3 := hts (.fieldLink RX3 13 "HedgeGliders$Ground" "high" "I") (by decide +kernel)
  have hl := lv_entry ([.ref zgr, .long cs]) (n := 5) (Nat.le_of_ble_eq_true rfl)
  have he0 : entryFrame m args 5 = entryFrame m ([.ref zgr, .long cs] : List Value).toArray 5 := by rw [hargs]
  rw [he0, lg_entry_eq]
  generalize (lg_sl ([.ref zgr, .long cs]) ++ List.replicate (5 - (lg_sl ([.ref zgr, .long cs])).length) Slot.unset).toArray = ls at hl ⊢
  have hl : lv_has ls 5 [(0, .ref zgr), (1, .long cs)] := hl
  rw [f_X3_up] at hf
  refine lv_lload_n hx hb dX3_up_0 rfl (lv_at hl 1 rfl) ?_
  refine lv_aload_n hx hb dX3_up_1 rfl (lv_at hl 0 rfl) ?_
  refine va_get (D := (dC, dI)) (ci := 2) (v := .long gG.2.2.2.2.2.2.1) (C := RX3) (T := TX3) (N := 8) hx hb hts hinX3 hown hK hP 0 rfl rfl 6 (by decide) hw0 (fun _ h9 => h9) rfl dX3_up_2 ?_
  refine lv_ldc2 (v := (-1)) hx hb hown hw1 dX3_up_5 ?_
  refine lv_lxor hx hb dX3_up_8 ?_
  refine lv_land hx hb dX3_up_9 ?_
  refine lv_bipush (v := 8) hx hb dX3_up_10 (by decide) ?_
  refine lv_lushr (v := (jushr (cs &&& (gG.2.2.2.2.2.2.1 ^^^ (-1))) 8)) hx hb dX3_up_12 rfl ?_
  refine lv_lstore_n (lv' := [(3, .long (jushr (cs &&& (gG.2.2.2.2.2.2.1 ^^^ (-1))) 8)), (0, .ref zgr), (1, .long cs)]) hx hb dX3_up_13 rfl hl (by decide) rfl (fun ls hl => ?_)
  refine lv_aload_n hx hb dX3_up_14 rfl (lv_at hl 1 rfl) ?_
  refine va_get (D := (dC, dI)) (ci := 2) (v := .int (bI gG.2.2.1)) (C := RX3) (T := TX3) (N := 8) hx hb hts hinX3 hown hK hP 0 rfl rfl 2 (by decide) hw2 (fun _ h9 => h9) rfl dX3_up_15 ?_
  refine lv_if_eq (tgt := 42) hx hb dX3_up_18 (by decide) (fun hc => ?_) (fun hc => ?_)
  · rw [if_pos hc] at hf
    refine lv_lload_n hx hb dX3_up_42 rfl (lv_at hl 0 rfl) ?_
    obtain rfl := hf
    exact W.lret (v := (jushr (cs &&& (gG.2.2.2.2.2.2.1 ^^^ (-1))) 8)) hx hb hr (fun t ht hW => ⟨⟨(jushr (cs &&& (gG.2.2.2.2.2.2.1 ^^^ (-1))) 8), (), rfl, rfl, by rw [ht]; exact hP, va_K.moved hW.alike hK, hD⟩, hS.F ht⟩) hS.2.2 dX3_up_43
  · rw [if_neg hc] at hf
    refine lv_lload_n hx hb dX3_up_21 rfl (lv_at hl 0 rfl) ?_
    refine lv_lload_n hx hb dX3_up_22 rfl (lv_at hl 2 rfl) ?_
    refine lv_aload_n hx hb dX3_up_23 rfl (lv_at hl 1 rfl) ?_
    refine va_get (D := (dC, dI)) (ci := 2) (v := .long gG.2.2.2.2.2.2.1) (C := RX3) (T := TX3) (N := 8) hx hb hts hinX3 hown hK hP 0 rfl rfl 6 (by decide) hw0 (fun _ h9 => h9) rfl dX3_up_24 ?_
    refine lv_land hx hb dX3_up_27 ?_
    refine lv_bipush (v := 8) hx hb dX3_up_28 (by decide) ?_
    refine lv_aload_n hx hb dX3_up_30 rfl (lv_at hl 1 rfl) ?_
    refine va_get (D := (dC, dI)) (ci := 2) (v := .int gG.2.1) (C := RX3) (T := TX3) (N := 8) hx hb hts hinX3 hown hK hP 0 rfl rfl 1 (by decide) hw3 (fun _ h9 => h9) rfl dX3_up_31 ?_
    refine lv_iconst (v := 1) hx hb dX3_up_34 (by decide) ?_
    refine lv_isub hx hb dX3_up_35 ?_
    refine lv_imul hx hb dX3_up_36 ?_
    refine lv_lshl (v := (jshl (cs &&& gG.2.2.2.2.2.2.1) (8 * (gG.2.1 - 1)))) hx hb dX3_up_37 rfl ?_
    refine lv_lor hx hb dX3_up_38 ?_
    refine lv_goto (tgt := 43) hx hb dX3_up_39 (by decide) ?_
    obtain rfl := hf
    exact W.lret (v := ((jushr (cs &&& (gG.2.2.2.2.2.2.1 ^^^ (-1))) 8) ||| (jshl (cs &&& gG.2.2.2.2.2.2.1) (8 * (gG.2.1 - 1))))) hx hb hr (fun t ht hW => ⟨⟨((jushr (cs &&& (gG.2.2.2.2.2.2.1 ^^^ (-1))) 8) ||| (jshl (cs &&& gG.2.2.2.2.2.2.1) (8 * (gG.2.1 - 1)))), (), rfl, rfl, by rw [ht]; exact hP, va_K.moved hW.alike hK, hD⟩, hS.F ht⟩) hS.2.2 dX3_up_43
/-! HedgeGliders$Ground.down(J)J -/
def f_X3_down (gG : GrS) (cs : Int64) : Int64 := if (bI gG.2.2.1) = 0 then ((jshl (cs &&& (gG.2.2.2.2.2.2.2 ^^^ (-1))) 8)) else (((jshl (cs &&& (gG.2.2.2.2.2.2.2 ^^^ (-1))) 8) ||| (jushr (cs &&& gG.2.2.2.2.2.2.2) (8 * (gG.2.1 - 1)))))
abbrev rm_X3_down : Room := ({ frames := 0, cells := 0, slots := 0, locals := 0 } : Room)
abbrev A_X3_down (cI cJ : ClassId) (zgr : Nat) (gG : GrS) (cs : Int64) (sz : Nat) : Nat → Prop := va_A [(zgr, .inr (2, [.int gG.1, .int gG.2.1, .int (bI gG.2.2.1), .long gG.2.2.2.1, .long gG.2.2.2.2.1, .long gG.2.2.2.2.2.1, .long gG.2.2.2.2.2.2.1, .long gG.2.2.2.2.2.2.2]))] sz
abbrev Q_X3_down (dC : Nat → ClassId) (dI : Nat → Nat → Nat) (cI cJ : ClassId) (zgr : Nat) (gG : GrS) (cs : Int64) (sz : Nat) (R : Int64) : Array Value → State → Outcome → State → Prop := va_Ql (fun (r : Int64) (_ : Unit) => r = R) (fun u_ t => va_P (dC, dI) vwCl [(zgr, .inr (2, [.int gG.1, .int gG.2.1, .int (bI gG.2.2.1), .long gG.2.2.2.1, .long gG.2.2.2.2.1, .long gG.2.2.2.2.2.1, .long gG.2.2.2.2.2.2.1, .long gG.2.2.2.2.2.2.2]))] t.heap ∧ va_K (dC, dI) vwCl [(cI, .int), (cJ, .long)] t ∧ va_D (A_X3_down cI cJ zgr gG cs sz) [(zgr, .inr (2, [.int gG.1, .int gG.2.1, .int (bI gG.2.2.1), .long gG.2.2.2.1, .long gG.2.2.2.2.1, .long gG.2.2.2.2.2.1, .long gG.2.2.2.2.2.2.1, .long gG.2.2.2.2.2.2.2]))]) (A_X3_down cI cJ zgr gG cs sz)
set_option maxHeartbeats 4000000 in
set_option maxRecDepth 100000 in
theorem c_X3_down (l : Launch) (dC : Nat → ClassId) (dI : Nat → Nat → Nat) (cI cJ : ClassId) (zgr : Nat) (sz : Nat) (gG : GrS) (cs : Int64) : Met l yX3_down wsX3_down rm_X3_down (va_Pc [.ref zgr, .long cs] (fun U => U.heap.size = sz ∧ va_P (dC, dI) vwCl [(zgr, .inr (2, [.int gG.1, .int gG.2.1, .int (bI gG.2.2.1), .long gG.2.2.2.1, .long gG.2.2.2.2.1, .long gG.2.2.2.2.2.1, .long gG.2.2.2.2.2.2.1, .long gG.2.2.2.2.2.2.2]))] U.heap ∧ va_K (dC, dI) vwCl [(cI, .int), (cJ, .long)] U ∧ va_D (fun _ => True) [(zgr, .inr (2, [.int gG.1, .int gG.2.1, .int (bI gG.2.2.1), .long gG.2.2.2.1, .long gG.2.2.2.2.1, .long gG.2.2.2.2.2.1, .long gG.2.2.2.2.2.2.1, .long gG.2.2.2.2.2.2.2]))])) (Q_X3_down dC dI cI cJ zgr gG cs sz (f_X3_down gG cs)) 0 0 (A_X3_down cI cJ zgr gG cs sz) := by
  generalize hf : (f_X3_down gG cs) = R
  refine Met.ofW (cc := cX3_down) (maxL := 5) (ret := (some .long)) (by decide) rfl ?_
  intro p e s m args below meth c s₁ B hml hv
  obtain ⟨hargs, hsz, hP, hK, hD0⟩ := hv
  have hx := B.exec
  have hb := B.bytes
  have hr := B.returns
  have hts := atoms_spec (ws := wsX3_down) B.pre
  have hown : s.vm.findClass RX3 = some m.cls := findClass_of_methodNamed B.named
  have hlocks := B.notSynchronized
  subst hsz
  have hD : va_D (A_X3_down cI cJ zgr gG cs s.heap.size) [(zgr, .inr (2, [.int gG.1, .int gG.2.1, .int (bI gG.2.2.1), .long gG.2.2.2.1, .long gG.2.2.2.2.1, .long gG.2.2.2.2.2.1, .long gG.2.2.2.2.2.2.1, .long gG.2.2.2.2.2.2.2]))] := hD0.self (sz := s.heap.size)
  have hA : ∀ q : Nat, s.heap.size ≤ q → (A_X3_down cI cJ zgr gG cs s.heap.size) q := fun q h => Or.inr h
  have hS : va_S (A_X3_down cI cJ zgr gG cs s.heap.size) s.heap s.heap [] := va_S.rf
  have hinX3 : ∀ w ∈ wsX30, w ∈ wsX3_down := by decide +kernel
  have hw0 := hts (.fieldLink RX3 20 "HedgeGliders$Ground" "lastRow" "J") (by decide +kernel)
  have hw1 := hts (.constantLong RX3 40 (-1)) (by decide +kernel)
  have hw2 := hts (.fieldLink RX3 36 "HedgeGliders$Ground" "round" "Z") (by decide +kernel)
  have hw3 := hts (.fieldLink RX3 13 "HedgeGliders$Ground" "high" "I") (by decide +kernel)
  have hl := lv_entry ([.ref zgr, .long cs]) (n := 5) (Nat.le_of_ble_eq_true rfl)
  have he0 : entryFrame m args 5 = entryFrame m ([.ref zgr, .long cs] : List Value).toArray 5 := by rw [hargs]
  rw [he0, lg_entry_eq]
  generalize (lg_sl ([.ref zgr, .long cs]) ++ List.replicate (5 - (lg_sl ([.ref zgr, .long cs])).length) Slot.unset).toArray = ls at hl ⊢
  have hl : lv_has ls 5 [(0, .ref zgr), (1, .long cs)] := hl
  rw [f_X3_down] at hf
  refine lv_lload_n hx hb dX3_down_0 rfl (lv_at hl 1 rfl) ?_
  refine lv_aload_n hx hb dX3_down_1 rfl (lv_at hl 0 rfl) ?_
  refine va_get (D := (dC, dI)) (ci := 2) (v := .long gG.2.2.2.2.2.2.2) (C := RX3) (T := TX3) (N := 8) hx hb hts hinX3 hown hK hP 0 rfl rfl 7 (by decide) hw0 (fun _ h9 => h9) rfl dX3_down_2 ?_
  refine lv_ldc2 (v := (-1)) hx hb hown hw1 dX3_down_5 ?_
  refine lv_lxor hx hb dX3_down_8 ?_
  refine lv_land hx hb dX3_down_9 ?_
  refine lv_bipush (v := 8) hx hb dX3_down_10 (by decide) ?_
  refine lv_lshl (v := (jshl (cs &&& (gG.2.2.2.2.2.2.2 ^^^ (-1))) 8)) hx hb dX3_down_12 rfl ?_
  refine lv_lstore_n (lv' := [(3, .long (jshl (cs &&& (gG.2.2.2.2.2.2.2 ^^^ (-1))) 8)), (0, .ref zgr), (1, .long cs)]) hx hb dX3_down_13 rfl hl (by decide) rfl (fun ls hl => ?_)
  refine lv_aload_n hx hb dX3_down_14 rfl (lv_at hl 1 rfl) ?_
  refine va_get (D := (dC, dI)) (ci := 2) (v := .int (bI gG.2.2.1)) (C := RX3) (T := TX3) (N := 8) hx hb hts hinX3 hown hK hP 0 rfl rfl 2 (by decide) hw2 (fun _ h9 => h9) rfl dX3_down_15 ?_
  refine lv_if_eq (tgt := 42) hx hb dX3_down_18 (by decide) (fun hc => ?_) (fun hc => ?_)
  · rw [if_pos hc] at hf
    refine lv_lload_n hx hb dX3_down_42 rfl (lv_at hl 0 rfl) ?_
    obtain rfl := hf
    exact W.lret (v := (jshl (cs &&& (gG.2.2.2.2.2.2.2 ^^^ (-1))) 8)) hx hb hr (fun t ht hW => ⟨⟨(jshl (cs &&& (gG.2.2.2.2.2.2.2 ^^^ (-1))) 8), (), rfl, rfl, by rw [ht]; exact hP, va_K.moved hW.alike hK, hD⟩, hS.F ht⟩) hS.2.2 dX3_down_43
  · rw [if_neg hc] at hf
    refine lv_lload_n hx hb dX3_down_21 rfl (lv_at hl 0 rfl) ?_
    refine lv_lload_n hx hb dX3_down_22 rfl (lv_at hl 2 rfl) ?_
    refine lv_aload_n hx hb dX3_down_23 rfl (lv_at hl 1 rfl) ?_
    refine va_get (D := (dC, dI)) (ci := 2) (v := .long gG.2.2.2.2.2.2.2) (C := RX3) (T := TX3) (N := 8) hx hb hts hinX3 hown hK hP 0 rfl rfl 7 (by decide) hw0 (fun _ h9 => h9) rfl dX3_down_24 ?_
    refine lv_land hx hb dX3_down_27 ?_
    refine lv_bipush (v := 8) hx hb dX3_down_28 (by decide) ?_
    refine lv_aload_n hx hb dX3_down_30 rfl (lv_at hl 1 rfl) ?_
    refine va_get (D := (dC, dI)) (ci := 2) (v := .int gG.2.1) (C := RX3) (T := TX3) (N := 8) hx hb hts hinX3 hown hK hP 0 rfl rfl 1 (by decide) hw3 (fun _ h9 => h9) rfl dX3_down_31 ?_
    refine lv_iconst (v := 1) hx hb dX3_down_34 (by decide) ?_
    refine lv_isub hx hb dX3_down_35 ?_
    refine lv_imul hx hb dX3_down_36 ?_
    refine lv_lushr (v := (jushr (cs &&& gG.2.2.2.2.2.2.2) (8 * (gG.2.1 - 1)))) hx hb dX3_down_37 rfl ?_
    refine lv_lor hx hb dX3_down_38 ?_
    refine lv_goto (tgt := 43) hx hb dX3_down_39 (by decide) ?_
    obtain rfl := hf
    exact W.lret (v := ((jshl (cs &&& (gG.2.2.2.2.2.2.2 ^^^ (-1))) 8) ||| (jushr (cs &&& gG.2.2.2.2.2.2.2) (8 * (gG.2.1 - 1))))) hx hb hr (fun t ht hW => ⟨⟨((jshl (cs &&& (gG.2.2.2.2.2.2.2 ^^^ (-1))) 8) ||| (jushr (cs &&& gG.2.2.2.2.2.2.2) (8 * (gG.2.1 - 1)))), (), rfl, rfl, by rw [ht]; exact hP, va_K.moved hW.alike hK, hD⟩, hS.F ht⟩) hS.2.2 dX3_down_43
/-! HedgeGliders$Ground.open(J)J -/
def f_X3_open (gG : GrS) (hs : Int64) : Int64 := (gG.2.2.2.1 &&& (hs ^^^ (-1)))
abbrev rm_X3_open : Room := ({ frames := 0, cells := 0, slots := 0, locals := 0 } : Room)
abbrev A_X3_open (cI cJ : ClassId) (zgr : Nat) (gG : GrS) (hs : Int64) (sz : Nat) : Nat → Prop := va_A [(zgr, .inr (2, [.int gG.1, .int gG.2.1, .int (bI gG.2.2.1), .long gG.2.2.2.1, .long gG.2.2.2.2.1, .long gG.2.2.2.2.2.1, .long gG.2.2.2.2.2.2.1, .long gG.2.2.2.2.2.2.2]))] sz
abbrev Q_X3_open (dC : Nat → ClassId) (dI : Nat → Nat → Nat) (cI cJ : ClassId) (zgr : Nat) (gG : GrS) (hs : Int64) (sz : Nat) (R : Int64) : Array Value → State → Outcome → State → Prop := va_Ql (fun (r : Int64) (_ : Unit) => r = R) (fun u_ t => va_P (dC, dI) vwCl [(zgr, .inr (2, [.int gG.1, .int gG.2.1, .int (bI gG.2.2.1), .long gG.2.2.2.1, .long gG.2.2.2.2.1, .long gG.2.2.2.2.2.1, .long gG.2.2.2.2.2.2.1, .long gG.2.2.2.2.2.2.2]))] t.heap ∧ va_K (dC, dI) vwCl [(cI, .int), (cJ, .long)] t ∧ va_D (A_X3_open cI cJ zgr gG hs sz) [(zgr, .inr (2, [.int gG.1, .int gG.2.1, .int (bI gG.2.2.1), .long gG.2.2.2.1, .long gG.2.2.2.2.1, .long gG.2.2.2.2.2.1, .long gG.2.2.2.2.2.2.1, .long gG.2.2.2.2.2.2.2]))]) (A_X3_open cI cJ zgr gG hs sz)
set_option maxHeartbeats 4000000 in
set_option maxRecDepth 100000 in
theorem c_X3_open (l : Launch) (dC : Nat → ClassId) (dI : Nat → Nat → Nat) (cI cJ : ClassId) (zgr : Nat) (sz : Nat) (gG : GrS) (hs : Int64) : Met l yX3_open wsX3_open rm_X3_open (va_Pc [.ref zgr, .long hs] (fun U => U.heap.size = sz ∧ va_P (dC, dI) vwCl [(zgr, .inr (2, [.int gG.1, .int gG.2.1, .int (bI gG.2.2.1), .long gG.2.2.2.1, .long gG.2.2.2.2.1, .long gG.2.2.2.2.2.1, .long gG.2.2.2.2.2.2.1, .long gG.2.2.2.2.2.2.2]))] U.heap ∧ va_K (dC, dI) vwCl [(cI, .int), (cJ, .long)] U ∧ va_D (fun _ => True) [(zgr, .inr (2, [.int gG.1, .int gG.2.1, .int (bI gG.2.2.1), .long gG.2.2.2.1, .long gG.2.2.2.2.1, .long gG.2.2.2.2.2.1, .long gG.2.2.2.2.2.2.1, .long gG.2.2.2.2.2.2.2]))])) (Q_X3_open dC dI cI cJ zgr gG hs sz (f_X3_open gG hs)) 0 0 (A_X3_open cI cJ zgr gG hs sz) := by
  generalize hf : (f_X3_open gG hs) = R
  refine Met.ofW (cc := cX3_open) (maxL := 3) (ret := (some .long)) (by decide) rfl ?_
  intro p e s m args below meth c s₁ B hml hv
  obtain ⟨hargs, hsz, hP, hK, hD0⟩ := hv
  have hx := B.exec
  have hb := B.bytes
  have hr := B.returns
  have hts := atoms_spec (ws := wsX3_open) B.pre
  have hown : s.vm.findClass RX3 = some m.cls := findClass_of_methodNamed B.named
  have hlocks := B.notSynchronized
  subst hsz
  have hD : va_D (A_X3_open cI cJ zgr gG hs s.heap.size) [(zgr, .inr (2, [.int gG.1, .int gG.2.1, .int (bI gG.2.2.1), .long gG.2.2.2.1, .long gG.2.2.2.2.1, .long gG.2.2.2.2.2.1, .long gG.2.2.2.2.2.2.1, .long gG.2.2.2.2.2.2.2]))] := hD0.self (sz := s.heap.size)
  have hA : ∀ q : Nat, s.heap.size ≤ q → (A_X3_open cI cJ zgr gG hs s.heap.size) q := fun q h => Or.inr h
  have hS : va_S (A_X3_open cI cJ zgr gG hs s.heap.size) s.heap s.heap [] := va_S.rf
  have hinX3 : ∀ w ∈ wsX30, w ∈ wsX3_open := by decide +kernel
  have hw0 := hts (.fieldLink RX3 26 "HedgeGliders$Ground" "inside" "J") (by decide +kernel)
  have hw1 := hts (.constantLong RX3 40 (-1)) (by decide +kernel)
  have hl := lv_entry ([.ref zgr, .long hs]) (n := 3) (Nat.le_of_ble_eq_true rfl)
  have he0 : entryFrame m args 3 = entryFrame m ([.ref zgr, .long hs] : List Value).toArray 3 := by rw [hargs]
  rw [he0, lg_entry_eq]
  generalize (lg_sl ([.ref zgr, .long hs]) ++ List.replicate (3 - (lg_sl ([.ref zgr, .long hs])).length) Slot.unset).toArray = ls at hl ⊢
  have hl : lv_has ls 3 [(0, .ref zgr), (1, .long hs)] := hl
  rw [f_X3_open] at hf
  refine lv_aload_n hx hb dX3_open_0 rfl (lv_at hl 0 rfl) ?_
  refine va_get (D := (dC, dI)) (ci := 2) (v := .long gG.2.2.2.1) (C := RX3) (T := TX3) (N := 8) hx hb hts hinX3 hown hK hP 0 rfl rfl 3 (by decide) hw0 (fun _ h9 => h9) rfl dX3_open_1 ?_
  refine lv_lload_n hx hb dX3_open_4 rfl (lv_at hl 1 rfl) ?_
  refine lv_ldc2 (v := (-1)) hx hb hown hw1 dX3_open_5 ?_
  refine lv_lxor hx hb dX3_open_8 ?_
  refine lv_land hx hb dX3_open_9 ?_
  obtain rfl := hf
  exact W.lret (v := (gG.2.2.2.1 &&& (hs ^^^ (-1)))) hx hb hr (fun t ht hW => ⟨⟨(gG.2.2.2.1 &&& (hs ^^^ (-1))), (), rfl, rfl, by rw [ht]; exact hP, va_K.moved hW.alike hK, hD⟩, hS.F ht⟩) hS.2.2 dX3_open_10
/-! HedgeGliders$Ground.withBeside(JJ)J -/
def f_X3_withBeside (gG : GrS) (cs : Int64) (op : Int64) : Int64 := (((((cs ||| (f_X3_left gG cs)) ||| (f_X3_right gG cs)) ||| (f_X3_up gG cs)) ||| (f_X3_down gG cs)) &&& op)
abbrev rm_X3_withBeside : Room := ({ frames := 1, cells := 0, slots := 0, locals := 24 } : Room)
abbrev A_X3_withBeside (cI cJ : ClassId) (zgr : Nat) (gG : GrS) (cs : Int64) (op : Int64) (sz : Nat) : Nat → Prop := va_A [(zgr, .inr (2, [.int gG.1, .int gG.2.1, .int (bI gG.2.2.1), .long gG.2.2.2.1, .long gG.2.2.2.2.1, .long gG.2.2.2.2.2.1, .long gG.2.2.2.2.2.2.1, .long gG.2.2.2.2.2.2.2]))] sz
abbrev Q_X3_withBeside (dC : Nat → ClassId) (dI : Nat → Nat → Nat) (cI cJ : ClassId) (zgr : Nat) (gG : GrS) (cs : Int64) (op : Int64) (sz : Nat) (R : Int64) : Array Value → State → Outcome → State → Prop := va_Ql (fun (r : Int64) (_ : Unit) => r = R) (fun u_ t => va_P (dC, dI) vwCl [(zgr, .inr (2, [.int gG.1, .int gG.2.1, .int (bI gG.2.2.1), .long gG.2.2.2.1, .long gG.2.2.2.2.1, .long gG.2.2.2.2.2.1, .long gG.2.2.2.2.2.2.1, .long gG.2.2.2.2.2.2.2]))] t.heap ∧ va_K (dC, dI) vwCl [(cI, .int), (cJ, .long)] t ∧ va_D (A_X3_withBeside cI cJ zgr gG cs op sz) [(zgr, .inr (2, [.int gG.1, .int gG.2.1, .int (bI gG.2.2.1), .long gG.2.2.2.1, .long gG.2.2.2.2.1, .long gG.2.2.2.2.2.1, .long gG.2.2.2.2.2.2.1, .long gG.2.2.2.2.2.2.2]))]) (A_X3_withBeside cI cJ zgr gG cs op sz)
set_option maxHeartbeats 4000000 in
set_option maxRecDepth 100000 in
theorem c_X3_withBeside (l : Launch) (dC : Nat → ClassId) (dI : Nat → Nat → Nat) (cI cJ : ClassId) (zgr : Nat) (sz : Nat) (gG : GrS) (cs : Int64) (op : Int64) : Met l yX3_withBeside wsX3_withBeside rm_X3_withBeside (va_Pc [.ref zgr, .long cs, .long op] (fun U => U.heap.size = sz ∧ va_P (dC, dI) vwCl [(zgr, .inr (2, [.int gG.1, .int gG.2.1, .int (bI gG.2.2.1), .long gG.2.2.2.1, .long gG.2.2.2.2.1, .long gG.2.2.2.2.2.1, .long gG.2.2.2.2.2.2.1, .long gG.2.2.2.2.2.2.2]))] U.heap ∧ va_K (dC, dI) vwCl [(cI, .int), (cJ, .long)] U ∧ va_D (fun _ => True) [(zgr, .inr (2, [.int gG.1, .int gG.2.1, .int (bI gG.2.2.1), .long gG.2.2.2.1, .long gG.2.2.2.2.1, .long gG.2.2.2.2.2.1, .long gG.2.2.2.2.2.2.1, .long gG.2.2.2.2.2.2.2]))])) (Q_X3_withBeside dC dI cI cJ zgr gG cs op sz (f_X3_withBeside gG cs op)) 0 0 (A_X3_withBeside cI cJ zgr gG cs op sz) := by
  generalize hf : (f_X3_withBeside gG cs op) = R
  refine Met.ofW (cc := cX3_withBeside) (maxL := 5) (ret := (some .long)) (by decide) rfl ?_
  intro p e s m args below meth c s₁ B hml hv
  obtain ⟨hargs, hsz, hP, hK, hD0⟩ := hv
  have hx := B.exec
  have hb := B.bytes
  have hr := B.returns
  have hts := atoms_spec (ws := wsX3_withBeside) B.pre
  have hown : s.vm.findClass RX3 = some m.cls := findClass_of_methodNamed B.named
  have hlocks := B.notSynchronized
  subst hsz
  have hD : va_D (A_X3_withBeside cI cJ zgr gG cs op s.heap.size) [(zgr, .inr (2, [.int gG.1, .int gG.2.1, .int (bI gG.2.2.1), .long gG.2.2.2.1, .long gG.2.2.2.2.1, .long gG.2.2.2.2.2.1, .long gG.2.2.2.2.2.2.1, .long gG.2.2.2.2.2.2.2]))] := hD0.self (sz := s.heap.size)
  have hA : ∀ q : Nat, s.heap.size ≤ q → (A_X3_withBeside cI cJ zgr gG cs op s.heap.size) q := fun q h => Or.inr h
  have hS : va_S (A_X3_withBeside cI cJ zgr gG cs op s.heap.size) s.heap s.heap [] := va_S.rf
  have hl := lv_entry ([.ref zgr, .long cs, .long op]) (n := 5) (Nat.le_of_ble_eq_true rfl)
  have he0 : entryFrame m args 5 = entryFrame m ([.ref zgr, .long cs, .long op] : List Value).toArray 5 := by rw [hargs]
  rw [he0, lg_entry_eq]
  generalize (lg_sl ([.ref zgr, .long cs, .long op]) ++ List.replicate (5 - (lg_sl ([.ref zgr, .long cs, .long op])).length) Slot.unset).toArray = ls at hl ⊢
  have hl : lv_has ls 5 [(0, .ref zgr), (1, .long cs), (3, .long op)] := hl
  rw [f_X3_withBeside] at hf
  refine lv_lload_n hx hb dX3_withBeside_0 rfl (lv_at hl 1 rfl) ?_
  refine lv_aload_n hx hb dX3_withBeside_1 rfl (lv_at hl 0 rfl) ?_
  refine lv_lload_n hx hb dX3_withBeside_2 rfl (lv_at hl 1 rfl) ?_
  have hPc := hP.sub (ws' := [(zgr, .inr (2, [.int gG.1, .int gG.2.1, .int (bI gG.2.2.1), .long gG.2.2.2.1, .long gG.2.2.2.2.1, .long gG.2.2.2.2.2.1, .long gG.2.2.2.2.2.2.1, .long gG.2.2.2.2.2.2.2]))]) [0] rfl
  have hDc := hD.sub (ws' := [(zgr, .inr (2, [.int gG.1, .int gG.2.1, .int (bI gG.2.2.1), .long gG.2.2.2.1, .long gG.2.2.2.2.1, .long gG.2.2.2.2.2.1, .long gG.2.2.2.2.2.2.1, .long gG.2.2.2.2.2.2.2]))]) [0] (by decide) rfl
  have hFc := va_free (wc := [(zgr, .inr (2, [.int gG.1, .int gG.2.1, .int (bI gG.2.2.1), .long gG.2.2.2.1, .long gG.2.2.2.2.1, .long gG.2.2.2.2.2.1, .long gG.2.2.2.2.2.2.1, .long gG.2.2.2.2.2.2.2]))]) hD hS hA [0] rfl
  refine va_calll (va_runV (As := [.long cs]) (rest := [.long cs]) ⟨hx, hb, hml, hown, hts⟩ (c_X3_left l dC dI cI cJ zgr s.heap.size gG cs) (cwV 1 hts gX3_withBeside_X3_left rfl rfl rfl (by decide +kernel) ⟨Nat.le_of_ble_eq_true rfl, Nat.le_of_ble_eq_true rfl⟩) ⟨fun a U gg mk q => by obtain ⟨q0, q1, qP, qK, qD⟩ := q; exact ⟨q0, q1, qP, va_K.moved (u := U) (U := U.calling gg mk a) (Vm.Alike.refl U.vm) qK, qD⟩, va_recv hK hPc (ci := 2) (q0 := 0) rfl rfl, fun U hU hW => ⟨rfl, by rw [hU], by rw [hU]; exact hPc, va_K.moved hW.alike hK, hDc.weaken (fun _ _ _ _ => trivial)⟩⟩ rfl rfl hl.1 rfl (lv_room (Nat.le_of_ble_eq_true rfl)) dX3_withBeside_3 ⟨Nat.zero_le _, Nat.zero_le _⟩) hS (fun q _ h => hFc q h) hFc (fun r_ u_ t H locs ht hvm hw hB hz1 hk1 hS => ?_)
  obtain rfl := hw.symm
  obtain ⟨hP1, -, hD1⟩ := hB
  rw [ht] at hP1
  obtain ⟨hP, hD⟩ := va_join (wr := []) (w1 := [(zgr, .inr (2, [.int gG.1, .int gG.2.1, .int (bI gG.2.2.1), .long gG.2.2.2.1, .long gG.2.2.2.2.1, .long gG.2.2.2.2.2.1, .long gG.2.2.2.2.2.2.1, .long gG.2.2.2.2.2.2.2]))]) hP hD [0] [] rfl rfl (by decide) (by decide) hk1 hFc hP1 hD1
  have hP := hP.sub (ws' := [(zgr, .inr (2, [.int gG.1, .int gG.2.1, .int (bI gG.2.2.1), .long gG.2.2.2.1, .long gG.2.2.2.2.1, .long gG.2.2.2.2.2.1, .long gG.2.2.2.2.2.2.1, .long gG.2.2.2.2.2.2.2]))]) [0] rfl
  have hD := hD.sub (ws' := [(zgr, .inr (2, [.int gG.1, .int gG.2.1, .int (bI gG.2.2.1), .long gG.2.2.2.1, .long gG.2.2.2.2.1, .long gG.2.2.2.2.2.1, .long gG.2.2.2.2.2.2.1, .long gG.2.2.2.2.2.2.2]))]) [0] (by decide) rfl
  clear hPc hDc hFc hP1 hD1 hk1
  refine lv_lor hx hb dX3_withBeside_6 ?_
  refine lv_aload_n hx hb dX3_withBeside_7 rfl (lv_at hl 0 rfl) ?_
  refine lv_lload_n hx hb dX3_withBeside_8 rfl (lv_at hl 1 rfl) ?_
  have hPc := hP.sub (ws' := [(zgr, .inr (2, [.int gG.1, .int gG.2.1, .int (bI gG.2.2.1), .long gG.2.2.2.1, .long gG.2.2.2.2.1, .long gG.2.2.2.2.2.1, .long gG.2.2.2.2.2.2.1, .long gG.2.2.2.2.2.2.2]))]) [0] rfl
  have hDc := hD.sub (ws' := [(zgr, .inr (2, [.int gG.1, .int gG.2.1, .int (bI gG.2.2.1), .long gG.2.2.2.1, .long gG.2.2.2.2.1, .long gG.2.2.2.2.2.1, .long gG.2.2.2.2.2.2.1, .long gG.2.2.2.2.2.2.2]))]) [0] (by decide) rfl
  have hFc := va_free (wc := [(zgr, .inr (2, [.int gG.1, .int gG.2.1, .int (bI gG.2.2.1), .long gG.2.2.2.1, .long gG.2.2.2.2.1, .long gG.2.2.2.2.2.1, .long gG.2.2.2.2.2.2.1, .long gG.2.2.2.2.2.2.2]))]) hD hS hA [0] rfl
  refine va_calll (va_runV (As := [.long cs]) (rest := [.long (cs ||| (f_X3_left gG cs))]) ⟨hx, hb, hml, hown, hts⟩ (c_X3_right l dC dI cI cJ zgr H.size gG cs) (cwV 1 hts gX3_withBeside_X3_right rfl rfl rfl (by decide +kernel) ⟨Nat.le_of_ble_eq_true rfl, Nat.le_of_ble_eq_true rfl⟩) ⟨fun a U gg mk q => by obtain ⟨q0, q1, qP, qK, qD⟩ := q; exact ⟨q0, q1, qP, va_K.moved (u := U) (U := U.calling gg mk a) (Vm.Alike.refl U.vm) qK, qD⟩, va_recv hK hPc (ci := 2) (q0 := 0) rfl rfl, fun U hU hW => ⟨rfl, by rw [hU], by rw [hU]; exact hPc, va_K.moved hW.alike hK, hDc.weaken (fun _ _ _ _ => trivial)⟩⟩ rfl rfl hl.1 rfl (lv_room (Nat.le_of_ble_eq_true rfl)) dX3_withBeside_9 ⟨Nat.zero_le _, Nat.zero_le _⟩) hS (fun q _ h => hFc q h) hFc (fun r_ u_ t H locs ht hvm hw hB hz1 hk1 hS => ?_)
  obtain rfl := hw.symm
  obtain ⟨hP1, -, hD1⟩ := hB
  rw [ht] at hP1
  obtain ⟨hP, hD⟩ := va_join (wr := []) (w1 := [(zgr, .inr (2, [.int gG.1, .int gG.2.1, .int (bI gG.2.2.1), .long gG.2.2.2.1, .long gG.2.2.2.2.1, .long gG.2.2.2.2.2.1, .long gG.2.2.2.2.2.2.1, .long gG.2.2.2.2.2.2.2]))]) hP hD [0] [] rfl rfl (by decide) (by decide) hk1 hFc hP1 hD1
  have hP := hP.sub (ws' := [(zgr, .inr (2, [.int gG.1, .int gG.2.1, .int (bI gG.2.2.1), .long gG.2.2.2.1, .long gG.2.2.2.2.1, .long gG.2.2.2.2.2.1, .long gG.2.2.2.2.2.2.1, .long gG.2.2.2.2.2.2.2]))]) [0] rfl
  have hD := hD.sub (ws' := [(zgr, .inr (2, [.int gG.1, .int gG.2.1, .int (bI gG.2.2.1), .long gG.2.2.2.1, .long gG.2.2.2.2.1, .long gG.2.2.2.2.2.1, .long gG.2.2.2.2.2.2.1, .long gG.2.2.2.2.2.2.2]))]) [0] (by decide) rfl
  clear hPc hDc hFc hP1 hD1 hk1
  refine lv_lor hx hb dX3_withBeside_12 ?_
  refine lv_aload_n hx hb dX3_withBeside_13 rfl (lv_at hl 0 rfl) ?_
  refine lv_lload_n hx hb dX3_withBeside_14 rfl (lv_at hl 1 rfl) ?_
  have hPc := hP.sub (ws' := [(zgr, .inr (2, [.int gG.1, .int gG.2.1, .int (bI gG.2.2.1), .long gG.2.2.2.1, .long gG.2.2.2.2.1, .long gG.2.2.2.2.2.1, .long gG.2.2.2.2.2.2.1, .long gG.2.2.2.2.2.2.2]))]) [0] rfl
  have hDc := hD.sub (ws' := [(zgr, .inr (2, [.int gG.1, .int gG.2.1, .int (bI gG.2.2.1), .long gG.2.2.2.1, .long gG.2.2.2.2.1, .long gG.2.2.2.2.2.1, .long gG.2.2.2.2.2.2.1, .long gG.2.2.2.2.2.2.2]))]) [0] (by decide) rfl
  have hFc := va_free (wc := [(zgr, .inr (2, [.int gG.1, .int gG.2.1, .int (bI gG.2.2.1), .long gG.2.2.2.1, .long gG.2.2.2.2.1, .long gG.2.2.2.2.2.1, .long gG.2.2.2.2.2.2.1, .long gG.2.2.2.2.2.2.2]))]) hD hS hA [0] rfl
  refine va_calll (va_runV (As := [.long cs]) (rest := [.long ((cs ||| (f_X3_left gG cs)) ||| (f_X3_right gG cs))]) ⟨hx, hb, hml, hown, hts⟩ (c_X3_up l dC dI cI cJ zgr H.size gG cs) (cwV 1 hts gX3_withBeside_X3_up rfl rfl rfl (by decide +kernel) ⟨Nat.le_of_ble_eq_true rfl, Nat.le_of_ble_eq_true rfl⟩) ⟨fun a U gg mk q => by obtain ⟨q0, q1, qP, qK, qD⟩ := q; exact ⟨q0, q1, qP, va_K.moved (u := U) (U := U.calling gg mk a) (Vm.Alike.refl U.vm) qK, qD⟩, va_recv hK hPc (ci := 2) (q0 := 0) rfl rfl, fun U hU hW => ⟨rfl, by rw [hU], by rw [hU]; exact hPc, va_K.moved hW.alike hK, hDc.weaken (fun _ _ _ _ => trivial)⟩⟩ rfl rfl hl.1 rfl (lv_room (Nat.le_of_ble_eq_true rfl)) dX3_withBeside_15 ⟨Nat.zero_le _, Nat.zero_le _⟩) hS (fun q _ h => hFc q h) hFc (fun r_ u_ t H locs ht hvm hw hB hz1 hk1 hS => ?_)
  obtain rfl := hw.symm
  obtain ⟨hP1, -, hD1⟩ := hB
  rw [ht] at hP1
  obtain ⟨hP, hD⟩ := va_join (wr := []) (w1 := [(zgr, .inr (2, [.int gG.1, .int gG.2.1, .int (bI gG.2.2.1), .long gG.2.2.2.1, .long gG.2.2.2.2.1, .long gG.2.2.2.2.2.1, .long gG.2.2.2.2.2.2.1, .long gG.2.2.2.2.2.2.2]))]) hP hD [0] [] rfl rfl (by decide) (by decide) hk1 hFc hP1 hD1
  have hP := hP.sub (ws' := [(zgr, .inr (2, [.int gG.1, .int gG.2.1, .int (bI gG.2.2.1), .long gG.2.2.2.1, .long gG.2.2.2.2.1, .long gG.2.2.2.2.2.1, .long gG.2.2.2.2.2.2.1, .long gG.2.2.2.2.2.2.2]))]) [0] rfl
  have hD := hD.sub (ws' := [(zgr, .inr (2, [.int gG.1, .int gG.2.1, .int (bI gG.2.2.1), .long gG.2.2.2.1, .long gG.2.2.2.2.1, .long gG.2.2.2.2.2.1, .long gG.2.2.2.2.2.2.1, .long gG.2.2.2.2.2.2.2]))]) [0] (by decide) rfl
  clear hPc hDc hFc hP1 hD1 hk1
  refine lv_lor hx hb dX3_withBeside_18 ?_
  refine lv_aload_n hx hb dX3_withBeside_19 rfl (lv_at hl 0 rfl) ?_
  refine lv_lload_n hx hb dX3_withBeside_20 rfl (lv_at hl 1 rfl) ?_
  have hPc := hP.sub (ws' := [(zgr, .inr (2, [.int gG.1, .int gG.2.1, .int (bI gG.2.2.1), .long gG.2.2.2.1, .long gG.2.2.2.2.1, .long gG.2.2.2.2.2.1, .long gG.2.2.2.2.2.2.1, .long gG.2.2.2.2.2.2.2]))]) [0] rfl
  have hDc := hD.sub (ws' := [(zgr, .inr (2, [.int gG.1, .int gG.2.1, .int (bI gG.2.2.1), .long gG.2.2.2.1, .long gG.2.2.2.2.1, .long gG.2.2.2.2.2.1, .long gG.2.2.2.2.2.2.1, .long gG.2.2.2.2.2.2.2]))]) [0] (by decide) rfl
  have hFc := va_free (wc := [(zgr, .inr (2, [.int gG.1, .int gG.2.1, .int (bI gG.2.2.1), .long gG.2.2.2.1, .long gG.2.2.2.2.1, .long gG.2.2.2.2.2.1, .long gG.2.2.2.2.2.2.1, .long gG.2.2.2.2.2.2.2]))]) hD hS hA [0] rfl
  refine va_calll (va_runV (As := [.long cs]) (rest := [.long (((cs ||| (f_X3_left gG cs)) ||| (f_X3_right gG cs)) ||| (f_X3_up gG cs))]) ⟨hx, hb, hml, hown, hts⟩ (c_X3_down l dC dI cI cJ zgr H.size gG cs) (cwV 1 hts gX3_withBeside_X3_down rfl rfl rfl (by decide +kernel) ⟨Nat.le_of_ble_eq_true rfl, Nat.le_of_ble_eq_true rfl⟩) ⟨fun a U gg mk q => by obtain ⟨q0, q1, qP, qK, qD⟩ := q; exact ⟨q0, q1, qP, va_K.moved (u := U) (U := U.calling gg mk a) (Vm.Alike.refl U.vm) qK, qD⟩, va_recv hK hPc (ci := 2) (q0 := 0) rfl rfl, fun U hU hW => ⟨rfl, by rw [hU], by rw [hU]; exact hPc, va_K.moved hW.alike hK, hDc.weaken (fun _ _ _ _ => trivial)⟩⟩ rfl rfl hl.1 rfl (lv_room (Nat.le_of_ble_eq_true rfl)) dX3_withBeside_21 ⟨Nat.zero_le _, Nat.zero_le _⟩) hS (fun q _ h => hFc q h) hFc (fun r_ u_ t H locs ht hvm hw hB hz1 hk1 hS => ?_)
  obtain rfl := hw.symm
  obtain ⟨hP1, -, hD1⟩ := hB
  rw [ht] at hP1
  obtain ⟨hP, hD⟩ := va_join (wr := []) (w1 := [(zgr, .inr (2, [.int gG.1, .int gG.2.1, .int (bI gG.2.2.1), .long gG.2.2.2.1, .long gG.2.2.2.2.1, .long gG.2.2.2.2.2.1, .long gG.2.2.2.2.2.2.1, .long gG.2.2.2.2.2.2.2]))]) hP hD [0] [] rfl rfl (by decide) (by decide) hk1 hFc hP1 hD1
  have hP := hP.sub (ws' := [(zgr, .inr (2, [.int gG.1, .int gG.2.1, .int (bI gG.2.2.1), .long gG.2.2.2.1, .long gG.2.2.2.2.1, .long gG.2.2.2.2.2.1, .long gG.2.2.2.2.2.2.1, .long gG.2.2.2.2.2.2.2]))]) [0] rfl
  have hD := hD.sub (ws' := [(zgr, .inr (2, [.int gG.1, .int gG.2.1, .int (bI gG.2.2.1), .long gG.2.2.2.1, .long gG.2.2.2.2.1, .long gG.2.2.2.2.2.1, .long gG.2.2.2.2.2.2.1, .long gG.2.2.2.2.2.2.2]))]) [0] (by decide) rfl
  clear hPc hDc hFc hP1 hD1 hk1
  refine lv_lor hx hb dX3_withBeside_24 ?_
  refine lv_lload_n hx hb dX3_withBeside_25 rfl (lv_at hl 2 rfl) ?_
  refine lv_land hx hb dX3_withBeside_26 ?_
  obtain rfl := hf
  exact W.lret (v := (((((cs ||| (f_X3_left gG cs)) ||| (f_X3_right gG cs)) ||| (f_X3_up gG cs)) ||| (f_X3_down gG cs)) &&& op)) hx hb hr (fun t ht hW => ⟨⟨(((((cs ||| (f_X3_left gG cs)) ||| (f_X3_right gG cs)) ||| (f_X3_up gG cs)) ||| (f_X3_down gG cs)) &&& op), (), rfl, rfl, by rw [ht]; exact hP, va_K.moved hW.alike hK, hD⟩, hS.F ht⟩) hS.2.2 dX3_withBeside_27
