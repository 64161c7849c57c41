/-! HedgeGliders$Garden.hedges()J -/
def f_X2_hedges (dG : GaS) : Int64 := dG.1
abbrev rm_X2_hedges : Room := ({ frames := 0, cells := 0, slots := 0, locals := 0 } : Room)
abbrev A_X2_hedges (cI cJ : ClassId) (zga zgr zru zag : Nat) (dG : GaS) (sz : Nat) : Nat → Prop := va_A [(zga, .inr (1, [.ref zgr, .ref zru, .ref zag, .long dG.1, .int dG.2.1, .int dG.2.2.1, .int dG.2.2.2]))] sz
abbrev Q_X2_hedges (dC : Nat → ClassId) (dI : Nat → Nat → Nat) (cI cJ : ClassId) (zga zgr zru zag : Nat) (dG : GaS) (sz : Nat) (R : Int64) : Array Value → State → Outcome → State → Prop := va_Ql (fun (r : Int64) (_ : Unit) => r = R) (fun u_ t => va_P (dC, dI) vwCl [(zga, .inr (1, [.ref zgr, .ref zru, .ref zag, .long dG.1, .int dG.2.1, .int dG.2.2.1, .int dG.2.2.2]))] t.heap ∧ va_K (dC, dI) vwCl [(cI, .int), (cJ, .long)] t ∧ va_D (A_X2_hedges cI cJ zga zgr zru zag dG sz) [(zga, .inr (1, [.ref zgr, .ref zru, .ref zag, .long dG.1, .int dG.2.1, .int dG.2.2.1, .int dG.2.2.2]))]) (A_X2_hedges cI cJ zga zgr zru zag dG sz)
set_option maxHeartbeats 4000000 in
set_option maxRecDepth 100000 in
theorem c_X2_hedges (l : Launch) (dC : Nat → ClassId) (dI : Nat → Nat → Nat) (cI cJ : ClassId) (zga zgr zru zag : Nat) (sz : Nat) (dG : GaS) : Met l yX2_hedges wsX2_hedges rm_X2_hedges (va_Pc [.ref zga] (fun U => U.heap.size = sz ∧ va_P (dC, dI) vwCl [(zga, .inr (1, [.ref zgr, .ref zru, .ref zag, .long dG.1, .int dG.2.1, .int dG.2.2.1, .int dG.2.2.2]))] U.heap ∧ va_K (dC, dI) vwCl [(cI, .int), (cJ, .long)] U ∧ va_D (fun _ => True) [(zga, .inr (1, [.ref zgr, .ref zru, .ref zag, .long dG.1, .int dG.2.1, .int dG.2.2.1, .int dG.2.2.2]))])) (Q_X2_hedges dC dI cI cJ zga zgr zru zag dG sz (f_X2_hedges dG)) 0 0 (A_X2_hedges cI cJ zga zgr zru zag dG sz) := by
  generalize hf : (f_X2_hedges dG) = R
  refine Met.ofW (cc := cX2_hedges) (maxL := 1) (ret := (some .long)) (by decide) rfl ?_
  intro p e s m args below meth c s₁ B hml hv
  obtain ⟨hargs, hsz, hP, hK, hD0⟩ := hv
  have hx := B.exec
  have hb := B.bytes
  have hr := B.returns
  have hts := atoms_spec (ws := wsX2_hedges) B.pre
  have hown : s.vm.findClass RX2 = some m.cls := findClass_of_methodNamed B.named
  have hlocks := B.notSynchronized
  subst hsz
  have hD : va_D (A_X2_hedges cI cJ zga zgr zru zag dG s.heap.size) [(zga, .inr (1, [.ref zgr, .ref zru, .ref zag, .long dG.1, .int dG.2.1, .int dG.2.2.1, .int dG.2.2.2]))] := hD0.self (sz := s.heap.size)
  have hA : ∀ q : Nat, s.heap.size ≤ q → (A_X2_hedges cI cJ zga zgr zru zag dG s.heap.size) q := fun q h => Or.inr h
  have hS : va_S (A_X2_hedges cI cJ zga zgr zru zag dG s.heap.size) s.heap s.heap [] := va_S.rf
  have hinX2 : ∀ w ∈ wsX20, w ∈ wsX2_hedges := by decide +kernel
  have hw0 := hts (.fieldLink RX2 23 "HedgeGliders$Garden" "hedges" "J") (by decide +kernel)
  have hl := lv_entry ([.ref zga]) (n := 1) (Nat.le_of_ble_eq_true rfl)
  have he0 : entryFrame m args 1 = entryFrame m ([.ref zga] : List Value).toArray 1 := by rw [hargs]
  rw [he0, lg_entry_eq]
  generalize (lg_sl ([.ref zga]) ++ List.replicate (1 - (lg_sl ([.ref zga])).length) Slot.unset).toArray = ls at hl ⊢
  have hl : lv_has ls 1 [(0, .ref zga)] := hl
  rw [f_X2_hedges] at hf
  refine lv_aload_n hx hb dX2_hedges_0 rfl (lv_at hl 0 rfl) ?_
  refine va_get (D := (dC, dI)) (ci := 1) (v := .long dG.1) (C := RX2) (T := TX2) (N := 7) hx hb hts hinX2 hown hK hP 0 rfl rfl 3 (by decide) hw0 (fun _ h9 => h9) rfl dX2_hedges_1 ?_
  obtain rfl := hf
  exact W.lret (v := dG.1) hx hb hr (fun t ht hW => ⟨⟨dG.1, (), rfl, rfl, by rw [ht]; exact hP, va_K.moved hW.alike hK, hD⟩, hS.F ht⟩) hS.2.2 dX2_hedges_4
/-! HedgeGliders$Garden.size()I -/
def f_X2_size (dG : GaS) : Int32 := (f_J13_bitCount_95d88 dG.1)
abbrev rm_X2_size : Room := ({ frames := 1, cells := 0, slots := 0, locals := 21 } : Room)
abbrev A_X2_size (cI cJ : ClassId) (zga zgr zru zag : Nat) (dG : GaS) (sz : Nat) : Nat → Prop := va_A [(zga, .inr (1, [.ref zgr, .ref zru, .ref zag, .long dG.1, .int dG.2.1, .int dG.2.2.1, .int dG.2.2.2]))] sz
abbrev Q_X2_size (dC : Nat → ClassId) (dI : Nat → Nat → Nat) (cI cJ : ClassId) (zga zgr zru zag : Nat) (dG : GaS) (sz : Nat) (R : Int32) : Array Value → State → Outcome → State → Prop := va_Qi (fun (r : Int32) (_ : Unit) => r = R) (fun u_ t => va_P (dC, dI) vwCl [(zga, .inr (1, [.ref zgr, .ref zru, .ref zag, .long dG.1, .int dG.2.1, .int dG.2.2.1, .int dG.2.2.2]))] t.heap ∧ va_K (dC, dI) vwCl [(cI, .int), (cJ, .long)] t ∧ va_D (A_X2_size cI cJ zga zgr zru zag dG sz) [(zga, .inr (1, [.ref zgr, .ref zru, .ref zag, .long dG.1, .int dG.2.1, .int dG.2.2.1, .int dG.2.2.2]))]) (A_X2_size cI cJ zga zgr zru zag dG sz)
set_option maxHeartbeats 4000000 in
set_option maxRecDepth 100000 in
theorem c_X2_size (l : Launch) (dC : Nat → ClassId) (dI : Nat → Nat → Nat) (cI cJ : ClassId) (zga zgr zru zag : Nat) (sz : Nat) (dG : GaS) : Met l yX2_size wsX2_size rm_X2_size (va_Pc [.ref zga] (fun U => U.heap.size = sz ∧ va_P (dC, dI) vwCl [(zga, .inr (1, [.ref zgr, .ref zru, .ref zag, .long dG.1, .int dG.2.1, .int dG.2.2.1, .int dG.2.2.2]))] U.heap ∧ va_K (dC, dI) vwCl [(cI, .int), (cJ, .long)] U ∧ va_D (fun _ => True) [(zga, .inr (1, [.ref zgr, .ref zru, .ref zag, .long dG.1, .int dG.2.1, .int dG.2.2.1, .int dG.2.2.2]))])) (Q_X2_size dC dI cI cJ zga zgr zru zag dG sz (f_X2_size dG)) 0 0 (A_X2_size cI cJ zga zgr zru zag dG sz) := by
  generalize hf : (f_X2_size dG) = R
  refine Met.ofW (cc := cX2_size) (maxL := 1) (ret := (some .int)) (by decide) rfl ?_
  intro p e s m args below meth c s₁ B hml hv
  obtain ⟨hargs, hsz, hP, hK, hD0⟩ := hv
  have hx := B.exec
  have hb := B.bytes
  have hr := B.returns
  have hts := atoms_spec (ws := wsX2_size) B.pre
  have hown : s.vm.findClass RX2 = some m.cls := findClass_of_methodNamed B.named
  have hlocks := B.notSynchronized
  subst hsz
  have hD : va_D (A_X2_size cI cJ zga zgr zru zag dG s.heap.size) [(zga, .inr (1, [.ref zgr, .ref zru, .ref zag, .long dG.1, .int dG.2.1, .int dG.2.2.1, .int dG.2.2.2]))] := hD0.self (sz := s.heap.size)
  have hA : ∀ q : Nat, s.heap.size ≤ q → (A_X2_size cI cJ zga zgr zru zag dG s.heap.size) q := fun q h => Or.inr h
  have hS : va_S (A_X2_size cI cJ zga zgr zru zag dG s.heap.size) s.heap s.heap [] := va_S.rf
  have hinX2 : ∀ w ∈ wsX20, w ∈ wsX2_size := by decide +kernel
  have hw0 := hts (.fieldLink RX2 23 "HedgeGliders$Garden" "hedges" "J") (by decide +kernel)
  have hl := lv_entry ([.ref zga]) (n := 1) (Nat.le_of_ble_eq_true rfl)
  have he0 : entryFrame m args 1 = entryFrame m ([.ref zga] : List Value).toArray 1 := by rw [hargs]
  rw [he0, lg_entry_eq]
  generalize (lg_sl ([.ref zga]) ++ List.replicate (1 - (lg_sl ([.ref zga])).length) Slot.unset).toArray = ls at hl ⊢
  have hl : lv_has ls 1 [(0, .ref zga)] := hl
  rw [f_X2_size] at hf
  refine lv_aload_n hx hb dX2_size_0 rfl (lv_at hl 0 rfl) ?_
  refine va_get (D := (dC, dI)) (ci := 1) (v := .long dG.1) (C := RX2) (T := TX2) (N := 7) hx hb hts hinX2 hown hK hP 0 rfl rfl 3 (by decide) hw0 (fun _ h9 => h9) rfl dX2_size_1 ?_
  have hPc := hP.sub (ws' := []) [] rfl
  have hDc := hD.sub (ws' := []) [] (by decide) rfl
  have hFc := va_free (wc := []) hD hS hA [] rfl
  refine va_calli (va_runS (As := [.long dG.1]) (rest := []) ⟨hx, hb, hml, hown, hts⟩ (c_J13_bitCount_95d88 l dC dI cI cJ  s.heap.size dG.1) (va_cwS 1 hts gX2_size_J13_bitCount_95d88 rfl rfl rfl (by decide +kernel) ⟨Nat.le_of_ble_eq_true rfl, Nat.le_of_ble_eq_true rfl⟩) ⟨fun a U gg mk q => by obtain ⟨q0, q1, qP, qK, qD⟩ := q; exact ⟨q0, q1, qP, va_K.moved (u := U) (U := U.calling gg mk a) (Vm.Alike.refl U.vm) qK, qD⟩, fun U hU hW => ⟨rfl, by rw [hU], by rw [hU]; exact hPc, va_K.moved hW.alike hK, hDc.weaken (fun _ _ _ _ => trivial)⟩⟩ rfl rfl hl.1 rfl (lv_room (Nat.le_of_ble_eq_true rfl)) dX2_size_4 ⟨Nat.zero_le _, Nat.zero_le _⟩) hS (fun q _ h => hFc q h) hFc (fun r_ u_ t H locs ht hvm hw hB hz1 hk1 hS => ?_)
  obtain rfl := hw.symm
  obtain ⟨hP1, -, hD1⟩ := hB
  rw [ht] at hP1
  obtain ⟨hP, hD⟩ := va_join (wr := [(zga, .inr (1, [.ref zgr, .ref zru, .ref zag, .long dG.1, .int dG.2.1, .int dG.2.2.1, .int dG.2.2.2]))]) (w1 := []) hP hD [] [0] rfl rfl (by decide) (by decide) hk1 hFc hP1 hD1
  have hP := hP.sub (ws' := [(zga, .inr (1, [.ref zgr, .ref zru, .ref zag, .long dG.1, .int dG.2.1, .int dG.2.2.1, .int dG.2.2.2]))]) [0] rfl
  have hD := hD.sub (ws' := [(zga, .inr (1, [.ref zgr, .ref zru, .ref zag, .long dG.1, .int dG.2.1, .int dG.2.2.1, .int dG.2.2.2]))]) [0] (by decide) rfl
  clear hPc hDc hFc hP1 hD1 hk1
  obtain rfl := hf
  exact W.iret (v := (f_J13_bitCount_95d88 dG.1)) hx hb hr (fun t ht hW => ⟨⟨(f_J13_bitCount_95d88 dG.1), (), rfl, rfl, by rw [ht]; exact hP, va_K.moved hW.alike hK, hD⟩, hS.F ht⟩) hS.2.2 dX2_size_7
/-! HedgeGliders$Garden.year()I -/
def f_X2_year (dG : GaS) : Int32 := dG.2.1
abbrev rm_X2_year : Room := ({ frames := 0, cells := 0, slots := 0, locals := 0 } : Room)
abbrev A_X2_year (cI cJ : ClassId) (zga zgr zru zag : Nat) (dG : GaS) (sz : Nat) : Nat → Prop := va_A [(zga, .inr (1, [.ref zgr, .ref zru, .ref zag, .long dG.1, .int dG.2.1, .int dG.2.2.1, .int dG.2.2.2]))] sz
abbrev Q_X2_year (dC : Nat → ClassId) (dI : Nat → Nat → Nat) (cI cJ : ClassId) (zga zgr zru zag : Nat) (dG : GaS) (sz : Nat) (R : Int32) : Array Value → State → Outcome → State → Prop := va_Qi (fun (r : Int32) (_ : Unit) => r = R) (fun u_ t => va_P (dC, dI) vwCl [(zga, .inr (1, [.ref zgr, .ref zru, .ref zag, .long dG.1, .int dG.2.1, .int dG.2.2.1, .int dG.2.2.2]))] t.heap ∧ va_K (dC, dI) vwCl [(cI, .int), (cJ, .long)] t ∧ va_D (A_X2_year cI cJ zga zgr zru zag dG sz) [(zga, .inr (1, [.ref zgr, .ref zru, .ref zag, .long dG.1, .int dG.2.1, .int dG.2.2.1, .int dG.2.2.2]))]) (A_X2_year cI cJ zga zgr zru zag dG sz)
set_option maxHeartbeats 4000000 in
set_option maxRecDepth 100000 in
theorem c_X2_year (l : Launch) (dC : Nat → ClassId) (dI : Nat → Nat → Nat) (cI cJ : ClassId) (zga zgr zru zag : Nat) (sz : Nat) (dG : GaS) : Met l yX2_year wsX2_year rm_X2_year (va_Pc [.ref zga] (fun U => U.heap.size = sz ∧ va_P (dC, dI) vwCl [(zga, .inr (1, [.ref zgr, .ref zru, .ref zag, .long dG.1, .int dG.2.1, .int dG.2.2.1, .int dG.2.2.2]))] U.heap ∧ va_K (dC, dI) vwCl [(cI, .int), (cJ, .long)] U ∧ va_D (fun _ => True) [(zga, .inr (1, [.ref zgr, .ref zru, .ref zag, .long dG.1, .int dG.2.1, .int dG.2.2.1, .int dG.2.2.2]))])) (Q_X2_year dC dI cI cJ zga zgr zru zag dG sz (f_X2_year dG)) 0 0 (A_X2_year cI cJ zga zgr zru zag dG sz) := by
  generalize hf : (f_X2_year dG) = R
  refine Met.ofW (cc := cX2_year) (maxL := 1) (ret := (some .int)) (by decide) rfl ?_
  intro p e s m args below meth c s₁ B hml hv
  obtain ⟨hargs, hsz, hP, hK, hD0⟩ := hv
  have hx := B.exec
  have hb := B.bytes
  have hr := B.returns
  have hts := atoms_spec (ws := wsX2_year) B.pre
  have hown : s.vm.findClass RX2 = some m.cls := findClass_of_methodNamed B.named
  have hlocks := B.notSynchronized
  subst hsz
  have hD : va_D (A_X2_year cI cJ zga zgr zru zag dG s.heap.size) [(zga, .inr (1, [.ref zgr, .ref zru, .ref zag, .long dG.1, .int dG.2.1, .int dG.2.2.1, .int dG.2.2.2]))] := hD0.self (sz := s.heap.size)
  have hA : ∀ q : Nat, s.heap.size ≤ q → (A_X2_year cI cJ zga zgr zru zag dG s.heap.size) q := fun q h => Or.inr h
  have hS : va_S (A_X2_year cI cJ zga zgr zru zag dG s.heap.size) s.heap s.heap [] := va_S.rf
  have hinX2 : ∀ w ∈ wsX20, w ∈ wsX2_year := by decide +kernel
  have hw0 := hts (.fieldLink RX2 27 "HedgeGliders$Garden" "year" "I") (by decide +kernel)
  have hl := lv_entry ([.ref zga]) (n := 1) (Nat.le_of_ble_eq_true rfl)
  have he0 : entryFrame m args 1 = entryFrame m ([.ref zga] : List Value).toArray 1 := by rw [hargs]
  rw [he0, lg_entry_eq]
  generalize (lg_sl ([.ref zga]) ++ List.replicate (1 - (lg_sl ([.ref zga])).length) Slot.unset).toArray = ls at hl ⊢
  have hl : lv_has ls 1 [(0, .ref zga)] := hl
  rw [f_X2_year] at hf
  refine lv_aload_n hx hb dX2_year_0 rfl (lv_at hl 0 rfl) ?_
  refine va_get (D := (dC, dI)) (ci := 1) (v := .int dG.2.1) (C := RX2) (T := TX2) (N := 7) hx hb hts hinX2 hown hK hP 0 rfl rfl 4 (by decide) hw0 (fun _ h9 => h9) rfl dX2_year_1 ?_
  obtain rfl := hf
  exact W.iret (v := dG.2.1) hx hb hr (fun t ht hW => ⟨⟨dG.2.1, (), rfl, rfl, by rw [ht]; exact hP, va_K.moved hW.alike hK, hD⟩, hS.F ht⟩) hS.2.2 dX2_year_4
/-! HedgeGliders$Garden.birthsInAll()I -/
def f_X2_birthsInAll (dG : GaS) : Int32 := dG.2.2.1
abbrev rm_X2_birthsInAll : Room := ({ frames := 0, cells := 0, slots := 0, locals := 0 } : Room)
abbrev A_X2_birthsInAll (cI cJ : ClassId) (zga zgr zru zag : Nat) (dG : GaS) (sz : Nat) : Nat → Prop := va_A [(zga, .inr (1, [.ref zgr, .ref zru, .ref zag, .long dG.1, .int dG.2.1, .int dG.2.2.1, .int dG.2.2.2]))] sz
abbrev Q_X2_birthsInAll (dC : Nat → ClassId) (dI : Nat → Nat → Nat) (cI cJ : ClassId) (zga zgr zru zag : Nat) (dG : GaS) (sz : Nat) (R : Int32) : Array Value → State → Outcome → State → Prop := va_Qi (fun (r : Int32) (_ : Unit) => r = R) (fun u_ t => va_P (dC, dI) vwCl [(zga, .inr (1, [.ref zgr, .ref zru, .ref zag, .long dG.1, .int dG.2.1, .int dG.2.2.1, .int dG.2.2.2]))] t.heap ∧ va_K (dC, dI) vwCl [(cI, .int), (cJ, .long)] t ∧ va_D (A_X2_birthsInAll cI cJ zga zgr zru zag dG sz) [(zga, .inr (1, [.ref zgr, .ref zru, .ref zag, .long dG.1, .int dG.2.1, .int dG.2.2.1, .int dG.2.2.2]))]) (A_X2_birthsInAll cI cJ zga zgr zru zag dG sz)
set_option maxHeartbeats 4000000 in
set_option maxRecDepth 100000 in
theorem c_X2_birthsInAll (l : Launch) (dC : Nat → ClassId) (dI : Nat → Nat → Nat) (cI cJ : ClassId) (zga zgr zru zag : Nat) (sz : Nat) (dG : GaS) : Met l yX2_birthsInAll wsX2_birthsInAll rm_X2_birthsInAll (va_Pc [.ref zga] (fun U => U.heap.size = sz ∧ va_P (dC, dI) vwCl [(zga, .inr (1, [.ref zgr, .ref zru, .ref zag, .long dG.1, .int dG.2.1, .int dG.2.2.1, .int dG.2.2.2]))] U.heap ∧ va_K (dC, dI) vwCl [(cI, .int), (cJ, .long)] U ∧ va_D (fun _ => True) [(zga, .inr (1, [.ref zgr, .ref zru, .ref zag, .long dG.1, .int dG.2.1, .int dG.2.2.1, .int dG.2.2.2]))])) (Q_X2_birthsInAll dC dI cI cJ zga zgr zru zag dG sz (f_X2_birthsInAll dG)) 0 0 (A_X2_birthsInAll cI cJ zga zgr zru zag dG sz) := by
  generalize hf : (f_X2_birthsInAll dG) = R
  refine Met.ofW (cc := cX2_birthsInAll) (maxL := 1) (ret := (some .int)) (by decide) rfl ?_
  intro p e s m args below meth c s₁ B hml hv
  obtain ⟨hargs, hsz, hP, hK, hD0⟩ := hv
  have hx := B.exec
  have hb := B.bytes
  have hr := B.returns
  have hts := atoms_spec (ws := wsX2_birthsInAll) B.pre
  have hown : s.vm.findClass RX2 = some m.cls := findClass_of_methodNamed B.named
  have hlocks := B.notSynchronized
  subst hsz
  have hD : va_D (A_X2_birthsInAll cI cJ zga zgr zru zag dG s.heap.size) [(zga, .inr (1, [.ref zgr, .ref zru, .ref zag, .long dG.1, .int dG.2.1, .int dG.2.2.1, .int dG.2.2.2]))] := hD0.self (sz := s.heap.size)
  have hA : ∀ q : Nat, s.heap.size ≤ q → (A_X2_birthsInAll cI cJ zga zgr zru zag dG s.heap.size) q := fun q h => Or.inr h
  have hS : va_S (A_X2_birthsInAll cI cJ zga zgr zru zag dG s.heap.size) s.heap s.heap [] := va_S.rf
  have hinX2 : ∀ w ∈ wsX20, w ∈ wsX2_birthsInAll := by decide +kernel
  have hw0 := hts (.fieldLink RX2 31 "HedgeGliders$Garden" "births" "I") (by decide +kernel)
  have hl := lv_entry ([.ref zga]) (n := 1) (Nat.le_of_ble_eq_true rfl)
  have he0 : entryFrame m args 1 = entryFrame m ([.ref zga] : List Value).toArray 1 := by rw [hargs]
  rw [he0, lg_entry_eq]
  generalize (lg_sl ([.ref zga]) ++ List.replicate (1 - (lg_sl ([.ref zga])).length) Slot.unset).toArray = ls at hl ⊢
  have hl : lv_has ls 1 [(0, .ref zga)] := hl
  rw [f_X2_birthsInAll] at hf
  refine lv_aload_n hx hb dX2_birthsInAll_0 rfl (lv_at hl 0 rfl) ?_
  refine va_get (D := (dC, dI)) (ci := 1) (v := .int dG.2.2.1) (C := RX2) (T := TX2) (N := 7) hx hb hts hinX2 hown hK hP 0 rfl rfl 5 (by decide) hw0 (fun _ h9 => h9) rfl dX2_birthsInAll_1 ?_
  obtain rfl := hf
  exact W.iret (v := dG.2.2.1) hx hb hr (fun t ht hW => ⟨⟨dG.2.2.1, (), rfl, rfl, by rw [ht]; exact hP, va_K.moved hW.alike hK, hD⟩, hS.F ht⟩) hS.2.2 dX2_birthsInAll_4
/-! HedgeGliders$Garden.deathsInAll()I -/
def f_X2_deathsInAll (dG : GaS) : Int32 := dG.2.2.2
abbrev rm_X2_deathsInAll : Room := ({ frames := 0, cells := 0, slots := 0, locals := 0 } : Room)
abbrev A_X2_deathsInAll (cI cJ : ClassId) (zga zgr zru zag : Nat) (dG : GaS) (sz : Nat) : Nat → Prop := va_A [(zga, .inr (1, [.ref zgr, .ref zru, .ref zag, .long dG.1, .int dG.2.1, .int dG.2.2.1, .int dG.2.2.2]))] sz
abbrev Q_X2_deathsInAll (dC : Nat → ClassId) (dI : Nat → Nat → Nat) (cI cJ : ClassId) (zga zgr zru zag : Nat) (dG : GaS) (sz : Nat) (R : Int32) : Array Value → State → Outcome → State → Prop := va_Qi (fun (r : Int32) (_ : Unit) => r = R) (fun u_ t => va_P (dC, dI) vwCl [(zga, .inr (1, [.ref zgr, .ref zru, .ref zag, .long dG.1, .int dG.2.1, .int dG.2.2.1, .int dG.2.2.2]))] t.heap ∧ va_K (dC, dI) vwCl [(cI, .int), (cJ, .long)] t ∧ va_D (A_X2_deathsInAll cI cJ zga zgr zru zag dG sz) [(zga, .inr (1, [.ref zgr, .ref zru, .ref zag, .long dG.1, .int dG.2.1, .int dG.2.2.1, .int dG.2.2.2]))]) (A_X2_deathsInAll cI cJ zga zgr zru zag dG sz)
set_option maxHeartbeats 4000000 in
set_option maxRecDepth 100000 in
theorem c_X2_deathsInAll (l : Launch) (dC : Nat → ClassId) (dI : Nat → Nat → Nat) (cI cJ : ClassId) (zga zgr zru zag : Nat) (sz : Nat) (dG : GaS) : Met l yX2_deathsInAll wsX2_deathsInAll rm_X2_deathsInAll (va_Pc [.ref zga] (fun U => U.heap.size = sz ∧ va_P (dC, dI) vwCl [(zga, .inr (1, [.ref zgr, .ref zru, .ref zag, .long dG.1, .int dG.2.1, .int dG.2.2.1, .int dG.2.2.2]))] U.heap ∧ va_K (dC, dI) vwCl [(cI, .int), (cJ, .long)] U ∧ va_D (fun _ => True) [(zga, .inr (1, [.ref zgr, .ref zru, .ref zag, .long dG.1, .int dG.2.1, .int dG.2.2.1, .int dG.2.2.2]))])) (Q_X2_deathsInAll dC dI cI cJ zga zgr zru zag dG sz (f_X2_deathsInAll dG)) 0 0 (A_X2_deathsInAll cI cJ zga zgr zru zag dG sz) := by
  generalize hf : (f_X2_deathsInAll dG) = R
  refine Met.ofW (cc := cX2_deathsInAll) (maxL := 1) (ret := (some .int)) (by decide) rfl ?_
  intro p e s m args below meth c s₁ B hml hv
  obtain ⟨hargs, hsz, hP, hK, hD0⟩ := hv
  have hx := B.exec
  have hb := B.bytes
  have hr := B.returns
  have hts := atoms_spec (ws := wsX2_deathsInAll) B.pre
  have hown : s.vm.findClass RX2 = some m.cls := findClass_of_methodNamed B.named
  have hlocks := B.notSynchronized
  subst hsz
  have hD : va_D (A_X2_deathsInAll cI cJ zga zgr zru zag dG s.heap.size) [(zga, .inr (1, [.ref zgr, .ref zru, .ref zag, .long dG.1, .int dG.2.1, .int dG.2.2.1, .int dG.2.2.2]))] := hD0.self (sz := s.heap.size)
  have hA : ∀ q : Nat, s.heap.size ≤ q → (A_X2_deathsInAll cI cJ zga zgr zru zag dG s.heap.size) q := fun q h => Or.inr h
  have hS : va_S (A_X2_deathsInAll cI cJ zga zgr zru zag dG s.heap.size) s.heap s.heap [] := va_S.rf
  have hinX2 : ∀ w ∈ wsX20, w ∈ wsX2_deathsInAll := by decide +kernel
  have hw0 := hts (.fieldLink RX2 34 "HedgeGliders$Garden" "deaths" "I") (by decide +kernel)
  have hl := lv_entry ([.ref zga]) (n := 1) (Nat.le_of_ble_eq_true rfl)
  have he0 : entryFrame m args 1 = entryFrame m ([.ref zga] : List Value).toArray 1 := by rw [hargs]
  rw [he0, lg_entry_eq]
  generalize (lg_sl ([.ref zga]) ++ List.replicate (1 - (lg_sl ([.ref zga])).length) Slot.unset).toArray = ls at hl ⊢
  have hl : lv_has ls 1 [(0, .ref zga)] := hl
  rw [f_X2_deathsInAll] at hf
  refine lv_aload_n hx hb dX2_deathsInAll_0 rfl (lv_at hl 0 rfl) ?_
  refine va_get (D := (dC, dI)) (ci := 1) (v := .int dG.2.2.2) (C := RX2) (T := TX2) (N := 7) hx hb hts hinX2 hown hK hP 0 rfl rfl 6 (by decide) hw0 (fun _ h9 => h9) rfl dX2_deathsInAll_1 ?_
  obtain rfl := hf
  exact W.iret (v := dG.2.2.2) hx hb hr (fun t ht hW => ⟨⟨dG.2.2.2, (), rfl, rfl, by rw [ht]; exact hP, va_K.moved hW.alike hK, hD⟩, hS.F ht⟩) hS.2.2 dX2_deathsInAll_4
/-! HedgeGliders$Garden.open()J -/
def f_X2_open (dG : GaS) (gG : GrS) : Int64 := (f_X3_open gG dG.1)
abbrev rm_X2_open : Room := ({ frames := 1, cells := 0, slots := 0, locals := 22 } : Room)
abbrev A_X2_open (cI cJ : ClassId) (zga zgr zru zag : Nat) (dG : GaS) (gG : GrS) (sz : Nat) : Nat → Prop := va_A [(zga, .inr (1, [.ref zgr, .ref zru, .ref zag, .long dG.1, .int dG.2.1, .int dG.2.2.1, .int dG.2.2.2])), (zgr, .inr (2, [.int gG.1, .int gG.2.1, .int (bI gG.2.2.1), .long gG.2.2.2.1, .long gG.2.2.2.2.1, .long gG.2.2.2.2.2.1, .long gG.2.2.2.2.2.2.1, .long gG.2.2.2.2.2.2.2]))] sz
abbrev Q_X2_open (dC : Nat → ClassId) (dI : Nat → Nat → Nat) (cI cJ : ClassId) (zga zgr zru zag : Nat) (dG : GaS) (gG : GrS) (sz : Nat) (R : Int64) : Array Value → State → Outcome → State → Prop := va_Ql (fun (r : Int64) (_ : Unit) => r = R) (fun u_ t => va_P (dC, dI) vwCl [(zga, .inr (1, [.ref zgr, .ref zru, .ref zag, .long dG.1, .int dG.2.1, .int dG.2.2.1, .int dG.2.2.2])), (zgr, .inr (2, [.int gG.1, .int gG.2.1, .int (bI gG.2.2.1), .long gG.2.2.2.1, .long gG.2.2.2.2.1, .long gG.2.2.2.2.2.1, .long gG.2.2.2.2.2.2.1, .long gG.2.2.2.2.2.2.2]))] t.heap ∧ va_K (dC, dI) vwCl [(cI, .int), (cJ, .long)] t ∧ va_D (A_X2_open cI cJ zga zgr zru zag dG gG sz) [(zga, .inr (1, [.ref zgr, .ref zru, .ref zag, .long dG.1, .int dG.2.1, .int dG.2.2.1, .int dG.2.2.2])), (zgr, .inr (2, [.int gG.1, .int gG.2.1, .int (bI gG.2.2.1), .long gG.2.2.2.1, .long gG.2.2.2.2.1, .long gG.2.2.2.2.2.1, .long gG.2.2.2.2.2.2.1, .long gG.2.2.2.2.2.2.2]))]) (A_X2_open cI cJ zga zgr zru zag dG gG sz)
set_option maxHeartbeats 4000000 in
set_option maxRecDepth 100000 in
theorem c_X2_open (l : Launch) (dC : Nat → ClassId) (dI : Nat → Nat → Nat) (cI cJ : ClassId) (zga zgr zru zag : Nat) (sz : Nat) (dG : GaS) (gG : GrS) : Met l yX2_open wsX2_open rm_X2_open (va_Pc [.ref zga] (fun U => U.heap.size = sz ∧ va_P (dC, dI) vwCl [(zga, .inr (1, [.ref zgr, .ref zru, .ref zag, .long dG.1, .int dG.2.1, .int dG.2.2.1, .int dG.2.2.2])), (zgr, .inr (2, [.int gG.1, .int gG.2.1, .int (bI gG.2.2.1), .long gG.2.2.2.1, .long gG.2.2.2.2.1, .long gG.2.2.2.2.2.1, .long gG.2.2.2.2.2.2.1, .long gG.2.2.2.2.2.2.2]))] U.heap ∧ va_K (dC, dI) vwCl [(cI, .int), (cJ, .long)] U ∧ va_D (fun _ => True) [(zga, .inr (1, [.ref zgr, .ref zru, .ref zag, .long dG.1, .int dG.2.1, .int dG.2.2.1, .int dG.2.2.2])), (zgr, .inr (2, [.int gG.1, .int gG.2.1, .int (bI gG.2.2.1), .long gG.2.2.2.1, .long gG.2.2.2.2.1, .long gG.2.2.2.2.2.1, .long gG.2.2.2.2.2.2.1, .long gG.2.2.2.2.2.2.2]))])) (Q_X2_open dC dI cI cJ zga zgr zru zag dG gG sz (f_X2_open dG gG)) 0 0 (A_X2_open cI cJ zga zgr zru zag dG gG sz) := by
  generalize hf : (f_X2_open dG gG) = R
  refine Met.ofW (cc := cX2_open) (maxL := 1) (ret := (some .long)) (by decide) rfl ?_
  intro p e s m args below meth c s₁ B hml hv
  obtain ⟨hargs, hsz, hP, hK, hD0⟩ := hv
  have hx := B.exec
  have hb := B.bytes
  have hr := B.returns
  have hts := atoms_spec (ws := wsX2_open) B.pre
  have hown : s.vm.findClass RX2 = some m.cls := findClass_of_methodNamed B.named
  have hlocks := B.notSynchronized
  subst hsz
  have hD : va_D (A_X2_open cI cJ zga zgr zru zag dG gG s.heap.size) [(zga, .inr (1, [.ref zgr, .ref zru, .ref zag, .long dG.1, .int dG.2.1, .int dG.2.2.1, .int dG.2.2.2])), (zgr, .inr (2, [.int gG.1, .int gG.2.1, .int (bI gG.2.2.1), .long gG.2.2.2.1, .long gG.2.2.2.2.1, .long gG.2.2.2.2.2.1, .long gG.2.2.2.2.2.2.1, .long gG.2.2.2.2.2.2.2]))] := hD0.self (sz := s.heap.size)
  have hA : ∀ q : Nat, s.heap.size ≤ q → (A_X2_open cI cJ zga zgr zru zag dG gG s.heap.size) q := fun q h => Or.inr h
  have hS : va_S (A_X2_open cI cJ zga zgr zru zag dG gG s.heap.size) s.heap s.heap [] := va_S.rf
  have hinX2 : ∀ w ∈ wsX20, w ∈ wsX2_open := by decide +kernel
  have hw0 := hts (.fieldLink RX2 15 "HedgeGliders$Garden" "ground" "LHedgeGliders$Ground;") (by decide +kernel)
  have hw1 := hts (.fieldLink RX2 23 "HedgeGliders$Garden" "hedges" "J") (by decide +kernel)
  have hl := lv_entry ([.ref zga]) (n := 1) (Nat.le_of_ble_eq_true rfl)
  have he0 : entryFrame m args 1 = entryFrame m ([.ref zga] : List Value).toArray 1 := by rw [hargs]
  rw [he0, lg_entry_eq]
  generalize (lg_sl ([.ref zga]) ++ List.replicate (1 - (lg_sl ([.ref zga])).length) Slot.unset).toArray = ls at hl ⊢
  have hl : lv_has ls 1 [(0, .ref zga)] := hl
  rw [f_X2_open] at hf
  refine lv_aload_n hx hb dX2_open_0 rfl (lv_at hl 0 rfl) ?_
  refine va_get (D := (dC, dI)) (ci := 1) (v := .ref zgr) (C := RX2) (T := TX2) (N := 7) hx hb hts hinX2 hown hK hP 0 rfl rfl 0 (by decide) hw0 (fun _ h9 => h9) rfl dX2_open_1 ?_
  refine lv_aload_n hx hb dX2_open_4 rfl (lv_at hl 0 rfl) ?_
  refine va_get (D := (dC, dI)) (ci := 1) (v := .long dG.1) (C := RX2) (T := TX2) (N := 7) hx hb hts hinX2 hown hK hP 0 rfl rfl 3 (by decide) hw1 (fun _ h9 => h9) rfl dX2_open_5 ?_
  have hPc := hP.sub (ws' := [(zgr, .inr (2, [.int gG.1, .int gG.2.1, .int (bI gG.2.2.1), .long gG.2.2.2.1, .long gG.2.2.2.2.1, .long gG.2.2.2.2.2.1, .long gG.2.2.2.2.2.2.1, .long gG.2.2.2.2.2.2.2]))]) [1] rfl
  have hDc := hD.sub (ws' := [(zgr, .inr (2, [.int gG.1, .int gG.2.1, .int (bI gG.2.2.1), .long gG.2.2.2.1, .long gG.2.2.2.2.1, .long gG.2.2.2.2.2.1, .long gG.2.2.2.2.2.2.1, .long gG.2.2.2.2.2.2.2]))]) [1] (by decide) rfl
  have hFc := va_free (wc := [(zgr, .inr (2, [.int gG.1, .int gG.2.1, .int (bI gG.2.2.1), .long gG.2.2.2.1, .long gG.2.2.2.2.1, .long gG.2.2.2.2.2.1, .long gG.2.2.2.2.2.2.1, .long gG.2.2.2.2.2.2.2]))]) hD hS hA [1] rfl
  refine va_calll (va_runV (As := [.long dG.1]) (rest := []) ⟨hx, hb, hml, hown, hts⟩ (c_X3_open l dC dI cI cJ zgr s.heap.size gG dG.1) (cwV 1 hts gX2_open_X3_open rfl rfl rfl (by decide +kernel) ⟨Nat.le_of_ble_eq_true rfl, Nat.le_of_ble_eq_true rfl⟩) ⟨fun a U gg mk q => by obtain ⟨q0, q1, qP, qK, qD⟩ := q; exact ⟨q0, q1, qP, va_K.moved (u := U) (U := U.calling gg mk a) (Vm.Alike.refl U.vm) qK, qD⟩, va_recv hK hPc (ci := 2) (q0 := 0) rfl rfl, fun U hU hW => ⟨rfl, by rw [hU], by rw [hU]; exact hPc, va_K.moved hW.alike hK, hDc.weaken (fun _ _ _ _ => trivial)⟩⟩ rfl rfl hl.1 rfl (lv_room (Nat.le_of_ble_eq_true rfl)) dX2_open_8 ⟨Nat.zero_le _, Nat.zero_le _⟩) hS (fun q _ h => hFc q h) hFc (fun r_ u_ t H locs ht hvm hw hB hz1 hk1 hS => ?_)
  obtain rfl := hw.symm
  obtain ⟨hP1, -, hD1⟩ := hB
  rw [ht] at hP1
  obtain ⟨hP, hD⟩ := va_join (wr := [(zga, .inr (1, [.ref zgr, .ref zru, .ref zag, .long dG.1, .int dG.2.1, .int dG.2.2.1, .int dG.2.2.2]))]) (w1 := [(zgr, .inr (2, [.int gG.1, .int gG.2.1, .int (bI gG.2.2.1), .long gG.2.2.2.1, .long gG.2.2.2.2.1, .long gG.2.2.2.2.2.1, .long gG.2.2.2.2.2.2.1, .long gG.2.2.2.2.2.2.2]))]) hP hD [1] [0] rfl rfl (by decide) (by decide) hk1 hFc hP1 hD1
  have hP := hP.sub (ws' := [(zga, .inr (1, [.ref zgr, .ref zru, .ref zag, .long dG.1, .int dG.2.1, .int dG.2.2.1, .int dG.2.2.2])), (zgr, .inr (2, [.int gG.1, .int gG.2.1, .int (bI gG.2.2.1), .long gG.2.2.2.1, .long gG.2.2.2.2.1, .long gG.2.2.2.2.2.1, .long gG.2.2.2.2.2.2.1, .long gG.2.2.2.2.2.2.2]))]) [0, 1] rfl
  have hD := hD.sub (ws' := [(zga, .inr (1, [.ref zgr, .ref zru, .ref zag, .long dG.1, .int dG.2.1, .int dG.2.2.1, .int dG.2.2.2])), (zgr, .inr (2, [.int gG.1, .int gG.2.1, .int (bI gG.2.2.1), .long gG.2.2.2.1, .long gG.2.2.2.2.1, .long gG.2.2.2.2.2.1, .long gG.2.2.2.2.2.2.1, .long gG.2.2.2.2.2.2.2]))]) [0, 1] (by decide) rfl
  clear hPc hDc hFc hP1 hD1 hk1
  obtain rfl := hf
  exact W.lret (v := (f_X3_open gG dG.1)) hx hb hr (fun t ht hW => ⟨⟨(f_X3_open gG dG.1), (), rfl, rfl, by rw [ht]; exact hP, va_K.moved hW.alike hK, hD⟩, hS.F ht⟩) hS.2.2 dX2_open_11
/-! HedgeGliders$Garden.hasHedge(J)Z -/
def f_X2_hasHedge (dG : GaS) (ce : Int64) : Int32 := if (dG.1 &&& ce) = 0 then (0) else (1)
abbrev rm_X2_hasHedge : Room := ({ frames := 0, cells := 0, slots := 0, locals := 0 } : Room)
abbrev A_X2_hasHedge (cI cJ : ClassId) (zga zgr zru zag : Nat) (dG : GaS) (ce : Int64) (sz : Nat) : Nat → Prop := va_A [(zga, .inr (1, [.ref zgr, .ref zru, .ref zag, .long dG.1, .int dG.2.1, .int dG.2.2.1, .int dG.2.2.2]))] sz
abbrev Q_X2_hasHedge (dC : Nat → ClassId) (dI : Nat → Nat → Nat) (cI cJ : ClassId) (zga zgr zru zag : Nat) (dG : GaS) (ce : Int64) (sz : Nat) (R : Int32) : Array Value → State → Outcome → State → Prop := va_Qi (fun (r : Int32) (_ : Unit) => r = R) (fun u_ t => va_P (dC, dI) vwCl [(zga, .inr (1, [.ref zgr, .ref zru, .ref zag, .long dG.1, .int dG.2.1, .int dG.2.2.1, .int dG.2.2.2]))] t.heap ∧ va_K (dC, dI) vwCl [(cI, .int), (cJ, .long)] t ∧ va_D (A_X2_hasHedge cI cJ zga zgr zru zag dG ce sz) [(zga, .inr (1, [.ref zgr, .ref zru, .ref zag, .long dG.1, .int dG.2.1, .int dG.2.2.1, .int dG.2.2.2]))]) (A_X2_hasHedge cI cJ zga zgr zru zag dG ce sz)
set_option maxHeartbeats 4000000 in
set_option maxRecDepth 100000 in
theorem c_X2_hasHedge (l : Launch) (dC : Nat → ClassId) (dI : Nat → Nat → Nat) (cI cJ : ClassId) (zga zgr zru zag : Nat) (sz : Nat) (dG : GaS) (ce : Int64) : Met l yX2_hasHedge wsX2_hasHedge rm_X2_hasHedge (va_Pc [.ref zga, .long ce] (fun U => U.heap.size = sz ∧ va_P (dC, dI) vwCl [(zga, .inr (1, [.ref zgr, .ref zru, .ref zag, .long dG.1, .int dG.2.1, .int dG.2.2.1, .int dG.2.2.2]))] U.heap ∧ va_K (dC, dI) vwCl [(cI, .int), (cJ, .long)] U ∧ va_D (fun _ => True) [(zga, .inr (1, [.ref zgr, .ref zru, .ref zag, .long dG.1, .int dG.2.1, .int dG.2.2.1, .int dG.2.2.2]))])) (Q_X2_hasHedge dC dI cI cJ zga zgr zru zag dG ce sz (f_X2_hasHedge dG ce)) 0 0 (A_X2_hasHedge cI cJ zga zgr zru zag dG ce sz) := by
  generalize hf : (f_X2_hasHedge dG ce) = R
  refine Met.ofW (cc := cX2_hasHedge) (maxL := 3) (ret := (some .boolean)) (by decide) rfl ?_
  intro p e s m args below meth c s₁ B hml hv
  obtain ⟨hargs, hsz, hP, hK, hD0⟩ := hv
  have hx := B.exec
  have hb := B.bytes
  have hr := B.returns
  have hts := atoms_spec (ws := wsX2_hasHedge) B.pre
  have hown : s.vm.findClass RX2 = some m.cls := findClass_of_methodNamed B.named
  have hlocks := B.notSynchronized
  subst hsz
  have hD : va_D (A_X2_hasHedge cI cJ zga zgr zru zag dG ce s.heap.size) [(zga, .inr (1, [.ref zgr, .ref zru, .ref zag, .long dG.1, .int dG.2.1, .int dG.2.2.1, .int dG.2.2.2]))] := hD0.self (sz := s.heap.size)
  have hA : ∀ q : Nat, s.heap.size ≤ q → (A_X2_hasHedge cI cJ zga zgr zru zag dG ce s.heap.size) q := fun q h => Or.inr h
  have hS : va_S (A_X2_hasHedge cI cJ zga zgr zru zag dG ce s.heap.size) s.heap s.heap [] := va_S.rf
  have hinX2 : ∀ w ∈ wsX20, w ∈ wsX2_hasHedge := by decide +kernel
  have hw0 := hts (.fieldLink RX2 23 "HedgeGliders$Garden" "hedges" "J") (by decide +kernel)
  have hl := lv_entry ([.ref zga, .long ce]) (n := 3) (Nat.le_of_ble_eq_true rfl)
  have he0 : entryFrame m args 3 = entryFrame m ([.ref zga, .long ce] : List Value).toArray 3 := by rw [hargs]
  rw [he0, lg_entry_eq]
  generalize (lg_sl ([.ref zga, .long ce]) ++ List.replicate (3 - (lg_sl ([.ref zga, .long ce])).length) Slot.unset).toArray = ls at hl ⊢
  have hl : lv_has ls 3 [(0, .ref zga), (1, .long ce)] := hl
  rw [f_X2_hasHedge] at hf
  refine lv_aload_n hx hb dX2_hasHedge_0 rfl (lv_at hl 0 rfl) ?_
  refine va_get (D := (dC, dI)) (ci := 1) (v := .long dG.1) (C := RX2) (T := TX2) (N := 7) hx hb hts hinX2 hown hK hP 0 rfl rfl 3 (by decide) hw0 (fun _ h9 => h9) rfl dX2_hasHedge_1 ?_
  refine lv_lload_n hx hb dX2_hasHedge_4 rfl (lv_at hl 1 rfl) ?_
  refine lv_land hx hb dX2_hasHedge_5 ?_
  refine lv_lconst (v := 0) hx hb dX2_hasHedge_6 (by decide) ?_
  refine W.lcmp hx hb dX2_hasHedge_7 ?_
  refine lv_if_eq (tgt := 15) hx hb dX2_hasHedge_8 (by decide) (fun hc => ?_) (fun hc => ?_)
  · have hc := lgz.mp hc
    rw [if_pos hc] at hf
    refine lv_iconst (v := 0) hx hb dX2_hasHedge_15 (by decide) ?_
    obtain rfl := hf
    exact W.zret (v := 0) (ty := .boolean) hx hb hr rfl (fun t ht hW => ⟨⟨0, (), rfl, rfl, by rw [ht]; exact hP, va_K.moved hW.alike hK, hD⟩, hS.F ht⟩) hS.2.2 dX2_hasHedge_16
  · have hc := fun h9 => hc (lgz.mpr h9)
    rw [if_neg hc] at hf
    refine lv_iconst (v := 1) hx hb dX2_hasHedge_11 (by decide) ?_
    refine lv_goto (tgt := 16) hx hb dX2_hasHedge_12 (by decide) ?_
    obtain rfl := hf
    exact W.zret (v := 1) (ty := .boolean) hx hb hr rfl (fun t ht hW => ⟨⟨1, (), rfl, rfl, by rw [ht]; exact hP, va_K.moved hW.alike hK, hD⟩, hS.F ht⟩) hS.2.2 dX2_hasHedge_16
/-! HedgeGliders$Garden.putYoung(J)V -/
def lp_X2_putYoung_12 (cs : Int64) : Nat → Int32 → (Nat → Int32) → Option ((Nat → Int32))
  | 0, _, _ => none
  | nf + 1, y5, y6 => if 64 ≤ y5 then (some y6) else (Option.bind (if ((jushr cs y5) &&& 1) = 0 then (some y6) else (if y5 < 0 ∨ 64 ≤ y5.toNatClampNeg then none else some (upd y6 y5.toNatClampNeg 0)) : Option ((Nat → Int32))) fun v7 => lp_X2_putYoung_12 cs nf (y5 + 1) v7)
def f_X2_putYoung (dG : GaS) (aG : Nat → Int32) (cs : Int64) : Option (GaS × (Nat → Int32)) := Option.bind (lp_X2_putYoung_12 cs 100 0 aG) fun v8 => some (((dG.1 ||| cs), dG.2.1, dG.2.2.1, dG.2.2.2), v8)
abbrev rm_X2_putYoung : Room := ({ frames := 0, cells := 0, slots := 0, locals := 0 } : Room)
abbrev A_X2_putYoung (cI cJ : ClassId) (zga zag zgr zru : Nat) (dG : GaS) (aG : Nat → Int32) (cs : Int64) (sz : Nat) : Nat → Prop := va_A [(zga, .inr (1, [.ref zgr, .ref zru, .ref zag, .long dG.1, .int dG.2.1, .int dG.2.2.1, .int dG.2.2.2])), (zag, .inl (cI, 64, .inl aG))] sz
abbrev Q_X2_putYoung (dC : Nat → ClassId) (dI : Nat → Nat → Nat) (cI cJ : ClassId) (zga zag zgr zru : Nat) (dG : GaS) (aG : Nat → Int32) (cs : Int64) (sz : Nat) (R : GaS × (Nat → Int32)) : Array Value → State → Outcome → State → Prop := va_Qv (fun _ : Unit => True) (fun u_ t => va_P (dC, dI) vwCl [(zga, .inr (1, [.ref zgr, .ref zru, .ref zag, .long R.1.1, .int R.1.2.1, .int R.1.2.2.1, .int R.1.2.2.2])), (zag, .inl (cI, 64, .inl R.2))] t.heap ∧ va_K (dC, dI) vwCl [(cI, .int), (cJ, .long)] t ∧ va_D (A_X2_putYoung cI cJ zga zag zgr zru dG aG cs sz) [(zga, .inr (1, [.ref zgr, .ref zru, .ref zag, .long R.1.1, .int R.1.2.1, .int R.1.2.2.1, .int R.1.2.2.2])), (zag, .inl (cI, 64, .inl R.2))]) (A_X2_putYoung cI cJ zga zag zgr zru dG aG cs sz)
set_option maxHeartbeats 4000000 in
set_option maxRecDepth 100000 in
theorem c_X2_putYoung (l : Launch) (dC : Nat → ClassId) (dI : Nat → Nat → Nat) (cI cJ : ClassId) (zga zag zgr zru : Nat) (sz : Nat) (dG : GaS) (aG : Nat → Int32) (cs : Int64) (R : GaS × (Nat → Int32)) (hR : f_X2_putYoung dG aG cs = some R) : Met l yX2_putYoung wsX2_putYoung rm_X2_putYoung (va_Pc [.ref zga, .long cs] (fun U => U.heap.size = sz ∧ va_P (dC, dI) vwCl [(zga, .inr (1, [.ref zgr, .ref zru, .ref zag, .long dG.1, .int dG.2.1, .int dG.2.2.1, .int dG.2.2.2])), (zag, .inl (cI, 64, .inl aG))] U.heap ∧ va_K (dC, dI) vwCl [(cI, .int), (cJ, .long)] U ∧ va_D (fun _ => True) [(zga, .inr (1, [.ref zgr, .ref zru, .ref zag, .long dG.1, .int dG.2.1, .int dG.2.2.1, .int dG.2.2.2])), (zag, .inl (cI, 64, .inl aG))])) (Q_X2_putYoung dC dI cI cJ zga zag zgr zru dG aG cs sz R) 0 0 (A_X2_putYoung cI cJ zga zag zgr zru dG aG cs sz) := by
  have hf := hR
  refine Met.ofW (cc := cX2_putYoung) (maxL := 4) (ret := none) (by decide) rfl ?_
  intro p e s m args below meth c s₁ B hml hv
  obtain ⟨hargs, hsz, hP, hK, hD0⟩ := hv
  have hx := B.exec
  have hb := B.bytes
  have hr := B.returns
  have hts := atoms_spec (ws := wsX2_putYoung) B.pre
  have hown : s.vm.findClass RX2 = some m.cls := findClass_of_methodNamed B.named
  have hlocks := B.notSynchronized
  subst hsz
  have hD : va_D (A_X2_putYoung cI cJ zga zag zgr zru dG aG cs s.heap.size) [(zga, .inr (1, [.ref zgr, .ref zru, .ref zag, .long dG.1, .int dG.2.1, .int dG.2.2.1, .int dG.2.2.2])), (zag, .inl (cI, 64, .inl aG))] := hD0.self (sz := s.heap.size)
  have hA : ∀ q : Nat, s.heap.size ≤ q → (A_X2_putYoung cI cJ zga zag zgr zru dG aG cs s.heap.size) q := fun q h => Or.inr h
  have hS : va_S (A_X2_putYoung cI cJ zga zag zgr zru dG aG cs s.heap.size) s.heap s.heap [] := va_S.rf
  have hinX2 : ∀ w ∈ wsX20, w ∈ wsX2_putYoung := by decide +kernel
  have hw0 := hts (.fieldLink RX2 23 "HedgeGliders$Garden" "hedges" "J") (by decide +kernel)
  have hw1 := hts (.fieldLink RX2 9 "HedgeGliders$Garden" "ages" "[I") (by decide +kernel)
  have hl := lv_entry ([.ref zga, .long cs]) (n := 4) (Nat.le_of_ble_eq_true rfl)
  have he0 : entryFrame m args 4 = entryFrame m ([.ref zga, .long cs] : List Value).toArray 4 := by rw [hargs]
  rw [he0, lg_entry_eq]
  generalize (lg_sl ([.ref zga, .long cs]) ++ List.replicate (4 - (lg_sl ([.ref zga, .long cs])).length) Slot.unset).toArray = ls at hl ⊢
  have hl : lv_has ls 4 [(0, .ref zga), (1, .long cs)] := hl
  rw [f_X2_putYoung] at hf
  refine lv_aload_n hx hb dX2_putYoung_0 rfl (lv_at hl 0 rfl) ?_
  refine lv_dup hx hb dX2_putYoung_1 rfl ?_
  refine va_get (D := (dC, dI)) (ci := 1) (v := .long dG.1) (C := RX2) (T := TX2) (N := 7) hx hb hts hinX2 hown hK hP 0 rfl rfl 3 (by decide) hw0 (fun _ h9 => h9) rfl dX2_putYoung_2 ?_
  refine lv_lload_n hx hb dX2_putYoung_5 rfl (lv_at hl 1 rfl) ?_
  refine lv_lor hx hb dX2_putYoung_6 ?_
  refine va_put (D := (dC, dI)) (ci := 1) (v := .long (dG.1 ||| cs)) (ty := .long) (C := RX2) (T := TX2) (N := 7) hx hb hts hinX2 tyX2 tyX2_ok nmX2 hown hK hP hD hS 0 rfl rfl 3 (by decide) hw0 (fun _ h9 => h9) rfl (by decide +kernel) rfl rfl (Nat.le_of_ble_eq_true rfl) dX2_putYoung_7 (fun H locs hP hD hS => ?_)
  have hP : va_P (dC, dI) vwCl [(zga, .inr (1, [.ref zgr, .ref zru, .ref zag, .long (dG.1 ||| cs), .int dG.2.1, .int dG.2.2.1, .int dG.2.2.2])), (zag, .inl (cI, 64, .inl aG))] H := hP
  have hD : va_D (A_X2_putYoung cI cJ zga zag zgr zru dG aG cs s.heap.size) [(zga, .inr (1, [.ref zgr, .ref zru, .ref zag, .long (dG.1 ||| cs), .int dG.2.1, .int dG.2.2.1, .int dG.2.2.2])), (zag, .inl (cI, 64, .inl aG))] := hD
  refine lv_iconst (v := 0) hx hb dX2_putYoung_10 (by decide) ?_
  refine lv_istore_n (lv' := [(3, .int 0), (0, .ref zga), (1, .long cs)]) hx hb dX2_putYoung_11 rfl hl (by decide) rfl (fun ls hl => ?_)
  obtain ⟨v8, hv, hf⟩ := obind hf
  have K9 : ∀ (H : Heap) (locs : List Loc) (ls : Array Slot), va_P (dC, dI) vwCl [(zga, .inr (1, [.ref zgr, .ref zru, .ref zag, .long (dG.1 ||| cs), .int dG.2.1, .int dG.2.2.1, .int dG.2.2.2])), (zag, .inl (cI, 64, .inl v8))] H → va_D (A_X2_putYoung cI cJ zga zag zgr zru dG aG cs s.heap.size) [(zga, .inr (1, [.ref zgr, .ref zru, .ref zag, .long (dG.1 ||| cs), .int dG.2.1, .int dG.2.2.1, .int dG.2.2.2])), (zag, .inl (cI, 64, .inl v8))] → va_S (A_X2_putYoung cI cJ zga zag zgr zru dG aG cs s.heap.size) s.heap H locs → lv_has ls 4 [] → W p l e rm_X2_putYoung s m args below meth c H locs 0 0 (MQ below (Q_X2_putYoung dC dI cI cJ zga zag zgr zru dG aG cs s.heap.size R) args s 0 0 (A_X2_putYoung cI cJ zga zag zgr zru dG aG cs s.heap.size)) (F0 m 44 ls []) := by
    intro H locs ls hP hD hS hl
    obtain rfl := Option.some.inj hf
    exact W.vret hx hb hr (fun t ht hW => ⟨⟨(), rfl, trivial, by rw [ht]; exact hP, va_K.moved hW.alike hK, hD⟩, hS.F ht⟩) hS.2.2 dX2_putYoung_44
  have lp10 : ∀ (nf : Nat) (y5 : Int32) (y6 : Nat → Int32) (H : Heap) (locs : List Loc) (ls : Array Slot), lp_X2_putYoung_12 cs nf y5 y6 = some v8 → va_P (dC, dI) vwCl [(zga, .inr (1, [.ref zgr, .ref zru, .ref zag, .long (dG.1 ||| cs), .int dG.2.1, .int dG.2.2.1, .int dG.2.2.2])), (zag, .inl (cI, 64, .inl y6))] H → va_D (A_X2_putYoung cI cJ zga zag zgr zru dG aG cs s.heap.size) [(zga, .inr (1, [.ref zgr, .ref zru, .ref zag, .long (dG.1 ||| cs), .int dG.2.1, .int dG.2.2.1, .int dG.2.2.2])), (zag, .inl (cI, 64, .inl y6))] → va_S (A_X2_putYoung cI cJ zga zag zgr zru dG aG cs s.heap.size) s.heap H locs → lv_has ls 4 [(0, .ref zga), (1, .long cs), (3, .int y5)] → W p l e rm_X2_putYoung s m args below meth c H locs 0 0 (MQ below (Q_X2_putYoung dC dI cI cJ zga zag zgr zru dG aG cs s.heap.size R) args s 0 0 (A_X2_putYoung cI cJ zga zag zgr zru dG aG cs s.heap.size)) (F0 m 12 ls []) := by
    intro nf
    induction nf with
    | zero => intro y5 y6 H locs ls h9; exact nomatch h9
    | succ nf ih11 =>
      intro y5 y6 H locs ls hf hP hD hS hl
      rw [lp_X2_putYoung_12.eq_2] at hf
      refine lv_iload_n hx hb dX2_putYoung_12 rfl (lv_at hl 2 rfl) ?_
      refine lv_aload_n hx hb dX2_putYoung_13 rfl (lv_at hl 0 rfl) ?_
      refine va_get (D := (dC, dI)) (ci := 1) (v := .ref zag) (C := RX2) (T := TX2) (N := 7) hx hb hts hinX2 hown hK hP 0 rfl rfl 2 (by decide) hw1 (fun _ h9 => h9) rfl dX2_putYoung_14 ?_
      refine va_alen (v := 64) hx hb hK hP 1 0 rfl rfl rfl dX2_putYoung_17 ?_
      refine lv_icmp_ge (tgt := 44) hx hb dX2_putYoung_18 (by decide) (fun hc => ?_) (fun hc => ?_)
      · rw [if_pos hc] at hf
        obtain rfl := Option.some.inj hf
        exact K9 _ _ _ hP hD hS (lv_sub hl [] rfl)
      · rw [if_neg hc] at hf
        refine lv_lload_n hx hb dX2_putYoung_21 rfl (lv_at hl 1 rfl) ?_
        refine lv_iload_n hx hb dX2_putYoung_22 rfl (lv_at hl 2 rfl) ?_
        refine lv_lushr (v := (jushr cs y5)) hx hb dX2_putYoung_23 rfl ?_
        refine lv_lconst (v := 1) hx hb dX2_putYoung_24 (by decide) ?_
        refine lv_land hx hb dX2_putYoung_25 ?_
        refine lv_lconst (v := 0) hx hb dX2_putYoung_26 (by decide) ?_
        refine W.lcmp hx hb dX2_putYoung_27 ?_
        obtain ⟨v7, hv, hf⟩ := obind hf
        have K12 : ∀ (H : Heap) (locs : List Loc) (ls : Array Slot), va_P (dC, dI) vwCl [(zga, .inr (1, [.ref zgr, .ref zru, .ref zag, .long (dG.1 ||| cs), .int dG.2.1, .int dG.2.2.1, .int dG.2.2.2])), (zag, .inl (cI, 64, .inl v7))] H → va_D (A_X2_putYoung cI cJ zga zag zgr zru dG aG cs s.heap.size) [(zga, .inr (1, [.ref zgr, .ref zru, .ref zag, .long (dG.1 ||| cs), .int dG.2.1, .int dG.2.2.1, .int dG.2.2.2])), (zag, .inl (cI, 64, .inl v7))] → va_S (A_X2_putYoung cI cJ zga zag zgr zru dG aG cs s.heap.size) s.heap H locs → lv_has ls 4 [(0, .ref zga), (1, .long cs), (3, .int y5)] → W p l e rm_X2_putYoung s m args below meth c H locs 0 0 (MQ below (Q_X2_putYoung dC dI cI cJ zga zag zgr zru dG aG cs s.heap.size R) args s 0 0 (A_X2_putYoung cI cJ zga zag zgr zru dG aG cs s.heap.size)) (F0 m 38 ls []) := by
          intro H locs ls hP hD hS hl
          refine lv_iinc (v := (y5 + 1)) (lv' := [(3, .int (y5 + 1)), (0, .ref zga), (1, .long cs)]) hx hb dX2_putYoung_38 hl (k := 2) rfl rfl (by decide) rfl (fun ls hl => ?_)
          refine lv_goto (tgt := 12) hx hb dX2_putYoung_41 (by decide) ?_
          exact ih11 _ _ _ _ _ hf hP hD hS (lv_sub hl [1, 2, 0] rfl)
        clear hf; have hf := hv; clear hv
        refine lv_if_eq (tgt := 38) hx hb dX2_putYoung_28 (by decide) (fun hc => ?_) (fun hc => ?_)
        · have hc := lgz.mp hc
          rw [if_pos hc] at hf
          obtain rfl := Option.some.inj hf
          exact K12 _ _ _ hP hD hS (lv_sub hl [0, 1, 2] rfl)
        · have hc := fun h9 => hc (lgz.mpr h9)
          rw [if_neg hc] at hf
          refine lv_aload_n hx hb dX2_putYoung_31 rfl (lv_at hl 0 rfl) ?_
          refine va_get (D := (dC, dI)) (ci := 1) (v := .ref zag) (C := RX2) (T := TX2) (N := 7) hx hb hts hinX2 hown hK hP 0 rfl rfl 2 (by decide) hw1 (fun _ h9 => h9) rfl dX2_putYoung_32 ?_
          refine lv_iload_n hx hb dX2_putYoung_35 rfl (lv_at hl 2 rfl) ?_
          refine lv_iconst (v := 0) hx hb dX2_putYoung_36 (by decide) ?_
          have hg0 : ¬ (y5 < 0 ∨ 64 ≤ y5.toNatClampNeg) := fun hq => by rw [if_pos hq] at hf; exact nomatch hf
          rw [if_neg hg0] at hf
          have hg : vp_in y5 64 := hg0
          refine va_iast hx hb hK hP hD hS 1 0 rfl rfl hg dX2_putYoung_37 (fun H locs hP hD hS => ?_)
          have hP : va_P (dC, dI) vwCl [(zga, .inr (1, [.ref zgr, .ref zru, .ref zag, .long (dG.1 ||| cs), .int dG.2.1, .int dG.2.2.1, .int dG.2.2.2])), (zag, .inl (cI, 64, .inl (upd y6 y5.toNatClampNeg 0)))] H := hP
          have hD : va_D (A_X2_putYoung cI cJ zga zag zgr zru dG aG cs s.heap.size) [(zga, .inr (1, [.ref zgr, .ref zru, .ref zag, .long (dG.1 ||| cs), .int dG.2.1, .int dG.2.2.1, .int dG.2.2.2])), (zag, .inl (cI, 64, .inl (upd y6 y5.toNatClampNeg 0)))] := hD
          obtain rfl := Option.some.inj hf
          exact K12 _ _ _ hP hD hS (lv_sub hl [0, 1, 2] rfl)
  exact lp10 100 _ _ _ _ _ hv hP hD hS (lv_sub hl [1, 2, 0] rfl)
/-! HedgeGliders$Garden.cut(J)V -/
def f_X2_cut (dG : GaS) (cs : Int64) : GaS := ((dG.1 &&& (cs ^^^ (-1))), dG.2.1, dG.2.2.1, dG.2.2.2)
abbrev rm_X2_cut : Room := ({ frames := 0, cells := 0, slots := 0, locals := 0 } : Room)
abbrev A_X2_cut (cI cJ : ClassId) (zga zgr zru zag : Nat) (dG : GaS) (cs : Int64) (sz : Nat) : Nat → Prop := va_A [(zga, .inr (1, [.ref zgr, .ref zru, .ref zag, .long dG.1, .int dG.2.1, .int dG.2.2.1, .int dG.2.2.2]))] sz
abbrev Q_X2_cut (dC : Nat → ClassId) (dI : Nat → Nat → Nat) (cI cJ : ClassId) (zga zgr zru zag : Nat) (dG : GaS) (cs : Int64) (sz : Nat) (R : GaS) : Array Value → State → Outcome → State → Prop := va_Qv (fun _ : Unit => True) (fun u_ t => va_P (dC, dI) vwCl [(zga, .inr (1, [.ref zgr, .ref zru, .ref zag, .long R.1, .int R.2.1, .int R.2.2.1, .int R.2.2.2]))] t.heap ∧ va_K (dC, dI) vwCl [(cI, .int), (cJ, .long)] t ∧ va_D (A_X2_cut cI cJ zga zgr zru zag dG cs sz) [(zga, .inr (1, [.ref zgr, .ref zru, .ref zag, .long R.1, .int R.2.1, .int R.2.2.1, .int R.2.2.2]))]) (A_X2_cut cI cJ zga zgr zru zag dG cs sz)
set_option maxHeartbeats 4000000 in
set_option maxRecDepth 100000 in
theorem c_X2_cut (l : Launch) (dC : Nat → ClassId) (dI : Nat → Nat → Nat) (cI cJ : ClassId) (zga zgr zru zag : Nat) (sz : Nat) (dG : GaS) (cs : Int64) : Met l yX2_cut wsX2_cut rm_X2_cut (va_Pc [.ref zga, .long cs] (fun U => U.heap.size = sz ∧ va_P (dC, dI) vwCl [(zga, .inr (1, [.ref zgr, .ref zru, .ref zag, .long dG.1, .int dG.2.1, .int dG.2.2.1, .int dG.2.2.2]))] U.heap ∧ va_K (dC, dI) vwCl [(cI, .int), (cJ, .long)] U ∧ va_D (fun _ => True) [(zga, .inr (1, [.ref zgr, .ref zru, .ref zag, .long dG.1, .int dG.2.1, .int dG.2.2.1, .int dG.2.2.2]))])) (Q_X2_cut dC dI cI cJ zga zgr zru zag dG cs sz (f_X2_cut dG cs)) 0 0 (A_X2_cut cI cJ zga zgr zru zag dG cs sz) := by
  generalize hf : (f_X2_cut dG cs) = R
  refine Met.ofW (cc := cX2_cut) (maxL := 3) (ret := none) (by decide) rfl ?_
  intro p e s m args below meth c s₁ B hml hv
  obtain ⟨hargs, hsz, hP, hK, hD0⟩ := hv
  have hx := B.exec
  have hb := B.bytes
  have hr := B.returns
  have hts := atoms_spec (ws := wsX2_cut) B.pre
  have hown : s.vm.findClass RX2 = some m.cls := findClass_of_methodNamed B.named
  have hlocks := B.notSynchronized
  subst hsz
  have hD : va_D (A_X2_cut cI cJ zga zgr zru zag dG cs s.heap.size) [(zga, .inr (1, [.ref zgr, .ref zru, .ref zag, .long dG.1, .int dG.2.1, .int dG.2.2.1, .int dG.2.2.2]))] := hD0.self (sz := s.heap.size)
  have hA : ∀ q : Nat, s.heap.size ≤ q → (A_X2_cut cI cJ zga zgr zru zag dG cs s.heap.size) q := fun q h => Or.inr h
  have hS : va_S (A_X2_cut cI cJ zga zgr zru zag dG cs s.heap.size) s.heap s.heap [] := va_S.rf
  have hinX2 : ∀ w ∈ wsX20, w ∈ wsX2_cut := by decide +kernel
  have hw0 := hts (.fieldLink RX2 23 "HedgeGliders$Garden" "hedges" "J") (by decide +kernel)
  have hw1 := hts (.constantLong RX2 47 (-1)) (by decide +kernel)
  have hl := lv_entry ([.ref zga, .long cs]) (n := 3) (Nat.le_of_ble_eq_true rfl)
  have he0 : entryFrame m args 3 = entryFrame m ([.ref zga, .long cs] : List Value).toArray 3 := by rw [hargs]
  rw [he0, lg_entry_eq]
  generalize (lg_sl ([.ref zga, .long cs]) ++ List.replicate (3 - (lg_sl ([.ref zga, .long cs])).length) Slot.unset).toArray = ls at hl ⊢
  have hl : lv_has ls 3 [(0, .ref zga), (1, .long cs)] := hl
  rw [f_X2_cut] at hf
  refine lv_aload_n hx hb dX2_cut_0 rfl (lv_at hl 0 rfl) ?_
  refine lv_dup hx hb dX2_cut_1 rfl ?_
  refine va_get (D := (dC, dI)) (ci := 1) (v := .long dG.1) (C := RX2) (T := TX2) (N := 7) hx hb hts hinX2 hown hK hP 0 rfl rfl 3 (by decide) hw0 (fun _ h9 => h9) rfl dX2_cut_2 ?_
  refine lv_lload_n hx hb dX2_cut_5 rfl (lv_at hl 1 rfl) ?_
  refine lv_ldc2 (v := (-1)) hx hb hown hw1 dX2_cut_6 ?_
  refine lv_lxor hx hb dX2_cut_9 ?_
  refine lv_land hx hb dX2_cut_10 ?_
  refine va_put (D := (dC, dI)) (ci := 1) (v := .long (dG.1 &&& (cs ^^^ (-1)))) (ty := .long) (C := RX2) (T := TX2) (N := 7) hx hb hts hinX2 tyX2 tyX2_ok nmX2 hown hK hP hD hS 0 rfl rfl 3 (by decide) hw0 (fun _ h9 => h9) rfl (by decide +kernel) rfl rfl (Nat.le_of_ble_eq_true rfl) dX2_cut_11 (fun H locs hP hD hS => ?_)
  have hP : va_P (dC, dI) vwCl [(zga, .inr (1, [.ref zgr, .ref zru, .ref zag, .long (dG.1 &&& (cs ^^^ (-1))), .int dG.2.1, .int dG.2.2.1, .int dG.2.2.2]))] H := hP
  have hD : va_D (A_X2_cut cI cJ zga zgr zru zag dG cs s.heap.size) [(zga, .inr (1, [.ref zgr, .ref zru, .ref zag, .long (dG.1 &&& (cs ^^^ (-1))), .int dG.2.1, .int dG.2.2.1, .int dG.2.2.2]))] := hD
  obtain rfl := hf
  exact W.vret hx hb hr (fun t ht hW => ⟨⟨(), rfl, trivial, by rw [ht]; exact hP, va_K.moved hW.alike hK, hD⟩, hS.F ht⟩) hS.2.2 dX2_cut_14
/-! HedgeGliders$Garden.growYear()V -/
def lp_X2_growYear_67  : Nat → Int32 → (Nat → Int32) → Option ((Nat → Int32))
  | 0, _, _ => none
  | nf + 1, y7, y8 => if 64 ≤ y7 then (some y8) else (if y7 < 0 ∨ 64 ≤ y7.toNatClampNeg then none else if y7 < 0 ∨ 64 ≤ y7.toNatClampNeg then none else lp_X2_growYear_67 nf (y7 + 1) (upd y8 y7.toNatClampNeg ((y8 y7.toNatClampNeg) + 1)))
def f_X2_growYear (dG : GaS) (aG : Nat → Int32) (gG : GrS) (rR : RuS) : Option (GaS × (Nat → Int32)) := Option.bind (f_X4_born rR gG dG.1) fun r1 => Option.bind (f_X4_staying rR gG dG.1) fun r3 => Option.bind (lp_X2_growYear_67 100 0 aG) fun v9 => Option.bind (f_X2_putYoung (r3, dG.2.1, (dG.2.2.1 + (f_J13_bitCount_95d88 r1)), (dG.2.2.2 + (f_J13_bitCount_95d88 (dG.1 &&& (r3 ^^^ (-1)))))) v9 r1) fun r10 => some ((r10.1.1, (r10.1.2.1 + 1), r10.1.2.2.1, r10.1.2.2.2), r10.2)
abbrev rm_X2_growYear : Room := ({ frames := 4, cells := 0, slots := 0, locals := 88 } : Room)
abbrev A_X2_growYear (cI cJ : ClassId) (zga zag zgr zru zcr : Nat) (dG : GaS) (aG : Nat → Int32) (gG : GrS) (rR : RuS) (qC : CrS) (sz : Nat) : Nat → Prop := va_A [(zga, .inr (1, [.ref zgr, .ref zru, .ref zag, .long dG.1, .int dG.2.1, .int dG.2.2.1, .int dG.2.2.2])), (zag, .inl (cI, 64, .inl aG)), (zgr, .inr (2, [.int gG.1, .int gG.2.1, .int (bI gG.2.2.1), .long gG.2.2.2.1, .long gG.2.2.2.2.1, .long gG.2.2.2.2.2.1, .long gG.2.2.2.2.2.2.1, .long gG.2.2.2.2.2.2.2])), (zru, .inr (3, [.ref zgr, .ref zcr, .int rR.1, .int rR.2])), (zcr, .inr (0, [.long qC.1, .long qC.2.1, .long qC.2.2.1, .long qC.2.2.2]))] sz
abbrev Q_X2_growYear (dC : Nat → ClassId) (dI : Nat → Nat → Nat) (cI cJ : ClassId) (zga zag zgr zru zcr : Nat) (dG : GaS) (aG : Nat → Int32) (gG : GrS) (rR : RuS) (qC : CrS) (sz : Nat) (R : GaS × (Nat → Int32)) : Array Value → State → Outcome → State → Prop := va_Qv (fun _ : CrS => True) (fun u_ t => va_P (dC, dI) vwCl [(zga, .inr (1, [.ref zgr, .ref zru, .ref zag, .long R.1.1, .int R.1.2.1, .int R.1.2.2.1, .int R.1.2.2.2])), (zag, .inl (cI, 64, .inl R.2)), (zgr, .inr (2, [.int gG.1, .int gG.2.1, .int (bI gG.2.2.1), .long gG.2.2.2.1, .long gG.2.2.2.2.1, .long gG.2.2.2.2.2.1, .long gG.2.2.2.2.2.2.1, .long gG.2.2.2.2.2.2.2])), (zru, .inr (3, [.ref zgr, .ref zcr, .int rR.1, .int rR.2])), (zcr, .inr (0, [.long u_.1, .long u_.2.1, .long u_.2.2.1, .long u_.2.2.2]))] t.heap ∧ va_K (dC, dI) vwCl [(cI, .int), (cJ, .long)] t ∧ va_D (A_X2_growYear cI cJ zga zag zgr zru zcr dG aG gG rR qC sz) [(zga, .inr (1, [.ref zgr, .ref zru, .ref zag, .long R.1.1, .int R.1.2.1, .int R.1.2.2.1, .int R.1.2.2.2])), (zag, .inl (cI, 64, .inl R.2)), (zgr, .inr (2, [.int gG.1, .int gG.2.1, .int (bI gG.2.2.1), .long gG.2.2.2.1, .long gG.2.2.2.2.1, .long gG.2.2.2.2.2.1, .long gG.2.2.2.2.2.2.1, .long gG.2.2.2.2.2.2.2])), (zru, .inr (3, [.ref zgr, .ref zcr, .int rR.1, .int rR.2])), (zcr, .inr (0, [.long u_.1, .long u_.2.1, .long u_.2.2.1, .long u_.2.2.2]))]) (A_X2_growYear cI cJ zga zag zgr zru zcr dG aG gG rR qC sz)
set_option maxHeartbeats 4000000 in
set_option maxRecDepth 100000 in
theorem c_X2_growYear (l : Launch) (dC : Nat → ClassId) (dI : Nat → Nat → Nat) (cI cJ : ClassId) (zga zag zgr zru zcr : Nat) (sz : Nat) (dG : GaS) (aG : Nat → Int32) (gG : GrS) (rR : RuS) (qC : CrS) (R : GaS × (Nat → Int32)) (hR : f_X2_growYear dG aG gG rR = some R) : Met l yX2_growYear wsX2_growYear rm_X2_growYear (va_Pc [.ref zga] (fun U => U.heap.size = sz ∧ va_P (dC, dI) vwCl [(zga, .inr (1, [.ref zgr, .ref zru, .ref zag, .long dG.1, .int dG.2.1, .int dG.2.2.1, .int dG.2.2.2])), (zag, .inl (cI, 64, .inl aG)), (zgr, .inr (2, [.int gG.1, .int gG.2.1, .int (bI gG.2.2.1), .long gG.2.2.2.1, .long gG.2.2.2.2.1, .long gG.2.2.2.2.2.1, .long gG.2.2.2.2.2.2.1, .long gG.2.2.2.2.2.2.2])), (zru, .inr (3, [.ref zgr, .ref zcr, .int rR.1, .int rR.2])), (zcr, .inr (0, [.long qC.1, .long qC.2.1, .long qC.2.2.1, .long qC.2.2.2]))] U.heap ∧ va_K (dC, dI) vwCl [(cI, .int), (cJ, .long)] U ∧ va_D (fun _ => True) [(zga, .inr (1, [.ref zgr, .ref zru, .ref zag, .long dG.1, .int dG.2.1, .int dG.2.2.1, .int dG.2.2.2])), (zag, .inl (cI, 64, .inl aG)), (zgr, .inr (2, [.int gG.1, .int gG.2.1, .int (bI gG.2.2.1), .long gG.2.2.2.1, .long gG.2.2.2.2.1, .long gG.2.2.2.2.2.1, .long gG.2.2.2.2.2.2.1, .long gG.2.2.2.2.2.2.2])), (zru, .inr (3, [.ref zgr, .ref zcr, .int rR.1, .int rR.2])), (zcr, .inr (0, [.long qC.1, .long qC.2.1, .long qC.2.2.1, .long qC.2.2.2]))])) (Q_X2_growYear dC dI cI cJ zga zag zgr zru zcr dG aG gG rR qC sz R) 0 0 (A_X2_growYear cI cJ zga zag zgr zru zcr dG aG gG rR qC sz) := by
  have hf := hR
  refine Met.ofW (cc := cX2_growYear) (maxL := 6) (ret := none) (by decide) rfl ?_
  intro p e s m args below meth c s₁ B hml hv
  obtain ⟨hargs, hsz, hP, hK, hD0⟩ := hv
  have hx := B.exec
  have hb := B.bytes
  have hr := B.returns
  have hts := atoms_spec (ws := wsX2_growYear) B.pre
  have hown : s.vm.findClass RX2 = some m.cls := findClass_of_methodNamed B.named
  have hlocks := B.notSynchronized
  subst hsz
  have hD : va_D (A_X2_growYear cI cJ zga zag zgr zru zcr dG aG gG rR qC s.heap.size) [(zga, .inr (1, [.ref zgr, .ref zru, .ref zag, .long dG.1, .int dG.2.1, .int dG.2.2.1, .int dG.2.2.2])), (zag, .inl (cI, 64, .inl aG)), (zgr, .inr (2, [.int gG.1, .int gG.2.1, .int (bI gG.2.2.1), .long gG.2.2.2.1, .long gG.2.2.2.2.1, .long gG.2.2.2.2.2.1, .long gG.2.2.2.2.2.2.1, .long gG.2.2.2.2.2.2.2])), (zru, .inr (3, [.ref zgr, .ref zcr, .int rR.1, .int rR.2])), (zcr, .inr (0, [.long qC.1, .long qC.2.1, .long qC.2.2.1, .long qC.2.2.2]))] := hD0.self (sz := s.heap.size)
  have hA : ∀ q : Nat, s.heap.size ≤ q → (A_X2_growYear cI cJ zga zag zgr zru zcr dG aG gG rR qC s.heap.size) q := fun q h => Or.inr h
  have hS : va_S (A_X2_growYear cI cJ zga zag zgr zru zcr dG aG gG rR qC s.heap.size) s.heap s.heap [] := va_S.rf
  have hinX2 : ∀ w ∈ wsX20, w ∈ wsX2_growYear := by decide +kernel
  have hw0 := hts (.fieldLink RX2 19 "HedgeGliders$Garden" "rules" "LHedgeGliders$Rules;") (by decide +kernel)
  have hw1 := hts (.fieldLink RX2 23 "HedgeGliders$Garden" "hedges" "J") (by decide +kernel)
  have hw2 := hts (.fieldLink RX2 31 "HedgeGliders$Garden" "births" "I") (by decide +kernel)
  have hw3 := hts (.fieldLink RX2 34 "HedgeGliders$Garden" "deaths" "I") (by decide +kernel)
  have hw4 := hts (.constantLong RX2 47 (-1)) (by decide +kernel)
  have hw5 := hts (.fieldLink RX2 9 "HedgeGliders$Garden" "ages" "[I") (by decide +kernel)
  have hw6 := hts (.fieldLink RX2 27 "HedgeGliders$Garden" "year" "I") (by decide +kernel)
  have hl := lv_entry ([.ref zga]) (n := 6) (Nat.le_of_ble_eq_true rfl)
  have he0 : entryFrame m args 6 = entryFrame m ([.ref zga] : List Value).toArray 6 := by rw [hargs]
  rw [he0, lg_entry_eq]
  generalize (lg_sl ([.ref zga]) ++ List.replicate (6 - (lg_sl ([.ref zga])).length) Slot.unset).toArray = ls at hl ⊢
  have hl : lv_has ls 6 [(0, .ref zga)] := hl
  rw [f_X2_growYear] at hf
  refine lv_aload_n hx hb dX2_growYear_0 rfl (lv_at hl 0 rfl) ?_
  refine va_get (D := (dC, dI)) (ci := 1) (v := .ref zru) (C := RX2) (T := TX2) (N := 7) hx hb hts hinX2 hown hK hP 0 rfl rfl 1 (by decide) hw0 (fun _ h9 => h9) rfl dX2_growYear_1 ?_
  refine lv_aload_n hx hb dX2_growYear_4 rfl (lv_at hl 0 rfl) ?_
  refine va_get (D := (dC, dI)) (ci := 1) (v := .long dG.1) (C := RX2) (T := TX2) (N := 7) hx hb hts hinX2 hown hK hP 0 rfl rfl 3 (by decide) hw1 (fun _ h9 => h9) rfl dX2_growYear_5 ?_
  obtain ⟨r1, hr1, hf⟩ := obind hf
  have hPc := hP.sub (ws' := [(zru, .inr (3, [.ref zgr, .ref zcr, .int rR.1, .int rR.2])), (zgr, .inr (2, [.int gG.1, .int gG.2.1, .int (bI gG.2.2.1), .long gG.2.2.2.1, .long gG.2.2.2.2.1, .long gG.2.2.2.2.2.1, .long gG.2.2.2.2.2.2.1, .long gG.2.2.2.2.2.2.2])), (zcr, .inr (0, [.long qC.1, .long qC.2.1, .long qC.2.2.1, .long qC.2.2.2]))]) [3, 2, 4] rfl
  have hDc := hD.sub (ws' := [(zru, .inr (3, [.ref zgr, .ref zcr, .int rR.1, .int rR.2])), (zgr, .inr (2, [.int gG.1, .int gG.2.1, .int (bI gG.2.2.1), .long gG.2.2.2.1, .long gG.2.2.2.2.1, .long gG.2.2.2.2.2.1, .long gG.2.2.2.2.2.2.1, .long gG.2.2.2.2.2.2.2])), (zcr, .inr (0, [.long qC.1, .long qC.2.1, .long qC.2.2.1, .long qC.2.2.2]))]) [3, 2, 4] (by decide) rfl
  have hFc := va_free (wc := [(zru, .inr (3, [.ref zgr, .ref zcr, .int rR.1, .int rR.2])), (zgr, .inr (2, [.int gG.1, .int gG.2.1, .int (bI gG.2.2.1), .long gG.2.2.2.1, .long gG.2.2.2.2.1, .long gG.2.2.2.2.2.1, .long gG.2.2.2.2.2.2.1, .long gG.2.2.2.2.2.2.2])), (zcr, .inr (0, [.long qC.1, .long qC.2.1, .long qC.2.2.1, .long qC.2.2.2]))]) hD hS hA [3, 2, 4] rfl
  refine va_calll (va_runV (As := [.long dG.1]) (rest := []) ⟨hx, hb, hml, hown, hts⟩ (c_X4_born l dC dI cI cJ zru zgr zcr s.heap.size rR gG dG.1 qC _ hr1) (cwV 1 hts gX2_growYear_X4_born rfl rfl rfl (by decide +kernel) ⟨Nat.le_of_ble_eq_true rfl, Nat.le_of_ble_eq_true rfl⟩) ⟨fun a U gg mk q => by obtain ⟨q0, q1, qP, qK, qD⟩ := q; exact ⟨q0, q1, qP, va_K.moved (u := U) (U := U.calling gg mk a) (Vm.Alike.refl U.vm) qK, qD⟩, va_recv hK hPc (ci := 3) (q0 := 0) rfl rfl, fun U hU hW => ⟨rfl, by rw [hU], by rw [hU]; exact hPc, va_K.moved hW.alike hK, hDc.weaken (fun _ _ _ _ => trivial)⟩⟩ rfl rfl hl.1 rfl (lv_room (Nat.le_of_ble_eq_true rfl)) dX2_growYear_8 ⟨Nat.zero_le _, Nat.zero_le _⟩) hS (fun q _ h => hFc q h) hFc (fun r_ u_ t H locs ht hvm hw hB hz1 hk1 hS => ?_)
  obtain ⟨u2, rfl⟩ : ∃ z, z = u_ := ⟨_, rfl⟩
  obtain rfl := hw.symm
  obtain ⟨hP1, -, hD1⟩ := hB
  rw [ht] at hP1
  obtain ⟨hP, hD⟩ := va_join (wr := [(zga, .inr (1, [.ref zgr, .ref zru, .ref zag, .long dG.1, .int dG.2.1, .int dG.2.2.1, .int dG.2.2.2])), (zag, .inl (cI, 64, .inl aG))]) (w1 := [(zru, .inr (3, [.ref zgr, .ref zcr, .int rR.1, .int rR.2])), (zgr, .inr (2, [.int gG.1, .int gG.2.1, .int (bI gG.2.2.1), .long gG.2.2.2.1, .long gG.2.2.2.2.1, .long gG.2.2.2.2.2.1, .long gG.2.2.2.2.2.2.1, .long gG.2.2.2.2.2.2.2])), (zcr, .inr (0, [.long u2.1, .long u2.2.1, .long u2.2.2.1, .long u2.2.2.2]))]) hP hD [3, 2, 4] [0, 1] rfl rfl (by decide) (by decide) hk1 hFc hP1 hD1
  have hP := hP.sub (ws' := [(zga, .inr (1, [.ref zgr, .ref zru, .ref zag, .long dG.1, .int dG.2.1, .int dG.2.2.1, .int dG.2.2.2])), (zag, .inl (cI, 64, .inl aG)), (zgr, .inr (2, [.int gG.1, .int gG.2.1, .int (bI gG.2.2.1), .long gG.2.2.2.1, .long gG.2.2.2.2.1, .long gG.2.2.2.2.2.1, .long gG.2.2.2.2.2.2.1, .long gG.2.2.2.2.2.2.2])), (zru, .inr (3, [.ref zgr, .ref zcr, .int rR.1, .int rR.2])), (zcr, .inr (0, [.long u2.1, .long u2.2.1, .long u2.2.2.1, .long u2.2.2.2]))]) [0, 1, 3, 2, 4] rfl
  have hD := hD.sub (ws' := [(zga, .inr (1, [.ref zgr, .ref zru, .ref zag, .long dG.1, .int dG.2.1, .int dG.2.2.1, .int dG.2.2.2])), (zag, .inl (cI, 64, .inl aG)), (zgr, .inr (2, [.int gG.1, .int gG.2.1, .int (bI gG.2.2.1), .long gG.2.2.2.1, .long gG.2.2.2.2.1, .long gG.2.2.2.2.2.1, .long gG.2.2.2.2.2.2.1, .long gG.2.2.2.2.2.2.2])), (zru, .inr (3, [.ref zgr, .ref zcr, .int rR.1, .int rR.2])), (zcr, .inr (0, [.long u2.1, .long u2.2.1, .long u2.2.2.1, .long u2.2.2.2]))]) [0, 1, 3, 2, 4] (by decide) rfl
  clear hPc hDc hFc hP1 hD1 hk1
  refine lv_lstore_n (lv' := [(1, .long r1), (0, .ref zga)]) hx hb dX2_growYear_11 rfl hl (by decide) rfl (fun ls hl => ?_)
  refine lv_aload_n hx hb dX2_growYear_12 rfl (lv_at hl 1 rfl) ?_
  refine va_get (D := (dC, dI)) (ci := 1) (v := .ref zru) (C := RX2) (T := TX2) (N := 7) hx hb hts hinX2 hown hK hP 0 rfl rfl 1 (by decide) hw0 (fun _ h9 => h9) rfl dX2_growYear_13 ?_
  refine lv_aload_n hx hb dX2_growYear_16 rfl (lv_at hl 1 rfl) ?_
  refine va_get (D := (dC, dI)) (ci := 1) (v := .long dG.1) (C := RX2) (T := TX2) (N := 7) hx hb hts hinX2 hown hK hP 0 rfl rfl 3 (by decide) hw1 (fun _ h9 => h9) rfl dX2_growYear_17 ?_
  obtain ⟨r3, hr3, hf⟩ := obind hf
  have hPc := hP.sub (ws' := [(zru, .inr (3, [.ref zgr, .ref zcr, .int rR.1, .int rR.2])), (zgr, .inr (2, [.int gG.1, .int gG.2.1, .int (bI gG.2.2.1), .long gG.2.2.2.1, .long gG.2.2.2.2.1, .long gG.2.2.2.2.2.1, .long gG.2.2.2.2.2.2.1, .long gG.2.2.2.2.2.2.2])), (zcr, .inr (0, [.long u2.1, .long u2.2.1, .long u2.2.2.1, .long u2.2.2.2]))]) [3, 2, 4] rfl
  have hDc := hD.sub (ws' := [(zru, .inr (3, [.ref zgr, .ref zcr, .int rR.1, .int rR.2])), (zgr, .inr (2, [.int gG.1, .int gG.2.1, .int (bI gG.2.2.1), .long gG.2.2.2.1, .long gG.2.2.2.2.1, .long gG.2.2.2.2.2.1, .long gG.2.2.2.2.2.2.1, .long gG.2.2.2.2.2.2.2])), (zcr, .inr (0, [.long u2.1, .long u2.2.1, .long u2.2.2.1, .long u2.2.2.2]))]) [3, 2, 4] (by decide) rfl
  have hFc := va_free (wc := [(zru, .inr (3, [.ref zgr, .ref zcr, .int rR.1, .int rR.2])), (zgr, .inr (2, [.int gG.1, .int gG.2.1, .int (bI gG.2.2.1), .long gG.2.2.2.1, .long gG.2.2.2.2.1, .long gG.2.2.2.2.2.1, .long gG.2.2.2.2.2.2.1, .long gG.2.2.2.2.2.2.2])), (zcr, .inr (0, [.long u2.1, .long u2.2.1, .long u2.2.2.1, .long u2.2.2.2]))]) hD hS hA [3, 2, 4] rfl
  refine va_calll (va_runV (As := [.long dG.1]) (rest := []) ⟨hx, hb, hml, hown, hts⟩ (c_X4_staying l dC dI cI cJ zru zgr zcr H.size rR gG dG.1 u2 _ hr3) (cwV 1 hts gX2_growYear_X4_staying rfl rfl rfl (by decide +kernel) ⟨Nat.le_of_ble_eq_true rfl, Nat.le_of_ble_eq_true rfl⟩) ⟨fun a U gg mk q => by obtain ⟨q0, q1, qP, qK, qD⟩ := q; exact ⟨q0, q1, qP, va_K.moved (u := U) (U := U.calling gg mk a) (Vm.Alike.refl U.vm) qK, qD⟩, va_recv hK hPc (ci := 3) (q0 := 0) rfl rfl, fun U hU hW => ⟨rfl, by rw [hU], by rw [hU]; exact hPc, va_K.moved hW.alike hK, hDc.weaken (fun _ _ _ _ => trivial)⟩⟩ rfl rfl hl.1 rfl (lv_room (Nat.le_of_ble_eq_true rfl)) dX2_growYear_20 ⟨Nat.zero_le _, Nat.zero_le _⟩) hS (fun q _ h => hFc q h) hFc (fun r_ u_ t H locs ht hvm hw hB hz1 hk1 hS => ?_)
  obtain ⟨u4, rfl⟩ : ∃ z, z = u_ := ⟨_, rfl⟩
  obtain rfl := hw.symm
  obtain ⟨hP1, -, hD1⟩ := hB
  rw [ht] at hP1
  obtain ⟨hP, hD⟩ := va_join (wr := [(zga, .inr (1, [.ref zgr, .ref zru, .ref zag, .long dG.1, .int dG.2.1, .int dG.2.2.1, .int dG.2.2.2])), (zag, .inl (cI, 64, .inl aG))]) (w1 := [(zru, .inr (3, [.ref zgr, .ref zcr, .int rR.1, .int rR.2])), (zgr, .inr (2, [.int gG.1, .int gG.2.1, .int (bI gG.2.2.1), .long gG.2.2.2.1, .long gG.2.2.2.2.1, .long gG.2.2.2.2.2.1, .long gG.2.2.2.2.2.2.1, .long gG.2.2.2.2.2.2.2])), (zcr, .inr (0, [.long u4.1, .long u4.2.1, .long u4.2.2.1, .long u4.2.2.2]))]) hP hD [3, 2, 4] [0, 1] rfl rfl (by decide) (by decide) hk1 hFc hP1 hD1
  have hP := hP.sub (ws' := [(zga, .inr (1, [.ref zgr, .ref zru, .ref zag, .long dG.1, .int dG.2.1, .int dG.2.2.1, .int dG.2.2.2])), (zag, .inl (cI, 64, .inl aG)), (zgr, .inr (2, [.int gG.1, .int gG.2.1, .int (bI gG.2.2.1), .long gG.2.2.2.1, .long gG.2.2.2.2.1, .long gG.2.2.2.2.2.1, .long gG.2.2.2.2.2.2.1, .long gG.2.2.2.2.2.2.2])), (zru, .inr (3, [.ref zgr, .ref zcr, .int rR.1, .int rR.2])), (zcr, .inr (0, [.long u4.1, .long u4.2.1, .long u4.2.2.1, .long u4.2.2.2]))]) [0, 1, 3, 2, 4] rfl
  have hD := hD.sub (ws' := [(zga, .inr (1, [.ref zgr, .ref zru, .ref zag, .long dG.1, .int dG.2.1, .int dG.2.2.1, .int dG.2.2.2])), (zag, .inl (cI, 64, .inl aG)), (zgr, .inr (2, [.int gG.1, .int gG.2.1, .int (bI gG.2.2.1), .long gG.2.2.2.1, .long gG.2.2.2.2.1, .long gG.2.2.2.2.2.1, .long gG.2.2.2.2.2.2.1, .long gG.2.2.2.2.2.2.2])), (zru, .inr (3, [.ref zgr, .ref zcr, .int rR.1, .int rR.2])), (zcr, .inr (0, [.long u4.1, .long u4.2.1, .long u4.2.2.1, .long u4.2.2.2]))]) [0, 1, 3, 2, 4] (by decide) rfl
  clear hPc hDc hFc hP1 hD1 hk1
  refine lv_lstore_n (lv' := [(3, .long r3), (1, .long r1), (0, .ref zga)]) hx hb dX2_growYear_23 rfl hl (by decide) rfl (fun ls hl => ?_)
  refine lv_aload_n hx hb dX2_growYear_24 rfl (lv_at hl 2 rfl) ?_
  refine lv_dup hx hb dX2_growYear_25 rfl ?_
  refine va_get (D := (dC, dI)) (ci := 1) (v := .int dG.2.2.1) (C := RX2) (T := TX2) (N := 7) hx hb hts hinX2 hown hK hP 0 rfl rfl 5 (by decide) hw2 (fun _ h9 => h9) rfl dX2_growYear_26 ?_
  refine lv_lload_n hx hb dX2_growYear_29 rfl (lv_at hl 1 rfl) ?_
  have hPc := hP.sub (ws' := []) [] rfl
  have hDc := hD.sub (ws' := []) [] (by decide) rfl
  have hFc := va_free (wc := []) hD hS hA [] rfl
  refine va_calli (va_runS (As := [.long r1]) (rest := [.int dG.2.2.1, .ref zga]) ⟨hx, hb, hml, hown, hts⟩ (c_J13_bitCount_95d88 l dC dI cI cJ  H.size r1) (va_cwS 1 hts gX2_growYear_J13_bitCount_95d88 rfl rfl rfl (by decide +kernel) ⟨Nat.le_of_ble_eq_true rfl, Nat.le_of_ble_eq_true rfl⟩) ⟨fun a U gg mk q => by obtain ⟨q0, q1, qP, qK, qD⟩ := q; exact ⟨q0, q1, qP, va_K.moved (u := U) (U := U.calling gg mk a) (Vm.Alike.refl U.vm) qK, qD⟩, fun U hU hW => ⟨rfl, by rw [hU], by rw [hU]; exact hPc, va_K.moved hW.alike hK, hDc.weaken (fun _ _ _ _ => trivial)⟩⟩ rfl rfl hl.1 rfl (lv_room (Nat.le_of_ble_eq_true rfl)) dX2_growYear_30 ⟨Nat.zero_le _, Nat.zero_le _⟩) hS (fun q _ h => hFc q h) hFc (fun r_ u_ t H locs ht hvm hw hB hz1 hk1 hS => ?_)
  obtain rfl := hw.symm
  obtain ⟨hP1, -, hD1⟩ := hB
  rw [ht] at hP1
  obtain ⟨hP, hD⟩ := va_join (wr := [(zga, .inr (1, [.ref zgr, .ref zru, .ref zag, .long dG.1, .int dG.2.1, .int dG.2.2.1, .int dG.2.2.2])), (zag, .inl (cI, 64, .inl aG)), (zgr, .inr (2, [.int gG.1, .int gG.2.1, .int (bI gG.2.2.1), .long gG.2.2.2.1, .long gG.2.2.2.2.1, .long gG.2.2.2.2.2.1, .long gG.2.2.2.2.2.2.1, .long gG.2.2.2.2.2.2.2])), (zru, .inr (3, [.ref zgr, .ref zcr, .int rR.1, .int rR.2])), (zcr, .inr (0, [.long u4.1, .long u4.2.1, .long u4.2.2.1, .long u4.2.2.2]))]) (w1 := []) hP hD [] [0, 1, 2, 3, 4] rfl rfl (by decide) (by decide) hk1 hFc hP1 hD1
  have hP := hP.sub (ws' := [(zga, .inr (1, [.ref zgr, .ref zru, .ref zag, .long dG.1, .int dG.2.1, .int dG.2.2.1, .int dG.2.2.2])), (zag, .inl (cI, 64, .inl aG)), (zgr, .inr (2, [.int gG.1, .int gG.2.1, .int (bI gG.2.2.1), .long gG.2.2.2.1, .long gG.2.2.2.2.1, .long gG.2.2.2.2.2.1, .long gG.2.2.2.2.2.2.1, .long gG.2.2.2.2.2.2.2])), (zru, .inr (3, [.ref zgr, .ref zcr, .int rR.1, .int rR.2])), (zcr, .inr (0, [.long u4.1, .long u4.2.1, .long u4.2.2.1, .long u4.2.2.2]))]) [0, 1, 2, 3, 4] rfl
  have hD := hD.sub (ws' := [(zga, .inr (1, [.ref zgr, .ref zru, .ref zag, .long dG.1, .int dG.2.1, .int dG.2.2.1, .int dG.2.2.2])), (zag, .inl (cI, 64, .inl aG)), (zgr, .inr (2, [.int gG.1, .int gG.2.1, .int (bI gG.2.2.1), .long gG.2.2.2.1, .long gG.2.2.2.2.1, .long gG.2.2.2.2.2.1, .long gG.2.2.2.2.2.2.1, .long gG.2.2.2.2.2.2.2])), (zru, .inr (3, [.ref zgr, .ref zcr, .int rR.1, .int rR.2])), (zcr, .inr (0, [.long u4.1, .long u4.2.1, .long u4.2.2.1, .long u4.2.2.2]))]) [0, 1, 2, 3, 4] (by decide) rfl
  clear hPc hDc hFc hP1 hD1 hk1
  refine lv_iadd hx hb dX2_growYear_33 ?_
  refine va_put (D := (dC, dI)) (ci := 1) (v := .int (dG.2.2.1 + (f_J13_bitCount_95d88 r1))) (ty := .int) (C := RX2) (T := TX2) (N := 7) hx hb hts hinX2 tyX2 tyX2_ok nmX2 hown hK hP hD hS 0 rfl rfl 5 (by decide) hw2 (fun _ h9 => h9) rfl (by decide +kernel) rfl rfl (Nat.le_of_ble_eq_true rfl) dX2_growYear_34 (fun H locs hP hD hS => ?_)
  have hP : va_P (dC, dI) vwCl [(zga, .inr (1, [.ref zgr, .ref zru, .ref zag, .long dG.1, .int dG.2.1, .int (dG.2.2.1 + (f_J13_bitCount_95d88 r1)), .int dG.2.2.2])), (zag, .inl (cI, 64, .inl aG)), (zgr, .inr (2, [.int gG.1, .int gG.2.1, .int (bI gG.2.2.1), .long gG.2.2.2.1, .long gG.2.2.2.2.1, .long gG.2.2.2.2.2.1, .long gG.2.2.2.2.2.2.1, .long gG.2.2.2.2.2.2.2])), (zru, .inr (3, [.ref zgr, .ref zcr, .int rR.1, .int rR.2])), (zcr, .inr (0, [.long u4.1, .long u4.2.1, .long u4.2.2.1, .long u4.2.2.2]))] H := hP
  have hD : va_D (A_X2_growYear cI cJ zga zag zgr zru zcr dG aG gG rR qC s.heap.size) [(zga, .inr (1, [.ref zgr, .ref zru, .ref zag, .long dG.1, .int dG.2.1, .int (dG.2.2.1 + (f_J13_bitCount_95d88 r1)), .int dG.2.2.2])), (zag, .inl (cI, 64, .inl aG)), (zgr, .inr (2, [.int gG.1, .int gG.2.1, .int (bI gG.2.2.1), .long gG.2.2.2.1, .long gG.2.2.2.2.1, .long gG.2.2.2.2.2.1, .long gG.2.2.2.2.2.2.1, .long gG.2.2.2.2.2.2.2])), (zru, .inr (3, [.ref zgr, .ref zcr, .int rR.1, .int rR.2])), (zcr, .inr (0, [.long u4.1, .long u4.2.1, .long u4.2.2.1, .long u4.2.2.2]))] := hD
  refine lv_aload_n hx hb dX2_growYear_37 rfl (lv_at hl 2 rfl) ?_
  refine lv_dup hx hb dX2_growYear_38 rfl ?_
  refine va_get (D := (dC, dI)) (ci := 1) (v := .int dG.2.2.2) (C := RX2) (T := TX2) (N := 7) hx hb hts hinX2 hown hK hP 0 rfl rfl 6 (by decide) hw3 (fun _ h9 => h9) rfl dX2_growYear_39 ?_
  refine lv_aload_n hx hb dX2_growYear_42 rfl (lv_at hl 2 rfl) ?_
  refine va_get (D := (dC, dI)) (ci := 1) (v := .long dG.1) (C := RX2) (T := TX2) (N := 7) hx hb hts hinX2 hown hK hP 0 rfl rfl 3 (by decide) hw1 (fun _ h9 => h9) rfl dX2_growYear_43 ?_
  refine lv_lload_n hx hb dX2_growYear_46 rfl (lv_at hl 0 rfl) ?_
  refine lv_ldc2 (v := (-1)) hx hb hown hw4 dX2_growYear_47 ?_
  refine lv_lxor hx hb dX2_growYear_50 ?_
  refine lv_land hx hb dX2_growYear_51 ?_
  have hPc := hP.sub (ws' := []) [] rfl
  have hDc := hD.sub (ws' := []) [] (by decide) rfl
  have hFc := va_free (wc := []) hD hS hA [] rfl
  refine va_calli (va_runS (As := [.long (dG.1 &&& (r3 ^^^ (-1)))]) (rest := [.int dG.2.2.2, .ref zga]) ⟨hx, hb, hml, hown, hts⟩ (c_J13_bitCount_95d88 l dC dI cI cJ  H.size (dG.1 &&& (r3 ^^^ (-1)))) (va_cwS 1 hts gX2_growYear_J13_bitCount_95d88 rfl rfl rfl (by decide +kernel) ⟨Nat.le_of_ble_eq_true rfl, Nat.le_of_ble_eq_true rfl⟩) ⟨fun a U gg mk q => by obtain ⟨q0, q1, qP, qK, qD⟩ := q; exact ⟨q0, q1, qP, va_K.moved (u := U) (U := U.calling gg mk a) (Vm.Alike.refl U.vm) qK, qD⟩, fun U hU hW => ⟨rfl, by rw [hU], by rw [hU]; exact hPc, va_K.moved hW.alike hK, hDc.weaken (fun _ _ _ _ => trivial)⟩⟩ rfl rfl hl.1 rfl (lv_room (Nat.le_of_ble_eq_true rfl)) dX2_growYear_52 ⟨Nat.zero_le _, Nat.zero_le _⟩) hS (fun q _ h => hFc q h) hFc (fun r_ u_ t H locs ht hvm hw hB hz1 hk1 hS => ?_)
  obtain rfl := hw.symm
  obtain ⟨hP1, -, hD1⟩ := hB
  rw [ht] at hP1
  obtain ⟨hP, hD⟩ := va_join (wr := [(zga, .inr (1, [.ref zgr, .ref zru, .ref zag, .long dG.1, .int dG.2.1, .int (dG.2.2.1 + (f_J13_bitCount_95d88 r1)), .int dG.2.2.2])), (zag, .inl (cI, 64, .inl aG)), (zgr, .inr (2, [.int gG.1, .int gG.2.1, .int (bI gG.2.2.1), .long gG.2.2.2.1, .long gG.2.2.2.2.1, .long gG.2.2.2.2.2.1, .long gG.2.2.2.2.2.2.1, .long gG.2.2.2.2.2.2.2])), (zru, .inr (3, [.ref zgr, .ref zcr, .int rR.1, .int rR.2])), (zcr, .inr (0, [.long u4.1, .long u4.2.1, .long u4.2.2.1, .long u4.2.2.2]))]) (w1 := []) hP hD [] [0, 1, 2, 3, 4] rfl rfl (by decide) (by decide) hk1 hFc hP1 hD1
  have hP := hP.sub (ws' := [(zga, .inr (1, [.ref zgr, .ref zru, .ref zag, .long dG.1, .int dG.2.1, .int (dG.2.2.1 + (f_J13_bitCount_95d88 r1)), .int dG.2.2.2])), (zag, .inl (cI, 64, .inl aG)), (zgr, .inr (2, [.int gG.1, .int gG.2.1, .int (bI gG.2.2.1), .long gG.2.2.2.1, .long gG.2.2.2.2.1, .long gG.2.2.2.2.2.1, .long gG.2.2.2.2.2.2.1, .long gG.2.2.2.2.2.2.2])), (zru, .inr (3, [.ref zgr, .ref zcr, .int rR.1, .int rR.2])), (zcr, .inr (0, [.long u4.1, .long u4.2.1, .long u4.2.2.1, .long u4.2.2.2]))]) [0, 1, 2, 3, 4] rfl
  have hD := hD.sub (ws' := [(zga, .inr (1, [.ref zgr, .ref zru, .ref zag, .long dG.1, .int dG.2.1, .int (dG.2.2.1 + (f_J13_bitCount_95d88 r1)), .int dG.2.2.2])), (zag, .inl (cI, 64, .inl aG)), (zgr, .inr (2, [.int gG.1, .int gG.2.1, .int (bI gG.2.2.1), .long gG.2.2.2.1, .long gG.2.2.2.2.1, .long gG.2.2.2.2.2.1, .long gG.2.2.2.2.2.2.1, .long gG.2.2.2.2.2.2.2])), (zru, .inr (3, [.ref zgr, .ref zcr, .int rR.1, .int rR.2])), (zcr, .inr (0, [.long u4.1, .long u4.2.1, .long u4.2.2.1, .long u4.2.2.2]))]) [0, 1, 2, 3, 4] (by decide) rfl
  clear hPc hDc hFc hP1 hD1 hk1
  refine lv_iadd hx hb dX2_growYear_55 ?_
  refine va_put (D := (dC, dI)) (ci := 1) (v := .int (dG.2.2.2 + (f_J13_bitCount_95d88 (dG.1 &&& (r3 ^^^ (-1)))))) (ty := .int) (C := RX2) (T := TX2) (N := 7) hx hb hts hinX2 tyX2 tyX2_ok nmX2 hown hK hP hD hS 0 rfl rfl 6 (by decide) hw3 (fun _ h9 => h9) rfl (by decide +kernel) rfl rfl (Nat.le_of_ble_eq_true rfl) dX2_growYear_56 (fun H locs hP hD hS => ?_)
  have hP : va_P (dC, dI) vwCl [(zga, .inr (1, [.ref zgr, .ref zru, .ref zag, .long dG.1, .int dG.2.1, .int (dG.2.2.1 + (f_J13_bitCount_95d88 r1)), .int (dG.2.2.2 + (f_J13_bitCount_95d88 (dG.1 &&& (r3 ^^^ (-1)))))])), (zag, .inl (cI, 64, .inl aG)), (zgr, .inr (2, [.int gG.1, .int gG.2.1, .int (bI gG.2.2.1), .long gG.2.2.2.1, .long gG.2.2.2.2.1, .long gG.2.2.2.2.2.1, .long gG.2.2.2.2.2.2.1, .long gG.2.2.2.2.2.2.2])), (zru, .inr (3, [.ref zgr, .ref zcr, .int rR.1, .int rR.2])), (zcr, .inr (0, [.long u4.1, .long u4.2.1, .long u4.2.2.1, .long u4.2.2.2]))] H := hP
  have hD : va_D (A_X2_growYear cI cJ zga zag zgr zru zcr dG aG gG rR qC s.heap.size) [(zga, .inr (1, [.ref zgr, .ref zru, .ref zag, .long dG.1, .int dG.2.1, .int (dG.2.2.1 + (f_J13_bitCount_95d88 r1)), .int (dG.2.2.2 + (f_J13_bitCount_95d88 (dG.1 &&& (r3 ^^^ (-1)))))])), (zag, .inl (cI, 64, .inl aG)), (zgr, .inr (2, [.int gG.1, .int gG.2.1, .int (bI gG.2.2.1), .long gG.2.2.2.1, .long gG.2.2.2.2.1, .long gG.2.2.2.2.2.1, .long gG.2.2.2.2.2.2.1, .long gG.2.2.2.2.2.2.2])), (zru, .inr (3, [.ref zgr, .ref zcr, .int rR.1, .int rR.2])), (zcr, .inr (0, [.long u4.1, .long u4.2.1, .long u4.2.2.1, .long u4.2.2.2]))] := hD
  refine lv_aload_n hx hb dX2_growYear_59 rfl (lv_at hl 2 rfl) ?_
  refine lv_lload_n hx hb dX2_growYear_60 rfl (lv_at hl 0 rfl) ?_
  refine va_put (D := (dC, dI)) (ci := 1) (v := .long r3) (ty := .long) (C := RX2) (T := TX2) (N := 7) hx hb hts hinX2 tyX2 tyX2_ok nmX2 hown hK hP hD hS 0 rfl rfl 3 (by decide) hw1 (fun _ h9 => h9) rfl (by decide +kernel) rfl rfl (Nat.le_of_ble_eq_true rfl) dX2_growYear_61 (fun H locs hP hD hS => ?_)
  have hP : va_P (dC, dI) vwCl [(zga, .inr (1, [.ref zgr, .ref zru, .ref zag, .long r3, .int dG.2.1, .int (dG.2.2.1 + (f_J13_bitCount_95d88 r1)), .int (dG.2.2.2 + (f_J13_bitCount_95d88 (dG.1 &&& (r3 ^^^ (-1)))))])), (zag, .inl (cI, 64, .inl aG)), (zgr, .inr (2, [.int gG.1, .int gG.2.1, .int (bI gG.2.2.1), .long gG.2.2.2.1, .long gG.2.2.2.2.1, .long gG.2.2.2.2.2.1, .long gG.2.2.2.2.2.2.1, .long gG.2.2.2.2.2.2.2])), (zru, .inr (3, [.ref zgr, .ref zcr, .int rR.1, .int rR.2])), (zcr, .inr (0, [.long u4.1, .long u4.2.1, .long u4.2.2.1, .long u4.2.2.2]))] H := hP
  have hD : va_D (A_X2_growYear cI cJ zga zag zgr zru zcr dG aG gG rR qC s.heap.size) [(zga, .inr (1, [.ref zgr, .ref zru, .ref zag, .long r3, .int dG.2.1, .int (dG.2.2.1 + (f_J13_bitCount_95d88 r1)), .int (dG.2.2.2 + (f_J13_bitCount_95d88 (dG.1 &&& (r3 ^^^ (-1)))))])), (zag, .inl (cI, 64, .inl aG)), (zgr, .inr (2, [.int gG.1, .int gG.2.1, .int (bI gG.2.2.1), .long gG.2.2.2.1, .long gG.2.2.2.2.1, .long gG.2.2.2.2.2.1, .long gG.2.2.2.2.2.2.1, .long gG.2.2.2.2.2.2.2])), (zru, .inr (3, [.ref zgr, .ref zcr, .int rR.1, .int rR.2])), (zcr, .inr (0, [.long u4.1, .long u4.2.1, .long u4.2.2.1, .long u4.2.2.2]))] := hD
  refine lv_iconst (v := 0) hx hb dX2_growYear_64 (by decide) ?_
  refine lv_istore (lv' := [(5, .int 0), (3, .long r3), (1, .long r1), (0, .ref zga)]) hx hb dX2_growYear_65 hl (by decide) rfl (fun ls hl => ?_)
  obtain ⟨v9, hv, hf⟩ := obind hf
  have K11 : ∀ (H : Heap) (locs : List Loc) (ls : Array Slot), va_P (dC, dI) vwCl [(zga, .inr (1, [.ref zgr, .ref zru, .ref zag, .long r3, .int dG.2.1, .int (dG.2.2.1 + (f_J13_bitCount_95d88 r1)), .int (dG.2.2.2 + (f_J13_bitCount_95d88 (dG.1 &&& (r3 ^^^ (-1)))))])), (zag, .inl (cI, 64, .inl v9)), (zgr, .inr (2, [.int gG.1, .int gG.2.1, .int (bI gG.2.2.1), .long gG.2.2.2.1, .long gG.2.2.2.2.1, .long gG.2.2.2.2.2.1, .long gG.2.2.2.2.2.2.1, .long gG.2.2.2.2.2.2.2])), (zru, .inr (3, [.ref zgr, .ref zcr, .int rR.1, .int rR.2])), (zcr, .inr (0, [.long u4.1, .long u4.2.1, .long u4.2.2.1, .long u4.2.2.2]))] H → va_D (A_X2_growYear cI cJ zga zag zgr zru zcr dG aG gG rR qC s.heap.size) [(zga, .inr (1, [.ref zgr, .ref zru, .ref zag, .long r3, .int dG.2.1, .int (dG.2.2.1 + (f_J13_bitCount_95d88 r1)), .int (dG.2.2.2 + (f_J13_bitCount_95d88 (dG.1 &&& (r3 ^^^ (-1)))))])), (zag, .inl (cI, 64, .inl v9)), (zgr, .inr (2, [.int gG.1, .int gG.2.1, .int (bI gG.2.2.1), .long gG.2.2.2.1, .long gG.2.2.2.2.1, .long gG.2.2.2.2.2.1, .long gG.2.2.2.2.2.2.1, .long gG.2.2.2.2.2.2.2])), (zru, .inr (3, [.ref zgr, .ref zcr, .int rR.1, .int rR.2])), (zcr, .inr (0, [.long u4.1, .long u4.2.1, .long u4.2.2.1, .long u4.2.2.2]))] → va_S (A_X2_growYear cI cJ zga zag zgr zru zcr dG aG gG rR qC s.heap.size) s.heap H locs → lv_has ls 6 [(0, .ref zga), (1, .long r1)] → W p l e rm_X2_growYear s m args below meth c H locs 0 0 (MQ below (Q_X2_growYear dC dI cI cJ zga zag zgr zru zcr dG aG gG rR qC s.heap.size R) args s 0 0 (A_X2_growYear cI cJ zga zag zgr zru zcr dG aG gG rR qC s.heap.size)) (F0 m 94 ls []) := by
    intro H locs ls hP hD hS hl
    refine lv_aload_n hx hb dX2_growYear_94 rfl (lv_at hl 0 rfl) ?_
    refine lv_lload_n hx hb dX2_growYear_95 rfl (lv_at hl 1 rfl) ?_
    obtain ⟨r10, hr10, hf⟩ := obind hf
    have hPc := hP.sub (ws' := [(zga, .inr (1, [.ref zgr, .ref zru, .ref zag, .long r3, .int dG.2.1, .int (dG.2.2.1 + (f_J13_bitCount_95d88 r1)), .int (dG.2.2.2 + (f_J13_bitCount_95d88 (dG.1 &&& (r3 ^^^ (-1)))))])), (zag, .inl (cI, 64, .inl v9))]) [0, 1] rfl
    have hDc := hD.sub (ws' := [(zga, .inr (1, [.ref zgr, .ref zru, .ref zag, .long r3, .int dG.2.1, .int (dG.2.2.1 + (f_J13_bitCount_95d88 r1)), .int (dG.2.2.2 + (f_J13_bitCount_95d88 (dG.1 &&& (r3 ^^^ (-1)))))])), (zag, .inl (cI, 64, .inl v9))]) [0, 1] (by decide) rfl
    have hFc := va_free (wc := [(zga, .inr (1, [.ref zgr, .ref zru, .ref zag, .long r3, .int dG.2.1, .int (dG.2.2.1 + (f_J13_bitCount_95d88 r1)), .int (dG.2.2.2 + (f_J13_bitCount_95d88 (dG.1 &&& (r3 ^^^ (-1)))))])), (zag, .inl (cI, 64, .inl v9))]) hD hS hA [0, 1] rfl
    refine va_callv (va_runV (As := [.long r1]) (rest := []) ⟨hx, hb, hml, hown, hts⟩ (c_X2_putYoung l dC dI cI cJ zga zag zgr zru H.size (r3, dG.2.1, (dG.2.2.1 + (f_J13_bitCount_95d88 r1)), (dG.2.2.2 + (f_J13_bitCount_95d88 (dG.1 &&& (r3 ^^^ (-1)))))) v9 r1 _ hr10) (cwV 1 hts gX2_growYear_X2_putYoung rfl rfl rfl (by decide +kernel) ⟨Nat.le_of_ble_eq_true rfl, Nat.le_of_ble_eq_true rfl⟩) ⟨fun a U gg mk q => by obtain ⟨q0, q1, qP, qK, qD⟩ := q; exact ⟨q0, q1, qP, va_K.moved (u := U) (U := U.calling gg mk a) (Vm.Alike.refl U.vm) qK, qD⟩, va_recv hK hPc (ci := 1) (q0 := 0) rfl rfl, fun U hU hW => ⟨rfl, by rw [hU], by rw [hU]; exact hPc, va_K.moved hW.alike hK, hDc.weaken (fun _ _ _ _ => trivial)⟩⟩ rfl rfl hl.1 rfl (lv_room (Nat.le_of_ble_eq_true rfl)) dX2_growYear_96 ⟨Nat.zero_le _, Nat.zero_le _⟩) hS (fun q _ h => hFc q h) hFc (fun u_ t H locs ht hvm hw hB hz1 hk1 hS => ?_)
    obtain ⟨hP1, -, hD1⟩ := hB
    rw [ht] at hP1
    obtain ⟨hP, hD⟩ := va_join (wr := [(zgr, .inr (2, [.int gG.1, .int gG.2.1, .int (bI gG.2.2.1), .long gG.2.2.2.1, .long gG.2.2.2.2.1, .long gG.2.2.2.2.2.1, .long gG.2.2.2.2.2.2.1, .long gG.2.2.2.2.2.2.2])), (zru, .inr (3, [.ref zgr, .ref zcr, .int rR.1, .int rR.2])), (zcr, .inr (0, [.long u4.1, .long u4.2.1, .long u4.2.2.1, .long u4.2.2.2]))]) (w1 := [(zga, .inr (1, [.ref zgr, .ref zru, .ref zag, .long r10.1.1, .int r10.1.2.1, .int r10.1.2.2.1, .int r10.1.2.2.2])), (zag, .inl (cI, 64, .inl r10.2))]) hP hD [0, 1] [2, 3, 4] rfl rfl (by decide) (by decide) hk1 hFc hP1 hD1
    have hP := hP.sub (ws' := [(zga, .inr (1, [.ref zgr, .ref zru, .ref zag, .long r10.1.1, .int r10.1.2.1, .int r10.1.2.2.1, .int r10.1.2.2.2])), (zag, .inl (cI, 64, .inl r10.2)), (zgr, .inr (2, [.int gG.1, .int gG.2.1, .int (bI gG.2.2.1), .long gG.2.2.2.1, .long gG.2.2.2.2.1, .long gG.2.2.2.2.2.1, .long gG.2.2.2.2.2.2.1, .long gG.2.2.2.2.2.2.2])), (zru, .inr (3, [.ref zgr, .ref zcr, .int rR.1, .int rR.2])), (zcr, .inr (0, [.long u4.1, .long u4.2.1, .long u4.2.2.1, .long u4.2.2.2]))]) [3, 4, 0, 1, 2] rfl
    have hD := hD.sub (ws' := [(zga, .inr (1, [.ref zgr, .ref zru, .ref zag, .long r10.1.1, .int r10.1.2.1, .int r10.1.2.2.1, .int r10.1.2.2.2])), (zag, .inl (cI, 64, .inl r10.2)), (zgr, .inr (2, [.int gG.1, .int gG.2.1, .int (bI gG.2.2.1), .long gG.2.2.2.1, .long gG.2.2.2.2.1, .long gG.2.2.2.2.2.1, .long gG.2.2.2.2.2.2.1, .long gG.2.2.2.2.2.2.2])), (zru, .inr (3, [.ref zgr, .ref zcr, .int rR.1, .int rR.2])), (zcr, .inr (0, [.long u4.1, .long u4.2.1, .long u4.2.2.1, .long u4.2.2.2]))]) [3, 4, 0, 1, 2] (by decide) rfl
    clear hPc hDc hFc hP1 hD1 hk1
    refine lv_aload_n hx hb dX2_growYear_99 rfl (lv_at hl 0 rfl) ?_
    refine lv_dup hx hb dX2_growYear_100 rfl ?_
    refine va_get (D := (dC, dI)) (ci := 1) (v := .int r10.1.2.1) (C := RX2) (T := TX2) (N := 7) hx hb hts hinX2 hown hK hP 0 rfl rfl 4 (by decide) hw6 (fun _ h9 => h9) rfl dX2_growYear_101 ?_
    refine lv_iconst (v := 1) hx hb dX2_growYear_104 (by decide) ?_
    refine lv_iadd hx hb dX2_growYear_105 ?_
    refine va_put (D := (dC, dI)) (ci := 1) (v := .int (r10.1.2.1 + 1)) (ty := .int) (C := RX2) (T := TX2) (N := 7) hx hb hts hinX2 tyX2 tyX2_ok nmX2 hown hK hP hD hS 0 rfl rfl 4 (by decide) hw6 (fun _ h9 => h9) rfl (by decide +kernel) rfl rfl (Nat.le_of_ble_eq_true rfl) dX2_growYear_106 (fun H locs hP hD hS => ?_)
    have hP : va_P (dC, dI) vwCl [(zga, .inr (1, [.ref zgr, .ref zru, .ref zag, .long r10.1.1, .int (r10.1.2.1 + 1), .int r10.1.2.2.1, .int r10.1.2.2.2])), (zag, .inl (cI, 64, .inl r10.2)), (zgr, .inr (2, [.int gG.1, .int gG.2.1, .int (bI gG.2.2.1), .long gG.2.2.2.1, .long gG.2.2.2.2.1, .long gG.2.2.2.2.2.1, .long gG.2.2.2.2.2.2.1, .long gG.2.2.2.2.2.2.2])), (zru, .inr (3, [.ref zgr, .ref zcr, .int rR.1, .int rR.2])), (zcr, .inr (0, [.long u4.1, .long u4.2.1, .long u4.2.2.1, .long u4.2.2.2]))] H := hP
    have hD : va_D (A_X2_growYear cI cJ zga zag zgr zru zcr dG aG gG rR qC s.heap.size) [(zga, .inr (1, [.ref zgr, .ref zru, .ref zag, .long r10.1.1, .int (r10.1.2.1 + 1), .int r10.1.2.2.1, .int r10.1.2.2.2])), (zag, .inl (cI, 64, .inl r10.2)), (zgr, .inr (2, [.int gG.1, .int gG.2.1, .int (bI gG.2.2.1), .long gG.2.2.2.1, .long gG.2.2.2.2.1, .long gG.2.2.2.2.2.1, .long gG.2.2.2.2.2.2.1, .long gG.2.2.2.2.2.2.2])), (zru, .inr (3, [.ref zgr, .ref zcr, .int rR.1, .int rR.2])), (zcr, .inr (0, [.long u4.1, .long u4.2.1, .long u4.2.2.1, .long u4.2.2.2]))] := hD
    obtain rfl := Option.some.inj hf
    exact W.vret hx hb hr (fun t ht hW => ⟨⟨(u4), rfl, trivial, by rw [ht]; exact hP, va_K.moved hW.alike hK, hD⟩, hS.F ht⟩) hS.2.2 dX2_growYear_109
  have lp12 : ∀ (nf : Nat) (y7 : Int32) (y8 : Nat → Int32) (H : Heap) (locs : List Loc) (ls : Array Slot), lp_X2_growYear_67 nf y7 y8 = some v9 → va_P (dC, dI) vwCl [(zga, .inr (1, [.ref zgr, .ref zru, .ref zag, .long r3, .int dG.2.1, .int (dG.2.2.1 + (f_J13_bitCount_95d88 r1)), .int (dG.2.2.2 + (f_J13_bitCount_95d88 (dG.1 &&& (r3 ^^^ (-1)))))])), (zag, .inl (cI, 64, .inl y8)), (zgr, .inr (2, [.int gG.1, .int gG.2.1, .int (bI gG.2.2.1), .long gG.2.2.2.1, .long gG.2.2.2.2.1, .long gG.2.2.2.2.2.1, .long gG.2.2.2.2.2.2.1, .long gG.2.2.2.2.2.2.2])), (zru, .inr (3, [.ref zgr, .ref zcr, .int rR.1, .int rR.2])), (zcr, .inr (0, [.long u4.1, .long u4.2.1, .long u4.2.2.1, .long u4.2.2.2]))] H → va_D (A_X2_growYear cI cJ zga zag zgr zru zcr dG aG gG rR qC s.heap.size) [(zga, .inr (1, [.ref zgr, .ref zru, .ref zag, .long r3, .int dG.2.1, .int (dG.2.2.1 + (f_J13_bitCount_95d88 r1)), .int (dG.2.2.2 + (f_J13_bitCount_95d88 (dG.1 &&& (r3 ^^^ (-1)))))])), (zag, .inl (cI, 64, .inl y8)), (zgr, .inr (2, [.int gG.1, .int gG.2.1, .int (bI gG.2.2.1), .long gG.2.2.2.1, .long gG.2.2.2.2.1, .long gG.2.2.2.2.2.1, .long gG.2.2.2.2.2.2.1, .long gG.2.2.2.2.2.2.2])), (zru, .inr (3, [.ref zgr, .ref zcr, .int rR.1, .int rR.2])), (zcr, .inr (0, [.long u4.1, .long u4.2.1, .long u4.2.2.1, .long u4.2.2.2]))] → va_S (A_X2_growYear cI cJ zga zag zgr zru zcr dG aG gG rR qC s.heap.size) s.heap H locs → lv_has ls 6 [(0, .ref zga), (1, .long r1), (5, .int y7)] → W p l e rm_X2_growYear s m args below meth c H locs 0 0 (MQ below (Q_X2_growYear dC dI cI cJ zga zag zgr zru zcr dG aG gG rR qC s.heap.size R) args s 0 0 (A_X2_growYear cI cJ zga zag zgr zru zcr dG aG gG rR qC s.heap.size)) (F0 m 67 ls []) := by
    intro nf
    induction nf with
    | zero => intro y7 y8 H locs ls h9; exact nomatch h9
    | succ nf ih13 =>
      intro y7 y8 H locs ls hf hP hD hS hl
      rw [lp_X2_growYear_67.eq_2] at hf
      refine lv_iload hx hb dX2_growYear_67 (lv_at hl 2 rfl) ?_
      refine lv_aload_n hx hb dX2_growYear_69 rfl (lv_at hl 0 rfl) ?_
      refine va_get (D := (dC, dI)) (ci := 1) (v := .ref zag) (C := RX2) (T := TX2) (N := 7) hx hb hts hinX2 hown hK hP 0 rfl rfl 2 (by decide) hw5 (fun _ h9 => h9) rfl dX2_growYear_70 ?_
      refine va_alen (v := 64) hx hb hK hP 1 0 rfl rfl rfl dX2_growYear_73 ?_
      refine lv_icmp_ge (tgt := 94) hx hb dX2_growYear_74 (by decide) (fun hc => ?_) (fun hc => ?_)
      · rw [if_pos hc] at hf
        obtain rfl := Option.some.inj hf
        exact K11 _ _ _ hP hD hS (lv_sub hl [0, 1] rfl)
      · rw [if_neg hc] at hf
        refine lv_aload_n hx hb dX2_growYear_77 rfl (lv_at hl 0 rfl) ?_
        refine va_get (D := (dC, dI)) (ci := 1) (v := .ref zag) (C := RX2) (T := TX2) (N := 7) hx hb hts hinX2 hown hK hP 0 rfl rfl 2 (by decide) hw5 (fun _ h9 => h9) rfl dX2_growYear_78 ?_
        refine lv_iload hx hb dX2_growYear_81 (lv_at hl 2 rfl) ?_
        refine lv_dup2_11 hx hb dX2_growYear_83 rfl rfl ?_
        have hg0 : ¬ (y7 < 0 ∨ 64 ≤ y7.toNatClampNeg) := fun hq => by rw [if_pos hq] at hf; exact nomatch hf
        rw [if_neg hg0] at hf
        have hg : vp_in y7 64 := hg0
        refine va_iald hx hb hK hP 1 0 rfl rfl hg dX2_growYear_84 ?_
        refine lv_iconst (v := 1) hx hb dX2_growYear_85 (by decide) ?_
        refine lv_iadd hx hb dX2_growYear_86 ?_
        have hg0 : ¬ (y7 < 0 ∨ 64 ≤ y7.toNatClampNeg) := fun hq => by rw [if_pos hq] at hf; exact nomatch hf
        rw [if_neg hg0] at hf
        have hg : vp_in y7 64 := hg0
        refine va_iast hx hb hK hP hD hS 1 0 rfl rfl hg dX2_growYear_87 (fun H locs hP hD hS => ?_)
        have hP : va_P (dC, dI) vwCl [(zga, .inr (1, [.ref zgr, .ref zru, .ref zag, .long r3, .int dG.2.1, .int (dG.2.2.1 + (f_J13_bitCount_95d88 r1)), .int (dG.2.2.2 + (f_J13_bitCount_95d88 (dG.1 &&& (r3 ^^^ (-1)))))])), (zag, .inl (cI, 64, .inl (upd y8 y7.toNatClampNeg ((y8 y7.toNatClampNeg) + 1)))), (zgr, .inr (2, [.int gG.1, .int gG.2.1, .int (bI gG.2.2.1), .long gG.2.2.2.1, .long gG.2.2.2.2.1, .long gG.2.2.2.2.2.1, .long gG.2.2.2.2.2.2.1, .long gG.2.2.2.2.2.2.2])), (zru, .inr (3, [.ref zgr, .ref zcr, .int rR.1, .int rR.2])), (zcr, .inr (0, [.long u4.1, .long u4.2.1, .long u4.2.2.1, .long u4.2.2.2]))] H := hP
        have hD : va_D (A_X2_growYear cI cJ zga zag zgr zru zcr dG aG gG rR qC s.heap.size) [(zga, .inr (1, [.ref zgr, .ref zru, .ref zag, .long r3, .int dG.2.1, .int (dG.2.2.1 + (f_J13_bitCount_95d88 r1)), .int (dG.2.2.2 + (f_J13_bitCount_95d88 (dG.1 &&& (r3 ^^^ (-1)))))])), (zag, .inl (cI, 64, .inl (upd y8 y7.toNatClampNeg ((y8 y7.toNatClampNeg) + 1)))), (zgr, .inr (2, [.int gG.1, .int gG.2.1, .int (bI gG.2.2.1), .long gG.2.2.2.1, .long gG.2.2.2.2.1, .long gG.2.2.2.2.2.1, .long gG.2.2.2.2.2.2.1, .long gG.2.2.2.2.2.2.2])), (zru, .inr (3, [.ref zgr, .ref zcr, .int rR.1, .int rR.2])), (zcr, .inr (0, [.long u4.1, .long u4.2.1, .long u4.2.2.1, .long u4.2.2.2]))] := hD
        refine lv_iinc (v := (y7 + 1)) (lv' := [(5, .int (y7 + 1)), (0, .ref zga), (1, .long r1)]) hx hb dX2_growYear_88 hl (k := 2) rfl rfl (by decide) rfl (fun ls hl => ?_)
        refine lv_goto (tgt := 67) hx hb dX2_growYear_91 (by decide) ?_
        exact ih13 _ _ _ _ _ hf hP hD hS (lv_sub hl [1, 2, 0] rfl)
  exact lp12 100 _ _ _ _ _ hv hP hD hS (lv_sub hl [3, 2, 0] rfl)
/-! HedgeGliders$Garden.growYears(I)V -/
def lp_X2_growYears_2 (gG : GrS) (rR : RuS) (yr : Int32) : Nat → Int32 → (Nat → Int32) → Int64 → Int32 → Int32 → Int32 → Option ((Nat → Int32) × Int64 × Int32 × Int32 × Int32)
  | 0, _, _, _, _, _, _ => none
  | nf + 1, y12, y13, y14, y15, y16, y17 => if yr ≤ y12 then (some (y13, y14, y15, y16, y17)) else (Option.bind (f_X2_growYear (y14, y15, y16, y17) y13 gG rR) fun r19 => lp_X2_growYears_2 gG rR yr nf (y12 + 1) r19.2 r19.1.1 r19.1.2.1 r19.1.2.2.1 r19.1.2.2.2)
def f_X2_growYears (dG : GaS) (aG : Nat → Int32) (gG : GrS) (rR : RuS) (yr : Int32) : Option (GaS × (Nat → Int32)) := Option.bind (lp_X2_growYears_2 gG rR yr 100 0 aG dG.1 dG.2.1 dG.2.2.1 dG.2.2.2) fun v21 => some (v21.2, v21.1)
abbrev rm_X2_growYears : Room := ({ frames := 5, cells := 0, slots := 0, locals := 113 } : Room)
abbrev A_X2_growYears (cI cJ : ClassId) (zga zag zgr zru zcr : Nat) (dG : GaS) (aG : Nat → Int32) (gG : GrS) (rR : RuS) (yr : Int32) (qC : CrS) (sz : Nat) : Nat → Prop := va_A [(zga, .inr (1, [.ref zgr, .ref zru, .ref zag, .long dG.1, .int dG.2.1, .int dG.2.2.1, .int dG.2.2.2])), (zag, .inl (cI, 64, .inl aG)), (zgr, .inr (2, [.int gG.1, .int gG.2.1, .int (bI gG.2.2.1), .long gG.2.2.2.1, .long gG.2.2.2.2.1, .long gG.2.2.2.2.2.1, .long gG.2.2.2.2.2.2.1, .long gG.2.2.2.2.2.2.2])), (zru, .inr (3, [.ref zgr, .ref zcr, .int rR.1, .int rR.2])), (zcr, .inr (0, [.long qC.1, .long qC.2.1, .long qC.2.2.1, .long qC.2.2.2]))] sz
abbrev Q_X2_growYears (dC : Nat → ClassId) (dI : Nat → Nat → Nat) (cI cJ : ClassId) (zga zag zgr zru zcr : Nat) (dG : GaS) (aG : Nat → Int32) (gG : GrS) (rR : RuS) (yr : Int32) (qC : CrS) (sz : Nat) (R : GaS × (Nat → Int32)) : Array Value → State → Outcome → State → Prop := va_Qv (fun _ : CrS => True) (fun u_ t => va_P (dC, dI) vwCl [(zga, .inr (1, [.ref zgr, .ref zru, .ref zag, .long R.1.1, .int R.1.2.1, .int R.1.2.2.1, .int R.1.2.2.2])), (zag, .inl (cI, 64, .inl R.2)), (zgr, .inr (2, [.int gG.1, .int gG.2.1, .int (bI gG.2.2.1), .long gG.2.2.2.1, .long gG.2.2.2.2.1, .long gG.2.2.2.2.2.1, .long gG.2.2.2.2.2.2.1, .long gG.2.2.2.2.2.2.2])), (zru, .inr (3, [.ref zgr, .ref zcr, .int rR.1, .int rR.2])), (zcr, .inr (0, [.long u_.1, .long u_.2.1, .long u_.2.2.1, .long u_.2.2.2]))] t.heap ∧ va_K (dC, dI) vwCl [(cI, .int), (cJ, .long)] t ∧ va_D (A_X2_growYears cI cJ zga zag zgr zru zcr dG aG gG rR yr qC sz) [(zga, .inr (1, [.ref zgr, .ref zru, .ref zag, .long R.1.1, .int R.1.2.1, .int R.1.2.2.1, .int R.1.2.2.2])), (zag, .inl (cI, 64, .inl R.2)), (zgr, .inr (2, [.int gG.1, .int gG.2.1, .int (bI gG.2.2.1), .long gG.2.2.2.1, .long gG.2.2.2.2.1, .long gG.2.2.2.2.2.1, .long gG.2.2.2.2.2.2.1, .long gG.2.2.2.2.2.2.2])), (zru, .inr (3, [.ref zgr, .ref zcr, .int rR.1, .int rR.2])), (zcr, .inr (0, [.long u_.1, .long u_.2.1, .long u_.2.2.1, .long u_.2.2.2]))]) (A_X2_growYears cI cJ zga zag zgr zru zcr dG aG gG rR yr qC sz)
set_option maxHeartbeats 4000000 in
set_option maxRecDepth 100000 in
theorem c_X2_growYears (l : Launch) (dC : Nat → ClassId) (dI : Nat → Nat → Nat) (cI cJ : ClassId) (zga zag zgr zru zcr : Nat) (sz : Nat) (dG : GaS) (aG : Nat → Int32) (gG : GrS) (rR : RuS) (yr : Int32) (qC : CrS) (R : GaS × (Nat → Int32)) (hR : f_X2_growYears dG aG gG rR yr = some R) : Met l yX2_growYears wsX2_growYears rm_X2_growYears (va_Pc [.ref zga, .int yr] (fun U => U.heap.size = sz ∧ va_P (dC, dI) vwCl [(zga, .inr (1, [.ref zgr, .ref zru, .ref zag, .long dG.1, .int dG.2.1, .int dG.2.2.1, .int dG.2.2.2])), (zag, .inl (cI, 64, .inl aG)), (zgr, .inr (2, [.int gG.1, .int gG.2.1, .int (bI gG.2.2.1), .long gG.2.2.2.1, .long gG.2.2.2.2.1, .long gG.2.2.2.2.2.1, .long gG.2.2.2.2.2.2.1, .long gG.2.2.2.2.2.2.2])), (zru, .inr (3, [.ref zgr, .ref zcr, .int rR.1, .int rR.2])), (zcr, .inr (0, [.long qC.1, .long qC.2.1, .long qC.2.2.1, .long qC.2.2.2]))] U.heap ∧ va_K (dC, dI) vwCl [(cI, .int), (cJ, .long)] U ∧ va_D (fun _ => True) [(zga, .inr (1, [.ref zgr, .ref zru, .ref zag, .long dG.1, .int dG.2.1, .int dG.2.2.1, .int dG.2.2.2])), (zag, .inl (cI, 64, .inl aG)), (zgr, .inr (2, [.int gG.1, .int gG.2.1, .int (bI gG.2.2.1), .long gG.2.2.2.1, .long gG.2.2.2.2.1, .long gG.2.2.2.2.2.1, .long gG.2.2.2.2.2.2.1, .long gG.2.2.2.2.2.2.2])), (zru, .inr (3, [.ref zgr, .ref zcr, .int rR.1, .int rR.2])), (zcr, .inr (0, [.long qC.1, .long qC.2.1, .long qC.2.2.1, .long qC.2.2.2]))])) (Q_X2_growYears dC dI cI cJ zga zag zgr zru zcr dG aG gG rR yr qC sz R) 0 0 (A_X2_growYears cI cJ zga zag zgr zru zcr dG aG gG rR yr qC sz) := by
  have hf := hR
  refine Met.ofW (cc := cX2_growYears) (maxL := 3) (ret := none) (by decide) rfl ?_
  intro p e s m args below meth c s₁ B hml hv
  obtain ⟨hargs, hsz, hP, hK, hD0⟩ := hv
  have hx := B.exec
  have hb := B.bytes
  have hr := B.returns
  have hts := atoms_spec (ws := wsX2_growYears) B.pre
  have hown : s.vm.findClass RX2 = some m.cls := findClass_of_methodNamed B.named
  have hlocks := B.notSynchronized
  subst hsz
  have hD : va_D (A_X2_growYears cI cJ zga zag zgr zru zcr dG aG gG rR yr qC s.heap.size) [(zga, .inr (1, [.ref zgr, .ref zru, .ref zag, .long dG.1, .int dG.2.1, .int dG.2.2.1, .int dG.2.2.2])), (zag, .inl (cI, 64, .inl aG)), (zgr, .inr (2, [.int gG.1, .int gG.2.1, .int (bI gG.2.2.1), .long gG.2.2.2.1, .long gG.2.2.2.2.1, .long gG.2.2.2.2.2.1, .long gG.2.2.2.2.2.2.1, .long gG.2.2.2.2.2.2.2])), (zru, .inr (3, [.ref zgr, .ref zcr, .int rR.1, .int rR.2])), (zcr, .inr (0, [.long qC.1, .long qC.2.1, .long qC.2.2.1, .long qC.2.2.2]))] := hD0.self (sz := s.heap.size)
  have hA : ∀ q : Nat, s.heap.size ≤ q → (A_X2_growYears cI cJ zga zag zgr zru zcr dG aG gG rR yr qC s.heap.size) q := fun q h => Or.inr h
  have hS : va_S (A_X2_growYears cI cJ zga zag zgr zru zcr dG aG gG rR yr qC s.heap.size) s.heap s.heap [] := va_S.rf
  have hl := lv_entry ([.ref zga, .int yr]) (n := 3) (Nat.le_of_ble_eq_true rfl)
  have he0 : entryFrame m args 3 = entryFrame m ([.ref zga, .int yr] : List Value).toArray 3 := by rw [hargs]
  rw [he0, lg_entry_eq]
  generalize (lg_sl ([.ref zga, .int yr]) ++ List.replicate (3 - (lg_sl ([.ref zga, .int yr])).length) Slot.unset).toArray = ls at hl ⊢
  have hl : lv_has ls 3 [(0, .ref zga), (1, .int yr)] := hl
  rw [f_X2_growYears] at hf
  refine lv_iconst (v := 0) hx hb dX2_growYears_0 (by decide) ?_
  refine lv_istore_n (lv' := [(2, .int 0), (0, .ref zga), (1, .int yr)]) hx hb dX2_growYears_1 rfl hl (by decide) rfl (fun ls hl => ?_)
  obtain ⟨v21, hv, hf⟩ := obind hf
  have K23 : ∀ (u22 : CrS) (H : Heap) (locs : List Loc) (ls : Array Slot), va_P (dC, dI) vwCl [(zga, .inr (1, [.ref zgr, .ref zru, .ref zag, .long v21.2.1, .int v21.2.2.1, .int v21.2.2.2.1, .int v21.2.2.2.2])), (zag, .inl (cI, 64, .inl v21.1)), (zgr, .inr (2, [.int gG.1, .int gG.2.1, .int (bI gG.2.2.1), .long gG.2.2.2.1, .long gG.2.2.2.2.1, .long gG.2.2.2.2.2.1, .long gG.2.2.2.2.2.2.1, .long gG.2.2.2.2.2.2.2])), (zru, .inr (3, [.ref zgr, .ref zcr, .int rR.1, .int rR.2])), (zcr, .inr (0, [.long u22.1, .long u22.2.1, .long u22.2.2.1, .long u22.2.2.2]))] H → va_D (A_X2_growYears cI cJ zga zag zgr zru zcr dG aG gG rR yr qC s.heap.size) [(zga, .inr (1, [.ref zgr, .ref zru, .ref zag, .long v21.2.1, .int v21.2.2.1, .int v21.2.2.2.1, .int v21.2.2.2.2])), (zag, .inl (cI, 64, .inl v21.1)), (zgr, .inr (2, [.int gG.1, .int gG.2.1, .int (bI gG.2.2.1), .long gG.2.2.2.1, .long gG.2.2.2.2.1, .long gG.2.2.2.2.2.1, .long gG.2.2.2.2.2.2.1, .long gG.2.2.2.2.2.2.2])), (zru, .inr (3, [.ref zgr, .ref zcr, .int rR.1, .int rR.2])), (zcr, .inr (0, [.long u22.1, .long u22.2.1, .long u22.2.2.1, .long u22.2.2.2]))] → va_S (A_X2_growYears cI cJ zga zag zgr zru zcr dG aG gG rR yr qC s.heap.size) s.heap H locs → lv_has ls 3 [] → W p l e rm_X2_growYears s m args below meth c H locs 0 0 (MQ below (Q_X2_growYears dC dI cI cJ zga zag zgr zru zcr dG aG gG rR yr qC s.heap.size R) args s 0 0 (A_X2_growYears cI cJ zga zag zgr zru zcr dG aG gG rR yr qC s.heap.size)) (F0 m 17 ls []) := by
    intro u22 H locs ls hP hD hS hl
    obtain rfl := Option.some.inj hf
    exact W.vret hx hb hr (fun t ht hW => ⟨⟨(u22), rfl, trivial, by rw [ht]; exact hP, va_K.moved hW.alike hK, hD⟩, hS.F ht⟩) hS.2.2 dX2_growYears_17
  have lp24 : ∀ (nf : Nat) (y12 : Int32) (y13 : Nat → Int32) (y14 : Int64) (y15 : Int32) (y16 : Int32) (y17 : Int32) (u18 : CrS) (H : Heap) (locs : List Loc) (ls : Array Slot), lp_X2_growYears_2 gG rR yr nf y12 y13 y14 y15 y16 y17 = some v21 → va_P (dC, dI) vwCl [(zga, .inr (1, [.ref zgr, .ref zru, .ref zag, .long y14, .int y15, .int y16, .int y17])), (zag, .inl (cI, 64, .inl y13)), (zgr, .inr (2, [.int gG.1, .int gG.2.1, .int (bI gG.2.2.1), .long gG.2.2.2.1, .long gG.2.2.2.2.1, .long gG.2.2.2.2.2.1, .long gG.2.2.2.2.2.2.1, .long gG.2.2.2.2.2.2.2])), (zru, .inr (3, [.ref zgr, .ref zcr, .int rR.1, .int rR.2])), (zcr, .inr (0, [.long u18.1, .long u18.2.1, .long u18.2.2.1, .long u18.2.2.2]))] H → va_D (A_X2_growYears cI cJ zga zag zgr zru zcr dG aG gG rR yr qC s.heap.size) [(zga, .inr (1, [.ref zgr, .ref zru, .ref zag, .long y14, .int y15, .int y16, .int y17])), (zag, .inl (cI, 64, .inl y13)), (zgr, .inr (2, [.int gG.1, .int gG.2.1, .int (bI gG.2.2.1), .long gG.2.2.2.1, .long gG.2.2.2.2.1, .long gG.2.2.2.2.2.1, .long gG.2.2.2.2.2.2.1, .long gG.2.2.2.2.2.2.2])), (zru, .inr (3, [.ref zgr, .ref zcr, .int rR.1, .int rR.2])), (zcr, .inr (0, [.long u18.1, .long u18.2.1, .long u18.2.2.1, .long u18.2.2.2]))] → va_S (A_X2_growYears cI cJ zga zag zgr zru zcr dG aG gG rR yr qC s.heap.size) s.heap H locs → lv_has ls 3 [(0, .ref zga), (1, .int yr), (2, .int y12)] → W p l e rm_X2_growYears s m args below meth c H locs 0 0 (MQ below (Q_X2_growYears dC dI cI cJ zga zag zgr zru zcr dG aG gG rR yr qC s.heap.size R) args s 0 0 (A_X2_growYears cI cJ zga zag zgr zru zcr dG aG gG rR yr qC s.heap.size)) (F0 m 2 ls []) := by
    intro nf
    induction nf with
    | zero => intro y12 y13 y14 y15 y16 y17 u18 H locs ls h9; exact nomatch h9
    | succ nf ih25 =>
      intro y12 y13 y14 y15 y16 y17 u18 H locs ls hf hP hD hS hl
      rw [lp_X2_growYears_2.eq_2] at hf
      refine lv_iload_n hx hb dX2_growYears_2 rfl (lv_at hl 2 rfl) ?_
      refine lv_iload_n hx hb dX2_growYears_3 rfl (lv_at hl 1 rfl) ?_
      refine lv_icmp_ge (tgt := 17) hx hb dX2_growYears_4 (by decide) (fun hc => ?_) (fun hc => ?_)
      · rw [if_pos hc] at hf
        obtain rfl := Option.some.inj hf
        exact K23 u18 _ _ _ hP hD hS (lv_sub hl [] rfl)
      · rw [if_neg hc] at hf
        refine lv_aload_n hx hb dX2_growYears_7 rfl (lv_at hl 0 rfl) ?_
        obtain ⟨r19, hr19, hf⟩ := obind hf
        have hPc := hP.sub (ws' := [(zga, .inr (1, [.ref zgr, .ref zru, .ref zag, .long y14, .int y15, .int y16, .int y17])), (zag, .inl (cI, 64, .inl y13)), (zgr, .inr (2, [.int gG.1, .int gG.2.1, .int (bI gG.2.2.1), .long gG.2.2.2.1, .long gG.2.2.2.2.1, .long gG.2.2.2.2.2.1, .long gG.2.2.2.2.2.2.1, .long gG.2.2.2.2.2.2.2])), (zru, .inr (3, [.ref zgr, .ref zcr, .int rR.1, .int rR.2])), (zcr, .inr (0, [.long u18.1, .long u18.2.1, .long u18.2.2.1, .long u18.2.2.2]))]) [0, 1, 2, 3, 4] rfl
        have hDc := hD.sub (ws' := [(zga, .inr (1, [.ref zgr, .ref zru, .ref zag, .long y14, .int y15, .int y16, .int y17])), (zag, .inl (cI, 64, .inl y13)), (zgr, .inr (2, [.int gG.1, .int gG.2.1, .int (bI gG.2.2.1), .long gG.2.2.2.1, .long gG.2.2.2.2.1, .long gG.2.2.2.2.2.1, .long gG.2.2.2.2.2.2.1, .long gG.2.2.2.2.2.2.2])), (zru, .inr (3, [.ref zgr, .ref zcr, .int rR.1, .int rR.2])), (zcr, .inr (0, [.long u18.1, .long u18.2.1, .long u18.2.2.1, .long u18.2.2.2]))]) [0, 1, 2, 3, 4] (by decide) rfl
        have hFc := va_free (wc := [(zga, .inr (1, [.ref zgr, .ref zru, .ref zag, .long y14, .int y15, .int y16, .int y17])), (zag, .inl (cI, 64, .inl y13)), (zgr, .inr (2, [.int gG.1, .int gG.2.1, .int (bI gG.2.2.1), .long gG.2.2.2.1, .long gG.2.2.2.2.1, .long gG.2.2.2.2.2.1, .long gG.2.2.2.2.2.2.1, .long gG.2.2.2.2.2.2.2])), (zru, .inr (3, [.ref zgr, .ref zcr, .int rR.1, .int rR.2])), (zcr, .inr (0, [.long u18.1, .long u18.2.1, .long u18.2.2.1, .long u18.2.2.2]))]) hD hS hA [0, 1, 2, 3, 4] rfl
        refine va_callv (va_runV (As := []) (rest := []) ⟨hx, hb, hml, hown, hts⟩ (c_X2_growYear l dC dI cI cJ zga zag zgr zru zcr H.size (y14, y15, y16, y17) y13 gG rR u18 _ hr19) (cwV 0 hts gX2_growYears_X2_growYear rfl rfl rfl (by decide +kernel) ⟨Nat.le_of_ble_eq_true rfl, Nat.le_of_ble_eq_true rfl⟩) ⟨fun a U gg mk q => by obtain ⟨q0, q1, qP, qK, qD⟩ := q; exact ⟨q0, q1, qP, va_K.moved (u := U) (U := U.calling gg mk a) (Vm.Alike.refl U.vm) qK, qD⟩, va_recv hK hPc (ci := 1) (q0 := 0) rfl rfl, fun U hU hW => ⟨rfl, by rw [hU], by rw [hU]; exact hPc, va_K.moved hW.alike hK, hDc.weaken (fun _ _ _ _ => trivial)⟩⟩ rfl rfl hl.1 rfl (lv_room (Nat.le_of_ble_eq_true rfl)) dX2_growYears_8 ⟨Nat.zero_le _, Nat.zero_le _⟩) hS (fun q _ h => hFc q h) hFc (fun u_ t H locs ht hvm hw hB hz1 hk1 hS => ?_)
        obtain ⟨u20, rfl⟩ : ∃ z, z = u_ := ⟨_, rfl⟩
        obtain ⟨hP1, -, hD1⟩ := hB
        rw [ht] at hP1
        obtain ⟨hP, hD⟩ := va_join (wr := []) (w1 := [(zga, .inr (1, [.ref zgr, .ref zru, .ref zag, .long r19.1.1, .int r19.1.2.1, .int r19.1.2.2.1, .int r19.1.2.2.2])), (zag, .inl (cI, 64, .inl r19.2)), (zgr, .inr (2, [.int gG.1, .int gG.2.1, .int (bI gG.2.2.1), .long gG.2.2.2.1, .long gG.2.2.2.2.1, .long gG.2.2.2.2.2.1, .long gG.2.2.2.2.2.2.1, .long gG.2.2.2.2.2.2.2])), (zru, .inr (3, [.ref zgr, .ref zcr, .int rR.1, .int rR.2])), (zcr, .inr (0, [.long u20.1, .long u20.2.1, .long u20.2.2.1, .long u20.2.2.2]))]) hP hD [0, 1, 2, 3, 4] [] rfl rfl (by decide) (by decide) hk1 hFc hP1 hD1
        have hP := hP.sub (ws' := [(zga, .inr (1, [.ref zgr, .ref zru, .ref zag, .long r19.1.1, .int r19.1.2.1, .int r19.1.2.2.1, .int r19.1.2.2.2])), (zag, .inl (cI, 64, .inl r19.2)), (zgr, .inr (2, [.int gG.1, .int gG.2.1, .int (bI gG.2.2.1), .long gG.2.2.2.1, .long gG.2.2.2.2.1, .long gG.2.2.2.2.2.1, .long gG.2.2.2.2.2.2.1, .long gG.2.2.2.2.2.2.2])), (zru, .inr (3, [.ref zgr, .ref zcr, .int rR.1, .int rR.2])), (zcr, .inr (0, [.long u20.1, .long u20.2.1, .long u20.2.2.1, .long u20.2.2.2]))]) [0, 1, 2, 3, 4] rfl
        have hD := hD.sub (ws' := [(zga, .inr (1, [.ref zgr, .ref zru, .ref zag, .long r19.1.1, .int r19.1.2.1, .int r19.1.2.2.1, .int r19.1.2.2.2])), (zag, .inl (cI, 64, .inl r19.2)), (zgr, .inr (2, [.int gG.1, .int gG.2.1, .int (bI gG.2.2.1), .long gG.2.2.2.1, .long gG.2.2.2.2.1, .long gG.2.2.2.2.2.1, .long gG.2.2.2.2.2.2.1, .long gG.2.2.2.2.2.2.2])), (zru, .inr (3, [.ref zgr, .ref zcr, .int rR.1, .int rR.2])), (zcr, .inr (0, [.long u20.1, .long u20.2.1, .long u20.2.2.1, .long u20.2.2.2]))]) [0, 1, 2, 3, 4] (by decide) rfl
        clear hPc hDc hFc hP1 hD1 hk1
        refine lv_iinc (v := (y12 + 1)) (lv' := [(2, .int (y12 + 1)), (0, .ref zga), (1, .int yr)]) hx hb dX2_growYears_11 hl (k := 2) rfl rfl (by decide) rfl (fun ls hl => ?_)
        refine lv_goto (tgt := 2) hx hb dX2_growYears_14 (by decide) ?_
        exact ih25 _ _ _ _ _ _ u20 _ _ _ hf hP hD hS (lv_sub hl [1, 2, 0] rfl)
  exact lp24 100 _ _ _ _ _ _ qC _ _ _ hv hP hD hS (lv_sub hl [1, 2, 0] rfl)
/-! HedgeGliders$Garden.age(II)I -/
def f_X2_age (dG : GaS) (aG : Nat → Int32) (cx : Int32) (cy : Int32) : Option (Int32) := if ((8 * cy) + cx) < 0 then (some (-1)) else (if 64 ≤ ((8 * cy) + cx) then (some (-1)) else (if (((8 * cy) + cx) : Int32) < 0 ∨ 64 ≤ (((8 * cy) + cx) : Int32).toNatClampNeg then none else some (aG (((8 * cy) + cx) : Int32).toNatClampNeg)))
abbrev rm_X2_age : Room := ({ frames := 0, cells := 0, slots := 0, locals := 0 } : Room)
abbrev A_X2_age (cI cJ : ClassId) (zga zag zgr zru : Nat) (dG : GaS) (aG : Nat → Int32) (cx : Int32) (cy : Int32) (sz : Nat) : Nat → Prop := va_A [(zga, .inr (1, [.ref zgr, .ref zru, .ref zag, .long dG.1, .int dG.2.1, .int dG.2.2.1, .int dG.2.2.2])), (zag, .inl (cI, 64, .inl aG))] sz
abbrev Q_X2_age (dC : Nat → ClassId) (dI : Nat → Nat → Nat) (cI cJ : ClassId) (zga zag zgr zru : Nat) (dG : GaS) (aG : Nat → Int32) (cx : Int32) (cy : Int32) (sz : Nat) (R : Int32) : Array Value → State → Outcome → State → Prop := va_Qi (fun (r : Int32) (_ : Unit) => r = R) (fun u_ t => va_P (dC, dI) vwCl [(zga, .inr (1, [.ref zgr, .ref zru, .ref zag, .long dG.1, .int dG.2.1, .int dG.2.2.1, .int dG.2.2.2])), (zag, .inl (cI, 64, .inl aG))] t.heap ∧ va_K (dC, dI) vwCl [(cI, .int), (cJ, .long)] t ∧ va_D (A_X2_age cI cJ zga zag zgr zru dG aG cx cy sz) [(zga, .inr (1, [.ref zgr, .ref zru, .ref zag, .long dG.1, .int dG.2.1, .int dG.2.2.1, .int dG.2.2.2])), (zag, .inl (cI, 64, .inl aG))]) (A_X2_age cI cJ zga zag zgr zru dG aG cx cy sz)
set_option maxHeartbeats 4000000 in
set_option maxRecDepth 100000 in
theorem c_X2_age (l : Launch) (dC : Nat → ClassId) (dI : Nat → Nat → Nat) (cI cJ : ClassId) (zga zag zgr zru : Nat) (sz : Nat) (dG : GaS) (aG : Nat → Int32) (cx : Int32) (cy : Int32) (R : Int32) (hR : f_X2_age dG aG cx cy = some R) : Met l yX2_age wsX2_age rm_X2_age (va_Pc [.ref zga, .int cx, .int cy] (fun U => U.heap.size = sz ∧ va_P (dC, dI) vwCl [(zga, .inr (1, [.ref zgr, .ref zru, .ref zag, .long dG.1, .int dG.2.1, .int dG.2.2.1, .int dG.2.2.2])), (zag, .inl (cI, 64, .inl aG))] U.heap ∧ va_K (dC, dI) vwCl [(cI, .int), (cJ, .long)] U ∧ va_D (fun _ => True) [(zga, .inr (1, [.ref zgr, .ref zru, .ref zag, .long dG.1, .int dG.2.1, .int dG.2.2.1, .int dG.2.2.2])), (zag, .inl (cI, 64, .inl aG))])) (Q_X2_age dC dI cI cJ zga zag zgr zru dG aG cx cy sz R) 0 0 (A_X2_age cI cJ zga zag zgr zru dG aG cx cy sz) := by
  have hf := hR
  refine Met.ofW (cc := cX2_age) (maxL := 4) (ret := (some .int)) (by decide) rfl ?_
  intro p e s m args below meth c s₁ B hml hv
  obtain ⟨hargs, hsz, hP, hK, hD0⟩ := hv
  have hx := B.exec
  have hb := B.bytes
  have hr := B.returns
  have hts := atoms_spec (ws := wsX2_age) B.pre
  have hown : s.vm.findClass RX2 = some m.cls := findClass_of_methodNamed B.named
  have hlocks := B.notSynchronized
  subst hsz
  have hD : va_D (A_X2_age cI cJ zga zag zgr zru dG aG cx cy s.heap.size) [(zga, .inr (1, [.ref zgr, .ref zru, .ref zag, .long dG.1, .int dG.2.1, .int dG.2.2.1, .int dG.2.2.2])), (zag, .inl (cI, 64, .inl aG))] := hD0.self (sz := s.heap.size)
  have hA : ∀ q : Nat, s.heap.size ≤ q → (A_X2_age cI cJ zga zag zgr zru dG aG cx cy s.heap.size) q := fun q h => Or.inr h
  have hS : va_S (A_X2_age cI cJ zga zag zgr zru dG aG cx cy s.heap.size) s.heap s.heap [] := va_S.rf
  have hinX2 : ∀ w ∈ wsX20, w ∈ wsX2_age := by decide +kernel
  have hw0 := hts (.fieldLink RX2 9 "HedgeGliders$Garden" "ages" "[I") (by decide +kernel)
  have hl := lv_entry ([.ref zga, .int cx, .int cy]) (n := 4) (Nat.le_of_ble_eq_true rfl)
  have he0 : entryFrame m args 4 = entryFrame m ([.ref zga, .int cx, .int cy] : List Value).toArray 4 := by rw [hargs]
  rw [he0, lg_entry_eq]
  generalize (lg_sl ([.ref zga, .int cx, .int cy]) ++ List.replicate (4 - (lg_sl ([.ref zga, .int cx, .int cy])).length) Slot.unset).toArray = ls at hl ⊢
  have hl : lv_has ls 4 [(0, .ref zga), (1, .int cx), (2, .int cy)] := hl
  rw [f_X2_age] at hf
  refine lv_bipush (v := 8) hx hb dX2_age_0 (by decide) ?_
  refine lv_iload_n hx hb dX2_age_2 rfl (lv_at hl 2 rfl) ?_
  refine lv_imul hx hb dX2_age_3 ?_
  refine lv_iload_n hx hb dX2_age_4 rfl (lv_at hl 1 rfl) ?_
  refine lv_iadd hx hb dX2_age_5 ?_
  refine lv_istore_n (lv' := [(3, .int ((8 * cy) + cx)), (0, .ref zga), (1, .int cx), (2, .int cy)]) hx hb dX2_age_6 rfl hl (by decide) rfl (fun ls hl => ?_)
  refine lv_iload_n hx hb dX2_age_7 rfl (lv_at hl 0 rfl) ?_
  refine lv_if_lt (tgt := 29) hx hb dX2_age_8 (by decide) (fun hc => ?_) (fun hc => ?_)
  · rw [if_pos hc] at hf
    refine lv_iconst (v := (-1)) hx hb dX2_age_29 (by decide) ?_
    obtain rfl := Option.some.inj hf
    exact W.iret (v := (-1)) hx hb hr (fun t ht hW => ⟨⟨(-1), (), rfl, rfl, by rw [ht]; exact hP, va_K.moved hW.alike hK, hD⟩, hS.F ht⟩) hS.2.2 dX2_age_30
  · rw [if_neg hc] at hf
    refine lv_iload_n hx hb dX2_age_11 rfl (lv_at hl 0 rfl) ?_
    refine lv_aload_n hx hb dX2_age_12 rfl (lv_at hl 1 rfl) ?_
    refine va_get (D := (dC, dI)) (ci := 1) (v := .ref zag) (C := RX2) (T := TX2) (N := 7) hx hb hts hinX2 hown hK hP 0 rfl rfl 2 (by decide) hw0 (fun _ h9 => h9) rfl dX2_age_13 ?_
    refine va_alen (v := 64) hx hb hK hP 1 0 rfl rfl rfl dX2_age_16 ?_
    refine lv_icmp_ge (tgt := 29) hx hb dX2_age_17 (by decide) (fun hc => ?_) (fun hc => ?_)
    · rw [if_pos hc] at hf
      refine lv_iconst (v := (-1)) hx hb dX2_age_29 (by decide) ?_
      obtain rfl := Option.some.inj hf
      exact W.iret (v := (-1)) hx hb hr (fun t ht hW => ⟨⟨(-1), (), rfl, rfl, by rw [ht]; exact hP, va_K.moved hW.alike hK, hD⟩, hS.F ht⟩) hS.2.2 dX2_age_30
    · rw [if_neg hc] at hf
      refine lv_aload_n hx hb dX2_age_20 rfl (lv_at hl 1 rfl) ?_
      refine va_get (D := (dC, dI)) (ci := 1) (v := .ref zag) (C := RX2) (T := TX2) (N := 7) hx hb hts hinX2 hown hK hP 0 rfl rfl 2 (by decide) hw0 (fun _ h9 => h9) rfl dX2_age_21 ?_
      refine lv_iload_n hx hb dX2_age_24 rfl (lv_at hl 0 rfl) ?_
      have hg0 : ¬ ((((8 * cy) + cx) : Int32) < 0 ∨ 64 ≤ (((8 * cy) + cx) : Int32).toNatClampNeg) := fun hq => by rw [if_pos hq] at hf; exact nomatch hf
      rw [if_neg hg0] at hf
      have hg : vp_in (((8 * cy) + cx) : Int32) 64 := hg0
      refine va_iald hx hb hK hP 1 0 rfl rfl hg dX2_age_25 ?_
      refine lv_goto (tgt := 30) hx hb dX2_age_26 (by decide) ?_
      obtain rfl := Option.some.inj hf
      exact W.iret (v := (aG (((8 * cy) + cx) : Int32).toNatClampNeg)) hx hb hr (fun t ht hW => ⟨⟨(aG (((8 * cy) + cx) : Int32).toNatClampNeg), (), rfl, rfl, by rw [ht]; exact hP, va_K.moved hW.alike hK, hD⟩, hS.F ht⟩) hS.2.2 dX2_age_30
/-! HedgeGliders$Garden.ageOfAll()I -/
def lp_X2_ageOfAll_4 (dG : GaS) (aG : Nat → Int32) : Nat → Int32 → Int32 → Option (Int32)
  | 0, _, _ => none
  | nf + 1, y5, y6 => if 64 ≤ y6 then (some y5) else (Option.bind (if ((jushr dG.1 y6) &&& 1) = 0 then (some y5) else (if y6 < 0 ∨ 64 ≤ y6.toNatClampNeg then none else some (y5 + (aG y6.toNatClampNeg))) : Option (Int32)) fun v7 => lp_X2_ageOfAll_4 dG aG nf v7 (y6 + 1))
def f_X2_ageOfAll (dG : GaS) (aG : Nat → Int32) : Option (Int32) := Option.bind (lp_X2_ageOfAll_4 dG aG 100 0 0) fun v8 => some v8
abbrev rm_X2_ageOfAll : Room := ({ frames := 0, cells := 0, slots := 0, locals := 0 } : Room)
abbrev A_X2_ageOfAll (cI cJ : ClassId) (zga zag zgr zru : Nat) (dG : GaS) (aG : Nat → Int32) (sz : Nat) : Nat → Prop := va_A [(zga, .inr (1, [.ref zgr, .ref zru, .ref zag, .long dG.1, .int dG.2.1, .int dG.2.2.1, .int dG.2.2.2])), (zag, .inl (cI, 64, .inl aG))] sz
abbrev Q_X2_ageOfAll (dC : Nat → ClassId) (dI : Nat → Nat → Nat) (cI cJ : ClassId) (zga zag zgr zru : Nat) (dG : GaS) (aG : Nat → Int32) (sz : Nat) (R : Int32) : Array Value → State → Outcome → State → Prop := va_Qi (fun (r : Int32) (_ : Unit) => r = R) (fun u_ t => va_P (dC, dI) vwCl [(zga, .inr (1, [.ref zgr, .ref zru, .ref zag, .long dG.1, .int dG.2.1, .int dG.2.2.1, .int dG.2.2.2])), (zag, .inl (cI, 64, .inl aG))] t.heap ∧ va_K (dC, dI) vwCl [(cI, .int), (cJ, .long)] t ∧ va_D (A_X2_ageOfAll cI cJ zga zag zgr zru dG aG sz) [(zga, .inr (1, [.ref zgr, .ref zru, .ref zag, .long dG.1, .int dG.2.1, .int dG.2.2.1, .int dG.2.2.2])), (zag, .inl (cI, 64, .inl aG))]) (A_X2_ageOfAll cI cJ zga zag zgr zru dG aG sz)
set_option maxHeartbeats 4000000 in
set_option maxRecDepth 100000 in
theorem c_X2_ageOfAll (l : Launch) (dC : Nat → ClassId) (dI : Nat → Nat → Nat) (cI cJ : ClassId) (zga zag zgr zru : Nat) (sz : Nat) (dG : GaS) (aG : Nat → Int32) (R : Int32) (hR : f_X2_ageOfAll dG aG = some R) : Met l yX2_ageOfAll wsX2_ageOfAll rm_X2_ageOfAll (va_Pc [.ref zga] (fun U => U.heap.size = sz ∧ va_P (dC, dI) vwCl [(zga, .inr (1, [.ref zgr, .ref zru, .ref zag, .long dG.1, .int dG.2.1, .int dG.2.2.1, .int dG.2.2.2])), (zag, .inl (cI, 64, .inl aG))] U.heap ∧ va_K (dC, dI) vwCl [(cI, .int), (cJ, .long)] U ∧ va_D (fun _ => True) [(zga, .inr (1, [.ref zgr, .ref zru, .ref zag, .long dG.1, .int dG.2.1, .int dG.2.2.1, .int dG.2.2.2])), (zag, .inl (cI, 64, .inl aG))])) (Q_X2_ageOfAll dC dI cI cJ zga zag zgr zru dG aG sz R) 0 0 (A_X2_ageOfAll cI cJ zga zag zgr zru dG aG sz) := by
  have hf := hR
  refine Met.ofW (cc := cX2_ageOfAll) (maxL := 3) (ret := (some .int)) (by decide) rfl ?_
  intro p e s m args below meth c s₁ B hml hv
  obtain ⟨hargs, hsz, hP, hK, hD0⟩ := hv
  have hx := B.exec
  have hb := B.bytes
  have hr := B.returns
  have hts := atoms_spec (ws := wsX2_ageOfAll) B.pre
  have hown : s.vm.findClass RX2 = some m.cls := findClass_of_methodNamed B.named
  have hlocks := B.notSynchronized
  subst hsz
  have hD : va_D (A_X2_ageOfAll cI cJ zga zag zgr zru dG aG s.heap.size) [(zga, .inr (1, [.ref zgr, .ref zru, .ref zag, .long dG.1, .int dG.2.1, .int dG.2.2.1, .int dG.2.2.2])), (zag, .inl (cI, 64, .inl aG))] := hD0.self (sz := s.heap.size)
  have hA : ∀ q : Nat, s.heap.size ≤ q → (A_X2_ageOfAll cI cJ zga zag zgr zru dG aG s.heap.size) q := fun q h => Or.inr h
  have hS : va_S (A_X2_ageOfAll cI cJ zga zag zgr zru dG aG s.heap.size) s.heap s.heap [] := va_S.rf
  have hinX2 : ∀ w ∈ wsX20, w ∈ wsX2_ageOfAll := by decide +kernel
  have hw0 := hts (.fieldLink RX2 9 "HedgeGliders$Garden" "ages" "[I") (by decide +kernel)
  have hw1 := hts (.fieldLink RX2 23 "HedgeGliders$Garden" "hedges" "J") (by decide +kernel)
  have hl := lv_entry ([.ref zga]) (n := 3) (Nat.le_of_ble_eq_true rfl)
  have he0 : entryFrame m args 3 = entryFrame m ([.ref zga] : List Value).toArray 3 := by rw [hargs]
  rw [he0, lg_entry_eq]
  generalize (lg_sl ([.ref zga]) ++ List.replicate (3 - (lg_sl ([.ref zga])).length) Slot.unset).toArray = ls at hl ⊢
  have hl : lv_has ls 3 [(0, .ref zga)] := hl
  rw [f_X2_ageOfAll] at hf
  refine lv_iconst (v := 0) hx hb dX2_ageOfAll_0 (by decide) ?_
  refine lv_istore_n (lv' := [(1, .int 0), (0, .ref zga)]) hx hb dX2_ageOfAll_1 rfl hl (by decide) rfl (fun ls hl => ?_)
  refine lv_iconst (v := 0) hx hb dX2_ageOfAll_2 (by decide) ?_
  refine lv_istore_n (lv' := [(2, .int 0), (1, .int 0), (0, .ref zga)]) hx hb dX2_ageOfAll_3 rfl hl (by decide) rfl (fun ls hl => ?_)
  obtain ⟨v8, hv, hf⟩ := obind hf
  have K9 : ∀ (H : Heap) (locs : List Loc) (ls : Array Slot), va_P (dC, dI) vwCl [(zga, .inr (1, [.ref zgr, .ref zru, .ref zag, .long dG.1, .int dG.2.1, .int dG.2.2.1, .int dG.2.2.2])), (zag, .inl (cI, 64, .inl aG))] H → va_D (A_X2_ageOfAll cI cJ zga zag zgr zru dG aG s.heap.size) [(zga, .inr (1, [.ref zgr, .ref zru, .ref zag, .long dG.1, .int dG.2.1, .int dG.2.2.1, .int dG.2.2.2])), (zag, .inl (cI, 64, .inl aG))] → va_S (A_X2_ageOfAll cI cJ zga zag zgr zru dG aG s.heap.size) s.heap H locs → lv_has ls 3 [(1, .int v8)] → W p l e rm_X2_ageOfAll s m args below meth c H locs 0 0 (MQ below (Q_X2_ageOfAll dC dI cI cJ zga zag zgr zru dG aG s.heap.size R) args s 0 0 (A_X2_ageOfAll cI cJ zga zag zgr zru dG aG s.heap.size)) (F0 m 41 ls []) := by
    intro H locs ls hP hD hS hl
    refine lv_iload_n hx hb dX2_ageOfAll_41 rfl (lv_at hl 0 rfl) ?_
    obtain rfl := Option.some.inj hf
    exact W.iret (v := v8) hx hb hr (fun t ht hW => ⟨⟨v8, (), rfl, rfl, by rw [ht]; exact hP, va_K.moved hW.alike hK, hD⟩, hS.F ht⟩) hS.2.2 dX2_ageOfAll_42
  have lp10 : ∀ (nf : Nat) (y5 : Int32) (y6 : Int32) (H : Heap) (locs : List Loc) (ls : Array Slot), lp_X2_ageOfAll_4 dG aG nf y5 y6 = some v8 → va_P (dC, dI) vwCl [(zga, .inr (1, [.ref zgr, .ref zru, .ref zag, .long dG.1, .int dG.2.1, .int dG.2.2.1, .int dG.2.2.2])), (zag, .inl (cI, 64, .inl aG))] H → va_D (A_X2_ageOfAll cI cJ zga zag zgr zru dG aG s.heap.size) [(zga, .inr (1, [.ref zgr, .ref zru, .ref zag, .long dG.1, .int dG.2.1, .int dG.2.2.1, .int dG.2.2.2])), (zag, .inl (cI, 64, .inl aG))] → va_S (A_X2_ageOfAll cI cJ zga zag zgr zru dG aG s.heap.size) s.heap H locs → lv_has ls 3 [(0, .ref zga), (1, .int y5), (2, .int y6)] → W p l e rm_X2_ageOfAll s m args below meth c H locs 0 0 (MQ below (Q_X2_ageOfAll dC dI cI cJ zga zag zgr zru dG aG s.heap.size R) args s 0 0 (A_X2_ageOfAll cI cJ zga zag zgr zru dG aG s.heap.size)) (F0 m 4 ls []) := by
    intro nf
    induction nf with
    | zero => intro y5 y6 H locs ls h9; exact nomatch h9
    | succ nf ih11 =>
      intro y5 y6 H locs ls hf hP hD hS hl
      rw [lp_X2_ageOfAll_4.eq_2] at hf
      refine lv_iload_n hx hb dX2_ageOfAll_4 rfl (lv_at hl 2 rfl) ?_
      refine lv_aload_n hx hb dX2_ageOfAll_5 rfl (lv_at hl 0 rfl) ?_
      refine va_get (D := (dC, dI)) (ci := 1) (v := .ref zag) (C := RX2) (T := TX2) (N := 7) hx hb hts hinX2 hown hK hP 0 rfl rfl 2 (by decide) hw0 (fun _ h9 => h9) rfl dX2_ageOfAll_6 ?_
      refine va_alen (v := 64) hx hb hK hP 1 0 rfl rfl rfl dX2_ageOfAll_9 ?_
      refine lv_icmp_ge (tgt := 41) hx hb dX2_ageOfAll_10 (by decide) (fun hc => ?_) (fun hc => ?_)
      · rw [if_pos hc] at hf
        obtain rfl := Option.some.inj hf
        exact K9 _ _ _ hP hD hS (lv_sub hl [1] rfl)
      · rw [if_neg hc] at hf
        refine lv_aload_n hx hb dX2_ageOfAll_13 rfl (lv_at hl 0 rfl) ?_
        refine va_get (D := (dC, dI)) (ci := 1) (v := .long dG.1) (C := RX2) (T := TX2) (N := 7) hx hb hts hinX2 hown hK hP 0 rfl rfl 3 (by decide) hw1 (fun _ h9 => h9) rfl dX2_ageOfAll_14 ?_
        refine lv_iload_n hx hb dX2_ageOfAll_17 rfl (lv_at hl 2 rfl) ?_
        refine lv_lushr (v := (jushr dG.1 y6)) hx hb dX2_ageOfAll_18 rfl ?_
        refine lv_lconst (v := 1) hx hb dX2_ageOfAll_19 (by decide) ?_
        refine lv_land hx hb dX2_ageOfAll_20 ?_
        refine lv_lconst (v := 0) hx hb dX2_ageOfAll_21 (by decide) ?_
        refine W.lcmp hx hb dX2_ageOfAll_22 ?_
        obtain ⟨v7, hv, hf⟩ := obind hf
        have K12 : ∀ (H : Heap) (locs : List Loc) (ls : Array Slot), va_P (dC, dI) vwCl [(zga, .inr (1, [.ref zgr, .ref zru, .ref zag, .long dG.1, .int dG.2.1, .int dG.2.2.1, .int dG.2.2.2])), (zag, .inl (cI, 64, .inl aG))] H → va_D (A_X2_ageOfAll cI cJ zga zag zgr zru dG aG s.heap.size) [(zga, .inr (1, [.ref zgr, .ref zru, .ref zag, .long dG.1, .int dG.2.1, .int dG.2.2.1, .int dG.2.2.2])), (zag, .inl (cI, 64, .inl aG))] → va_S (A_X2_ageOfAll cI cJ zga zag zgr zru dG aG s.heap.size) s.heap H locs → lv_has ls 3 [(0, .ref zga), (1, .int v7), (2, .int y6)] → W p l e rm_X2_ageOfAll s m args below meth c H locs 0 0 (MQ below (Q_X2_ageOfAll dC dI cI cJ zga zag zgr zru dG aG s.heap.size R) args s 0 0 (A_X2_ageOfAll cI cJ zga zag zgr zru dG aG s.heap.size)) (F0 m 35 ls []) := by
          intro H locs ls hP hD hS hl
          refine lv_iinc (v := (y6 + 1)) (lv' := [(2, .int (y6 + 1)), (0, .ref zga), (1, .int v7)]) hx hb dX2_ageOfAll_35 hl (k := 2) rfl rfl (by decide) rfl (fun ls hl => ?_)
          refine lv_goto (tgt := 4) hx hb dX2_ageOfAll_38 (by decide) ?_
          exact ih11 _ _ _ _ _ hf hP hD hS (lv_sub hl [1, 2, 0] rfl)
        clear hf; have hf := hv; clear hv
        refine lv_if_eq (tgt := 35) hx hb dX2_ageOfAll_23 (by decide) (fun hc => ?_) (fun hc => ?_)
        · have hc := lgz.mp hc
          rw [if_pos hc] at hf
          obtain rfl := Option.some.inj hf
          exact K12 _ _ _ hP hD hS (lv_sub hl [0, 1, 2] rfl)
        · have hc := fun h9 => hc (lgz.mpr h9)
          rw [if_neg hc] at hf
          refine lv_iload_n hx hb dX2_ageOfAll_26 rfl (lv_at hl 1 rfl) ?_
          refine lv_aload_n hx hb dX2_ageOfAll_27 rfl (lv_at hl 0 rfl) ?_
          refine va_get (D := (dC, dI)) (ci := 1) (v := .ref zag) (C := RX2) (T := TX2) (N := 7) hx hb hts hinX2 hown hK hP 0 rfl rfl 2 (by decide) hw0 (fun _ h9 => h9) rfl dX2_ageOfAll_28 ?_
          refine lv_iload_n hx hb dX2_ageOfAll_31 rfl (lv_at hl 2 rfl) ?_
          have hg0 : ¬ (y6 < 0 ∨ 64 ≤ y6.toNatClampNeg) := fun hq => by rw [if_pos hq] at hf; exact nomatch hf
          rw [if_neg hg0] at hf
          have hg : vp_in y6 64 := hg0
          refine va_iald hx hb hK hP 1 0 rfl rfl hg dX2_ageOfAll_32 ?_
          refine lv_iadd hx hb dX2_ageOfAll_33 ?_
          refine lv_istore_n (lv' := [(1, .int (y5 + (aG y6.toNatClampNeg))), (0, .ref zga), (2, .int y6)]) hx hb dX2_ageOfAll_34 rfl hl (by decide) rfl (fun ls hl => ?_)
          obtain rfl := Option.some.inj hf
          exact K12 _ _ _ hP hD hS (lv_sub hl [1, 0, 2] rfl)
  exact lp10 100 _ _ _ _ _ hv hP hD hS (lv_sub hl [2, 1, 0] rfl)
/-! HedgeGliders$Garden.oldest()I -/
def lp_X2_oldest_4 (dG : GaS) (aG : Nat → Int32) : Nat → Int32 → Int32 → Option (Int32)
  | 0, _, _ => none
  | nf + 1, y5, y6 => if 64 ≤ y6 then (some y5) else (Option.bind (if ((jushr dG.1 y6) &&& 1) = 0 then (some y5) else (if y6 < 0 ∨ 64 ≤ y6.toNatClampNeg then none else if (aG y6.toNatClampNeg) ≤ y5 then (some y5) else (if y6 < 0 ∨ 64 ≤ y6.toNatClampNeg then none else some (aG y6.toNatClampNeg))) : Option (Int32)) fun v7 => lp_X2_oldest_4 dG aG nf v7 (y6 + 1))
def f_X2_oldest (dG : GaS) (aG : Nat → Int32) : Option (Int32) := Option.bind (lp_X2_oldest_4 dG aG 100 (-1) 0) fun v8 => some v8
abbrev rm_X2_oldest : Room := ({ frames := 0, cells := 0, slots := 0, locals := 0 } : Room)
abbrev A_X2_oldest (cI cJ : ClassId) (zga zag zgr zru : Nat) (dG : GaS) (aG : Nat → Int32) (sz : Nat) : Nat → Prop := va_A [(zga, .inr (1, [.ref zgr, .ref zru, .ref zag, .long dG.1, .int dG.2.1, .int dG.2.2.1, .int dG.2.2.2])), (zag, .inl (cI, 64, .inl aG))] sz
abbrev Q_X2_oldest (dC : Nat → ClassId) (dI : Nat → Nat → Nat) (cI cJ : ClassId) (zga zag zgr zru : Nat) (dG : GaS) (aG : Nat → Int32) (sz : Nat) (R : Int32) : Array Value → State → Outcome → State → Prop := va_Qi (fun (r : Int32) (_ : Unit) => r = R) (fun u_ t => va_P (dC, dI) vwCl [(zga, .inr (1, [.ref zgr, .ref zru, .ref zag, .long dG.1, .int dG.2.1, .int dG.2.2.1, .int dG.2.2.2])), (zag, .inl (cI, 64, .inl aG))] t.heap ∧ va_K (dC, dI) vwCl [(cI, .int), (cJ, .long)] t ∧ va_D (A_X2_oldest cI cJ zga zag zgr zru dG aG sz) [(zga, .inr (1, [.ref zgr, .ref zru, .ref zag, .long dG.1, .int dG.2.1, .int dG.2.2.1, .int dG.2.2.2])), (zag, .inl (cI, 64, .inl aG))]) (A_X2_oldest cI cJ zga zag zgr zru dG aG sz)
set_option maxHeartbeats 4000000 in
set_option maxRecDepth 100000 in
theorem c_X2_oldest (l : Launch) (dC : Nat → ClassId) (dI : Nat → Nat → Nat) (cI cJ : ClassId) (zga zag zgr zru : Nat) (sz : Nat) (dG : GaS) (aG : Nat → Int32) (R : Int32) (hR : f_X2_oldest dG aG = some R) : Met l yX2_oldest wsX2_oldest rm_X2_oldest (va_Pc [.ref zga] (fun U => U.heap.size = sz ∧ va_P (dC, dI) vwCl [(zga, .inr (1, [.ref zgr, .ref zru, .ref zag, .long dG.1, .int dG.2.1, .int dG.2.2.1, .int dG.2.2.2])), (zag, .inl (cI, 64, .inl aG))] U.heap ∧ va_K (dC, dI) vwCl [(cI, .int), (cJ, .long)] U ∧ va_D (fun _ => True) [(zga, .inr (1, [.ref zgr, .ref zru, .ref zag, .long dG.1, .int dG.2.1, .int dG.2.2.1, .int dG.2.2.2])), (zag, .inl (cI, 64, .inl aG))])) (Q_X2_oldest dC dI cI cJ zga zag zgr zru dG aG sz R) 0 0 (A_X2_oldest cI cJ zga zag zgr zru dG aG sz) := by
  have hf := hR
  refine Met.ofW (cc := cX2_oldest) (maxL := 3) (ret := (some .int)) (by decide) rfl ?_
  intro p e s m args below meth c s₁ B hml hv
  obtain ⟨hargs, hsz, hP, hK, hD0⟩ := hv
  have hx := B.exec
  have hb := B.bytes
  have hr := B.returns
  have hts := atoms_spec (ws := wsX2_oldest) B.pre
  have hown : s.vm.findClass RX2 = some m.cls := findClass_of_methodNamed B.named
  have hlocks := B.notSynchronized
  subst hsz
  have hD : va_D (A_X2_oldest cI cJ zga zag zgr zru dG aG s.heap.size) [(zga, .inr (1, [.ref zgr, .ref zru, .ref zag, .long dG.1, .int dG.2.1, .int dG.2.2.1, .int dG.2.2.2])), (zag, .inl (cI, 64, .inl aG))] := hD0.self (sz := s.heap.size)
  have hA : ∀ q : Nat, s.heap.size ≤ q → (A_X2_oldest cI cJ zga zag zgr zru dG aG s.heap.size) q := fun q h => Or.inr h
  have hS : va_S (A_X2_oldest cI cJ zga zag zgr zru dG aG s.heap.size) s.heap s.heap [] := va_S.rf
  have hinX2 : ∀ w ∈ wsX20, w ∈ wsX2_oldest := by decide +kernel
  have hw0 := hts (.fieldLink RX2 9 "HedgeGliders$Garden" "ages" "[I") (by decide +kernel)
  have hw1 := hts (.fieldLink RX2 23 "HedgeGliders$Garden" "hedges" "J") (by decide +kernel)
  have hl := lv_entry ([.ref zga]) (n := 3) (Nat.le_of_ble_eq_true rfl)
  have he0 : entryFrame m args 3 = entryFrame m ([.ref zga] : List Value).toArray 3 := by rw [hargs]
  rw [he0, lg_entry_eq]
  generalize (lg_sl ([.ref zga]) ++ List.replicate (3 - (lg_sl ([.ref zga])).length) Slot.unset).toArray = ls at hl ⊢
  have hl : lv_has ls 3 [(0, .ref zga)] := hl
  rw [f_X2_oldest] at hf
  refine lv_iconst (v := (-1)) hx hb dX2_oldest_0 (by decide) ?_
  refine lv_istore_n (lv' := [(1, .int (-1)), (0, .ref zga)]) hx hb dX2_oldest_1 rfl hl (by decide) rfl (fun ls hl => ?_)
  refine lv_iconst (v := 0) hx hb dX2_oldest_2 (by decide) ?_
  refine lv_istore_n (lv' := [(2, .int 0), (1, .int (-1)), (0, .ref zga)]) hx hb dX2_oldest_3 rfl hl (by decide) rfl (fun ls hl => ?_)
  obtain ⟨v8, hv, hf⟩ := obind hf
  have K9 : ∀ (H : Heap) (locs : List Loc) (ls : Array Slot), va_P (dC, dI) vwCl [(zga, .inr (1, [.ref zgr, .ref zru, .ref zag, .long dG.1, .int dG.2.1, .int dG.2.2.1, .int dG.2.2.2])), (zag, .inl (cI, 64, .inl aG))] H → va_D (A_X2_oldest cI cJ zga zag zgr zru dG aG s.heap.size) [(zga, .inr (1, [.ref zgr, .ref zru, .ref zag, .long dG.1, .int dG.2.1, .int dG.2.2.1, .int dG.2.2.2])), (zag, .inl (cI, 64, .inl aG))] → va_S (A_X2_oldest cI cJ zga zag zgr zru dG aG s.heap.size) s.heap H locs → lv_has ls 3 [(1, .int v8)] → W p l e rm_X2_oldest s m args below meth c H locs 0 0 (MQ below (Q_X2_oldest dC dI cI cJ zga zag zgr zru dG aG s.heap.size R) args s 0 0 (A_X2_oldest cI cJ zga zag zgr zru dG aG s.heap.size)) (F0 m 49 ls []) := by
    intro H locs ls hP hD hS hl
    refine lv_iload_n hx hb dX2_oldest_49 rfl (lv_at hl 0 rfl) ?_
    obtain rfl := Option.some.inj hf
    exact W.iret (v := v8) hx hb hr (fun t ht hW => ⟨⟨v8, (), rfl, rfl, by rw [ht]; exact hP, va_K.moved hW.alike hK, hD⟩, hS.F ht⟩) hS.2.2 dX2_oldest_50
  have lp10 : ∀ (nf : Nat) (y5 : Int32) (y6 : Int32) (H : Heap) (locs : List Loc) (ls : Array Slot), lp_X2_oldest_4 dG aG nf y5 y6 = some v8 → va_P (dC, dI) vwCl [(zga, .inr (1, [.ref zgr, .ref zru, .ref zag, .long dG.1, .int dG.2.1, .int dG.2.2.1, .int dG.2.2.2])), (zag, .inl (cI, 64, .inl aG))] H → va_D (A_X2_oldest cI cJ zga zag zgr zru dG aG s.heap.size) [(zga, .inr (1, [.ref zgr, .ref zru, .ref zag, .long dG.1, .int dG.2.1, .int dG.2.2.1, .int dG.2.2.2])), (zag, .inl (cI, 64, .inl aG))] → va_S (A_X2_oldest cI cJ zga zag zgr zru dG aG s.heap.size) s.heap H locs → lv_has ls 3 [(0, .ref zga), (1, .int y5), (2, .int y6)] → W p l e rm_X2_oldest s m args below meth c H locs 0 0 (MQ below (Q_X2_oldest dC dI cI cJ zga zag zgr zru dG aG s.heap.size R) args s 0 0 (A_X2_oldest cI cJ zga zag zgr zru dG aG s.heap.size)) (F0 m 4 ls []) := by
    intro nf
    induction nf with
    | zero => intro y5 y6 H locs ls h9; exact nomatch h9
    | succ nf ih11 =>
      intro y5 y6 H locs ls hf hP hD hS hl
      rw [lp_X2_oldest_4.eq_2] at hf
      refine lv_iload_n hx hb dX2_oldest_4 rfl (lv_at hl 2 rfl) ?_
      refine lv_aload_n hx hb dX2_oldest_5 rfl (lv_at hl 0 rfl) ?_
      refine va_get (D := (dC, dI)) (ci := 1) (v := .ref zag) (C := RX2) (T := TX2) (N := 7) hx hb hts hinX2 hown hK hP 0 rfl rfl 2 (by decide) hw0 (fun _ h9 => h9) rfl dX2_oldest_6 ?_
      refine va_alen (v := 64) hx hb hK hP 1 0 rfl rfl rfl dX2_oldest_9 ?_
      refine lv_icmp_ge (tgt := 49) hx hb dX2_oldest_10 (by decide) (fun hc => ?_) (fun hc => ?_)
      · rw [if_pos hc] at hf
        obtain rfl := Option.some.inj hf
        exact K9 _ _ _ hP hD hS (lv_sub hl [1] rfl)
      · rw [if_neg hc] at hf
        refine lv_aload_n hx hb dX2_oldest_13 rfl (lv_at hl 0 rfl) ?_
        refine va_get (D := (dC, dI)) (ci := 1) (v := .long dG.1) (C := RX2) (T := TX2) (N := 7) hx hb hts hinX2 hown hK hP 0 rfl rfl 3 (by decide) hw1 (fun _ h9 => h9) rfl dX2_oldest_14 ?_
        refine lv_iload_n hx hb dX2_oldest_17 rfl (lv_at hl 2 rfl) ?_
        refine lv_lushr (v := (jushr dG.1 y6)) hx hb dX2_oldest_18 rfl ?_
        refine lv_lconst (v := 1) hx hb dX2_oldest_19 (by decide) ?_
        refine lv_land hx hb dX2_oldest_20 ?_
        refine lv_lconst (v := 0) hx hb dX2_oldest_21 (by decide) ?_
        refine W.lcmp hx hb dX2_oldest_22 ?_
        obtain ⟨v7, hv, hf⟩ := obind hf
        have K12 : ∀ (H : Heap) (locs : List Loc) (ls : Array Slot), va_P (dC, dI) vwCl [(zga, .inr (1, [.ref zgr, .ref zru, .ref zag, .long dG.1, .int dG.2.1, .int dG.2.2.1, .int dG.2.2.2])), (zag, .inl (cI, 64, .inl aG))] H → va_D (A_X2_oldest cI cJ zga zag zgr zru dG aG s.heap.size) [(zga, .inr (1, [.ref zgr, .ref zru, .ref zag, .long dG.1, .int dG.2.1, .int dG.2.2.1, .int dG.2.2.2])), (zag, .inl (cI, 64, .inl aG))] → va_S (A_X2_oldest cI cJ zga zag zgr zru dG aG s.heap.size) s.heap H locs → lv_has ls 3 [(0, .ref zga), (1, .int v7), (2, .int y6)] → W p l e rm_X2_oldest s m args below meth c H locs 0 0 (MQ below (Q_X2_oldest dC dI cI cJ zga zag zgr zru dG aG s.heap.size R) args s 0 0 (A_X2_oldest cI cJ zga zag zgr zru dG aG s.heap.size)) (F0 m 43 ls []) := by
          intro H locs ls hP hD hS hl
          refine lv_iinc (v := (y6 + 1)) (lv' := [(2, .int (y6 + 1)), (0, .ref zga), (1, .int v7)]) hx hb dX2_oldest_43 hl (k := 2) rfl rfl (by decide) rfl (fun ls hl => ?_)
          refine lv_goto (tgt := 4) hx hb dX2_oldest_46 (by decide) ?_
          exact ih11 _ _ _ _ _ hf hP hD hS (lv_sub hl [1, 2, 0] rfl)
        clear hf; have hf := hv; clear hv
        refine lv_if_eq (tgt := 43) hx hb dX2_oldest_23 (by decide) (fun hc => ?_) (fun hc => ?_)
        · have hc := lgz.mp hc
          rw [if_pos hc] at hf
          obtain rfl := Option.some.inj hf
          exact K12 _ _ _ hP hD hS (lv_sub hl [0, 1, 2] rfl)
        · have hc := fun h9 => hc (lgz.mpr h9)
          rw [if_neg hc] at hf
          refine lv_aload_n hx hb dX2_oldest_26 rfl (lv_at hl 0 rfl) ?_
          refine va_get (D := (dC, dI)) (ci := 1) (v := .ref zag) (C := RX2) (T := TX2) (N := 7) hx hb hts hinX2 hown hK hP 0 rfl rfl 2 (by decide) hw0 (fun _ h9 => h9) rfl dX2_oldest_27 ?_
          refine lv_iload_n hx hb dX2_oldest_30 rfl (lv_at hl 2 rfl) ?_
          have hg0 : ¬ (y6 < 0 ∨ 64 ≤ y6.toNatClampNeg) := fun hq => by rw [if_pos hq] at hf; exact nomatch hf
          rw [if_neg hg0] at hf
          have hg : vp_in y6 64 := hg0
          refine va_iald hx hb hK hP 1 0 rfl rfl hg dX2_oldest_31 ?_
          refine lv_iload_n hx hb dX2_oldest_32 rfl (lv_at hl 1 rfl) ?_
          refine lv_icmp_le (tgt := 43) hx hb dX2_oldest_33 (by decide) (fun hc => ?_) (fun hc => ?_)
          · rw [if_pos hc] at hf
            obtain rfl := Option.some.inj hf
            exact K12 _ _ _ hP hD hS (lv_sub hl [0, 1, 2] rfl)
          · rw [if_neg hc] at hf
            refine lv_aload_n hx hb dX2_oldest_36 rfl (lv_at hl 0 rfl) ?_
            refine va_get (D := (dC, dI)) (ci := 1) (v := .ref zag) (C := RX2) (T := TX2) (N := 7) hx hb hts hinX2 hown hK hP 0 rfl rfl 2 (by decide) hw0 (fun _ h9 => h9) rfl dX2_oldest_37 ?_
            refine lv_iload_n hx hb dX2_oldest_40 rfl (lv_at hl 2 rfl) ?_
            have hg0 : ¬ (y6 < 0 ∨ 64 ≤ y6.toNatClampNeg) := fun hq => by rw [if_pos hq] at hf; exact nomatch hf
            rw [if_neg hg0] at hf
            have hg : vp_in y6 64 := hg0
            refine va_iald hx hb hK hP 1 0 rfl rfl hg dX2_oldest_41 ?_
            refine lv_istore_n (lv' := [(1, .int (aG y6.toNatClampNeg)), (0, .ref zga), (2, .int y6)]) hx hb dX2_oldest_42 rfl hl (by decide) rfl (fun ls hl => ?_)
            obtain rfl := Option.some.inj hf
            exact K12 _ _ _ hP hD hS (lv_sub hl [1, 0, 2] rfl)
  exact lp10 100 _ _ _ _ _ hv hP hD hS (lv_sub hl [2, 1, 0] rfl)
/-! HedgeGliders$Garden.lawnsWithout(J)I -/
def lp_X2_lawnsWithout_11 (dG : GaS) (gG : GrS) (cs : Int64) : Nat → Int32 → Int64 → Int32 → Option (Int32)
  | 0, _, _, _ => none
  | nf + 1, y8, y9, y10 => if 64 ≤ y10 then (some y8) else (if y9 = 0 then (some y8) else (Option.bind (f_X3_lawn gG (y9 &&& (-y9)) (f_X2_open dG gG)) fun r11 => bindv (if (r11 &&& cs) = 0 then ((y8 + 1)) else (y8) : Int32) fun v12 => lp_X2_lawnsWithout_11 dG gG cs nf v12 (y9 &&& (r11 ^^^ (-1))) (y10 + 1)))
def f_X2_lawnsWithout (dG : GaS) (gG : GrS) (cs : Int64) : Option (Int32) := Option.bind (lp_X2_lawnsWithout_11 dG gG cs 100 0 (f_X2_open dG gG) 0) fun v13 => some v13
abbrev rm_X2_lawnsWithout : Room := ({ frames := 3, cells := 0, slots := 0, locals := 77 } : Room)
abbrev A_X2_lawnsWithout (cI cJ : ClassId) (zga zgr zru zag : Nat) (dG : GaS) (gG : GrS) (cs : Int64) (sz : Nat) : Nat → Prop := va_A [(zga, .inr (1, [.ref zgr, .ref zru, .ref zag, .long dG.1, .int dG.2.1, .int dG.2.2.1, .int dG.2.2.2])), (zgr, .inr (2, [.int gG.1, .int gG.2.1, .int (bI gG.2.2.1), .long gG.2.2.2.1, .long gG.2.2.2.2.1, .long gG.2.2.2.2.2.1, .long gG.2.2.2.2.2.2.1, .long gG.2.2.2.2.2.2.2]))] sz
abbrev Q_X2_lawnsWithout (dC : Nat → ClassId) (dI : Nat → Nat → Nat) (cI cJ : ClassId) (zga zgr zru zag : Nat) (dG : GaS) (gG : GrS) (cs : Int64) (sz : Nat) (R : Int32) : Array Value → State → Outcome → State → Prop := va_Qi (fun (r : Int32) (_ : Unit) => r = R) (fun u_ t => va_P (dC, dI) vwCl [(zga, .inr (1, [.ref zgr, .ref zru, .ref zag, .long dG.1, .int dG.2.1, .int dG.2.2.1, .int dG.2.2.2])), (zgr, .inr (2, [.int gG.1, .int gG.2.1, .int (bI gG.2.2.1), .long gG.2.2.2.1, .long gG.2.2.2.2.1, .long gG.2.2.2.2.2.1, .long gG.2.2.2.2.2.2.1, .long gG.2.2.2.2.2.2.2]))] t.heap ∧ va_K (dC, dI) vwCl [(cI, .int), (cJ, .long)] t ∧ va_D (A_X2_lawnsWithout cI cJ zga zgr zru zag dG gG cs sz) [(zga, .inr (1, [.ref zgr, .ref zru, .ref zag, .long dG.1, .int dG.2.1, .int dG.2.2.1, .int dG.2.2.2])), (zgr, .inr (2, [.int gG.1, .int gG.2.1, .int (bI gG.2.2.1), .long gG.2.2.2.1, .long gG.2.2.2.2.1, .long gG.2.2.2.2.2.1, .long gG.2.2.2.2.2.2.1, .long gG.2.2.2.2.2.2.2]))]) (A_X2_lawnsWithout cI cJ zga zgr zru zag dG gG cs sz)
set_option maxHeartbeats 4000000 in
set_option maxRecDepth 100000 in
theorem c_X2_lawnsWithout (l : Launch) (dC : Nat → ClassId) (dI : Nat → Nat → Nat) (cI cJ : ClassId) (zga zgr zru zag : Nat) (sz : Nat) (dG : GaS) (gG : GrS) (cs : Int64) (R : Int32) (hR : f_X2_lawnsWithout dG gG cs = some R) : Met l yX2_lawnsWithout wsX2_lawnsWithout rm_X2_lawnsWithout (va_Pc [.ref zga, .long cs] (fun U => U.heap.size = sz ∧ va_P (dC, dI) vwCl [(zga, .inr (1, [.ref zgr, .ref zru, .ref zag, .long dG.1, .int dG.2.1, .int dG.2.2.1, .int dG.2.2.2])), (zgr, .inr (2, [.int gG.1, .int gG.2.1, .int (bI gG.2.2.1), .long gG.2.2.2.1, .long gG.2.2.2.2.1, .long gG.2.2.2.2.2.1, .long gG.2.2.2.2.2.2.1, .long gG.2.2.2.2.2.2.2]))] U.heap ∧ va_K (dC, dI) vwCl [(cI, .int), (cJ, .long)] U ∧ va_D (fun _ => True) [(zga, .inr (1, [.ref zgr, .ref zru, .ref zag, .long dG.1, .int dG.2.1, .int dG.2.2.1, .int dG.2.2.2])), (zgr, .inr (2, [.int gG.1, .int gG.2.1, .int (bI gG.2.2.1), .long gG.2.2.2.1, .long gG.2.2.2.2.1, .long gG.2.2.2.2.2.1, .long gG.2.2.2.2.2.2.1, .long gG.2.2.2.2.2.2.2]))])) (Q_X2_lawnsWithout dC dI cI cJ zga zgr zru zag dG gG cs sz R) 0 0 (A_X2_lawnsWithout cI cJ zga zgr zru zag dG gG cs sz) := by
  have hf := hR
  refine Met.ofW (cc := cX2_lawnsWithout) (maxL := 9) (ret := (some .int)) (by decide) rfl ?_
  intro p e s m args below meth c s₁ B hml hv
  obtain ⟨hargs, hsz, hP, hK, hD0⟩ := hv
  have hx := B.exec
  have hb := B.bytes
  have hr := B.returns
  have hts := atoms_spec (ws := wsX2_lawnsWithout) B.pre
  have hown : s.vm.findClass RX2 = some m.cls := findClass_of_methodNamed B.named
  have hlocks := B.notSynchronized
  subst hsz
  have hD : va_D (A_X2_lawnsWithout cI cJ zga zgr zru zag dG gG cs s.heap.size) [(zga, .inr (1, [.ref zgr, .ref zru, .ref zag, .long dG.1, .int dG.2.1, .int dG.2.2.1, .int dG.2.2.2])), (zgr, .inr (2, [.int gG.1, .int gG.2.1, .int (bI gG.2.2.1), .long gG.2.2.2.1, .long gG.2.2.2.2.1, .long gG.2.2.2.2.2.1, .long gG.2.2.2.2.2.2.1, .long gG.2.2.2.2.2.2.2]))] := hD0.self (sz := s.heap.size)
  have hA : ∀ q : Nat, s.heap.size ≤ q → (A_X2_lawnsWithout cI cJ zga zgr zru zag dG gG cs s.heap.size) q := fun q h => Or.inr h
  have hS : va_S (A_X2_lawnsWithout cI cJ zga zgr zru zag dG gG cs s.heap.size) s.heap s.heap [] := va_S.rf
  have hinX2 : ∀ w ∈ wsX20, w ∈ wsX2_lawnsWithout := by decide +kernel
  have hw0 := hts (.fieldLink RX2 15 "HedgeGliders$Garden" "ground" "LHedgeGliders$Ground;") (by decide +kernel)
  have hw1 := hts (.constantLong RX2 47 (-1)) (by decide +kernel)
  have hl := lv_entry ([.ref zga, .long cs]) (n := 9) (Nat.le_of_ble_eq_true rfl)
  have he0 : entryFrame m args 9 = entryFrame m ([.ref zga, .long cs] : List Value).toArray 9 := by rw [hargs]
  rw [he0, lg_entry_eq]
  generalize (lg_sl ([.ref zga, .long cs]) ++ List.replicate (9 - (lg_sl ([.ref zga, .long cs])).length) Slot.unset).toArray = ls at hl ⊢
  have hl : lv_has ls 9 [(0, .ref zga), (1, .long cs)] := hl
  rw [f_X2_lawnsWithout] at hf
  refine lv_iconst (v := 0) hx hb dX2_lawnsWithout_0 (by decide) ?_
  refine lv_istore_n (lv' := [(3, .int 0), (0, .ref zga), (1, .long cs)]) hx hb dX2_lawnsWithout_1 rfl hl (by decide) rfl (fun ls hl => ?_)
  refine lv_aload_n hx hb dX2_lawnsWithout_2 rfl (lv_at hl 1 rfl) ?_
  have hPc := hP.sub (ws' := [(zga, .inr (1, [.ref zgr, .ref zru, .ref zag, .long dG.1, .int dG.2.1, .int dG.2.2.1, .int dG.2.2.2])), (zgr, .inr (2, [.int gG.1, .int gG.2.1, .int (bI gG.2.2.1), .long gG.2.2.2.1, .long gG.2.2.2.2.1, .long gG.2.2.2.2.2.1, .long gG.2.2.2.2.2.2.1, .long gG.2.2.2.2.2.2.2]))]) [0, 1] rfl
  have hDc := hD.sub (ws' := [(zga, .inr (1, [.ref zgr, .ref zru, .ref zag, .long dG.1, .int dG.2.1, .int dG.2.2.1, .int dG.2.2.2])), (zgr, .inr (2, [.int gG.1, .int gG.2.1, .int (bI gG.2.2.1), .long gG.2.2.2.1, .long gG.2.2.2.2.1, .long gG.2.2.2.2.2.1, .long gG.2.2.2.2.2.2.1, .long gG.2.2.2.2.2.2.2]))]) [0, 1] (by decide) rfl
  have hFc := va_free (wc := [(zga, .inr (1, [.ref zgr, .ref zru, .ref zag, .long dG.1, .int dG.2.1, .int dG.2.2.1, .int dG.2.2.2])), (zgr, .inr (2, [.int gG.1, .int gG.2.1, .int (bI gG.2.2.1), .long gG.2.2.2.1, .long gG.2.2.2.2.1, .long gG.2.2.2.2.2.1, .long gG.2.2.2.2.2.2.1, .long gG.2.2.2.2.2.2.2]))]) hD hS hA [0, 1] rfl
  refine va_calll (va_runV (As := []) (rest := []) ⟨hx, hb, hml, hown, hts⟩ (c_X2_open l dC dI cI cJ zga zgr zru zag s.heap.size dG gG) (cwV 0 hts gX2_lawnsWithout_X2_open rfl rfl rfl (by decide +kernel) ⟨Nat.le_of_ble_eq_true rfl, Nat.le_of_ble_eq_true rfl⟩) ⟨fun a U gg mk q => by obtain ⟨q0, q1, qP, qK, qD⟩ := q; exact ⟨q0, q1, qP, va_K.moved (u := U) (U := U.calling gg mk a) (Vm.Alike.refl U.vm) qK, qD⟩, va_recv hK hPc (ci := 1) (q0 := 0) rfl rfl, fun U hU hW => ⟨rfl, by rw [hU], by rw [hU]; exact hPc, va_K.moved hW.alike hK, hDc.weaken (fun _ _ _ _ => trivial)⟩⟩ rfl rfl hl.1 rfl (lv_room (Nat.le_of_ble_eq_true rfl)) dX2_lawnsWithout_3 ⟨Nat.zero_le _, Nat.zero_le _⟩) hS (fun q _ h => hFc q h) hFc (fun r_ u_ t H locs ht hvm hw hB hz1 hk1 hS => ?_)
  obtain rfl := hw.symm
  obtain ⟨hP1, -, hD1⟩ := hB
  rw [ht] at hP1
  obtain ⟨hP, hD⟩ := va_join (wr := []) (w1 := [(zga, .inr (1, [.ref zgr, .ref zru, .ref zag, .long dG.1, .int dG.2.1, .int dG.2.2.1, .int dG.2.2.2])), (zgr, .inr (2, [.int gG.1, .int gG.2.1, .int (bI gG.2.2.1), .long gG.2.2.2.1, .long gG.2.2.2.2.1, .long gG.2.2.2.2.2.1, .long gG.2.2.2.2.2.2.1, .long gG.2.2.2.2.2.2.2]))]) hP hD [0, 1] [] rfl rfl (by decide) (by decide) hk1 hFc hP1 hD1
  have hP := hP.sub (ws' := [(zga, .inr (1, [.ref zgr, .ref zru, .ref zag, .long dG.1, .int dG.2.1, .int dG.2.2.1, .int dG.2.2.2])), (zgr, .inr (2, [.int gG.1, .int gG.2.1, .int (bI gG.2.2.1), .long gG.2.2.2.1, .long gG.2.2.2.2.1, .long gG.2.2.2.2.2.1, .long gG.2.2.2.2.2.2.1, .long gG.2.2.2.2.2.2.2]))]) [0, 1] rfl
  have hD := hD.sub (ws' := [(zga, .inr (1, [.ref zgr, .ref zru, .ref zag, .long dG.1, .int dG.2.1, .int dG.2.2.1, .int dG.2.2.2])), (zgr, .inr (2, [.int gG.1, .int gG.2.1, .int (bI gG.2.2.1), .long gG.2.2.2.1, .long gG.2.2.2.2.1, .long gG.2.2.2.2.2.1, .long gG.2.2.2.2.2.2.1, .long gG.2.2.2.2.2.2.2]))]) [0, 1] (by decide) rfl
  clear hPc hDc hFc hP1 hD1 hk1
  refine lv_lstore (lv' := [(4, .long (f_X2_open dG gG)), (3, .int 0), (0, .ref zga), (1, .long cs)]) hx hb dX2_lawnsWithout_6 hl (by decide) rfl (fun ls hl => ?_)
  refine lv_iconst (v := 0) hx hb dX2_lawnsWithout_8 (by decide) ?_
  refine lv_istore (lv' := [(6, .int 0), (4, .long (f_X2_open dG gG)), (3, .int 0), (0, .ref zga), (1, .long cs)]) hx hb dX2_lawnsWithout_9 hl (by decide) rfl (fun ls hl => ?_)
  obtain ⟨v13, hv, hf⟩ := obind hf
  have K14 : ∀ (H : Heap) (locs : List Loc) (ls : Array Slot), va_P (dC, dI) vwCl [(zga, .inr (1, [.ref zgr, .ref zru, .ref zag, .long dG.1, .int dG.2.1, .int dG.2.2.1, .int dG.2.2.2])), (zgr, .inr (2, [.int gG.1, .int gG.2.1, .int (bI gG.2.2.1), .long gG.2.2.2.1, .long gG.2.2.2.2.1, .long gG.2.2.2.2.2.1, .long gG.2.2.2.2.2.2.1, .long gG.2.2.2.2.2.2.2]))] H → va_D (A_X2_lawnsWithout cI cJ zga zgr zru zag dG gG cs s.heap.size) [(zga, .inr (1, [.ref zgr, .ref zru, .ref zag, .long dG.1, .int dG.2.1, .int dG.2.2.1, .int dG.2.2.2])), (zgr, .inr (2, [.int gG.1, .int gG.2.1, .int (bI gG.2.2.1), .long gG.2.2.2.1, .long gG.2.2.2.2.1, .long gG.2.2.2.2.2.1, .long gG.2.2.2.2.2.2.1, .long gG.2.2.2.2.2.2.2]))] → va_S (A_X2_lawnsWithout cI cJ zga zgr zru zag dG gG cs s.heap.size) s.heap H locs → lv_has ls 9 [(3, .int v13)] → W p l e rm_X2_lawnsWithout s m args below meth c H locs 0 0 (MQ below (Q_X2_lawnsWithout dC dI cI cJ zga zgr zru zag dG gG cs s.heap.size R) args s 0 0 (A_X2_lawnsWithout cI cJ zga zgr zru zag dG gG cs s.heap.size)) (F0 m 73 ls []) := by
    intro H locs ls hP hD hS hl
    refine lv_iload_n hx hb dX2_lawnsWithout_73 rfl (lv_at hl 0 rfl) ?_
    obtain rfl := Option.some.inj hf
    exact W.iret (v := v13) hx hb hr (fun t ht hW => ⟨⟨v13, (), rfl, rfl, by rw [ht]; exact hP, va_K.moved hW.alike hK, hD⟩, hS.F ht⟩) hS.2.2 dX2_lawnsWithout_74
  have lp15 : ∀ (nf : Nat) (y8 : Int32) (y9 : Int64) (y10 : Int32) (H : Heap) (locs : List Loc) (ls : Array Slot), lp_X2_lawnsWithout_11 dG gG cs nf y8 y9 y10 = some v13 → va_P (dC, dI) vwCl [(zga, .inr (1, [.ref zgr, .ref zru, .ref zag, .long dG.1, .int dG.2.1, .int dG.2.2.1, .int dG.2.2.2])), (zgr, .inr (2, [.int gG.1, .int gG.2.1, .int (bI gG.2.2.1), .long gG.2.2.2.1, .long gG.2.2.2.2.1, .long gG.2.2.2.2.2.1, .long gG.2.2.2.2.2.2.1, .long gG.2.2.2.2.2.2.2]))] H → va_D (A_X2_lawnsWithout cI cJ zga zgr zru zag dG gG cs s.heap.size) [(zga, .inr (1, [.ref zgr, .ref zru, .ref zag, .long dG.1, .int dG.2.1, .int dG.2.2.1, .int dG.2.2.2])), (zgr, .inr (2, [.int gG.1, .int gG.2.1, .int (bI gG.2.2.1), .long gG.2.2.2.1, .long gG.2.2.2.2.1, .long gG.2.2.2.2.2.1, .long gG.2.2.2.2.2.2.1, .long gG.2.2.2.2.2.2.2]))] → va_S (A_X2_lawnsWithout cI cJ zga zgr zru zag dG gG cs s.heap.size) s.heap H locs → lv_has ls 9 [(0, .ref zga), (1, .long cs), (3, .int y8), (4, .long y9), (6, .int y10)] → W p l e rm_X2_lawnsWithout s m args below meth c H locs 0 0 (MQ below (Q_X2_lawnsWithout dC dI cI cJ zga zgr zru zag dG gG cs s.heap.size R) args s 0 0 (A_X2_lawnsWithout cI cJ zga zgr zru zag dG gG cs s.heap.size)) (F0 m 11 ls []) := by
    intro nf
    induction nf with
    | zero => intro y8 y9 y10 H locs ls h9; exact nomatch h9
    | succ nf ih16 =>
      intro y8 y9 y10 H locs ls hf hP hD hS hl
      rw [lp_X2_lawnsWithout_11.eq_2] at hf
      refine lv_iload hx hb dX2_lawnsWithout_11 (lv_at hl 4 rfl) ?_
      refine lv_bipush (v := 64) hx hb dX2_lawnsWithout_13 (by decide) ?_
      refine lv_icmp_ge (tgt := 73) hx hb dX2_lawnsWithout_15 (by decide) (fun hc => ?_) (fun hc => ?_)
      · rw [if_pos hc] at hf
        obtain rfl := Option.some.inj hf
        exact K14 _ _ _ hP hD hS (lv_sub hl [2] rfl)
      · rw [if_neg hc] at hf
        refine lv_lload hx hb dX2_lawnsWithout_18 (lv_at hl 3 rfl) ?_
        refine lv_lconst (v := 0) hx hb dX2_lawnsWithout_20 (by decide) ?_
        refine W.lcmp hx hb dX2_lawnsWithout_21 ?_
        refine lv_if_eq (tgt := 73) hx hb dX2_lawnsWithout_22 (by decide) (fun hc => ?_) (fun hc => ?_)
        · have hc := lgz.mp hc
          rw [if_pos hc] at hf
          obtain rfl := Option.some.inj hf
          exact K14 _ _ _ hP hD hS (lv_sub hl [2] rfl)
        · have hc := fun h9 => hc (lgz.mpr h9)
          rw [if_neg hc] at hf
          refine lv_aload_n hx hb dX2_lawnsWithout_25 rfl (lv_at hl 0 rfl) ?_
          refine va_get (D := (dC, dI)) (ci := 1) (v := .ref zgr) (C := RX2) (T := TX2) (N := 7) hx hb hts hinX2 hown hK hP 0 rfl rfl 0 (by decide) hw0 (fun _ h9 => h9) rfl dX2_lawnsWithout_26 ?_
          refine lv_lload hx hb dX2_lawnsWithout_29 (lv_at hl 3 rfl) ?_
          refine lv_lload hx hb dX2_lawnsWithout_31 (lv_at hl 3 rfl) ?_
          refine lv_lneg hx hb dX2_lawnsWithout_33 ?_
          refine lv_land hx hb dX2_lawnsWithout_34 ?_
          refine lv_aload_n hx hb dX2_lawnsWithout_35 rfl (lv_at hl 0 rfl) ?_
          have hPc := hP.sub (ws' := [(zga, .inr (1, [.ref zgr, .ref zru, .ref zag, .long dG.1, .int dG.2.1, .int dG.2.2.1, .int dG.2.2.2])), (zgr, .inr (2, [.int gG.1, .int gG.2.1, .int (bI gG.2.2.1), .long gG.2.2.2.1, .long gG.2.2.2.2.1, .long gG.2.2.2.2.2.1, .long gG.2.2.2.2.2.2.1, .long gG.2.2.2.2.2.2.2]))]) [0, 1] rfl
          have hDc := hD.sub (ws' := [(zga, .inr (1, [.ref zgr, .ref zru, .ref zag, .long dG.1, .int dG.2.1, .int dG.2.2.1, .int dG.2.2.2])), (zgr, .inr (2, [.int gG.1, .int gG.2.1, .int (bI gG.2.2.1), .long gG.2.2.2.1, .long gG.2.2.2.2.1, .long gG.2.2.2.2.2.1, .long gG.2.2.2.2.2.2.1, .long gG.2.2.2.2.2.2.2]))]) [0, 1] (by decide) rfl
          have hFc := va_free (wc := [(zga, .inr (1, [.ref zgr, .ref zru, .ref zag, .long dG.1, .int dG.2.1, .int dG.2.2.1, .int dG.2.2.2])), (zgr, .inr (2, [.int gG.1, .int gG.2.1, .int (bI gG.2.2.1), .long gG.2.2.2.1, .long gG.2.2.2.2.1, .long gG.2.2.2.2.2.1, .long gG.2.2.2.2.2.2.1, .long gG.2.2.2.2.2.2.2]))]) hD hS hA [0, 1] rfl
          refine va_calll (va_runV (As := []) (rest := [.long (y9 &&& (-y9)), .ref zgr]) ⟨hx, hb, hml, hown, hts⟩ (c_X2_open l dC dI cI cJ zga zgr zru zag H.size dG gG) (cwV 0 hts gX2_lawnsWithout_X2_open rfl rfl rfl (by decide +kernel) ⟨Nat.le_of_ble_eq_true rfl, Nat.le_of_ble_eq_true rfl⟩) ⟨fun a U gg mk q => by obtain ⟨q0, q1, qP, qK, qD⟩ := q; exact ⟨q0, q1, qP, va_K.moved (u := U) (U := U.calling gg mk a) (Vm.Alike.refl U.vm) qK, qD⟩, va_recv hK hPc (ci := 1) (q0 := 0) rfl rfl, fun U hU hW => ⟨rfl, by rw [hU], by rw [hU]; exact hPc, va_K.moved hW.alike hK, hDc.weaken (fun _ _ _ _ => trivial)⟩⟩ rfl rfl hl.1 rfl (lv_room (Nat.le_of_ble_eq_true rfl)) dX2_lawnsWithout_36 ⟨Nat.zero_le _, Nat.zero_le _⟩) hS (fun q _ h => hFc q h) hFc (fun r_ u_ t H locs ht hvm hw hB hz1 hk1 hS => ?_)
          obtain rfl := hw.symm
          obtain ⟨hP1, -, hD1⟩ := hB
          rw [ht] at hP1
          obtain ⟨hP, hD⟩ := va_join (wr := []) (w1 := [(zga, .inr (1, [.ref zgr, .ref zru, .ref zag, .long dG.1, .int dG.2.1, .int dG.2.2.1, .int dG.2.2.2])), (zgr, .inr (2, [.int gG.1, .int gG.2.1, .int (bI gG.2.2.1), .long gG.2.2.2.1, .long gG.2.2.2.2.1, .long gG.2.2.2.2.2.1, .long gG.2.2.2.2.2.2.1, .long gG.2.2.2.2.2.2.2]))]) hP hD [0, 1] [] rfl rfl (by decide) (by decide) hk1 hFc hP1 hD1
          have hP := hP.sub (ws' := [(zga, .inr (1, [.ref zgr, .ref zru, .ref zag, .long dG.1, .int dG.2.1, .int dG.2.2.1, .int dG.2.2.2])), (zgr, .inr (2, [.int gG.1, .int gG.2.1, .int (bI gG.2.2.1), .long gG.2.2.2.1, .long gG.2.2.2.2.1, .long gG.2.2.2.2.2.1, .long gG.2.2.2.2.2.2.1, .long gG.2.2.2.2.2.2.2]))]) [0, 1] rfl
          have hD := hD.sub (ws' := [(zga, .inr (1, [.ref zgr, .ref zru, .ref zag, .long dG.1, .int dG.2.1, .int dG.2.2.1, .int dG.2.2.2])), (zgr, .inr (2, [.int gG.1, .int gG.2.1, .int (bI gG.2.2.1), .long gG.2.2.2.1, .long gG.2.2.2.2.1, .long gG.2.2.2.2.2.1, .long gG.2.2.2.2.2.2.1, .long gG.2.2.2.2.2.2.2]))]) [0, 1] (by decide) rfl
          clear hPc hDc hFc hP1 hD1 hk1
          obtain ⟨r11, hr11, hf⟩ := obind hf
          have hPc := hP.sub (ws' := [(zgr, .inr (2, [.int gG.1, .int gG.2.1, .int (bI gG.2.2.1), .long gG.2.2.2.1, .long gG.2.2.2.2.1, .long gG.2.2.2.2.2.1, .long gG.2.2.2.2.2.2.1, .long gG.2.2.2.2.2.2.2]))]) [1] rfl
          have hDc := hD.sub (ws' := [(zgr, .inr (2, [.int gG.1, .int gG.2.1, .int (bI gG.2.2.1), .long gG.2.2.2.1, .long gG.2.2.2.2.1, .long gG.2.2.2.2.2.1, .long gG.2.2.2.2.2.2.1, .long gG.2.2.2.2.2.2.2]))]) [1] (by decide) rfl
          have hFc := va_free (wc := [(zgr, .inr (2, [.int gG.1, .int gG.2.1, .int (bI gG.2.2.1), .long gG.2.2.2.1, .long gG.2.2.2.2.1, .long gG.2.2.2.2.2.1, .long gG.2.2.2.2.2.2.1, .long gG.2.2.2.2.2.2.2]))]) hD hS hA [1] rfl
          refine va_calll (va_runV (As := [.long (y9 &&& (-y9)), .long (f_X2_open dG gG)]) (rest := []) ⟨hx, hb, hml, hown, hts⟩ (c_X3_lawn l dC dI cI cJ zgr H.size gG (y9 &&& (-y9)) (f_X2_open dG gG) _ hr11) (cwV 2 hts gX2_lawnsWithout_X3_lawn rfl rfl rfl (by decide +kernel) ⟨Nat.le_of_ble_eq_true rfl, Nat.le_of_ble_eq_true rfl⟩) ⟨fun a U gg mk q => by obtain ⟨q0, q1, qP, qK, qD⟩ := q; exact ⟨q0, q1, qP, va_K.moved (u := U) (U := U.calling gg mk a) (Vm.Alike.refl U.vm) qK, qD⟩, va_recv hK hPc (ci := 2) (q0 := 0) rfl rfl, fun U hU hW => ⟨rfl, by rw [hU], by rw [hU]; exact hPc, va_K.moved hW.alike hK, hDc.weaken (fun _ _ _ _ => trivial)⟩⟩ rfl rfl hl.1 rfl (lv_room (Nat.le_of_ble_eq_true rfl)) dX2_lawnsWithout_39 ⟨Nat.zero_le _, Nat.zero_le _⟩) hS (fun q _ h => hFc q h) hFc (fun r_ u_ t H locs ht hvm hw hB hz1 hk1 hS => ?_)
          obtain rfl := hw.symm
          obtain ⟨hP1, -, hD1⟩ := hB
          rw [ht] at hP1
          obtain ⟨hP, hD⟩ := va_join (wr := [(zga, .inr (1, [.ref zgr, .ref zru, .ref zag, .long dG.1, .int dG.2.1, .int dG.2.2.1, .int dG.2.2.2]))]) (w1 := [(zgr, .inr (2, [.int gG.1, .int gG.2.1, .int (bI gG.2.2.1), .long gG.2.2.2.1, .long gG.2.2.2.2.1, .long gG.2.2.2.2.2.1, .long gG.2.2.2.2.2.2.1, .long gG.2.2.2.2.2.2.2]))]) hP hD [1] [0] rfl rfl (by decide) (by decide) hk1 hFc hP1 hD1
          have hP := hP.sub (ws' := [(zga, .inr (1, [.ref zgr, .ref zru, .ref zag, .long dG.1, .int dG.2.1, .int dG.2.2.1, .int dG.2.2.2])), (zgr, .inr (2, [.int gG.1, .int gG.2.1, .int (bI gG.2.2.1), .long gG.2.2.2.1, .long gG.2.2.2.2.1, .long gG.2.2.2.2.2.1, .long gG.2.2.2.2.2.2.1, .long gG.2.2.2.2.2.2.2]))]) [0, 1] rfl
          have hD := hD.sub (ws' := [(zga, .inr (1, [.ref zgr, .ref zru, .ref zag, .long dG.1, .int dG.2.1, .int dG.2.2.1, .int dG.2.2.2])), (zgr, .inr (2, [.int gG.1, .int gG.2.1, .int (bI gG.2.2.1), .long gG.2.2.2.1, .long gG.2.2.2.2.1, .long gG.2.2.2.2.2.1, .long gG.2.2.2.2.2.2.1, .long gG.2.2.2.2.2.2.2]))]) [0, 1] (by decide) rfl
          clear hPc hDc hFc hP1 hD1 hk1
          refine lv_lstore (lv' := [(7, .long r11), (0, .ref zga), (1, .long cs), (3, .int y8), (4, .long y9), (6, .int y10)]) hx hb dX2_lawnsWithout_42 hl (by decide) rfl (fun ls hl => ?_)
          refine lv_lload hx hb dX2_lawnsWithout_44 (lv_at hl 4 rfl) ?_
          refine lv_lload hx hb dX2_lawnsWithout_46 (lv_at hl 0 rfl) ?_
          refine lv_ldc2 (v := (-1)) hx hb hown hw1 dX2_lawnsWithout_48 ?_
          refine lv_lxor hx hb dX2_lawnsWithout_51 ?_
          refine lv_land hx hb dX2_lawnsWithout_52 ?_
          refine lv_lstore (lv' := [(4, .long (y9 &&& (r11 ^^^ (-1)))), (7, .long r11), (0, .ref zga), (1, .long cs), (3, .int y8), (6, .int y10)]) hx hb dX2_lawnsWithout_53 hl (by decide) rfl (fun ls hl => ?_)
          refine lv_lload hx hb dX2_lawnsWithout_55 (lv_at hl 1 rfl) ?_
          refine lv_lload_n hx hb dX2_lawnsWithout_57 rfl (lv_at hl 3 rfl) ?_
          refine lv_land hx hb dX2_lawnsWithout_58 ?_
          refine lv_lconst (v := 0) hx hb dX2_lawnsWithout_59 (by decide) ?_
          refine W.lcmp hx hb dX2_lawnsWithout_60 ?_
          obtain ⟨v12, hv, hf⟩ := vbind hf
          have K17 : ∀ (H : Heap) (locs : List Loc) (ls : Array Slot), va_P (dC, dI) vwCl [(zga, .inr (1, [.ref zgr, .ref zru, .ref zag, .long dG.1, .int dG.2.1, .int dG.2.2.1, .int dG.2.2.2])), (zgr, .inr (2, [.int gG.1, .int gG.2.1, .int (bI gG.2.2.1), .long gG.2.2.2.1, .long gG.2.2.2.2.1, .long gG.2.2.2.2.2.1, .long gG.2.2.2.2.2.2.1, .long gG.2.2.2.2.2.2.2]))] H → va_D (A_X2_lawnsWithout cI cJ zga zgr zru zag dG gG cs s.heap.size) [(zga, .inr (1, [.ref zgr, .ref zru, .ref zag, .long dG.1, .int dG.2.1, .int dG.2.2.1, .int dG.2.2.2])), (zgr, .inr (2, [.int gG.1, .int gG.2.1, .int (bI gG.2.2.1), .long gG.2.2.2.1, .long gG.2.2.2.2.1, .long gG.2.2.2.2.2.1, .long gG.2.2.2.2.2.2.1, .long gG.2.2.2.2.2.2.2]))] → va_S (A_X2_lawnsWithout cI cJ zga zgr zru zag dG gG cs s.heap.size) s.heap H locs → lv_has ls 9 [(0, .ref zga), (1, .long cs), (3, .int v12), (4, .long (y9 &&& (r11 ^^^ (-1)))), (6, .int y10)] → W p l e rm_X2_lawnsWithout s m args below meth c H locs 0 0 (MQ below (Q_X2_lawnsWithout dC dI cI cJ zga zgr zru zag dG gG cs s.heap.size R) args s 0 0 (A_X2_lawnsWithout cI cJ zga zgr zru zag dG gG cs s.heap.size)) (F0 m 67 ls []) := by
            intro H locs ls hP hD hS hl
            refine lv_iinc (v := (y10 + 1)) (lv' := [(6, .int (y10 + 1)), (0, .ref zga), (1, .long cs), (3, .int v12), (4, .long (y9 &&& (r11 ^^^ (-1))))]) hx hb dX2_lawnsWithout_67 hl (k := 4) rfl rfl (by decide) rfl (fun ls hl => ?_)
            refine lv_goto (tgt := 11) hx hb dX2_lawnsWithout_70 (by decide) ?_
            exact ih16 _ _ _ _ _ _ hf hP hD hS (lv_sub hl [1, 2, 3, 4, 0] rfl)
          clear hf; have hf := hv; clear hv
          refine lv_if_ne (tgt := 67) hx hb dX2_lawnsWithout_61 (by decide) (fun hc => ?_) (fun hc => ?_)
          · have hc := fun h9 => hc (lgz.mpr h9)
            rw [if_neg hc] at hf
            obtain rfl := hf
            exact K17 _ _ _ hP hD hS (lv_sub hl [2, 3, 4, 0, 5] rfl)
          · have hc := lgz.mp hc
            rw [if_pos hc] at hf
            refine lv_iinc (v := (y8 + 1)) (lv' := [(3, .int (y8 + 1)), (4, .long (y9 &&& (r11 ^^^ (-1)))), (7, .long r11), (0, .ref zga), (1, .long cs), (6, .int y10)]) hx hb dX2_lawnsWithout_64 hl (k := 4) rfl rfl (by decide) rfl (fun ls hl => ?_)
            obtain rfl := hf
            exact K17 _ _ _ hP hD hS (lv_sub hl [3, 4, 0, 1, 5] rfl)
  exact lp15 100 _ _ _ _ _ _ hv hP hD hS (lv_sub hl [3, 4, 2, 1, 0] rfl)
/-! HedgeGliders$Garden.lawns()I -/
def f_X2_lawns (dG : GaS) (gG : GrS) : Option (Int32) := Option.bind (f_X2_lawnsWithout dG gG 0) fun r1 => some r1
abbrev rm_X2_lawns : Room := ({ frames := 4, cells := 0, slots := 0, locals := 105 } : Room)
abbrev A_X2_lawns (cI cJ : ClassId) (zga zgr zru zag : Nat) (dG : GaS) (gG : GrS) (sz : Nat) : Nat → Prop := va_A [(zga, .inr (1, [.ref zgr, .ref zru, .ref zag, .long dG.1, .int dG.2.1, .int dG.2.2.1, .int dG.2.2.2])), (zgr, .inr (2, [.int gG.1, .int gG.2.1, .int (bI gG.2.2.1), .long gG.2.2.2.1, .long gG.2.2.2.2.1, .long gG.2.2.2.2.2.1, .long gG.2.2.2.2.2.2.1, .long gG.2.2.2.2.2.2.2]))] sz
abbrev Q_X2_lawns (dC : Nat → ClassId) (dI : Nat → Nat → Nat) (cI cJ : ClassId) (zga zgr zru zag : Nat) (dG : GaS) (gG : GrS) (sz : Nat) (R : Int32) : Array Value → State → Outcome → State → Prop := va_Qi (fun (r : Int32) (_ : Unit) => r = R) (fun u_ t => va_P (dC, dI) vwCl [(zga, .inr (1, [.ref zgr, .ref zru, .ref zag, .long dG.1, .int dG.2.1, .int dG.2.2.1, .int dG.2.2.2])), (zgr, .inr (2, [.int gG.1, .int gG.2.1, .int (bI gG.2.2.1), .long gG.2.2.2.1, .long gG.2.2.2.2.1, .long gG.2.2.2.2.2.1, .long gG.2.2.2.2.2.2.1, .long gG.2.2.2.2.2.2.2]))] t.heap ∧ va_K (dC, dI) vwCl [(cI, .int), (cJ, .long)] t ∧ va_D (A_X2_lawns cI cJ zga zgr zru zag dG gG sz) [(zga, .inr (1, [.ref zgr, .ref zru, .ref zag, .long dG.1, .int dG.2.1, .int dG.2.2.1, .int dG.2.2.2])), (zgr, .inr (2, [.int gG.1, .int gG.2.1, .int (bI gG.2.2.1), .long gG.2.2.2.1, .long gG.2.2.2.2.1, .long gG.2.2.2.2.2.1, .long gG.2.2.2.2.2.2.1, .long gG.2.2.2.2.2.2.2]))]) (A_X2_lawns cI cJ zga zgr zru zag dG gG sz)
set_option maxHeartbeats 4000000 in
set_option maxRecDepth 100000 in
theorem c_X2_lawns (l : Launch) (dC : Nat → ClassId) (dI : Nat → Nat → Nat) (cI cJ : ClassId) (zga zgr zru zag : Nat) (sz : Nat) (dG : GaS) (gG : GrS) (R : Int32) (hR : f_X2_lawns dG gG = some R) : Met l yX2_lawns wsX2_lawns rm_X2_lawns (va_Pc [.ref zga] (fun U => U.heap.size = sz ∧ va_P (dC, dI) vwCl [(zga, .inr (1, [.ref zgr, .ref zru, .ref zag, .long dG.1, .int dG.2.1, .int dG.2.2.1, .int dG.2.2.2])), (zgr, .inr (2, [.int gG.1, .int gG.2.1, .int (bI gG.2.2.1), .long gG.2.2.2.1, .long gG.2.2.2.2.1, .long gG.2.2.2.2.2.1, .long gG.2.2.2.2.2.2.1, .long gG.2.2.2.2.2.2.2]))] U.heap ∧ va_K (dC, dI) vwCl [(cI, .int), (cJ, .long)] U ∧ va_D (fun _ => True) [(zga, .inr (1, [.ref zgr, .ref zru, .ref zag, .long dG.1, .int dG.2.1, .int dG.2.2.1, .int dG.2.2.2])), (zgr, .inr (2, [.int gG.1, .int gG.2.1, .int (bI gG.2.2.1), .long gG.2.2.2.1, .long gG.2.2.2.2.1, .long gG.2.2.2.2.2.1, .long gG.2.2.2.2.2.2.1, .long gG.2.2.2.2.2.2.2]))])) (Q_X2_lawns dC dI cI cJ zga zgr zru zag dG gG sz R) 0 0 (A_X2_lawns cI cJ zga zgr zru zag dG gG sz) := by
  have hf := hR
  refine Met.ofW (cc := cX2_lawns) (maxL := 1) (ret := (some .int)) (by decide) rfl ?_
  intro p e s m args below meth c s₁ B hml hv
  obtain ⟨hargs, hsz, hP, hK, hD0⟩ := hv
  have hx := B.exec
  have hb := B.bytes
  have hr := B.returns
  have hts := atoms_spec (ws := wsX2_lawns) B.pre
  have hown : s.vm.findClass RX2 = some m.cls := findClass_of_methodNamed B.named
  have hlocks := B.notSynchronized
  subst hsz
  have hD : va_D (A_X2_lawns cI cJ zga zgr zru zag dG gG s.heap.size) [(zga, .inr (1, [.ref zgr, .ref zru, .ref zag, .long dG.1, .int dG.2.1, .int dG.2.2.1, .int dG.2.2.2])), (zgr, .inr (2, [.int gG.1, .int gG.2.1, .int (bI gG.2.2.1), .long gG.2.2.2.1, .long gG.2.2.2.2.1, .long gG.2.2.2.2.2.1, .long gG.2.2.2.2.2.2.1, .long gG.2.2.2.2.2.2.2]))] := hD0.self (sz := s.heap.size)
  have hA : ∀ q : Nat, s.heap.size ≤ q → (A_X2_lawns cI cJ zga zgr zru zag dG gG s.heap.size) q := fun q h => Or.inr h
  have hS : va_S (A_X2_lawns cI cJ zga zgr zru zag dG gG s.heap.size) s.heap s.heap [] := va_S.rf
  have hl := lv_entry ([.ref zga]) (n := 1) (Nat.le_of_ble_eq_true rfl)
  have he0 : entryFrame m args 1 = entryFrame m ([.ref zga] : List Value).toArray 1 := by rw [hargs]
  rw [he0, lg_entry_eq]
  generalize (lg_sl ([.ref zga]) ++ List.replicate (1 - (lg_sl ([.ref zga])).length) Slot.unset).toArray = ls at hl ⊢
  have hl : lv_has ls 1 [(0, .ref zga)] := hl
  rw [f_X2_lawns] at hf
  refine lv_aload_n hx hb dX2_lawns_0 rfl (lv_at hl 0 rfl) ?_
  refine lv_lconst (v := 0) hx hb dX2_lawns_1 (by decide) ?_
  obtain ⟨r1, hr1, hf⟩ := obind hf
  have hPc := hP.sub (ws' := [(zga, .inr (1, [.ref zgr, .ref zru, .ref zag, .long dG.1, .int dG.2.1, .int dG.2.2.1, .int dG.2.2.2])), (zgr, .inr (2, [.int gG.1, .int gG.2.1, .int (bI gG.2.2.1), .long gG.2.2.2.1, .long gG.2.2.2.2.1, .long gG.2.2.2.2.2.1, .long gG.2.2.2.2.2.2.1, .long gG.2.2.2.2.2.2.2]))]) [0, 1] rfl
  have hDc := hD.sub (ws' := [(zga, .inr (1, [.ref zgr, .ref zru, .ref zag, .long dG.1, .int dG.2.1, .int dG.2.2.1, .int dG.2.2.2])), (zgr, .inr (2, [.int gG.1, .int gG.2.1, .int (bI gG.2.2.1), .long gG.2.2.2.1, .long gG.2.2.2.2.1, .long gG.2.2.2.2.2.1, .long gG.2.2.2.2.2.2.1, .long gG.2.2.2.2.2.2.2]))]) [0, 1] (by decide) rfl
  have hFc := va_free (wc := [(zga, .inr (1, [.ref zgr, .ref zru, .ref zag, .long dG.1, .int dG.2.1, .int dG.2.2.1, .int dG.2.2.2])), (zgr, .inr (2, [.int gG.1, .int gG.2.1, .int (bI gG.2.2.1), .long gG.2.2.2.1, .long gG.2.2.2.2.1, .long gG.2.2.2.2.2.1, .long gG.2.2.2.2.2.2.1, .long gG.2.2.2.2.2.2.2]))]) hD hS hA [0, 1] rfl
  refine va_calli (va_runV (As := [.long 0]) (rest := []) ⟨hx, hb, hml, hown, hts⟩ (c_X2_lawnsWithout l dC dI cI cJ zga zgr zru zag s.heap.size dG gG 0 _ hr1) (cwV 1 hts gX2_lawns_X2_lawnsWithout rfl rfl rfl (by decide +kernel) ⟨Nat.le_of_ble_eq_true rfl, Nat.le_of_ble_eq_true rfl⟩) ⟨fun a U gg mk q => by obtain ⟨q0, q1, qP, qK, qD⟩ := q; exact ⟨q0, q1, qP, va_K.moved (u := U) (U := U.calling gg mk a) (Vm.Alike.refl U.vm) qK, qD⟩, va_recv hK hPc (ci := 1) (q0 := 0) rfl rfl, fun U hU hW => ⟨rfl, by rw [hU], by rw [hU]; exact hPc, va_K.moved hW.alike hK, hDc.weaken (fun _ _ _ _ => trivial)⟩⟩ rfl rfl hl.1 rfl (lv_room (Nat.le_of_ble_eq_true rfl)) dX2_lawns_2 ⟨Nat.zero_le _, Nat.zero_le _⟩) hS (fun q _ h => hFc q h) hFc (fun r_ u_ t H locs ht hvm hw hB hz1 hk1 hS => ?_)
  obtain rfl := hw.symm
  obtain ⟨hP1, -, hD1⟩ := hB
  rw [ht] at hP1
  obtain ⟨hP, hD⟩ := va_join (wr := []) (w1 := [(zga, .inr (1, [.ref zgr, .ref zru, .ref zag, .long dG.1, .int dG.2.1, .int dG.2.2.1, .int dG.2.2.2])), (zgr, .inr (2, [.int gG.1, .int gG.2.1, .int (bI gG.2.2.1), .long gG.2.2.2.1, .long gG.2.2.2.2.1, .long gG.2.2.2.2.2.1, .long gG.2.2.2.2.2.2.1, .long gG.2.2.2.2.2.2.2]))]) hP hD [0, 1] [] rfl rfl (by decide) (by decide) hk1 hFc hP1 hD1
  have hP := hP.sub (ws' := [(zga, .inr (1, [.ref zgr, .ref zru, .ref zag, .long dG.1, .int dG.2.1, .int dG.2.2.1, .int dG.2.2.2])), (zgr, .inr (2, [.int gG.1, .int gG.2.1, .int (bI gG.2.2.1), .long gG.2.2.2.1, .long gG.2.2.2.2.1, .long gG.2.2.2.2.2.1, .long gG.2.2.2.2.2.2.1, .long gG.2.2.2.2.2.2.2]))]) [0, 1] rfl
  have hD := hD.sub (ws' := [(zga, .inr (1, [.ref zgr, .ref zru, .ref zag, .long dG.1, .int dG.2.1, .int dG.2.2.1, .int dG.2.2.2])), (zgr, .inr (2, [.int gG.1, .int gG.2.1, .int (bI gG.2.2.1), .long gG.2.2.2.1, .long gG.2.2.2.2.1, .long gG.2.2.2.2.2.1, .long gG.2.2.2.2.2.2.1, .long gG.2.2.2.2.2.2.2]))]) [0, 1] (by decide) rfl
  clear hPc hDc hFc hP1 hD1 hk1
  obtain rfl := Option.some.inj hf
  exact W.iret (v := r1) hx hb hr (fun t ht hW => ⟨⟨r1, (), rfl, rfl, by rw [ht]; exact hP, va_K.moved hW.alike hK, hD⟩, hS.F ht⟩) hS.2.2 dX2_lawns_5
/-! HedgeGliders$Garden.greatestLawn()I -/
def lp_X2_greatestLawn_10 (dG : GaS) (gG : GrS) : Nat → Int32 → Int64 → Int32 → Option (Int32)
  | 0, _, _, _ => none
  | nf + 1, y8, y9, y10 => if 64 ≤ y10 then (some y8) else (if y9 = 0 then (some y8) else (Option.bind (f_X3_lawn gG (y9 &&& (-y9)) (f_X2_open dG gG)) fun r11 => bindv (if y8 < (f_J13_bitCount_95d88 r11) then (f_J13_bitCount_95d88 r11) else y8) fun x12 => lp_X2_greatestLawn_10 dG gG nf x12 (y9 &&& (r11 ^^^ (-1))) (y10 + 1)))
def f_X2_greatestLawn (dG : GaS) (gG : GrS) : Option (Int32) := Option.bind (lp_X2_greatestLawn_10 dG gG 100 0 (f_X2_open dG gG) 0) fun v13 => some v13
abbrev rm_X2_greatestLawn : Room := ({ frames := 3, cells := 0, slots := 0, locals := 77 } : Room)
abbrev A_X2_greatestLawn (cI cJ : ClassId) (zga zgr zru zag : Nat) (dG : GaS) (gG : GrS) (sz : Nat) : Nat → Prop := va_A [(zga, .inr (1, [.ref zgr, .ref zru, .ref zag, .long dG.1, .int dG.2.1, .int dG.2.2.1, .int dG.2.2.2])), (zgr, .inr (2, [.int gG.1, .int gG.2.1, .int (bI gG.2.2.1), .long gG.2.2.2.1, .long gG.2.2.2.2.1, .long gG.2.2.2.2.2.1, .long gG.2.2.2.2.2.2.1, .long gG.2.2.2.2.2.2.2]))] sz
abbrev Q_X2_greatestLawn (dC : Nat → ClassId) (dI : Nat → Nat → Nat) (cI cJ : ClassId) (zga zgr zru zag : Nat) (dG : GaS) (gG : GrS) (sz : Nat) (R : Int32) : Array Value → State → Outcome → State → Prop := va_Qi (fun (r : Int32) (_ : Unit) => r = R) (fun u_ t => va_P (dC, dI) vwCl [(zga, .inr (1, [.ref zgr, .ref zru, .ref zag, .long dG.1, .int dG.2.1, .int dG.2.2.1, .int dG.2.2.2])), (zgr, .inr (2, [.int gG.1, .int gG.2.1, .int (bI gG.2.2.1), .long gG.2.2.2.1, .long gG.2.2.2.2.1, .long gG.2.2.2.2.2.1, .long gG.2.2.2.2.2.2.1, .long gG.2.2.2.2.2.2.2]))] t.heap ∧ va_K (dC, dI) vwCl [(cI, .int), (cJ, .long)] t ∧ va_D (A_X2_greatestLawn cI cJ zga zgr zru zag dG gG sz) [(zga, .inr (1, [.ref zgr, .ref zru, .ref zag, .long dG.1, .int dG.2.1, .int dG.2.2.1, .int dG.2.2.2])), (zgr, .inr (2, [.int gG.1, .int gG.2.1, .int (bI gG.2.2.1), .long gG.2.2.2.1, .long gG.2.2.2.2.1, .long gG.2.2.2.2.2.1, .long gG.2.2.2.2.2.2.1, .long gG.2.2.2.2.2.2.2]))]) (A_X2_greatestLawn cI cJ zga zgr zru zag dG gG sz)
set_option maxHeartbeats 4000000 in
set_option maxRecDepth 100000 in
theorem c_X2_greatestLawn (l : Launch) (dC : Nat → ClassId) (dI : Nat → Nat → Nat) (cI cJ : ClassId) (zga zgr zru zag : Nat) (sz : Nat) (dG : GaS) (gG : GrS) (R : Int32) (hR : f_X2_greatestLawn dG gG = some R) : Met l yX2_greatestLawn wsX2_greatestLawn rm_X2_greatestLawn (va_Pc [.ref zga] (fun U => U.heap.size = sz ∧ va_P (dC, dI) vwCl [(zga, .inr (1, [.ref zgr, .ref zru, .ref zag, .long dG.1, .int dG.2.1, .int dG.2.2.1, .int dG.2.2.2])), (zgr, .inr (2, [.int gG.1, .int gG.2.1, .int (bI gG.2.2.1), .long gG.2.2.2.1, .long gG.2.2.2.2.1, .long gG.2.2.2.2.2.1, .long gG.2.2.2.2.2.2.1, .long gG.2.2.2.2.2.2.2]))] U.heap ∧ va_K (dC, dI) vwCl [(cI, .int), (cJ, .long)] U ∧ va_D (fun _ => True) [(zga, .inr (1, [.ref zgr, .ref zru, .ref zag, .long dG.1, .int dG.2.1, .int dG.2.2.1, .int dG.2.2.2])), (zgr, .inr (2, [.int gG.1, .int gG.2.1, .int (bI gG.2.2.1), .long gG.2.2.2.1, .long gG.2.2.2.2.1, .long gG.2.2.2.2.2.1, .long gG.2.2.2.2.2.2.1, .long gG.2.2.2.2.2.2.2]))])) (Q_X2_greatestLawn dC dI cI cJ zga zgr zru zag dG gG sz R) 0 0 (A_X2_greatestLawn cI cJ zga zgr zru zag dG gG sz) := by
  have hf := hR
  refine Met.ofW (cc := cX2_greatestLawn) (maxL := 7) (ret := (some .int)) (by decide) rfl ?_
  intro p e s m args below meth c s₁ B hml hv
  obtain ⟨hargs, hsz, hP, hK, hD0⟩ := hv
  have hx := B.exec
  have hb := B.bytes
  have hr := B.returns
  have hts := atoms_spec (ws := wsX2_greatestLawn) B.pre
  have hown : s.vm.findClass RX2 = some m.cls := findClass_of_methodNamed B.named
  have hlocks := B.notSynchronized
  subst hsz
  have hD : va_D (A_X2_greatestLawn cI cJ zga zgr zru zag dG gG s.heap.size) [(zga, .inr (1, [.ref zgr, .ref zru, .ref zag, .long dG.1, .int dG.2.1, .int dG.2.2.1, .int dG.2.2.2])), (zgr, .inr (2, [.int gG.1, .int gG.2.1, .int (bI gG.2.2.1), .long gG.2.2.2.1, .long gG.2.2.2.2.1, .long gG.2.2.2.2.2.1, .long gG.2.2.2.2.2.2.1, .long gG.2.2.2.2.2.2.2]))] := hD0.self (sz := s.heap.size)
  have hA : ∀ q : Nat, s.heap.size ≤ q → (A_X2_greatestLawn cI cJ zga zgr zru zag dG gG s.heap.size) q := fun q h => Or.inr h
  have hS : va_S (A_X2_greatestLawn cI cJ zga zgr zru zag dG gG s.heap.size) s.heap s.heap [] := va_S.rf
  have hinX2 : ∀ w ∈ wsX20, w ∈ wsX2_greatestLawn := by decide +kernel
  have hw0 := hts (.fieldLink RX2 15 "HedgeGliders$Garden" "ground" "LHedgeGliders$Ground;") (by decide +kernel)
  have hw1 := hts (.constantLong RX2 47 (-1)) (by decide +kernel)
  have hw2 := hts (.methodLink RX2 74 Lib.Math.max.name) (by decide +kernel)
  have hw3 := hts (.static Lib.Math.max.name) (by decide +kernel)
  have hw4 := hts (.initialized "java/lang/Math") (by decide +kernel)
  have hw5 := hts (.code Lib.Math.max.name Lib.Math.max.code 2 (some .int)) (by decide +kernel)
  have hl := lv_entry ([.ref zga]) (n := 7) (Nat.le_of_ble_eq_true rfl)
  have he0 : entryFrame m args 7 = entryFrame m ([.ref zga] : List Value).toArray 7 := by rw [hargs]
  rw [he0, lg_entry_eq]
  generalize (lg_sl ([.ref zga]) ++ List.replicate (7 - (lg_sl ([.ref zga])).length) Slot.unset).toArray = ls at hl ⊢
  have hl : lv_has ls 7 [(0, .ref zga)] := hl
  rw [f_X2_greatestLawn] at hf
  refine lv_iconst (v := 0) hx hb dX2_greatestLawn_0 (by decide) ?_
  refine lv_istore_n (lv' := [(1, .int 0), (0, .ref zga)]) hx hb dX2_greatestLawn_1 rfl hl (by decide) rfl (fun ls hl => ?_)
  refine lv_aload_n hx hb dX2_greatestLawn_2 rfl (lv_at hl 1 rfl) ?_
  have hPc := hP.sub (ws' := [(zga, .inr (1, [.ref zgr, .ref zru, .ref zag, .long dG.1, .int dG.2.1, .int dG.2.2.1, .int dG.2.2.2])), (zgr, .inr (2, [.int gG.1, .int gG.2.1, .int (bI gG.2.2.1), .long gG.2.2.2.1, .long gG.2.2.2.2.1, .long gG.2.2.2.2.2.1, .long gG.2.2.2.2.2.2.1, .long gG.2.2.2.2.2.2.2]))]) [0, 1] rfl
  have hDc := hD.sub (ws' := [(zga, .inr (1, [.ref zgr, .ref zru, .ref zag, .long dG.1, .int dG.2.1, .int dG.2.2.1, .int dG.2.2.2])), (zgr, .inr (2, [.int gG.1, .int gG.2.1, .int (bI gG.2.2.1), .long gG.2.2.2.1, .long gG.2.2.2.2.1, .long gG.2.2.2.2.2.1, .long gG.2.2.2.2.2.2.1, .long gG.2.2.2.2.2.2.2]))]) [0, 1] (by decide) rfl
  have hFc := va_free (wc := [(zga, .inr (1, [.ref zgr, .ref zru, .ref zag, .long dG.1, .int dG.2.1, .int dG.2.2.1, .int dG.2.2.2])), (zgr, .inr (2, [.int gG.1, .int gG.2.1, .int (bI gG.2.2.1), .long gG.2.2.2.1, .long gG.2.2.2.2.1, .long gG.2.2.2.2.2.1, .long gG.2.2.2.2.2.2.1, .long gG.2.2.2.2.2.2.2]))]) hD hS hA [0, 1] rfl
  refine va_calll (va_runV (As := []) (rest := []) ⟨hx, hb, hml, hown, hts⟩ (c_X2_open l dC dI cI cJ zga zgr zru zag s.heap.size dG gG) (cwV 0 hts gX2_greatestLawn_X2_open rfl rfl rfl (by decide +kernel) ⟨Nat.le_of_ble_eq_true rfl, Nat.le_of_ble_eq_true rfl⟩) ⟨fun a U gg mk q => by obtain ⟨q0, q1, qP, qK, qD⟩ := q; exact ⟨q0, q1, qP, va_K.moved (u := U) (U := U.calling gg mk a) (Vm.Alike.refl U.vm) qK, qD⟩, va_recv hK hPc (ci := 1) (q0 := 0) rfl rfl, fun U hU hW => ⟨rfl, by rw [hU], by rw [hU]; exact hPc, va_K.moved hW.alike hK, hDc.weaken (fun _ _ _ _ => trivial)⟩⟩ rfl rfl hl.1 rfl (lv_room (Nat.le_of_ble_eq_true rfl)) dX2_greatestLawn_3 ⟨Nat.zero_le _, Nat.zero_le _⟩) hS (fun q _ h => hFc q h) hFc (fun r_ u_ t H locs ht hvm hw hB hz1 hk1 hS => ?_)
  obtain rfl := hw.symm
  obtain ⟨hP1, -, hD1⟩ := hB
  rw [ht] at hP1
  obtain ⟨hP, hD⟩ := va_join (wr := []) (w1 := [(zga, .inr (1, [.ref zgr, .ref zru, .ref zag, .long dG.1, .int dG.2.1, .int dG.2.2.1, .int dG.2.2.2])), (zgr, .inr (2, [.int gG.1, .int gG.2.1, .int (bI gG.2.2.1), .long gG.2.2.2.1, .long gG.2.2.2.2.1, .long gG.2.2.2.2.2.1, .long gG.2.2.2.2.2.2.1, .long gG.2.2.2.2.2.2.2]))]) hP hD [0, 1] [] rfl rfl (by decide) (by decide) hk1 hFc hP1 hD1
  have hP := hP.sub (ws' := [(zga, .inr (1, [.ref zgr, .ref zru, .ref zag, .long dG.1, .int dG.2.1, .int dG.2.2.1, .int dG.2.2.2])), (zgr, .inr (2, [.int gG.1, .int gG.2.1, .int (bI gG.2.2.1), .long gG.2.2.2.1, .long gG.2.2.2.2.1, .long gG.2.2.2.2.2.1, .long gG.2.2.2.2.2.2.1, .long gG.2.2.2.2.2.2.2]))]) [0, 1] rfl
  have hD := hD.sub (ws' := [(zga, .inr (1, [.ref zgr, .ref zru, .ref zag, .long dG.1, .int dG.2.1, .int dG.2.2.1, .int dG.2.2.2])), (zgr, .inr (2, [.int gG.1, .int gG.2.1, .int (bI gG.2.2.1), .long gG.2.2.2.1, .long gG.2.2.2.2.1, .long gG.2.2.2.2.2.1, .long gG.2.2.2.2.2.2.1, .long gG.2.2.2.2.2.2.2]))]) [0, 1] (by decide) rfl
  clear hPc hDc hFc hP1 hD1 hk1
  refine lv_lstore_n (lv' := [(2, .long (f_X2_open dG gG)), (1, .int 0), (0, .ref zga)]) hx hb dX2_greatestLawn_6 rfl hl (by decide) rfl (fun ls hl => ?_)
  refine lv_iconst (v := 0) hx hb dX2_greatestLawn_7 (by decide) ?_
  refine lv_istore (lv' := [(4, .int 0), (2, .long (f_X2_open dG gG)), (1, .int 0), (0, .ref zga)]) hx hb dX2_greatestLawn_8 hl (by decide) rfl (fun ls hl => ?_)
  obtain ⟨v13, hv, hf⟩ := obind hf
  have K14 : ∀ (H : Heap) (locs : List Loc) (ls : Array Slot), va_P (dC, dI) vwCl [(zga, .inr (1, [.ref zgr, .ref zru, .ref zag, .long dG.1, .int dG.2.1, .int dG.2.2.1, .int dG.2.2.2])), (zgr, .inr (2, [.int gG.1, .int gG.2.1, .int (bI gG.2.2.1), .long gG.2.2.2.1, .long gG.2.2.2.2.1, .long gG.2.2.2.2.2.1, .long gG.2.2.2.2.2.2.1, .long gG.2.2.2.2.2.2.2]))] H → va_D (A_X2_greatestLawn cI cJ zga zgr zru zag dG gG s.heap.size) [(zga, .inr (1, [.ref zgr, .ref zru, .ref zag, .long dG.1, .int dG.2.1, .int dG.2.2.1, .int dG.2.2.2])), (zgr, .inr (2, [.int gG.1, .int gG.2.1, .int (bI gG.2.2.1), .long gG.2.2.2.1, .long gG.2.2.2.2.1, .long gG.2.2.2.2.2.1, .long gG.2.2.2.2.2.2.1, .long gG.2.2.2.2.2.2.2]))] → va_S (A_X2_greatestLawn cI cJ zga zgr zru zag dG gG s.heap.size) s.heap H locs → lv_has ls 7 [(1, .int v13)] → W p l e rm_X2_greatestLawn s m args below meth c H locs 0 0 (MQ below (Q_X2_greatestLawn dC dI cI cJ zga zgr zru zag dG gG s.heap.size R) args s 0 0 (A_X2_greatestLawn cI cJ zga zgr zru zag dG gG s.heap.size)) (F0 m 65 ls []) := by
    intro H locs ls hP hD hS hl
    refine lv_iload_n hx hb dX2_greatestLawn_65 rfl (lv_at hl 0 rfl) ?_
    obtain rfl := Option.some.inj hf
    exact W.iret (v := v13) hx hb hr (fun t ht hW => ⟨⟨v13, (), rfl, rfl, by rw [ht]; exact hP, va_K.moved hW.alike hK, hD⟩, hS.F ht⟩) hS.2.2 dX2_greatestLawn_66
  have lp15 : ∀ (nf : Nat) (y8 : Int32) (y9 : Int64) (y10 : Int32) (H : Heap) (locs : List Loc) (ls : Array Slot), lp_X2_greatestLawn_10 dG gG nf y8 y9 y10 = some v13 → va_P (dC, dI) vwCl [(zga, .inr (1, [.ref zgr, .ref zru, .ref zag, .long dG.1, .int dG.2.1, .int dG.2.2.1, .int dG.2.2.2])), (zgr, .inr (2, [.int gG.1, .int gG.2.1, .int (bI gG.2.2.1), .long gG.2.2.2.1, .long gG.2.2.2.2.1, .long gG.2.2.2.2.2.1, .long gG.2.2.2.2.2.2.1, .long gG.2.2.2.2.2.2.2]))] H → va_D (A_X2_greatestLawn cI cJ zga zgr zru zag dG gG s.heap.size) [(zga, .inr (1, [.ref zgr, .ref zru, .ref zag, .long dG.1, .int dG.2.1, .int dG.2.2.1, .int dG.2.2.2])), (zgr, .inr (2, [.int gG.1, .int gG.2.1, .int (bI gG.2.2.1), .long gG.2.2.2.1, .long gG.2.2.2.2.1, .long gG.2.2.2.2.2.1, .long gG.2.2.2.2.2.2.1, .long gG.2.2.2.2.2.2.2]))] → va_S (A_X2_greatestLawn cI cJ zga zgr zru zag dG gG s.heap.size) s.heap H locs → lv_has ls 7 [(0, .ref zga), (1, .int y8), (2, .long y9), (4, .int y10)] → W p l e rm_X2_greatestLawn s m args below meth c H locs 0 0 (MQ below (Q_X2_greatestLawn dC dI cI cJ zga zgr zru zag dG gG s.heap.size R) args s 0 0 (A_X2_greatestLawn cI cJ zga zgr zru zag dG gG s.heap.size)) (F0 m 10 ls []) := by
    intro nf
    induction nf with
    | zero => intro y8 y9 y10 H locs ls h9; exact nomatch h9
    | succ nf ih16 =>
      intro y8 y9 y10 H locs ls hf hP hD hS hl
      rw [lp_X2_greatestLawn_10.eq_2] at hf
      refine lv_iload hx hb dX2_greatestLawn_10 (lv_at hl 3 rfl) ?_
      refine lv_bipush (v := 64) hx hb dX2_greatestLawn_12 (by decide) ?_
      refine lv_icmp_ge (tgt := 65) hx hb dX2_greatestLawn_14 (by decide) (fun hc => ?_) (fun hc => ?_)
      · rw [if_pos hc] at hf
        obtain rfl := Option.some.inj hf
        exact K14 _ _ _ hP hD hS (lv_sub hl [1] rfl)
      · rw [if_neg hc] at hf
        refine lv_lload_n hx hb dX2_greatestLawn_17 rfl (lv_at hl 2 rfl) ?_
        refine lv_lconst (v := 0) hx hb dX2_greatestLawn_18 (by decide) ?_
        refine W.lcmp hx hb dX2_greatestLawn_19 ?_
        refine lv_if_eq (tgt := 65) hx hb dX2_greatestLawn_20 (by decide) (fun hc => ?_) (fun hc => ?_)
        · have hc := lgz.mp hc
          rw [if_pos hc] at hf
          obtain rfl := Option.some.inj hf
          exact K14 _ _ _ hP hD hS (lv_sub hl [1] rfl)
        · have hc := fun h9 => hc (lgz.mpr h9)
          rw [if_neg hc] at hf
          refine lv_aload_n hx hb dX2_greatestLawn_23 rfl (lv_at hl 0 rfl) ?_
          refine va_get (D := (dC, dI)) (ci := 1) (v := .ref zgr) (C := RX2) (T := TX2) (N := 7) hx hb hts hinX2 hown hK hP 0 rfl rfl 0 (by decide) hw0 (fun _ h9 => h9) rfl dX2_greatestLawn_24 ?_
          refine lv_lload_n hx hb dX2_greatestLawn_27 rfl (lv_at hl 2 rfl) ?_
          refine lv_lload_n hx hb dX2_greatestLawn_28 rfl (lv_at hl 2 rfl) ?_
          refine lv_lneg hx hb dX2_greatestLawn_29 ?_
          refine lv_land hx hb dX2_greatestLawn_30 ?_
          refine lv_aload_n hx hb dX2_greatestLawn_31 rfl (lv_at hl 0 rfl) ?_
          have hPc := hP.sub (ws' := [(zga, .inr (1, [.ref zgr, .ref zru, .ref zag, .long dG.1, .int dG.2.1, .int dG.2.2.1, .int dG.2.2.2])), (zgr, .inr (2, [.int gG.1, .int gG.2.1, .int (bI gG.2.2.1), .long gG.2.2.2.1, .long gG.2.2.2.2.1, .long gG.2.2.2.2.2.1, .long gG.2.2.2.2.2.2.1, .long gG.2.2.2.2.2.2.2]))]) [0, 1] rfl
          have hDc := hD.sub (ws' := [(zga, .inr (1, [.ref zgr, .ref zru, .ref zag, .long dG.1, .int dG.2.1, .int dG.2.2.1, .int dG.2.2.2])), (zgr, .inr (2, [.int gG.1, .int gG.2.1, .int (bI gG.2.2.1), .long gG.2.2.2.1, .long gG.2.2.2.2.1, .long gG.2.2.2.2.2.1, .long gG.2.2.2.2.2.2.1, .long gG.2.2.2.2.2.2.2]))]) [0, 1] (by decide) rfl
          have hFc := va_free (wc := [(zga, .inr (1, [.ref zgr, .ref zru, .ref zag, .long dG.1, .int dG.2.1, .int dG.2.2.1, .int dG.2.2.2])), (zgr, .inr (2, [.int gG.1, .int gG.2.1, .int (bI gG.2.2.1), .long gG.2.2.2.1, .long gG.2.2.2.2.1, .long gG.2.2.2.2.2.1, .long gG.2.2.2.2.2.2.1, .long gG.2.2.2.2.2.2.2]))]) hD hS hA [0, 1] rfl
          refine va_calll (va_runV (As := []) (rest := [.long (y9 &&& (-y9)), .ref zgr]) ⟨hx, hb, hml, hown, hts⟩ (c_X2_open l dC dI cI cJ zga zgr zru zag H.size dG gG) (cwV 0 hts gX2_greatestLawn_X2_open rfl rfl rfl (by decide +kernel) ⟨Nat.le_of_ble_eq_true rfl, Nat.le_of_ble_eq_true rfl⟩) ⟨fun a U gg mk q => by obtain ⟨q0, q1, qP, qK, qD⟩ := q; exact ⟨q0, q1, qP, va_K.moved (u := U) (U := U.calling gg mk a) (Vm.Alike.refl U.vm) qK, qD⟩, va_recv hK hPc (ci := 1) (q0 := 0) rfl rfl, fun U hU hW => ⟨rfl, by rw [hU], by rw [hU]; exact hPc, va_K.moved hW.alike hK, hDc.weaken (fun _ _ _ _ => trivial)⟩⟩ rfl rfl hl.1 rfl (lv_room (Nat.le_of_ble_eq_true rfl)) dX2_greatestLawn_32 ⟨Nat.zero_le _, Nat.zero_le _⟩) hS (fun q _ h => hFc q h) hFc (fun r_ u_ t H locs ht hvm hw hB hz1 hk1 hS => ?_)
          obtain rfl := hw.symm
          obtain ⟨hP1, -, hD1⟩ := hB
          rw [ht] at hP1
          obtain ⟨hP, hD⟩ := va_join (wr := []) (w1 := [(zga, .inr (1, [.ref zgr, .ref zru, .ref zag, .long dG.1, .int dG.2.1, .int dG.2.2.1, .int dG.2.2.2])), (zgr, .inr (2, [.int gG.1, .int gG.2.1, .int (bI gG.2.2.1), .long gG.2.2.2.1, .long gG.2.2.2.2.1, .long gG.2.2.2.2.2.1, .long gG.2.2.2.2.2.2.1, .long gG.2.2.2.2.2.2.2]))]) hP hD [0, 1] [] rfl rfl (by decide) (by decide) hk1 hFc hP1 hD1
          have hP := hP.sub (ws' := [(zga, .inr (1, [.ref zgr, .ref zru, .ref zag, .long dG.1, .int dG.2.1, .int dG.2.2.1, .int dG.2.2.2])), (zgr, .inr (2, [.int gG.1, .int gG.2.1, .int (bI gG.2.2.1), .long gG.2.2.2.1, .long gG.2.2.2.2.1, .long gG.2.2.2.2.2.1, .long gG.2.2.2.2.2.2.1, .long gG.2.2.2.2.2.2.2]))]) [0, 1] rfl
          have hD := hD.sub (ws' := [(zga, .inr (1, [.ref zgr, .ref zru, .ref zag, .long dG.1, .int dG.2.1, .int dG.2.2.1, .int dG.2.2.2])), (zgr, .inr (2, [.int gG.1, .int gG.2.1, .int (bI gG.2.2.1), .long gG.2.2.2.1, .long gG.2.2.2.2.1, .long gG.2.2.2.2.2.1, .long gG.2.2.2.2.2.2.1, .long gG.2.2.2.2.2.2.2]))]) [0, 1] (by decide) rfl
          clear hPc hDc hFc hP1 hD1 hk1
          obtain ⟨r11, hr11, hf⟩ := obind hf
          have hPc := hP.sub (ws' := [(zgr, .inr (2, [.int gG.1, .int gG.2.1, .int (bI gG.2.2.1), .long gG.2.2.2.1, .long gG.2.2.2.2.1, .long gG.2.2.2.2.2.1, .long gG.2.2.2.2.2.2.1, .long gG.2.2.2.2.2.2.2]))]) [1] rfl
          have hDc := hD.sub (ws' := [(zgr, .inr (2, [.int gG.1, .int gG.2.1, .int (bI gG.2.2.1), .long gG.2.2.2.1, .long gG.2.2.2.2.1, .long gG.2.2.2.2.2.1, .long gG.2.2.2.2.2.2.1, .long gG.2.2.2.2.2.2.2]))]) [1] (by decide) rfl
          have hFc := va_free (wc := [(zgr, .inr (2, [.int gG.1, .int gG.2.1, .int (bI gG.2.2.1), .long gG.2.2.2.1, .long gG.2.2.2.2.1, .long gG.2.2.2.2.2.1, .long gG.2.2.2.2.2.2.1, .long gG.2.2.2.2.2.2.2]))]) hD hS hA [1] rfl
          refine va_calll (va_runV (As := [.long (y9 &&& (-y9)), .long (f_X2_open dG gG)]) (rest := []) ⟨hx, hb, hml, hown, hts⟩ (c_X3_lawn l dC dI cI cJ zgr H.size gG (y9 &&& (-y9)) (f_X2_open dG gG) _ hr11) (cwV 2 hts gX2_greatestLawn_X3_lawn rfl rfl rfl (by decide +kernel) ⟨Nat.le_of_ble_eq_true rfl, Nat.le_of_ble_eq_true rfl⟩) ⟨fun a U gg mk q => by obtain ⟨q0, q1, qP, qK, qD⟩ := q; exact ⟨q0, q1, qP, va_K.moved (u := U) (U := U.calling gg mk a) (Vm.Alike.refl U.vm) qK, qD⟩, va_recv hK hPc (ci := 2) (q0 := 0) rfl rfl, fun U hU hW => ⟨rfl, by rw [hU], by rw [hU]; exact hPc, va_K.moved hW.alike hK, hDc.weaken (fun _ _ _ _ => trivial)⟩⟩ rfl rfl hl.1 rfl (lv_room (Nat.le_of_ble_eq_true rfl)) dX2_greatestLawn_35 ⟨Nat.zero_le _, Nat.zero_le _⟩) hS (fun q _ h => hFc q h) hFc (fun r_ u_ t H locs ht hvm hw hB hz1 hk1 hS => ?_)
          obtain rfl := hw.symm
          obtain ⟨hP1, -, hD1⟩ := hB
          rw [ht] at hP1
          obtain ⟨hP, hD⟩ := va_join (wr := [(zga, .inr (1, [.ref zgr, .ref zru, .ref zag, .long dG.1, .int dG.2.1, .int dG.2.2.1, .int dG.2.2.2]))]) (w1 := [(zgr, .inr (2, [.int gG.1, .int gG.2.1, .int (bI gG.2.2.1), .long gG.2.2.2.1, .long gG.2.2.2.2.1, .long gG.2.2.2.2.2.1, .long gG.2.2.2.2.2.2.1, .long gG.2.2.2.2.2.2.2]))]) hP hD [1] [0] rfl rfl (by decide) (by decide) hk1 hFc hP1 hD1
          have hP := hP.sub (ws' := [(zga, .inr (1, [.ref zgr, .ref zru, .ref zag, .long dG.1, .int dG.2.1, .int dG.2.2.1, .int dG.2.2.2])), (zgr, .inr (2, [.int gG.1, .int gG.2.1, .int (bI gG.2.2.1), .long gG.2.2.2.1, .long gG.2.2.2.2.1, .long gG.2.2.2.2.2.1, .long gG.2.2.2.2.2.2.1, .long gG.2.2.2.2.2.2.2]))]) [0, 1] rfl
          have hD := hD.sub (ws' := [(zga, .inr (1, [.ref zgr, .ref zru, .ref zag, .long dG.1, .int dG.2.1, .int dG.2.2.1, .int dG.2.2.2])), (zgr, .inr (2, [.int gG.1, .int gG.2.1, .int (bI gG.2.2.1), .long gG.2.2.2.1, .long gG.2.2.2.2.1, .long gG.2.2.2.2.2.1, .long gG.2.2.2.2.2.2.1, .long gG.2.2.2.2.2.2.2]))]) [0, 1] (by decide) rfl
          clear hPc hDc hFc hP1 hD1 hk1
          refine lv_lstore (lv' := [(5, .long r11), (0, .ref zga), (1, .int y8), (2, .long y9), (4, .int y10)]) hx hb dX2_greatestLawn_38 hl (by decide) rfl (fun ls hl => ?_)
          refine lv_lload_n hx hb dX2_greatestLawn_40 rfl (lv_at hl 3 rfl) ?_
          refine lv_lload hx hb dX2_greatestLawn_41 (lv_at hl 0 rfl) ?_
          refine lv_ldc2 (v := (-1)) hx hb hown hw1 dX2_greatestLawn_43 ?_
          refine lv_lxor hx hb dX2_greatestLawn_46 ?_
          refine lv_land hx hb dX2_greatestLawn_47 ?_
          refine lv_lstore_n (lv' := [(2, .long (y9 &&& (r11 ^^^ (-1)))), (5, .long r11), (0, .ref zga), (1, .int y8), (4, .int y10)]) hx hb dX2_greatestLawn_48 rfl hl (by decide) rfl (fun ls hl => ?_)
          refine lv_iload_n hx hb dX2_greatestLawn_49 rfl (lv_at hl 3 rfl) ?_
          refine lv_lload hx hb dX2_greatestLawn_50 (lv_at hl 1 rfl) ?_
          have hPc := hP.sub (ws' := []) [] rfl
          have hDc := hD.sub (ws' := []) [] (by decide) rfl
          have hFc := va_free (wc := []) hD hS hA [] rfl
          refine va_calli (va_runS (As := [.long r11]) (rest := [.int y8]) ⟨hx, hb, hml, hown, hts⟩ (c_J13_bitCount_95d88 l dC dI cI cJ  H.size r11) (va_cwS 1 hts gX2_greatestLawn_J13_bitCount_95d88 rfl rfl rfl (by decide +kernel) ⟨Nat.le_of_ble_eq_true rfl, Nat.le_of_ble_eq_true rfl⟩) ⟨fun a U gg mk q => by obtain ⟨q0, q1, qP, qK, qD⟩ := q; exact ⟨q0, q1, qP, va_K.moved (u := U) (U := U.calling gg mk a) (Vm.Alike.refl U.vm) qK, qD⟩, fun U hU hW => ⟨rfl, by rw [hU], by rw [hU]; exact hPc, va_K.moved hW.alike hK, hDc.weaken (fun _ _ _ _ => trivial)⟩⟩ rfl rfl hl.1 rfl (lv_room (Nat.le_of_ble_eq_true rfl)) dX2_greatestLawn_52 ⟨Nat.zero_le _, Nat.zero_le _⟩) hS (fun q _ h => hFc q h) hFc (fun r_ u_ t H locs ht hvm hw hB hz1 hk1 hS => ?_)
          obtain rfl := hw.symm
          obtain ⟨hP1, -, hD1⟩ := hB
          rw [ht] at hP1
          obtain ⟨hP, hD⟩ := va_join (wr := [(zga, .inr (1, [.ref zgr, .ref zru, .ref zag, .long dG.1, .int dG.2.1, .int dG.2.2.1, .int dG.2.2.2])), (zgr, .inr (2, [.int gG.1, .int gG.2.1, .int (bI gG.2.2.1), .long gG.2.2.2.1, .long gG.2.2.2.2.1, .long gG.2.2.2.2.2.1, .long gG.2.2.2.2.2.2.1, .long gG.2.2.2.2.2.2.2]))]) (w1 := []) hP hD [] [0, 1] rfl rfl (by decide) (by decide) hk1 hFc hP1 hD1
          have hP := hP.sub (ws' := [(zga, .inr (1, [.ref zgr, .ref zru, .ref zag, .long dG.1, .int dG.2.1, .int dG.2.2.1, .int dG.2.2.2])), (zgr, .inr (2, [.int gG.1, .int gG.2.1, .int (bI gG.2.2.1), .long gG.2.2.2.1, .long gG.2.2.2.2.1, .long gG.2.2.2.2.2.1, .long gG.2.2.2.2.2.2.1, .long gG.2.2.2.2.2.2.2]))]) [0, 1] rfl
          have hD := hD.sub (ws' := [(zga, .inr (1, [.ref zgr, .ref zru, .ref zag, .long dG.1, .int dG.2.1, .int dG.2.2.1, .int dG.2.2.2])), (zgr, .inr (2, [.int gG.1, .int gG.2.1, .int (bI gG.2.2.1), .long gG.2.2.2.1, .long gG.2.2.2.2.1, .long gG.2.2.2.2.2.1, .long gG.2.2.2.2.2.2.1, .long gG.2.2.2.2.2.2.2]))]) [0, 1] (by decide) rfl
          clear hPc hDc hFc hP1 hD1 hk1
          refine va_mmax hx hb (hml.trans hl.1.symm) hown hw2 hw3 hw4 hw5 (Nat.le_of_ble_eq_true rfl) (Nat.le_of_ble_eq_true rfl) (Nat.zero_le _) (Nat.zero_le _) dX2_greatestLawn_55 ?_
          obtain ⟨x12, hx12, hf⟩ := vbind hf
          refine topi_e hx12 ?_
          refine lv_istore_n (lv' := [(1, .int x12), (2, .long (y9 &&& (r11 ^^^ (-1)))), (5, .long r11), (0, .ref zga), (4, .int y10)]) hx hb dX2_greatestLawn_58 rfl hl (by decide) rfl (fun ls hl => ?_)
          refine lv_iinc (v := (y10 + 1)) (lv' := [(4, .int (y10 + 1)), (1, .int x12), (2, .long (y9 &&& (r11 ^^^ (-1)))), (5, .long r11), (0, .ref zga)]) hx hb dX2_greatestLawn_59 hl (k := 4) rfl rfl (by decide) rfl (fun ls hl => ?_)
          refine lv_goto (tgt := 10) hx hb dX2_greatestLawn_62 (by decide) ?_
          exact ih16 _ _ _ _ _ _ hf hP hD hS (lv_sub hl [4, 1, 2, 0] rfl)
  exact lp15 100 _ _ _ _ _ _ hv hP hD hS (lv_sub hl [3, 2, 1, 0] rfl)
/-! HedgeGliders$Garden.stillLawns()I -/
def f_X2_stillLawns (dG : GaS) (gG : GrS) (rR : RuS) : Option (Int32) := Option.bind (f_X4_born rR gG dG.1) fun r1 => Option.bind (f_X2_lawnsWithout dG gG r1) fun r3 => some r3
abbrev rm_X2_stillLawns : Room := ({ frames := 4, cells := 0, slots := 0, locals := 105 } : Room)
abbrev A_X2_stillLawns (cI cJ : ClassId) (zga zgr zru zcr zag : Nat) (dG : GaS) (gG : GrS) (rR : RuS) (qC : CrS) (sz : Nat) : Nat → Prop := va_A [(zga, .inr (1, [.ref zgr, .ref zru, .ref zag, .long dG.1, .int dG.2.1, .int dG.2.2.1, .int dG.2.2.2])), (zgr, .inr (2, [.int gG.1, .int gG.2.1, .int (bI gG.2.2.1), .long gG.2.2.2.1, .long gG.2.2.2.2.1, .long gG.2.2.2.2.2.1, .long gG.2.2.2.2.2.2.1, .long gG.2.2.2.2.2.2.2])), (zru, .inr (3, [.ref zgr, .ref zcr, .int rR.1, .int rR.2])), (zcr, .inr (0, [.long qC.1, .long qC.2.1, .long qC.2.2.1, .long qC.2.2.2]))] sz
abbrev Q_X2_stillLawns (dC : Nat → ClassId) (dI : Nat → Nat → Nat) (cI cJ : ClassId) (zga zgr zru zcr zag : Nat) (dG : GaS) (gG : GrS) (rR : RuS) (qC : CrS) (sz : Nat) (R : Int32) : Array Value → State → Outcome → State → Prop := va_Qi (fun (r : Int32) (_ : CrS) => r = R) (fun u_ t => va_P (dC, dI) vwCl [(zga, .inr (1, [.ref zgr, .ref zru, .ref zag, .long dG.1, .int dG.2.1, .int dG.2.2.1, .int dG.2.2.2])), (zgr, .inr (2, [.int gG.1, .int gG.2.1, .int (bI gG.2.2.1), .long gG.2.2.2.1, .long gG.2.2.2.2.1, .long gG.2.2.2.2.2.1, .long gG.2.2.2.2.2.2.1, .long gG.2.2.2.2.2.2.2])), (zru, .inr (3, [.ref zgr, .ref zcr, .int rR.1, .int rR.2])), (zcr, .inr (0, [.long u_.1, .long u_.2.1, .long u_.2.2.1, .long u_.2.2.2]))] t.heap ∧ va_K (dC, dI) vwCl [(cI, .int), (cJ, .long)] t ∧ va_D (A_X2_stillLawns cI cJ zga zgr zru zcr zag dG gG rR qC sz) [(zga, .inr (1, [.ref zgr, .ref zru, .ref zag, .long dG.1, .int dG.2.1, .int dG.2.2.1, .int dG.2.2.2])), (zgr, .inr (2, [.int gG.1, .int gG.2.1, .int (bI gG.2.2.1), .long gG.2.2.2.1, .long gG.2.2.2.2.1, .long gG.2.2.2.2.2.1, .long gG.2.2.2.2.2.2.1, .long gG.2.2.2.2.2.2.2])), (zru, .inr (3, [.ref zgr, .ref zcr, .int rR.1, .int rR.2])), (zcr, .inr (0, [.long u_.1, .long u_.2.1, .long u_.2.2.1, .long u_.2.2.2]))]) (A_X2_stillLawns cI cJ zga zgr zru zcr zag dG gG rR qC sz)
set_option maxHeartbeats 4000000 in
set_option maxRecDepth 100000 in
theorem c_X2_stillLawns (l : Launch) (dC : Nat → ClassId) (dI : Nat → Nat → Nat) (cI cJ : ClassId) (zga zgr zru zcr zag : Nat) (sz : Nat) (dG : GaS) (gG : GrS) (rR : RuS) (qC : CrS) (R : Int32) (hR : f_X2_stillLawns dG gG rR = some R) : Met l yX2_stillLawns wsX2_stillLawns rm_X2_stillLawns (va_Pc [.ref zga] (fun U => U.heap.size = sz ∧ va_P (dC, dI) vwCl [(zga, .inr (1, [.ref zgr, .ref zru, .ref zag, .long dG.1, .int dG.2.1, .int dG.2.2.1, .int dG.2.2.2])), (zgr, .inr (2, [.int gG.1, .int gG.2.1, .int (bI gG.2.2.1), .long gG.2.2.2.1, .long gG.2.2.2.2.1, .long gG.2.2.2.2.2.1, .long gG.2.2.2.2.2.2.1, .long gG.2.2.2.2.2.2.2])), (zru, .inr (3, [.ref zgr, .ref zcr, .int rR.1, .int rR.2])), (zcr, .inr (0, [.long qC.1, .long qC.2.1, .long qC.2.2.1, .long qC.2.2.2]))] U.heap ∧ va_K (dC, dI) vwCl [(cI, .int), (cJ, .long)] U ∧ va_D (fun _ => True) [(zga, .inr (1, [.ref zgr, .ref zru, .ref zag, .long dG.1, .int dG.2.1, .int dG.2.2.1, .int dG.2.2.2])), (zgr, .inr (2, [.int gG.1, .int gG.2.1, .int (bI gG.2.2.1), .long gG.2.2.2.1, .long gG.2.2.2.2.1, .long gG.2.2.2.2.2.1, .long gG.2.2.2.2.2.2.1, .long gG.2.2.2.2.2.2.2])), (zru, .inr (3, [.ref zgr, .ref zcr, .int rR.1, .int rR.2])), (zcr, .inr (0, [.long qC.1, .long qC.2.1, .long qC.2.2.1, .long qC.2.2.2]))])) (Q_X2_stillLawns dC dI cI cJ zga zgr zru zcr zag dG gG rR qC sz R) 0 0 (A_X2_stillLawns cI cJ zga zgr zru zcr zag dG gG rR qC sz) := by
  have hf := hR
  refine Met.ofW (cc := cX2_stillLawns) (maxL := 1) (ret := (some .int)) (by decide) rfl ?_
  intro p e s m args below meth c s₁ B hml hv
  obtain ⟨hargs, hsz, hP, hK, hD0⟩ := hv
  have hx := B.exec
  have hb := B.bytes
  have hr := B.returns
  have hts := atoms_spec (ws := wsX2_stillLawns) B.pre
  have hown : s.vm.findClass RX2 = some m.cls := findClass_of_methodNamed B.named
  have hlocks := B.notSynchronized
  subst hsz
  have hD : va_D (A_X2_stillLawns cI cJ zga zgr zru zcr zag dG gG rR qC s.heap.size) [(zga, .inr (1, [.ref zgr, .ref zru, .ref zag, .long dG.1, .int dG.2.1, .int dG.2.2.1, .int dG.2.2.2])), (zgr, .inr (2, [.int gG.1, .int gG.2.1, .int (bI gG.2.2.1), .long gG.2.2.2.1, .long gG.2.2.2.2.1, .long gG.2.2.2.2.2.1, .long gG.2.2.2.2.2.2.1, .long gG.2.2.2.2.2.2.2])), (zru, .inr (3, [.ref zgr, .ref zcr, .int rR.1, .int rR.2])), (zcr, .inr (0, [.long qC.1, .long qC.2.1, .long qC.2.2.1, .long qC.2.2.2]))] := hD0.self (sz := s.heap.size)
  have hA : ∀ q : Nat, s.heap.size ≤ q → (A_X2_stillLawns cI cJ zga zgr zru zcr zag dG gG rR qC s.heap.size) q := fun q h => Or.inr h
  have hS : va_S (A_X2_stillLawns cI cJ zga zgr zru zcr zag dG gG rR qC s.heap.size) s.heap s.heap [] := va_S.rf
  have hinX2 : ∀ w ∈ wsX20, w ∈ wsX2_stillLawns := by decide +kernel
  have hw0 := hts (.fieldLink RX2 19 "HedgeGliders$Garden" "rules" "LHedgeGliders$Rules;") (by decide +kernel)
  have hw1 := hts (.fieldLink RX2 23 "HedgeGliders$Garden" "hedges" "J") (by decide +kernel)
  have hl := lv_entry ([.ref zga]) (n := 1) (Nat.le_of_ble_eq_true rfl)
  have he0 : entryFrame m args 1 = entryFrame m ([.ref zga] : List Value).toArray 1 := by rw [hargs]
  rw [he0, lg_entry_eq]
  generalize (lg_sl ([.ref zga]) ++ List.replicate (1 - (lg_sl ([.ref zga])).length) Slot.unset).toArray = ls at hl ⊢
  have hl : lv_has ls 1 [(0, .ref zga)] := hl
  rw [f_X2_stillLawns] at hf
  refine lv_aload_n hx hb dX2_stillLawns_0 rfl (lv_at hl 0 rfl) ?_
  refine lv_aload_n hx hb dX2_stillLawns_1 rfl (lv_at hl 0 rfl) ?_
  refine va_get (D := (dC, dI)) (ci := 1) (v := .ref zru) (C := RX2) (T := TX2) (N := 7) hx hb hts hinX2 hown hK hP 0 rfl rfl 1 (by decide) hw0 (fun _ h9 => h9) rfl dX2_stillLawns_2 ?_
  refine lv_aload_n hx hb dX2_stillLawns_5 rfl (lv_at hl 0 rfl) ?_
  refine va_get (D := (dC, dI)) (ci := 1) (v := .long dG.1) (C := RX2) (T := TX2) (N := 7) hx hb hts hinX2 hown hK hP 0 rfl rfl 3 (by decide) hw1 (fun _ h9 => h9) rfl dX2_stillLawns_6 ?_
  obtain ⟨r1, hr1, hf⟩ := obind hf
  have hPc := hP.sub (ws' := [(zru, .inr (3, [.ref zgr, .ref zcr, .int rR.1, .int rR.2])), (zgr, .inr (2, [.int gG.1, .int gG.2.1, .int (bI gG.2.2.1), .long gG.2.2.2.1, .long gG.2.2.2.2.1, .long gG.2.2.2.2.2.1, .long gG.2.2.2.2.2.2.1, .long gG.2.2.2.2.2.2.2])), (zcr, .inr (0, [.long qC.1, .long qC.2.1, .long qC.2.2.1, .long qC.2.2.2]))]) [2, 1, 3] rfl
  have hDc := hD.sub (ws' := [(zru, .inr (3, [.ref zgr, .ref zcr, .int rR.1, .int rR.2])), (zgr, .inr (2, [.int gG.1, .int gG.2.1, .int (bI gG.2.2.1), .long gG.2.2.2.1, .long gG.2.2.2.2.1, .long gG.2.2.2.2.2.1, .long gG.2.2.2.2.2.2.1, .long gG.2.2.2.2.2.2.2])), (zcr, .inr (0, [.long qC.1, .long qC.2.1, .long qC.2.2.1, .long qC.2.2.2]))]) [2, 1, 3] (by decide) rfl
  have hFc := va_free (wc := [(zru, .inr (3, [.ref zgr, .ref zcr, .int rR.1, .int rR.2])), (zgr, .inr (2, [.int gG.1, .int gG.2.1, .int (bI gG.2.2.1), .long gG.2.2.2.1, .long gG.2.2.2.2.1, .long gG.2.2.2.2.2.1, .long gG.2.2.2.2.2.2.1, .long gG.2.2.2.2.2.2.2])), (zcr, .inr (0, [.long qC.1, .long qC.2.1, .long qC.2.2.1, .long qC.2.2.2]))]) hD hS hA [2, 1, 3] rfl
  refine va_calll (va_runV (As := [.long dG.1]) (rest := [.ref zga]) ⟨hx, hb, hml, hown, hts⟩ (c_X4_born l dC dI cI cJ zru zgr zcr s.heap.size rR gG dG.1 qC _ hr1) (cwV 1 hts gX2_stillLawns_X4_born rfl rfl rfl (by decide +kernel) ⟨Nat.le_of_ble_eq_true rfl, Nat.le_of_ble_eq_true rfl⟩) ⟨fun a U gg mk q => by obtain ⟨q0, q1, qP, qK, qD⟩ := q; exact ⟨q0, q1, qP, va_K.moved (u := U) (U := U.calling gg mk a) (Vm.Alike.refl U.vm) qK, qD⟩, va_recv hK hPc (ci := 3) (q0 := 0) rfl rfl, fun U hU hW => ⟨rfl, by rw [hU], by rw [hU]; exact hPc, va_K.moved hW.alike hK, hDc.weaken (fun _ _ _ _ => trivial)⟩⟩ rfl rfl hl.1 rfl (lv_room (Nat.le_of_ble_eq_true rfl)) dX2_stillLawns_9 ⟨Nat.zero_le _, Nat.zero_le _⟩) hS (fun q _ h => hFc q h) hFc (fun r_ u_ t H locs ht hvm hw hB hz1 hk1 hS => ?_)
  obtain ⟨u2, rfl⟩ : ∃ z, z = u_ := ⟨_, rfl⟩
  obtain rfl := hw.symm
  obtain ⟨hP1, -, hD1⟩ := hB
  rw [ht] at hP1
  obtain ⟨hP, hD⟩ := va_join (wr := [(zga, .inr (1, [.ref zgr, .ref zru, .ref zag, .long dG.1, .int dG.2.1, .int dG.2.2.1, .int dG.2.2.2]))]) (w1 := [(zru, .inr (3, [.ref zgr, .ref zcr, .int rR.1, .int rR.2])), (zgr, .inr (2, [.int gG.1, .int gG.2.1, .int (bI gG.2.2.1), .long gG.2.2.2.1, .long gG.2.2.2.2.1, .long gG.2.2.2.2.2.1, .long gG.2.2.2.2.2.2.1, .long gG.2.2.2.2.2.2.2])), (zcr, .inr (0, [.long u2.1, .long u2.2.1, .long u2.2.2.1, .long u2.2.2.2]))]) hP hD [2, 1, 3] [0] rfl rfl (by decide) (by decide) hk1 hFc hP1 hD1
  have hP := hP.sub (ws' := [(zga, .inr (1, [.ref zgr, .ref zru, .ref zag, .long dG.1, .int dG.2.1, .int dG.2.2.1, .int dG.2.2.2])), (zgr, .inr (2, [.int gG.1, .int gG.2.1, .int (bI gG.2.2.1), .long gG.2.2.2.1, .long gG.2.2.2.2.1, .long gG.2.2.2.2.2.1, .long gG.2.2.2.2.2.2.1, .long gG.2.2.2.2.2.2.2])), (zru, .inr (3, [.ref zgr, .ref zcr, .int rR.1, .int rR.2])), (zcr, .inr (0, [.long u2.1, .long u2.2.1, .long u2.2.2.1, .long u2.2.2.2]))]) [0, 2, 1, 3] rfl
  have hD := hD.sub (ws' := [(zga, .inr (1, [.ref zgr, .ref zru, .ref zag, .long dG.1, .int dG.2.1, .int dG.2.2.1, .int dG.2.2.2])), (zgr, .inr (2, [.int gG.1, .int gG.2.1, .int (bI gG.2.2.1), .long gG.2.2.2.1, .long gG.2.2.2.2.1, .long gG.2.2.2.2.2.1, .long gG.2.2.2.2.2.2.1, .long gG.2.2.2.2.2.2.2])), (zru, .inr (3, [.ref zgr, .ref zcr, .int rR.1, .int rR.2])), (zcr, .inr (0, [.long u2.1, .long u2.2.1, .long u2.2.2.1, .long u2.2.2.2]))]) [0, 2, 1, 3] (by decide) rfl
  clear hPc hDc hFc hP1 hD1 hk1
  obtain ⟨r3, hr3, hf⟩ := obind hf
  have hPc := hP.sub (ws' := [(zga, .inr (1, [.ref zgr, .ref zru, .ref zag, .long dG.1, .int dG.2.1, .int dG.2.2.1, .int dG.2.2.2])), (zgr, .inr (2, [.int gG.1, .int gG.2.1, .int (bI gG.2.2.1), .long gG.2.2.2.1, .long gG.2.2.2.2.1, .long gG.2.2.2.2.2.1, .long gG.2.2.2.2.2.2.1, .long gG.2.2.2.2.2.2.2]))]) [0, 1] rfl
  have hDc := hD.sub (ws' := [(zga, .inr (1, [.ref zgr, .ref zru, .ref zag, .long dG.1, .int dG.2.1, .int dG.2.2.1, .int dG.2.2.2])), (zgr, .inr (2, [.int gG.1, .int gG.2.1, .int (bI gG.2.2.1), .long gG.2.2.2.1, .long gG.2.2.2.2.1, .long gG.2.2.2.2.2.1, .long gG.2.2.2.2.2.2.1, .long gG.2.2.2.2.2.2.2]))]) [0, 1] (by decide) rfl
  have hFc := va_free (wc := [(zga, .inr (1, [.ref zgr, .ref zru, .ref zag, .long dG.1, .int dG.2.1, .int dG.2.2.1, .int dG.2.2.2])), (zgr, .inr (2, [.int gG.1, .int gG.2.1, .int (bI gG.2.2.1), .long gG.2.2.2.1, .long gG.2.2.2.2.1, .long gG.2.2.2.2.2.1, .long gG.2.2.2.2.2.2.1, .long gG.2.2.2.2.2.2.2]))]) hD hS hA [0, 1] rfl
  refine va_calli (va_runV (As := [.long r1]) (rest := []) ⟨hx, hb, hml, hown, hts⟩ (c_X2_lawnsWithout l dC dI cI cJ zga zgr zru zag H.size dG gG r1 _ hr3) (cwV 1 hts gX2_stillLawns_X2_lawnsWithout rfl rfl rfl (by decide +kernel) ⟨Nat.le_of_ble_eq_true rfl, Nat.le_of_ble_eq_true rfl⟩) ⟨fun a U gg mk q => by obtain ⟨q0, q1, qP, qK, qD⟩ := q; exact ⟨q0, q1, qP, va_K.moved (u := U) (U := U.calling gg mk a) (Vm.Alike.refl U.vm) qK, qD⟩, va_recv hK hPc (ci := 1) (q0 := 0) rfl rfl, fun U hU hW => ⟨rfl, by rw [hU], by rw [hU]; exact hPc, va_K.moved hW.alike hK, hDc.weaken (fun _ _ _ _ => trivial)⟩⟩ rfl rfl hl.1 rfl (lv_room (Nat.le_of_ble_eq_true rfl)) dX2_stillLawns_12 ⟨Nat.zero_le _, Nat.zero_le _⟩) hS (fun q _ h => hFc q h) hFc (fun r_ u_ t H locs ht hvm hw hB hz1 hk1 hS => ?_)
  obtain rfl := hw.symm
  obtain ⟨hP1, -, hD1⟩ := hB
  rw [ht] at hP1
  obtain ⟨hP, hD⟩ := va_join (wr := [(zru, .inr (3, [.ref zgr, .ref zcr, .int rR.1, .int rR.2])), (zcr, .inr (0, [.long u2.1, .long u2.2.1, .long u2.2.2.1, .long u2.2.2.2]))]) (w1 := [(zga, .inr (1, [.ref zgr, .ref zru, .ref zag, .long dG.1, .int dG.2.1, .int dG.2.2.1, .int dG.2.2.2])), (zgr, .inr (2, [.int gG.1, .int gG.2.1, .int (bI gG.2.2.1), .long gG.2.2.2.1, .long gG.2.2.2.2.1, .long gG.2.2.2.2.2.1, .long gG.2.2.2.2.2.2.1, .long gG.2.2.2.2.2.2.2]))]) hP hD [0, 1] [2, 3] rfl rfl (by decide) (by decide) hk1 hFc hP1 hD1
  have hP := hP.sub (ws' := [(zga, .inr (1, [.ref zgr, .ref zru, .ref zag, .long dG.1, .int dG.2.1, .int dG.2.2.1, .int dG.2.2.2])), (zgr, .inr (2, [.int gG.1, .int gG.2.1, .int (bI gG.2.2.1), .long gG.2.2.2.1, .long gG.2.2.2.2.1, .long gG.2.2.2.2.2.1, .long gG.2.2.2.2.2.2.1, .long gG.2.2.2.2.2.2.2])), (zru, .inr (3, [.ref zgr, .ref zcr, .int rR.1, .int rR.2])), (zcr, .inr (0, [.long u2.1, .long u2.2.1, .long u2.2.2.1, .long u2.2.2.2]))]) [2, 3, 0, 1] rfl
  have hD := hD.sub (ws' := [(zga, .inr (1, [.ref zgr, .ref zru, .ref zag, .long dG.1, .int dG.2.1, .int dG.2.2.1, .int dG.2.2.2])), (zgr, .inr (2, [.int gG.1, .int gG.2.1, .int (bI gG.2.2.1), .long gG.2.2.2.1, .long gG.2.2.2.2.1, .long gG.2.2.2.2.2.1, .long gG.2.2.2.2.2.2.1, .long gG.2.2.2.2.2.2.2])), (zru, .inr (3, [.ref zgr, .ref zcr, .int rR.1, .int rR.2])), (zcr, .inr (0, [.long u2.1, .long u2.2.1, .long u2.2.2.1, .long u2.2.2.2]))]) [2, 3, 0, 1] (by decide) rfl
  clear hPc hDc hFc hP1 hD1 hk1
  obtain rfl := Option.some.inj hf
  exact W.iret (v := r3) hx hb hr (fun t ht hW => ⟨⟨r3, (u2), rfl, rfl, by rw [ht]; exact hP, va_K.moved hW.alike hK, hD⟩, hS.F ht⟩) hS.2.2 dX2_stillLawns_15
/-! HedgeGliders$Garden.copyFrom(LHedgeGliders$Garden;)V -/
def lp_X2_copyFrom_2 (aW : Nat → Int32) : Nat → Int32 → (Nat → Int32) → Option ((Nat → Int32))
  | 0, _, _ => none
  | nf + 1, y3, y4 => if 64 ≤ y3 then (some y4) else (if 64 ≤ y3 then (some y4) else (if y3 < 0 ∨ 64 ≤ y3.toNatClampNeg then none else if y3 < 0 ∨ 64 ≤ y3.toNatClampNeg then none else lp_X2_copyFrom_2 aW nf (y3 + 1) (upd y4 y3.toNatClampNeg (aW y3.toNatClampNeg))))
def f_X2_copyFrom (dG : GaS) (aG : Nat → Int32) (dW : GaS) (aW : Nat → Int32) : Option (GaS × (Nat → Int32)) := Option.bind (lp_X2_copyFrom_2 aW 100 0 aG) fun v5 => some (dW, v5)
abbrev rm_X2_copyFrom : Room := ({ frames := 0, cells := 0, slots := 0, locals := 0 } : Room)
abbrev A_X2_copyFrom (cI cJ : ClassId) (zga zag zwg zwa zgr zru : Nat) (dG : GaS) (aG : Nat → Int32) (dW : GaS) (aW : Nat → Int32) (sz : Nat) : Nat → Prop := va_A [(zga, .inr (1, [.ref zgr, .ref zru, .ref zag, .long dG.1, .int dG.2.1, .int dG.2.2.1, .int dG.2.2.2])), (zag, .inl (cI, 64, .inl aG)), (zwg, .inr (1, [.ref zgr, .ref zru, .ref zwa, .long dW.1, .int dW.2.1, .int dW.2.2.1, .int dW.2.2.2])), (zwa, .inl (cI, 64, .inl aW))] sz
abbrev Q_X2_copyFrom (dC : Nat → ClassId) (dI : Nat → Nat → Nat) (cI cJ : ClassId) (zga zag zwg zwa zgr zru : Nat) (dG : GaS) (aG : Nat → Int32) (dW : GaS) (aW : Nat → Int32) (sz : Nat) (R : GaS × (Nat → Int32)) : Array Value → State → Outcome → State → Prop := va_Qv (fun _ : Unit => True) (fun u_ t => va_P (dC, dI) vwCl [(zga, .inr (1, [.ref zgr, .ref zru, .ref zag, .long R.1.1, .int R.1.2.1, .int R.1.2.2.1, .int R.1.2.2.2])), (zag, .inl (cI, 64, .inl R.2)), (zwg, .inr (1, [.ref zgr, .ref zru, .ref zwa, .long dW.1, .int dW.2.1, .int dW.2.2.1, .int dW.2.2.2])), (zwa, .inl (cI, 64, .inl aW))] t.heap ∧ va_K (dC, dI) vwCl [(cI, .int), (cJ, .long)] t ∧ va_D (A_X2_copyFrom cI cJ zga zag zwg zwa zgr zru dG aG dW aW sz) [(zga, .inr (1, [.ref zgr, .ref zru, .ref zag, .long R.1.1, .int R.1.2.1, .int R.1.2.2.1, .int R.1.2.2.2])), (zag, .inl (cI, 64, .inl R.2)), (zwg, .inr (1, [.ref zgr, .ref zru, .ref zwa, .long dW.1, .int dW.2.1, .int dW.2.2.1, .int dW.2.2.2])), (zwa, .inl (cI, 64, .inl aW))]) (A_X2_copyFrom cI cJ zga zag zwg zwa zgr zru dG aG dW aW sz)
set_option maxHeartbeats 4000000 in
set_option maxRecDepth 100000 in
theorem c_X2_copyFrom (l : Launch) (dC : Nat → ClassId) (dI : Nat → Nat → Nat) (cI cJ : ClassId) (zga zag zwg zwa zgr zru : Nat) (sz : Nat) (dG : GaS) (aG : Nat → Int32) (dW : GaS) (aW : Nat → Int32) (R : GaS × (Nat → Int32)) (hR : f_X2_copyFrom dG aG dW aW = some R) : Met l yX2_copyFrom wsX2_copyFrom rm_X2_copyFrom (va_Pc [.ref zga, .ref zwg] (fun U => U.heap.size = sz ∧ va_P (dC, dI) vwCl [(zga, .inr (1, [.ref zgr, .ref zru, .ref zag, .long dG.1, .int dG.2.1, .int dG.2.2.1, .int dG.2.2.2])), (zag, .inl (cI, 64, .inl aG)), (zwg, .inr (1, [.ref zgr, .ref zru, .ref zwa, .long dW.1, .int dW.2.1, .int dW.2.2.1, .int dW.2.2.2])), (zwa, .inl (cI, 64, .inl aW))] U.heap ∧ va_K (dC, dI) vwCl [(cI, .int), (cJ, .long)] U ∧ va_D (fun _ => True) [(zga, .inr (1, [.ref zgr, .ref zru, .ref zag, .long dG.1, .int dG.2.1, .int dG.2.2.1, .int dG.2.2.2])), (zag, .inl (cI, 64, .inl aG)), (zwg, .inr (1, [.ref zgr, .ref zru, .ref zwa, .long dW.1, .int dW.2.1, .int dW.2.2.1, .int dW.2.2.2])), (zwa, .inl (cI, 64, .inl aW))])) (Q_X2_copyFrom dC dI cI cJ zga zag zwg zwa zgr zru dG aG dW aW sz R) 0 0 (A_X2_copyFrom cI cJ zga zag zwg zwa zgr zru dG aG dW aW sz) := by
  have hf := hR
  refine Met.ofW (cc := cX2_copyFrom) (maxL := 3) (ret := none) (by decide) rfl ?_
  intro p e s m args below meth c s₁ B hml hv
  obtain ⟨hargs, hsz, hP, hK, hD0⟩ := hv
  have hx := B.exec
  have hb := B.bytes
  have hr := B.returns
  have hts := atoms_spec (ws := wsX2_copyFrom) B.pre
  have hown : s.vm.findClass RX2 = some m.cls := findClass_of_methodNamed B.named
  have hlocks := B.notSynchronized
  subst hsz
  have hD : va_D (A_X2_copyFrom cI cJ zga zag zwg zwa zgr zru dG aG dW aW s.heap.size) [(zga, .inr (1, [.ref zgr, .ref zru, .ref zag, .long dG.1, .int dG.2.1, .int dG.2.2.1, .int dG.2.2.2])), (zag, .inl (cI, 64, .inl aG)), (zwg, .inr (1, [.ref zgr, .ref zru, .ref zwa, .long dW.1, .int dW.2.1, .int dW.2.2.1, .int dW.2.2.2])), (zwa, .inl (cI, 64, .inl aW))] := hD0.self (sz := s.heap.size)
  have hA : ∀ q : Nat, s.heap.size ≤ q → (A_X2_copyFrom cI cJ zga zag zwg zwa zgr zru dG aG dW aW s.heap.size) q := fun q h => Or.inr h
  have hS : va_S (A_X2_copyFrom cI cJ zga zag zwg zwa zgr zru dG aG dW aW s.heap.size) s.heap s.heap [] := va_S.rf
  have hinX2 : ∀ w ∈ wsX20, w ∈ wsX2_copyFrom := by decide +kernel
  have hw0 := hts (.fieldLink RX2 9 "HedgeGliders$Garden" "ages" "[I") (by decide +kernel)
  have hw1 := hts (.fieldLink RX2 23 "HedgeGliders$Garden" "hedges" "J") (by decide +kernel)
  have hw2 := hts (.fieldLink RX2 27 "HedgeGliders$Garden" "year" "I") (by decide +kernel)
  have hw3 := hts (.fieldLink RX2 31 "HedgeGliders$Garden" "births" "I") (by decide +kernel)
  have hw4 := hts (.fieldLink RX2 34 "HedgeGliders$Garden" "deaths" "I") (by decide +kernel)
  have hl := lv_entry ([.ref zga, .ref zwg]) (n := 3) (Nat.le_of_ble_eq_true rfl)
  have he0 : entryFrame m args 3 = entryFrame m ([.ref zga, .ref zwg] : List Value).toArray 3 := by rw [hargs]
  rw [he0, lg_entry_eq]
  generalize (lg_sl ([.ref zga, .ref zwg]) ++ List.replicate (3 - (lg_sl ([.ref zga, .ref zwg])).length) Slot.unset).toArray = ls at hl ⊢
  have hl : lv_has ls 3 [(0, .ref zga), (1, .ref zwg)] := hl
  rw [f_X2_copyFrom] at hf
  refine lv_iconst (v := 0) hx hb dX2_copyFrom_0 (by decide) ?_
  refine lv_istore_n (lv' := [(2, .int 0), (0, .ref zga), (1, .ref zwg)]) hx hb dX2_copyFrom_1 rfl hl (by decide) rfl (fun ls hl => ?_)
  obtain ⟨v5, hv, hf⟩ := obind hf
  have K6 : ∀ (H : Heap) (locs : List Loc) (ls : Array Slot), va_P (dC, dI) vwCl [(zga, .inr (1, [.ref zgr, .ref zru, .ref zag, .long dG.1, .int dG.2.1, .int dG.2.2.1, .int dG.2.2.2])), (zag, .inl (cI, 64, .inl v5)), (zwg, .inr (1, [.ref zgr, .ref zru, .ref zwa, .long dW.1, .int dW.2.1, .int dW.2.2.1, .int dW.2.2.2])), (zwa, .inl (cI, 64, .inl aW))] H → va_D (A_X2_copyFrom cI cJ zga zag zwg zwa zgr zru dG aG dW aW s.heap.size) [(zga, .inr (1, [.ref zgr, .ref zru, .ref zag, .long dG.1, .int dG.2.1, .int dG.2.2.1, .int dG.2.2.2])), (zag, .inl (cI, 64, .inl v5)), (zwg, .inr (1, [.ref zgr, .ref zru, .ref zwa, .long dW.1, .int dW.2.1, .int dW.2.2.1, .int dW.2.2.2])), (zwa, .inl (cI, 64, .inl aW))] → va_S (A_X2_copyFrom cI cJ zga zag zwg zwa zgr zru dG aG dW aW s.heap.size) s.heap H locs → lv_has ls 3 [(0, .ref zga), (1, .ref zwg)] → W p l e rm_X2_copyFrom s m args below meth c H locs 0 0 (MQ below (Q_X2_copyFrom dC dI cI cJ zga zag zwg zwa zgr zru dG aG dW aW s.heap.size R) args s 0 0 (A_X2_copyFrom cI cJ zga zag zwg zwa zgr zru dG aG dW aW s.heap.size)) (F0 m 38 ls []) := by
    intro H locs ls hP hD hS hl
    refine lv_aload_n hx hb dX2_copyFrom_38 rfl (lv_at hl 0 rfl) ?_
    refine lv_aload_n hx hb dX2_copyFrom_39 rfl (lv_at hl 1 rfl) ?_
    refine va_get (D := (dC, dI)) (ci := 1) (v := .long dW.1) (C := RX2) (T := TX2) (N := 7) hx hb hts hinX2 hown hK hP 2 rfl rfl 3 (by decide) hw1 (fun _ h9 => h9) rfl dX2_copyFrom_40 ?_
    refine va_put (D := (dC, dI)) (ci := 1) (v := .long dW.1) (ty := .long) (C := RX2) (T := TX2) (N := 7) hx hb hts hinX2 tyX2 tyX2_ok nmX2 hown hK hP hD hS 0 rfl rfl 3 (by decide) hw1 (fun _ h9 => h9) rfl (by decide +kernel) rfl rfl (Nat.le_of_ble_eq_true rfl) dX2_copyFrom_43 (fun H locs hP hD hS => ?_)
    have hP : va_P (dC, dI) vwCl [(zga, .inr (1, [.ref zgr, .ref zru, .ref zag, .long dW.1, .int dG.2.1, .int dG.2.2.1, .int dG.2.2.2])), (zag, .inl (cI, 64, .inl v5)), (zwg, .inr (1, [.ref zgr, .ref zru, .ref zwa, .long dW.1, .int dW.2.1, .int dW.2.2.1, .int dW.2.2.2])), (zwa, .inl (cI, 64, .inl aW))] H := hP
    have hD : va_D (A_X2_copyFrom cI cJ zga zag zwg zwa zgr zru dG aG dW aW s.heap.size) [(zga, .inr (1, [.ref zgr, .ref zru, .ref zag, .long dW.1, .int dG.2.1, .int dG.2.2.1, .int dG.2.2.2])), (zag, .inl (cI, 64, .inl v5)), (zwg, .inr (1, [.ref zgr, .ref zru, .ref zwa, .long dW.1, .int dW.2.1, .int dW.2.2.1, .int dW.2.2.2])), (zwa, .inl (cI, 64, .inl aW))] := hD
    refine lv_aload_n hx hb dX2_copyFrom_46 rfl (lv_at hl 0 rfl) ?_
    refine lv_aload_n hx hb dX2_copyFrom_47 rfl (lv_at hl 1 rfl) ?_
    refine va_get (D := (dC, dI)) (ci := 1) (v := .int dW.2.1) (C := RX2) (T := TX2) (N := 7) hx hb hts hinX2 hown hK hP 2 rfl rfl 4 (by decide) hw2 (fun _ h9 => h9) rfl dX2_copyFrom_48 ?_
    refine va_put (D := (dC, dI)) (ci := 1) (v := .int dW.2.1) (ty := .int) (C := RX2) (T := TX2) (N := 7) hx hb hts hinX2 tyX2 tyX2_ok nmX2 hown hK hP hD hS 0 rfl rfl 4 (by decide) hw2 (fun _ h9 => h9) rfl (by decide +kernel) rfl rfl (Nat.le_of_ble_eq_true rfl) dX2_copyFrom_51 (fun H locs hP hD hS => ?_)
    have hP : va_P (dC, dI) vwCl [(zga, .inr (1, [.ref zgr, .ref zru, .ref zag, .long dW.1, .int dW.2.1, .int dG.2.2.1, .int dG.2.2.2])), (zag, .inl (cI, 64, .inl v5)), (zwg, .inr (1, [.ref zgr, .ref zru, .ref zwa, .long dW.1, .int dW.2.1, .int dW.2.2.1, .int dW.2.2.2])), (zwa, .inl (cI, 64, .inl aW))] H := hP
    have hD : va_D (A_X2_copyFrom cI cJ zga zag zwg zwa zgr zru dG aG dW aW s.heap.size) [(zga, .inr (1, [.ref zgr, .ref zru, .ref zag, .long dW.1, .int dW.2.1, .int dG.2.2.1, .int dG.2.2.2])), (zag, .inl (cI, 64, .inl v5)), (zwg, .inr (1, [.ref zgr, .ref zru, .ref zwa, .long dW.1, .int dW.2.1, .int dW.2.2.1, .int dW.2.2.2])), (zwa, .inl (cI, 64, .inl aW))] := hD
    refine lv_aload_n hx hb dX2_copyFrom_54 rfl (lv_at hl 0 rfl) ?_
    refine lv_aload_n hx hb dX2_copyFrom_55 rfl (lv_at hl 1 rfl) ?_
    refine va_get (D := (dC, dI)) (ci := 1) (v := .int dW.2.2.1) (C := RX2) (T := TX2) (N := 7) hx hb hts hinX2 hown hK hP 2 rfl rfl 5 (by decide) hw3 (fun _ h9 => h9) rfl dX2_copyFrom_56 ?_
    refine va_put (D := (dC, dI)) (ci := 1) (v := .int dW.2.2.1) (ty := .int) (C := RX2) (T := TX2) (N := 7) hx hb hts hinX2 tyX2 tyX2_ok nmX2 hown hK hP hD hS 0 rfl rfl 5 (by decide) hw3 (fun _ h9 => h9) rfl (by decide +kernel) rfl rfl (Nat.le_of_ble_eq_true rfl) dX2_copyFrom_59 (fun H locs hP hD hS => ?_)
    have hP : va_P (dC, dI) vwCl [(zga, .inr (1, [.ref zgr, .ref zru, .ref zag, .long dW.1, .int dW.2.1, .int dW.2.2.1, .int dG.2.2.2])), (zag, .inl (cI, 64, .inl v5)), (zwg, .inr (1, [.ref zgr, .ref zru, .ref zwa, .long dW.1, .int dW.2.1, .int dW.2.2.1, .int dW.2.2.2])), (zwa, .inl (cI, 64, .inl aW))] H := hP
    have hD : va_D (A_X2_copyFrom cI cJ zga zag zwg zwa zgr zru dG aG dW aW s.heap.size) [(zga, .inr (1, [.ref zgr, .ref zru, .ref zag, .long dW.1, .int dW.2.1, .int dW.2.2.1, .int dG.2.2.2])), (zag, .inl (cI, 64, .inl v5)), (zwg, .inr (1, [.ref zgr, .ref zru, .ref zwa, .long dW.1, .int dW.2.1, .int dW.2.2.1, .int dW.2.2.2])), (zwa, .inl (cI, 64, .inl aW))] := hD
    refine lv_aload_n hx hb dX2_copyFrom_62 rfl (lv_at hl 0 rfl) ?_
    refine lv_aload_n hx hb dX2_copyFrom_63 rfl (lv_at hl 1 rfl) ?_
    refine va_get (D := (dC, dI)) (ci := 1) (v := .int dW.2.2.2) (C := RX2) (T := TX2) (N := 7) hx hb hts hinX2 hown hK hP 2 rfl rfl 6 (by decide) hw4 (fun _ h9 => h9) rfl dX2_copyFrom_64 ?_
    refine va_put (D := (dC, dI)) (ci := 1) (v := .int dW.2.2.2) (ty := .int) (C := RX2) (T := TX2) (N := 7) hx hb hts hinX2 tyX2 tyX2_ok nmX2 hown hK hP hD hS 0 rfl rfl 6 (by decide) hw4 (fun _ h9 => h9) rfl (by decide +kernel) rfl rfl (Nat.le_of_ble_eq_true rfl) dX2_copyFrom_67 (fun H locs hP hD hS => ?_)
    have hP : va_P (dC, dI) vwCl [(zga, .inr (1, [.ref zgr, .ref zru, .ref zag, .long dW.1, .int dW.2.1, .int dW.2.2.1, .int dW.2.2.2])), (zag, .inl (cI, 64, .inl v5)), (zwg, .inr (1, [.ref zgr, .ref zru, .ref zwa, .long dW.1, .int dW.2.1, .int dW.2.2.1, .int dW.2.2.2])), (zwa, .inl (cI, 64, .inl aW))] H := hP
    have hD : va_D (A_X2_copyFrom cI cJ zga zag zwg zwa zgr zru dG aG dW aW s.heap.size) [(zga, .inr (1, [.ref zgr, .ref zru, .ref zag, .long dW.1, .int dW.2.1, .int dW.2.2.1, .int dW.2.2.2])), (zag, .inl (cI, 64, .inl v5)), (zwg, .inr (1, [.ref zgr, .ref zru, .ref zwa, .long dW.1, .int dW.2.1, .int dW.2.2.1, .int dW.2.2.2])), (zwa, .inl (cI, 64, .inl aW))] := hD
    obtain rfl := Option.some.inj hf
    exact W.vret hx hb hr (fun t ht hW => ⟨⟨(), rfl, trivial, by rw [ht]; exact hP, va_K.moved hW.alike hK, hD⟩, hS.F ht⟩) hS.2.2 dX2_copyFrom_70
  have lp7 : ∀ (nf : Nat) (y3 : Int32) (y4 : Nat → Int32) (H : Heap) (locs : List Loc) (ls : Array Slot), lp_X2_copyFrom_2 aW nf y3 y4 = some v5 → va_P (dC, dI) vwCl [(zga, .inr (1, [.ref zgr, .ref zru, .ref zag, .long dG.1, .int dG.2.1, .int dG.2.2.1, .int dG.2.2.2])), (zag, .inl (cI, 64, .inl y4)), (zwg, .inr (1, [.ref zgr, .ref zru, .ref zwa, .long dW.1, .int dW.2.1, .int dW.2.2.1, .int dW.2.2.2])), (zwa, .inl (cI, 64, .inl aW))] H → va_D (A_X2_copyFrom cI cJ zga zag zwg zwa zgr zru dG aG dW aW s.heap.size) [(zga, .inr (1, [.ref zgr, .ref zru, .ref zag, .long dG.1, .int dG.2.1, .int dG.2.2.1, .int dG.2.2.2])), (zag, .inl (cI, 64, .inl y4)), (zwg, .inr (1, [.ref zgr, .ref zru, .ref zwa, .long dW.1, .int dW.2.1, .int dW.2.2.1, .int dW.2.2.2])), (zwa, .inl (cI, 64, .inl aW))] → va_S (A_X2_copyFrom cI cJ zga zag zwg zwa zgr zru dG aG dW aW s.heap.size) s.heap H locs → lv_has ls 3 [(0, .ref zga), (1, .ref zwg), (2, .int y3)] → W p l e rm_X2_copyFrom s m args below meth c H locs 0 0 (MQ below (Q_X2_copyFrom dC dI cI cJ zga zag zwg zwa zgr zru dG aG dW aW s.heap.size R) args s 0 0 (A_X2_copyFrom cI cJ zga zag zwg zwa zgr zru dG aG dW aW s.heap.size)) (F0 m 2 ls []) := by
    intro nf
    induction nf with
    | zero => intro y3 y4 H locs ls h9; exact nomatch h9
    | succ nf ih8 =>
      intro y3 y4 H locs ls hf hP hD hS hl
      rw [lp_X2_copyFrom_2.eq_2] at hf
      refine lv_iload_n hx hb dX2_copyFrom_2 rfl (lv_at hl 2 rfl) ?_
      refine lv_aload_n hx hb dX2_copyFrom_3 rfl (lv_at hl 0 rfl) ?_
      refine va_get (D := (dC, dI)) (ci := 1) (v := .ref zag) (C := RX2) (T := TX2) (N := 7) hx hb hts hinX2 hown hK hP 0 rfl rfl 2 (by decide) hw0 (fun _ h9 => h9) rfl dX2_copyFrom_4 ?_
      refine va_alen (v := 64) hx hb hK hP 1 0 rfl rfl rfl dX2_copyFrom_7 ?_
      refine lv_icmp_ge (tgt := 38) hx hb dX2_copyFrom_8 (by decide) (fun hc => ?_) (fun hc => ?_)
      · rw [if_pos hc] at hf
        obtain rfl := Option.some.inj hf
        exact K6 _ _ _ hP hD hS (lv_sub hl [0, 1] rfl)
      · rw [if_neg hc] at hf
        refine lv_iload_n hx hb dX2_copyFrom_11 rfl (lv_at hl 2 rfl) ?_
        refine lv_aload_n hx hb dX2_copyFrom_12 rfl (lv_at hl 1 rfl) ?_
        refine va_get (D := (dC, dI)) (ci := 1) (v := .ref zwa) (C := RX2) (T := TX2) (N := 7) hx hb hts hinX2 hown hK hP 2 rfl rfl 2 (by decide) hw0 (fun _ h9 => h9) rfl dX2_copyFrom_13 ?_
        refine va_alen (v := 64) hx hb hK hP 3 0 rfl rfl rfl dX2_copyFrom_16 ?_
        refine lv_icmp_ge (tgt := 38) hx hb dX2_copyFrom_17 (by decide) (fun hc => ?_) (fun hc => ?_)
        · rw [if_pos hc] at hf
          obtain rfl := Option.some.inj hf
          exact K6 _ _ _ hP hD hS (lv_sub hl [0, 1] rfl)
        · rw [if_neg hc] at hf
          refine lv_aload_n hx hb dX2_copyFrom_20 rfl (lv_at hl 0 rfl) ?_
          refine va_get (D := (dC, dI)) (ci := 1) (v := .ref zag) (C := RX2) (T := TX2) (N := 7) hx hb hts hinX2 hown hK hP 0 rfl rfl 2 (by decide) hw0 (fun _ h9 => h9) rfl dX2_copyFrom_21 ?_
          refine lv_iload_n hx hb dX2_copyFrom_24 rfl (lv_at hl 2 rfl) ?_
          refine lv_aload_n hx hb dX2_copyFrom_25 rfl (lv_at hl 1 rfl) ?_
          refine va_get (D := (dC, dI)) (ci := 1) (v := .ref zwa) (C := RX2) (T := TX2) (N := 7) hx hb hts hinX2 hown hK hP 2 rfl rfl 2 (by decide) hw0 (fun _ h9 => h9) rfl dX2_copyFrom_26 ?_
          refine lv_iload_n hx hb dX2_copyFrom_29 rfl (lv_at hl 2 rfl) ?_
          have hg0 : ¬ (y3 < 0 ∨ 64 ≤ y3.toNatClampNeg) := fun hq => by rw [if_pos hq] at hf; exact nomatch hf
          rw [if_neg hg0] at hf
          have hg : vp_in y3 64 := hg0
          refine va_iald hx hb hK hP 3 0 rfl rfl hg dX2_copyFrom_30 ?_
          have hg0 : ¬ (y3 < 0 ∨ 64 ≤ y3.toNatClampNeg) := fun hq => by rw [if_pos hq] at hf; exact nomatch hf
          rw [if_neg hg0] at hf
          have hg : vp_in y3 64 := hg0
          refine va_iast hx hb hK hP hD hS 1 0 rfl rfl hg dX2_copyFrom_31 (fun H locs hP hD hS => ?_)
          have hP : va_P (dC, dI) vwCl [(zga, .inr (1, [.ref zgr, .ref zru, .ref zag, .long dG.1, .int dG.2.1, .int dG.2.2.1, .int dG.2.2.2])), (zag, .inl (cI, 64, .inl (upd y4 y3.toNatClampNeg (aW y3.toNatClampNeg)))), (zwg, .inr (1, [.ref zgr, .ref zru, .ref zwa, .long dW.1, .int dW.2.1, .int dW.2.2.1, .int dW.2.2.2])), (zwa, .inl (cI, 64, .inl aW))] H := hP
          have hD : va_D (A_X2_copyFrom cI cJ zga zag zwg zwa zgr zru dG aG dW aW s.heap.size) [(zga, .inr (1, [.ref zgr, .ref zru, .ref zag, .long dG.1, .int dG.2.1, .int dG.2.2.1, .int dG.2.2.2])), (zag, .inl (cI, 64, .inl (upd y4 y3.toNatClampNeg (aW y3.toNatClampNeg)))), (zwg, .inr (1, [.ref zgr, .ref zru, .ref zwa, .long dW.1, .int dW.2.1, .int dW.2.2.1, .int dW.2.2.2])), (zwa, .inl (cI, 64, .inl aW))] := hD
          refine lv_iinc (v := (y3 + 1)) (lv' := [(2, .int (y3 + 1)), (0, .ref zga), (1, .ref zwg)]) hx hb dX2_copyFrom_32 hl (k := 2) rfl rfl (by decide) rfl (fun ls hl => ?_)
          refine lv_goto (tgt := 2) hx hb dX2_copyFrom_35 (by decide) ?_
          exact ih8 _ _ _ _ _ hf hP hD hS (lv_sub hl [1, 2, 0] rfl)
  exact lp7 100 _ _ _ _ _ hv hP hD hS (lv_sub hl [1, 2, 0] rfl)
