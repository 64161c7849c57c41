/-! HedgeGliders$Crowd.add(J)V -/
def f_X0_add (qC : CrS) (cs : Int64) : CrS := ((qC.1 ^^^ cs), (qC.2.1 ^^^ (qC.1 &&& cs)), (qC.2.2.1 ^^^ (qC.2.1 &&& (qC.1 &&& cs))), (qC.2.2.2 ||| (qC.2.2.1 &&& (qC.2.1 &&& (qC.1 &&& cs)))))
abbrev rm_X0_add : Room := ({ frames := 0, cells := 0, slots := 0, locals := 0 } : Room)
abbrev A_X0_add (cI cJ : ClassId) (zcr : Nat) (qC : CrS) (cs : Int64) (sz : Nat) : Nat → Prop := va_A [(zcr, .inr (0, [.long qC.1, .long qC.2.1, .long qC.2.2.1, .long qC.2.2.2]))] sz
abbrev Q_X0_add (dC : Nat → ClassId) (dI : Nat → Nat → Nat) (cI cJ : ClassId) (zcr : Nat) (qC : CrS) (cs : Int64) (sz : Nat) (R : CrS) : Array Value → State → Outcome → State → Prop := va_Qv (fun _ : Unit => True) (fun u_ t => va_P (dC, dI) vwCl [(zcr, .inr (0, [.long R.1, .long R.2.1, .long R.2.2.1, .long R.2.2.2]))] t.heap ∧ va_K (dC, dI) vwCl [(cI, .int), (cJ, .long)] t ∧ va_D (A_X0_add cI cJ zcr qC cs sz) [(zcr, .inr (0, [.long R.1, .long R.2.1, .long R.2.2.1, .long R.2.2.2]))]) (A_X0_add cI cJ zcr qC cs sz)
set_option maxHeartbeats 4000000 in
set_option maxRecDepth 100000 in
theorem c_X0_add (l : Launch) (dC : Nat → ClassId) (dI : Nat → Nat → Nat) (cI cJ : ClassId) (zcr : Nat) (sz : Nat) (qC : CrS) (cs : Int64) : Met l yX0_add wsX0_add rm_X0_add (va_Pc [.ref zcr, .long cs] (fun U => U.heap.size = sz ∧ va_P (dC, dI) vwCl [(zcr, .inr (0, [.long qC.1, .long qC.2.1, .long qC.2.2.1, .long qC.2.2.2]))] U.heap ∧ va_K (dC, dI) vwCl [(cI, .int), (cJ, .long)] U ∧ va_D (fun _ => True) [(zcr, .inr (0, [.long qC.1, .long qC.2.1, .long qC.2.2.1, .long qC.2.2.2]))])) (Q_X0_add dC dI cI cJ zcr qC cs sz (f_X0_add qC cs)) 0 0 (A_X0_add cI cJ zcr qC cs sz) := by
  generalize hf : (f_X0_add qC cs) = R
  refine Met.ofW (cc := cX0_add) (maxL := 9) (ret := none) (by decide) rfl ?_
  intro p e s m args below meth c s₁ B hml hv
  obtain ⟨hargs, hsz, hP, hK, hD0⟩ := hv
  have hx := B.exec
  have hb := B.bytes
  have hr := B.returns
  have hts := atoms_spec (ws := wsX0_add) B.pre
  have hown : s.vm.findClass RX0 = some m.cls := findClass_of_methodNamed B.named
  have hlocks := B.notSynchronized
  subst hsz
  have hD : va_D (A_X0_add cI cJ zcr qC cs s.heap.size) [(zcr, .inr (0, [.long qC.1, .long qC.2.1, .long qC.2.2.1, .long qC.2.2.2]))] := hD0.self (sz := s.heap.size)
  have hA : ∀ q : Nat, s.heap.size ≤ q → (A_X0_add cI cJ zcr qC cs s.heap.size) q := fun q h => Or.inr h
  have hS : va_S (A_X0_add cI cJ zcr qC cs s.heap.size) s.heap s.heap [] := va_S.rf
  have hinX0 : ∀ w ∈ wsX00, w ∈ wsX0_add := by decide +kernel
  have hw0 := hts (.fieldLink RX0 7 "HedgeGliders$Crowd" "ones" "J") (by decide +kernel)
  have hw1 := hts (.fieldLink RX0 13 "HedgeGliders$Crowd" "twos" "J") (by decide +kernel)
  have hw2 := hts (.fieldLink RX0 16 "HedgeGliders$Crowd" "fours" "J") (by decide +kernel)
  have hw3 := hts (.fieldLink RX0 19 "HedgeGliders$Crowd" "eights" "J") (by decide +kernel)
  have hl := lv_entry ([.ref zcr, .long cs]) (n := 9) (Nat.le_of_ble_eq_true rfl)
  have he0 : entryFrame m args 9 = entryFrame m ([.ref zcr, .long cs] : List Value).toArray 9 := by rw [hargs]
  rw [he0, lg_entry_eq]
  generalize (lg_sl ([.ref zcr, .long cs]) ++ List.replicate (9 - (lg_sl ([.ref zcr, .long cs])).length) Slot.unset).toArray = ls at hl ⊢
  have hl : lv_has ls 9 [(0, .ref zcr), (1, .long cs)] := hl
  rw [f_X0_add] at hf
  refine lv_aload_n hx hb dX0_add_0 rfl (lv_at hl 0 rfl) ?_
  refine va_get (D := (dC, dI)) (ci := 0) (v := .long qC.1) (C := RX0) (T := TX0) (N := 4) hx hb hts hinX0 hown hK hP 0 rfl rfl 0 (by decide) hw0 (fun _ h9 => h9) rfl dX0_add_1 ?_
  refine lv_lload_n hx hb dX0_add_4 rfl (lv_at hl 1 rfl) ?_
  refine lv_land hx hb dX0_add_5 ?_
  refine lv_lstore_n (lv' := [(3, .long (qC.1 &&& cs)), (0, .ref zcr), (1, .long cs)]) hx hb dX0_add_6 rfl hl (by decide) rfl (fun ls hl => ?_)
  refine lv_aload_n hx hb dX0_add_7 rfl (lv_at hl 1 rfl) ?_
  refine lv_dup hx hb dX0_add_8 rfl ?_
  refine va_get (D := (dC, dI)) (ci := 0) (v := .long qC.1) (C := RX0) (T := TX0) (N := 4) hx hb hts hinX0 hown hK hP 0 rfl rfl 0 (by decide) hw0 (fun _ h9 => h9) rfl dX0_add_9 ?_
  refine lv_lload_n hx hb dX0_add_12 rfl (lv_at hl 2 rfl) ?_
  refine lv_lxor hx hb dX0_add_13 ?_
  refine va_put (D := (dC, dI)) (ci := 0) (v := .long (qC.1 ^^^ cs)) (ty := .long) (C := RX0) (T := TX0) (N := 4) hx hb hts hinX0 tyX0 tyX0_ok nmX0 hown hK hP hD hS 0 rfl rfl 0 (by decide) hw0 (fun _ h9 => h9) rfl (by decide +kernel) rfl rfl (Nat.le_of_ble_eq_true rfl) dX0_add_14 (fun H locs hP hD hS => ?_)
  have hP : va_P (dC, dI) vwCl [(zcr, .inr (0, [.long (qC.1 ^^^ cs), .long qC.2.1, .long qC.2.2.1, .long qC.2.2.2]))] H := hP
  have hD : va_D (A_X0_add cI cJ zcr qC cs s.heap.size) [(zcr, .inr (0, [.long (qC.1 ^^^ cs), .long qC.2.1, .long qC.2.2.1, .long qC.2.2.2]))] := hD
  refine lv_aload_n hx hb dX0_add_17 rfl (lv_at hl 1 rfl) ?_
  refine va_get (D := (dC, dI)) (ci := 0) (v := .long qC.2.1) (C := RX0) (T := TX0) (N := 4) hx hb hts hinX0 hown hK hP 0 rfl rfl 1 (by decide) hw1 (fun _ h9 => h9) rfl dX0_add_18 ?_
  refine lv_lload_n hx hb dX0_add_21 rfl (lv_at hl 0 rfl) ?_
  refine lv_land hx hb dX0_add_22 ?_
  refine lv_lstore (lv' := [(5, .long (qC.2.1 &&& (qC.1 &&& cs))), (3, .long (qC.1 &&& cs)), (0, .ref zcr), (1, .long cs)]) hx hb dX0_add_23 hl (by decide) rfl (fun ls hl => ?_)
  refine lv_aload_n hx hb dX0_add_25 rfl (lv_at hl 2 rfl) ?_
  refine lv_dup hx hb dX0_add_26 rfl ?_
  refine va_get (D := (dC, dI)) (ci := 0) (v := .long qC.2.1) (C := RX0) (T := TX0) (N := 4) hx hb hts hinX0 hown hK hP 0 rfl rfl 1 (by decide) hw1 (fun _ h9 => h9) rfl dX0_add_27 ?_
  refine lv_lload_n hx hb dX0_add_30 rfl (lv_at hl 1 rfl) ?_
  refine lv_lxor hx hb dX0_add_31 ?_
  refine va_put (D := (dC, dI)) (ci := 0) (v := .long (qC.2.1 ^^^ (qC.1 &&& cs))) (ty := .long) (C := RX0) (T := TX0) (N := 4) hx hb hts hinX0 tyX0 tyX0_ok nmX0 hown hK hP hD hS 0 rfl rfl 1 (by decide) hw1 (fun _ h9 => h9) rfl (by decide +kernel) rfl rfl (Nat.le_of_ble_eq_true rfl) dX0_add_32 (fun H locs hP hD hS => ?_)
  have hP : va_P (dC, dI) vwCl [(zcr, .inr (0, [.long (qC.1 ^^^ cs), .long (qC.2.1 ^^^ (qC.1 &&& cs)), .long qC.2.2.1, .long qC.2.2.2]))] H := hP
  have hD : va_D (A_X0_add cI cJ zcr qC cs s.heap.size) [(zcr, .inr (0, [.long (qC.1 ^^^ cs), .long (qC.2.1 ^^^ (qC.1 &&& cs)), .long qC.2.2.1, .long qC.2.2.2]))] := hD
  refine lv_aload_n hx hb dX0_add_35 rfl (lv_at hl 2 rfl) ?_
  refine va_get (D := (dC, dI)) (ci := 0) (v := .long qC.2.2.1) (C := RX0) (T := TX0) (N := 4) hx hb hts hinX0 hown hK hP 0 rfl rfl 2 (by decide) hw2 (fun _ h9 => h9) rfl dX0_add_36 ?_
  refine lv_lload hx hb dX0_add_39 (lv_at hl 0 rfl) ?_
  refine lv_land hx hb dX0_add_41 ?_
  refine lv_lstore (lv' := [(7, .long (qC.2.2.1 &&& (qC.2.1 &&& (qC.1 &&& cs)))), (5, .long (qC.2.1 &&& (qC.1 &&& cs))), (3, .long (qC.1 &&& cs)), (0, .ref zcr), (1, .long cs)]) hx hb dX0_add_42 hl (by decide) rfl (fun ls hl => ?_)
  refine lv_aload_n hx hb dX0_add_44 rfl (lv_at hl 3 rfl) ?_
  refine lv_dup hx hb dX0_add_45 rfl ?_
  refine va_get (D := (dC, dI)) (ci := 0) (v := .long qC.2.2.1) (C := RX0) (T := TX0) (N := 4) hx hb hts hinX0 hown hK hP 0 rfl rfl 2 (by decide) hw2 (fun _ h9 => h9) rfl dX0_add_46 ?_
  refine lv_lload hx hb dX0_add_49 (lv_at hl 1 rfl) ?_
  refine lv_lxor hx hb dX0_add_51 ?_
  refine va_put (D := (dC, dI)) (ci := 0) (v := .long (qC.2.2.1 ^^^ (qC.2.1 &&& (qC.1 &&& cs)))) (ty := .long) (C := RX0) (T := TX0) (N := 4) hx hb hts hinX0 tyX0 tyX0_ok nmX0 hown hK hP hD hS 0 rfl rfl 2 (by decide) hw2 (fun _ h9 => h9) rfl (by decide +kernel) rfl rfl (Nat.le_of_ble_eq_true rfl) dX0_add_52 (fun H locs hP hD hS => ?_)
  have hP : va_P (dC, dI) vwCl [(zcr, .inr (0, [.long (qC.1 ^^^ cs), .long (qC.2.1 ^^^ (qC.1 &&& cs)), .long (qC.2.2.1 ^^^ (qC.2.1 &&& (qC.1 &&& cs))), .long qC.2.2.2]))] H := hP
  have hD : va_D (A_X0_add cI cJ zcr qC cs s.heap.size) [(zcr, .inr (0, [.long (qC.1 ^^^ cs), .long (qC.2.1 ^^^ (qC.1 &&& cs)), .long (qC.2.2.1 ^^^ (qC.2.1 &&& (qC.1 &&& cs))), .long qC.2.2.2]))] := hD
  refine lv_aload_n hx hb dX0_add_55 rfl (lv_at hl 3 rfl) ?_
  refine lv_dup hx hb dX0_add_56 rfl ?_
  refine va_get (D := (dC, dI)) (ci := 0) (v := .long qC.2.2.2) (C := RX0) (T := TX0) (N := 4) hx hb hts hinX0 hown hK hP 0 rfl rfl 3 (by decide) hw3 (fun _ h9 => h9) rfl dX0_add_57 ?_
  refine lv_lload hx hb dX0_add_60 (lv_at hl 0 rfl) ?_
  refine lv_lor hx hb dX0_add_62 ?_
  refine va_put (D := (dC, dI)) (ci := 0) (v := .long (qC.2.2.2 ||| (qC.2.2.1 &&& (qC.2.1 &&& (qC.1 &&& cs))))) (ty := .long) (C := RX0) (T := TX0) (N := 4) hx hb hts hinX0 tyX0 tyX0_ok nmX0 hown hK hP hD hS 0 rfl rfl 3 (by decide) hw3 (fun _ h9 => h9) rfl (by decide +kernel) rfl rfl (Nat.le_of_ble_eq_true rfl) dX0_add_63 (fun H locs hP hD hS => ?_)
  have hP : va_P (dC, dI) vwCl [(zcr, .inr (0, [.long (qC.1 ^^^ cs), .long (qC.2.1 ^^^ (qC.1 &&& cs)), .long (qC.2.2.1 ^^^ (qC.2.1 &&& (qC.1 &&& cs))), .long (qC.2.2.2 ||| (qC.2.2.1 &&& (qC.2.1 &&& (qC.1 &&& cs))))]))] H := hP
  have hD : va_D (A_X0_add cI cJ zcr qC cs s.heap.size) [(zcr, .inr (0, [.long (qC.1 ^^^ cs), .long (qC.2.1 ^^^ (qC.1 &&& cs)), .long (qC.2.2.1 ^^^ (qC.2.1 &&& (qC.1 &&& cs))), .long (qC.2.2.2 ||| (qC.2.2.1 &&& (qC.2.1 &&& (qC.1 &&& cs))))]))] := hD
  obtain rfl := hf
  exact W.vret hx hb hr (fun t ht hW => ⟨⟨(), rfl, trivial, by rw [ht]; exact hP, va_K.moved hW.alike hK, hD⟩, hS.F ht⟩) hS.2.2 dX0_add_66
/-! HedgeGliders$Crowd.lookAround(JLHedgeGliders$Ground;)V -/
def f_X0_lookAround (gG : GrS) (hs : Int64) : CrS := (f_X0_add (f_X0_add (f_X0_add (f_X0_add (f_X0_add (f_X0_add (f_X0_add (f_X0_add (0, 0, 0, 0) (f_X3_left gG (f_X3_up gG hs))) (f_X3_up gG hs)) (f_X3_right gG (f_X3_up gG hs))) (f_X3_left gG hs)) (f_X3_right gG hs)) (f_X3_left gG (f_X3_down gG hs))) (f_X3_down gG hs)) (f_X3_right gG (f_X3_down gG hs)))
abbrev rm_X0_lookAround : Room := ({ frames := 1, cells := 0, slots := 0, locals := 28 } : Room)
abbrev A_X0_lookAround (cI cJ : ClassId) (zcr zgr : Nat) (gG : GrS) (hs : Int64) (qC : CrS) (sz : Nat) : Nat → Prop := va_A [(zcr, .inr (0, [.long qC.1, .long qC.2.1, .long qC.2.2.1, .long qC.2.2.2])), (zgr, .inr (2, [.int gG.1, .int gG.2.1, .int (bI gG.2.2.1), .long gG.2.2.2.1, .long gG.2.2.2.2.1, .long gG.2.2.2.2.2.1, .long gG.2.2.2.2.2.2.1, .long gG.2.2.2.2.2.2.2]))] sz
abbrev Q_X0_lookAround (dC : Nat → ClassId) (dI : Nat → Nat → Nat) (cI cJ : ClassId) (zcr zgr : Nat) (gG : GrS) (hs : Int64) (qC : CrS) (sz : Nat) (R : CrS) : Array Value → State → Outcome → State → Prop := va_Qv (fun _ : Unit => True) (fun u_ t => va_P (dC, dI) vwCl [(zcr, .inr (0, [.long R.1, .long R.2.1, .long R.2.2.1, .long R.2.2.2])), (zgr, .inr (2, [.int gG.1, .int gG.2.1, .int (bI gG.2.2.1), .long gG.2.2.2.1, .long gG.2.2.2.2.1, .long gG.2.2.2.2.2.1, .long gG.2.2.2.2.2.2.1, .long gG.2.2.2.2.2.2.2]))] t.heap ∧ va_K (dC, dI) vwCl [(cI, .int), (cJ, .long)] t ∧ va_D (A_X0_lookAround cI cJ zcr zgr gG hs qC sz) [(zcr, .inr (0, [.long R.1, .long R.2.1, .long R.2.2.1, .long R.2.2.2])), (zgr, .inr (2, [.int gG.1, .int gG.2.1, .int (bI gG.2.2.1), .long gG.2.2.2.1, .long gG.2.2.2.2.1, .long gG.2.2.2.2.2.1, .long gG.2.2.2.2.2.2.1, .long gG.2.2.2.2.2.2.2]))]) (A_X0_lookAround cI cJ zcr zgr gG hs qC sz)
set_option maxHeartbeats 4000000 in
set_option maxRecDepth 100000 in
theorem c_X0_lookAround (l : Launch) (dC : Nat → ClassId) (dI : Nat → Nat → Nat) (cI cJ : ClassId) (zcr zgr : Nat) (sz : Nat) (gG : GrS) (hs : Int64) (qC : CrS) : Met l yX0_lookAround wsX0_lookAround rm_X0_lookAround (va_Pc [.ref zcr, .long hs, .ref zgr] (fun U => U.heap.size = sz ∧ va_P (dC, dI) vwCl [(zcr, .inr (0, [.long qC.1, .long qC.2.1, .long qC.2.2.1, .long qC.2.2.2])), (zgr, .inr (2, [.int gG.1, .int gG.2.1, .int (bI gG.2.2.1), .long gG.2.2.2.1, .long gG.2.2.2.2.1, .long gG.2.2.2.2.2.1, .long gG.2.2.2.2.2.2.1, .long gG.2.2.2.2.2.2.2]))] U.heap ∧ va_K (dC, dI) vwCl [(cI, .int), (cJ, .long)] U ∧ va_D (fun _ => True) [(zcr, .inr (0, [.long qC.1, .long qC.2.1, .long qC.2.2.1, .long qC.2.2.2])), (zgr, .inr (2, [.int gG.1, .int gG.2.1, .int (bI gG.2.2.1), .long gG.2.2.2.1, .long gG.2.2.2.2.1, .long gG.2.2.2.2.2.1, .long gG.2.2.2.2.2.2.1, .long gG.2.2.2.2.2.2.2]))])) (Q_X0_lookAround dC dI cI cJ zcr zgr gG hs qC sz (f_X0_lookAround gG hs)) 0 0 (A_X0_lookAround cI cJ zcr zgr gG hs qC sz) := by
  generalize hf : (f_X0_lookAround gG hs) = R
  refine Met.ofW (cc := cX0_lookAround) (maxL := 8) (ret := none) (by decide) rfl ?_
  intro p e s m args below meth c s₁ B hml hv
  obtain ⟨hargs, hsz, hP, hK, hD0⟩ := hv
  have hx := B.exec
  have hb := B.bytes
  have hr := B.returns
  have hts := atoms_spec (ws := wsX0_lookAround) B.pre
  have hown : s.vm.findClass RX0 = some m.cls := findClass_of_methodNamed B.named
  have hlocks := B.notSynchronized
  subst hsz
  have hD : va_D (A_X0_lookAround cI cJ zcr zgr gG hs qC s.heap.size) [(zcr, .inr (0, [.long qC.1, .long qC.2.1, .long qC.2.2.1, .long qC.2.2.2])), (zgr, .inr (2, [.int gG.1, .int gG.2.1, .int (bI gG.2.2.1), .long gG.2.2.2.1, .long gG.2.2.2.2.1, .long gG.2.2.2.2.2.1, .long gG.2.2.2.2.2.2.1, .long gG.2.2.2.2.2.2.2]))] := hD0.self (sz := s.heap.size)
  have hA : ∀ q : Nat, s.heap.size ≤ q → (A_X0_lookAround cI cJ zcr zgr gG hs qC s.heap.size) q := fun q h => Or.inr h
  have hS : va_S (A_X0_lookAround cI cJ zcr zgr gG hs qC s.heap.size) s.heap s.heap [] := va_S.rf
  have hinX0 : ∀ w ∈ wsX00, w ∈ wsX0_lookAround := by decide +kernel
  have hw0 := hts (.fieldLink RX0 7 "HedgeGliders$Crowd" "ones" "J") (by decide +kernel)
  have hw1 := hts (.fieldLink RX0 13 "HedgeGliders$Crowd" "twos" "J") (by decide +kernel)
  have hw2 := hts (.fieldLink RX0 16 "HedgeGliders$Crowd" "fours" "J") (by decide +kernel)
  have hw3 := hts (.fieldLink RX0 19 "HedgeGliders$Crowd" "eights" "J") (by decide +kernel)
  have hl := lv_entry ([.ref zcr, .long hs, .ref zgr]) (n := 8) (Nat.le_of_ble_eq_true rfl)
  have he0 : entryFrame m args 8 = entryFrame m ([.ref zcr, .long hs, .ref zgr] : List Value).toArray 8 := by rw [hargs]
  rw [he0, lg_entry_eq]
  generalize (lg_sl ([.ref zcr, .long hs, .ref zgr]) ++ List.replicate (8 - (lg_sl ([.ref zcr, .long hs, .ref zgr])).length) Slot.unset).toArray = ls at hl ⊢
  have hl : lv_has ls 8 [(0, .ref zcr), (1, .long hs), (3, .ref zgr)] := hl
  rw [f_X0_lookAround] at hf
  refine lv_aload_n hx hb dX0_lookAround_0 rfl (lv_at hl 0 rfl) ?_
  refine lv_lconst (v := 0) hx hb dX0_lookAround_1 (by decide) ?_
  refine va_put (D := (dC, dI)) (ci := 0) (v := .long 0) (ty := .long) (C := RX0) (T := TX0) (N := 4) hx hb hts hinX0 tyX0 tyX0_ok nmX0 hown hK hP hD hS 0 rfl rfl 0 (by decide) hw0 (fun _ h9 => h9) rfl (by decide +kernel) rfl rfl (Nat.le_of_ble_eq_true rfl) dX0_lookAround_2 (fun H locs hP hD hS => ?_)
  have hP : va_P (dC, dI) vwCl [(zcr, .inr (0, [.long 0, .long qC.2.1, .long qC.2.2.1, .long qC.2.2.2])), (zgr, .inr (2, [.int gG.1, .int gG.2.1, .int (bI gG.2.2.1), .long gG.2.2.2.1, .long gG.2.2.2.2.1, .long gG.2.2.2.2.2.1, .long gG.2.2.2.2.2.2.1, .long gG.2.2.2.2.2.2.2]))] H := hP
  have hD : va_D (A_X0_lookAround cI cJ zcr zgr gG hs qC s.heap.size) [(zcr, .inr (0, [.long 0, .long qC.2.1, .long qC.2.2.1, .long qC.2.2.2])), (zgr, .inr (2, [.int gG.1, .int gG.2.1, .int (bI gG.2.2.1), .long gG.2.2.2.1, .long gG.2.2.2.2.1, .long gG.2.2.2.2.2.1, .long gG.2.2.2.2.2.2.1, .long gG.2.2.2.2.2.2.2]))] := hD
  refine lv_aload_n hx hb dX0_lookAround_5 rfl (lv_at hl 0 rfl) ?_
  refine lv_lconst (v := 0) hx hb dX0_lookAround_6 (by decide) ?_
  refine va_put (D := (dC, dI)) (ci := 0) (v := .long 0) (ty := .long) (C := RX0) (T := TX0) (N := 4) hx hb hts hinX0 tyX0 tyX0_ok nmX0 hown hK hP hD hS 0 rfl rfl 1 (by decide) hw1 (fun _ h9 => h9) rfl (by decide +kernel) rfl rfl (Nat.le_of_ble_eq_true rfl) dX0_lookAround_7 (fun H locs hP hD hS => ?_)
  have hP : va_P (dC, dI) vwCl [(zcr, .inr (0, [.long 0, .long 0, .long qC.2.2.1, .long qC.2.2.2])), (zgr, .inr (2, [.int gG.1, .int gG.2.1, .int (bI gG.2.2.1), .long gG.2.2.2.1, .long gG.2.2.2.2.1, .long gG.2.2.2.2.2.1, .long gG.2.2.2.2.2.2.1, .long gG.2.2.2.2.2.2.2]))] H := hP
  have hD : va_D (A_X0_lookAround cI cJ zcr zgr gG hs qC s.heap.size) [(zcr, .inr (0, [.long 0, .long 0, .long qC.2.2.1, .long qC.2.2.2])), (zgr, .inr (2, [.int gG.1, .int gG.2.1, .int (bI gG.2.2.1), .long gG.2.2.2.1, .long gG.2.2.2.2.1, .long gG.2.2.2.2.2.1, .long gG.2.2.2.2.2.2.1, .long gG.2.2.2.2.2.2.2]))] := hD
  refine lv_aload_n hx hb dX0_lookAround_10 rfl (lv_at hl 0 rfl) ?_
  refine lv_lconst (v := 0) hx hb dX0_lookAround_11 (by decide) ?_
  refine va_put (D := (dC, dI)) (ci := 0) (v := .long 0) (ty := .long) (C := RX0) (T := TX0) (N := 4) hx hb hts hinX0 tyX0 tyX0_ok nmX0 hown hK hP hD hS 0 rfl rfl 2 (by decide) hw2 (fun _ h9 => h9) rfl (by decide +kernel) rfl rfl (Nat.le_of_ble_eq_true rfl) dX0_lookAround_12 (fun H locs hP hD hS => ?_)
  have hP : va_P (dC, dI) vwCl [(zcr, .inr (0, [.long 0, .long 0, .long 0, .long qC.2.2.2])), (zgr, .inr (2, [.int gG.1, .int gG.2.1, .int (bI gG.2.2.1), .long gG.2.2.2.1, .long gG.2.2.2.2.1, .long gG.2.2.2.2.2.1, .long gG.2.2.2.2.2.2.1, .long gG.2.2.2.2.2.2.2]))] H := hP
  have hD : va_D (A_X0_lookAround cI cJ zcr zgr gG hs qC s.heap.size) [(zcr, .inr (0, [.long 0, .long 0, .long 0, .long qC.2.2.2])), (zgr, .inr (2, [.int gG.1, .int gG.2.1, .int (bI gG.2.2.1), .long gG.2.2.2.1, .long gG.2.2.2.2.1, .long gG.2.2.2.2.2.1, .long gG.2.2.2.2.2.2.1, .long gG.2.2.2.2.2.2.2]))] := hD
  refine lv_aload_n hx hb dX0_lookAround_15 rfl (lv_at hl 0 rfl) ?_
  refine lv_lconst (v := 0) hx hb dX0_lookAround_16 (by decide) ?_
  refine va_put (D := (dC, dI)) (ci := 0) (v := .long 0) (ty := .long) (C := RX0) (T := TX0) (N := 4) hx hb hts hinX0 tyX0 tyX0_ok nmX0 hown hK hP hD hS 0 rfl rfl 3 (by decide) hw3 (fun _ h9 => h9) rfl (by decide +kernel) rfl rfl (Nat.le_of_ble_eq_true rfl) dX0_lookAround_17 (fun H locs hP hD hS => ?_)
  have hP : va_P (dC, dI) vwCl [(zcr, .inr (0, [.long 0, .long 0, .long 0, .long 0])), (zgr, .inr (2, [.int gG.1, .int gG.2.1, .int (bI gG.2.2.1), .long gG.2.2.2.1, .long gG.2.2.2.2.1, .long gG.2.2.2.2.2.1, .long gG.2.2.2.2.2.2.1, .long gG.2.2.2.2.2.2.2]))] H := hP
  have hD : va_D (A_X0_lookAround cI cJ zcr zgr gG hs qC s.heap.size) [(zcr, .inr (0, [.long 0, .long 0, .long 0, .long 0])), (zgr, .inr (2, [.int gG.1, .int gG.2.1, .int (bI gG.2.2.1), .long gG.2.2.2.1, .long gG.2.2.2.2.1, .long gG.2.2.2.2.2.1, .long gG.2.2.2.2.2.2.1, .long gG.2.2.2.2.2.2.2]))] := hD
  refine lv_aload_n hx hb dX0_lookAround_20 rfl (lv_at hl 2 rfl) ?_
  refine lv_lload_n hx hb dX0_lookAround_21 rfl (lv_at hl 1 rfl) ?_
  have hPc := hP.sub (ws' := [(zgr, .inr (2, [.int gG.1, .int gG.2.1, .int (bI gG.2.2.1), .long gG.2.2.2.1, .long gG.2.2.2.2.1, .long gG.2.2.2.2.2.1, .long gG.2.2.2.2.2.2.1, .long gG.2.2.2.2.2.2.2]))]) [1] rfl
  have hDc := hD.sub (ws' := [(zgr, .inr (2, [.int gG.1, .int gG.2.1, .int (bI gG.2.2.1), .long gG.2.2.2.1, .long gG.2.2.2.2.1, .long gG.2.2.2.2.2.1, .long gG.2.2.2.2.2.2.1, .long gG.2.2.2.2.2.2.2]))]) [1] (by decide) rfl
  have hFc := va_free (wc := [(zgr, .inr (2, [.int gG.1, .int gG.2.1, .int (bI gG.2.2.1), .long gG.2.2.2.1, .long gG.2.2.2.2.1, .long gG.2.2.2.2.2.1, .long gG.2.2.2.2.2.2.1, .long gG.2.2.2.2.2.2.2]))]) hD hS hA [1] rfl
  refine va_calll (va_runV (As := [.long hs]) (rest := []) ⟨hx, hb, hml, hown, hts⟩ (c_X3_up l dC dI cI cJ zgr H.size gG hs) (cwV 1 hts gX0_lookAround_X3_up rfl rfl rfl (by decide +kernel) ⟨Nat.le_of_ble_eq_true rfl, Nat.le_of_ble_eq_true rfl⟩) ⟨fun a U gg mk q => by obtain ⟨q0, q1, qP, qK, qD⟩ := q; exact ⟨q0, q1, qP, va_K.moved (u := U) (U := U.calling gg mk a) (Vm.Alike.refl U.vm) qK, qD⟩, va_recv hK hPc (ci := 2) (q0 := 0) rfl rfl, fun U hU hW => ⟨rfl, by rw [hU], by rw [hU]; exact hPc, va_K.moved hW.alike hK, hDc.weaken (fun _ _ _ _ => trivial)⟩⟩ rfl rfl hl.1 rfl (lv_room (Nat.le_of_ble_eq_true rfl)) dX0_lookAround_22 ⟨Nat.zero_le _, Nat.zero_le _⟩) hS (fun q _ h => hFc q h) hFc (fun r_ u_ t H locs ht hvm hw hB hz1 hk1 hS => ?_)
  obtain rfl := hw.symm
  obtain ⟨hP1, -, hD1⟩ := hB
  rw [ht] at hP1
  obtain ⟨hP, hD⟩ := va_join (wr := [(zcr, .inr (0, [.long 0, .long 0, .long 0, .long 0]))]) (w1 := [(zgr, .inr (2, [.int gG.1, .int gG.2.1, .int (bI gG.2.2.1), .long gG.2.2.2.1, .long gG.2.2.2.2.1, .long gG.2.2.2.2.2.1, .long gG.2.2.2.2.2.2.1, .long gG.2.2.2.2.2.2.2]))]) hP hD [1] [0] rfl rfl (by decide) (by decide) hk1 hFc hP1 hD1
  have hP := hP.sub (ws' := [(zcr, .inr (0, [.long 0, .long 0, .long 0, .long 0])), (zgr, .inr (2, [.int gG.1, .int gG.2.1, .int (bI gG.2.2.1), .long gG.2.2.2.1, .long gG.2.2.2.2.1, .long gG.2.2.2.2.2.1, .long gG.2.2.2.2.2.2.1, .long gG.2.2.2.2.2.2.2]))]) [0, 1] rfl
  have hD := hD.sub (ws' := [(zcr, .inr (0, [.long 0, .long 0, .long 0, .long 0])), (zgr, .inr (2, [.int gG.1, .int gG.2.1, .int (bI gG.2.2.1), .long gG.2.2.2.1, .long gG.2.2.2.2.1, .long gG.2.2.2.2.2.1, .long gG.2.2.2.2.2.2.1, .long gG.2.2.2.2.2.2.2]))]) [0, 1] (by decide) rfl
  clear hPc hDc hFc hP1 hD1 hk1
  refine lv_lstore (lv' := [(4, .long (f_X3_up gG hs)), (0, .ref zcr), (1, .long hs), (3, .ref zgr)]) hx hb dX0_lookAround_25 hl (by decide) rfl (fun ls hl => ?_)
  refine lv_aload_n hx hb dX0_lookAround_27 rfl (lv_at hl 3 rfl) ?_
  refine lv_lload_n hx hb dX0_lookAround_28 rfl (lv_at hl 2 rfl) ?_
  have hPc := hP.sub (ws' := [(zgr, .inr (2, [.int gG.1, .int gG.2.1, .int (bI gG.2.2.1), .long gG.2.2.2.1, .long gG.2.2.2.2.1, .long gG.2.2.2.2.2.1, .long gG.2.2.2.2.2.2.1, .long gG.2.2.2.2.2.2.2]))]) [1] rfl
  have hDc := hD.sub (ws' := [(zgr, .inr (2, [.int gG.1, .int gG.2.1, .int (bI gG.2.2.1), .long gG.2.2.2.1, .long gG.2.2.2.2.1, .long gG.2.2.2.2.2.1, .long gG.2.2.2.2.2.2.1, .long gG.2.2.2.2.2.2.2]))]) [1] (by decide) rfl
  have hFc := va_free (wc := [(zgr, .inr (2, [.int gG.1, .int gG.2.1, .int (bI gG.2.2.1), .long gG.2.2.2.1, .long gG.2.2.2.2.1, .long gG.2.2.2.2.2.1, .long gG.2.2.2.2.2.2.1, .long gG.2.2.2.2.2.2.2]))]) hD hS hA [1] rfl
  refine va_calll (va_runV (As := [.long hs]) (rest := []) ⟨hx, hb, hml, hown, hts⟩ (c_X3_down l dC dI cI cJ zgr H.size gG hs) (cwV 1 hts gX0_lookAround_X3_down rfl rfl rfl (by decide +kernel) ⟨Nat.le_of_ble_eq_true rfl, Nat.le_of_ble_eq_true rfl⟩) ⟨fun a U gg mk q => by obtain ⟨q0, q1, qP, qK, qD⟩ := q; exact ⟨q0, q1, qP, va_K.moved (u := U) (U := U.calling gg mk a) (Vm.Alike.refl U.vm) qK, qD⟩, va_recv hK hPc (ci := 2) (q0 := 0) rfl rfl, fun U hU hW => ⟨rfl, by rw [hU], by rw [hU]; exact hPc, va_K.moved hW.alike hK, hDc.weaken (fun _ _ _ _ => trivial)⟩⟩ rfl rfl hl.1 rfl (lv_room (Nat.le_of_ble_eq_true rfl)) dX0_lookAround_29 ⟨Nat.zero_le _, Nat.zero_le _⟩) hS (fun q _ h => hFc q h) hFc (fun r_ u_ t H locs ht hvm hw hB hz1 hk1 hS => ?_)
  obtain rfl := hw.symm
  obtain ⟨hP1, -, hD1⟩ := hB
  rw [ht] at hP1
  obtain ⟨hP, hD⟩ := va_join (wr := [(zcr, .inr (0, [.long 0, .long 0, .long 0, .long 0]))]) (w1 := [(zgr, .inr (2, [.int gG.1, .int gG.2.1, .int (bI gG.2.2.1), .long gG.2.2.2.1, .long gG.2.2.2.2.1, .long gG.2.2.2.2.2.1, .long gG.2.2.2.2.2.2.1, .long gG.2.2.2.2.2.2.2]))]) hP hD [1] [0] rfl rfl (by decide) (by decide) hk1 hFc hP1 hD1
  have hP := hP.sub (ws' := [(zcr, .inr (0, [.long 0, .long 0, .long 0, .long 0])), (zgr, .inr (2, [.int gG.1, .int gG.2.1, .int (bI gG.2.2.1), .long gG.2.2.2.1, .long gG.2.2.2.2.1, .long gG.2.2.2.2.2.1, .long gG.2.2.2.2.2.2.1, .long gG.2.2.2.2.2.2.2]))]) [0, 1] rfl
  have hD := hD.sub (ws' := [(zcr, .inr (0, [.long 0, .long 0, .long 0, .long 0])), (zgr, .inr (2, [.int gG.1, .int gG.2.1, .int (bI gG.2.2.1), .long gG.2.2.2.1, .long gG.2.2.2.2.1, .long gG.2.2.2.2.2.1, .long gG.2.2.2.2.2.2.1, .long gG.2.2.2.2.2.2.2]))]) [0, 1] (by decide) rfl
  clear hPc hDc hFc hP1 hD1 hk1
  refine lv_lstore (lv' := [(6, .long (f_X3_down gG hs)), (4, .long (f_X3_up gG hs)), (0, .ref zcr), (1, .long hs), (3, .ref zgr)]) hx hb dX0_lookAround_32 hl (by decide) rfl (fun ls hl => ?_)
  refine lv_aload_n hx hb dX0_lookAround_34 rfl (lv_at hl 2 rfl) ?_
  refine lv_aload_n hx hb dX0_lookAround_35 rfl (lv_at hl 4 rfl) ?_
  refine lv_lload hx hb dX0_lookAround_36 (lv_at hl 1 rfl) ?_
  have hPc := hP.sub (ws' := [(zgr, .inr (2, [.int gG.1, .int gG.2.1, .int (bI gG.2.2.1), .long gG.2.2.2.1, .long gG.2.2.2.2.1, .long gG.2.2.2.2.2.1, .long gG.2.2.2.2.2.2.1, .long gG.2.2.2.2.2.2.2]))]) [1] rfl
  have hDc := hD.sub (ws' := [(zgr, .inr (2, [.int gG.1, .int gG.2.1, .int (bI gG.2.2.1), .long gG.2.2.2.1, .long gG.2.2.2.2.1, .long gG.2.2.2.2.2.1, .long gG.2.2.2.2.2.2.1, .long gG.2.2.2.2.2.2.2]))]) [1] (by decide) rfl
  have hFc := va_free (wc := [(zgr, .inr (2, [.int gG.1, .int gG.2.1, .int (bI gG.2.2.1), .long gG.2.2.2.1, .long gG.2.2.2.2.1, .long gG.2.2.2.2.2.1, .long gG.2.2.2.2.2.2.1, .long gG.2.2.2.2.2.2.2]))]) hD hS hA [1] rfl
  refine va_calll (va_runV (As := [.long (f_X3_up gG hs)]) (rest := [.ref zcr]) ⟨hx, hb, hml, hown, hts⟩ (c_X3_left l dC dI cI cJ zgr H.size gG (f_X3_up gG hs)) (cwV 1 hts gX0_lookAround_X3_left rfl rfl rfl (by decide +kernel) ⟨Nat.le_of_ble_eq_true rfl, Nat.le_of_ble_eq_true rfl⟩) ⟨fun a U gg mk q => by obtain ⟨q0, q1, qP, qK, qD⟩ := q; exact ⟨q0, q1, qP, va_K.moved (u := U) (U := U.calling gg mk a) (Vm.Alike.refl U.vm) qK, qD⟩, va_recv hK hPc (ci := 2) (q0 := 0) rfl rfl, fun U hU hW => ⟨rfl, by rw [hU], by rw [hU]; exact hPc, va_K.moved hW.alike hK, hDc.weaken (fun _ _ _ _ => trivial)⟩⟩ rfl rfl hl.1 rfl (lv_room (Nat.le_of_ble_eq_true rfl)) dX0_lookAround_38 ⟨Nat.zero_le _, Nat.zero_le _⟩) hS (fun q _ h => hFc q h) hFc (fun r_ u_ t H locs ht hvm hw hB hz1 hk1 hS => ?_)
  obtain rfl := hw.symm
  obtain ⟨hP1, -, hD1⟩ := hB
  rw [ht] at hP1
  obtain ⟨hP, hD⟩ := va_join (wr := [(zcr, .inr (0, [.long 0, .long 0, .long 0, .long 0]))]) (w1 := [(zgr, .inr (2, [.int gG.1, .int gG.2.1, .int (bI gG.2.2.1), .long gG.2.2.2.1, .long gG.2.2.2.2.1, .long gG.2.2.2.2.2.1, .long gG.2.2.2.2.2.2.1, .long gG.2.2.2.2.2.2.2]))]) hP hD [1] [0] rfl rfl (by decide) (by decide) hk1 hFc hP1 hD1
  have hP := hP.sub (ws' := [(zcr, .inr (0, [.long 0, .long 0, .long 0, .long 0])), (zgr, .inr (2, [.int gG.1, .int gG.2.1, .int (bI gG.2.2.1), .long gG.2.2.2.1, .long gG.2.2.2.2.1, .long gG.2.2.2.2.2.1, .long gG.2.2.2.2.2.2.1, .long gG.2.2.2.2.2.2.2]))]) [0, 1] rfl
  have hD := hD.sub (ws' := [(zcr, .inr (0, [.long 0, .long 0, .long 0, .long 0])), (zgr, .inr (2, [.int gG.1, .int gG.2.1, .int (bI gG.2.2.1), .long gG.2.2.2.1, .long gG.2.2.2.2.1, .long gG.2.2.2.2.2.1, .long gG.2.2.2.2.2.2.1, .long gG.2.2.2.2.2.2.2]))]) [0, 1] (by decide) rfl
  clear hPc hDc hFc hP1 hD1 hk1
  have hPc := hP.sub (ws' := [(zcr, .inr (0, [.long 0, .long 0, .long 0, .long 0]))]) [0] rfl
  have hDc := hD.sub (ws' := [(zcr, .inr (0, [.long 0, .long 0, .long 0, .long 0]))]) [0] (by decide) rfl
  have hFc := va_free (wc := [(zcr, .inr (0, [.long 0, .long 0, .long 0, .long 0]))]) hD hS hA [0] rfl
  refine va_callv (va_runV (As := [.long (f_X3_left gG (f_X3_up gG hs))]) (rest := []) ⟨hx, hb, hml, hown, hts⟩ (c_X0_add l dC dI cI cJ zcr H.size (0, 0, 0, 0) (f_X3_left gG (f_X3_up gG hs))) (cwV 1 hts gX0_lookAround_X0_add rfl rfl rfl (by decide +kernel) ⟨Nat.le_of_ble_eq_true rfl, Nat.le_of_ble_eq_true rfl⟩) ⟨fun a U gg mk q => by obtain ⟨q0, q1, qP, qK, qD⟩ := q; exact ⟨q0, q1, qP, va_K.moved (u := U) (U := U.calling gg mk a) (Vm.Alike.refl U.vm) qK, qD⟩, va_recv hK hPc (ci := 0) (q0 := 0) rfl rfl, fun U hU hW => ⟨rfl, by rw [hU], by rw [hU]; exact hPc, va_K.moved hW.alike hK, hDc.weaken (fun _ _ _ _ => trivial)⟩⟩ rfl rfl hl.1 rfl (lv_room (Nat.le_of_ble_eq_true rfl)) dX0_lookAround_41 ⟨Nat.zero_le _, Nat.zero_le _⟩) hS (fun q _ h => hFc q h) hFc (fun u_ t H locs ht hvm hw hB hz1 hk1 hS => ?_)
  obtain ⟨hP1, -, hD1⟩ := hB
  rw [ht] at hP1
  obtain ⟨hP, hD⟩ := va_join (wr := [(zgr, .inr (2, [.int gG.1, .int gG.2.1, .int (bI gG.2.2.1), .long gG.2.2.2.1, .long gG.2.2.2.2.1, .long gG.2.2.2.2.2.1, .long gG.2.2.2.2.2.2.1, .long gG.2.2.2.2.2.2.2]))]) (w1 := [(zcr, .inr (0, [.long (f_X0_add (0, 0, 0, 0) (f_X3_left gG (f_X3_up gG hs))).1, .long (f_X0_add (0, 0, 0, 0) (f_X3_left gG (f_X3_up gG hs))).2.1, .long (f_X0_add (0, 0, 0, 0) (f_X3_left gG (f_X3_up gG hs))).2.2.1, .long (f_X0_add (0, 0, 0, 0) (f_X3_left gG (f_X3_up gG hs))).2.2.2]))]) hP hD [0] [1] rfl rfl (by decide) (by decide) hk1 hFc hP1 hD1
  have hP := hP.sub (ws' := [(zcr, .inr (0, [.long (f_X0_add (0, 0, 0, 0) (f_X3_left gG (f_X3_up gG hs))).1, .long (f_X0_add (0, 0, 0, 0) (f_X3_left gG (f_X3_up gG hs))).2.1, .long (f_X0_add (0, 0, 0, 0) (f_X3_left gG (f_X3_up gG hs))).2.2.1, .long (f_X0_add (0, 0, 0, 0) (f_X3_left gG (f_X3_up gG hs))).2.2.2])), (zgr, .inr (2, [.int gG.1, .int gG.2.1, .int (bI gG.2.2.1), .long gG.2.2.2.1, .long gG.2.2.2.2.1, .long gG.2.2.2.2.2.1, .long gG.2.2.2.2.2.2.1, .long gG.2.2.2.2.2.2.2]))]) [1, 0] rfl
  have hD := hD.sub (ws' := [(zcr, .inr (0, [.long (f_X0_add (0, 0, 0, 0) (f_X3_left gG (f_X3_up gG hs))).1, .long (f_X0_add (0, 0, 0, 0) (f_X3_left gG (f_X3_up gG hs))).2.1, .long (f_X0_add (0, 0, 0, 0) (f_X3_left gG (f_X3_up gG hs))).2.2.1, .long (f_X0_add (0, 0, 0, 0) (f_X3_left gG (f_X3_up gG hs))).2.2.2])), (zgr, .inr (2, [.int gG.1, .int gG.2.1, .int (bI gG.2.2.1), .long gG.2.2.2.1, .long gG.2.2.2.2.1, .long gG.2.2.2.2.2.1, .long gG.2.2.2.2.2.2.1, .long gG.2.2.2.2.2.2.2]))]) [1, 0] (by decide) rfl
  clear hPc hDc hFc hP1 hD1 hk1
  refine lv_aload_n hx hb dX0_lookAround_44 rfl (lv_at hl 2 rfl) ?_
  refine lv_lload hx hb dX0_lookAround_45 (lv_at hl 1 rfl) ?_
  have hPc := hP.sub (ws' := [(zcr, .inr (0, [.long (f_X0_add (0, 0, 0, 0) (f_X3_left gG (f_X3_up gG hs))).1, .long (f_X0_add (0, 0, 0, 0) (f_X3_left gG (f_X3_up gG hs))).2.1, .long (f_X0_add (0, 0, 0, 0) (f_X3_left gG (f_X3_up gG hs))).2.2.1, .long (f_X0_add (0, 0, 0, 0) (f_X3_left gG (f_X3_up gG hs))).2.2.2]))]) [0] rfl
  have hDc := hD.sub (ws' := [(zcr, .inr (0, [.long (f_X0_add (0, 0, 0, 0) (f_X3_left gG (f_X3_up gG hs))).1, .long (f_X0_add (0, 0, 0, 0) (f_X3_left gG (f_X3_up gG hs))).2.1, .long (f_X0_add (0, 0, 0, 0) (f_X3_left gG (f_X3_up gG hs))).2.2.1, .long (f_X0_add (0, 0, 0, 0) (f_X3_left gG (f_X3_up gG hs))).2.2.2]))]) [0] (by decide) rfl
  have hFc := va_free (wc := [(zcr, .inr (0, [.long (f_X0_add (0, 0, 0, 0) (f_X3_left gG (f_X3_up gG hs))).1, .long (f_X0_add (0, 0, 0, 0) (f_X3_left gG (f_X3_up gG hs))).2.1, .long (f_X0_add (0, 0, 0, 0) (f_X3_left gG (f_X3_up gG hs))).2.2.1, .long (f_X0_add (0, 0, 0, 0) (f_X3_left gG (f_X3_up gG hs))).2.2.2]))]) hD hS hA [0] rfl
  refine va_callv (va_runV (As := [.long (f_X3_up gG hs)]) (rest := []) ⟨hx, hb, hml, hown, hts⟩ (c_X0_add l dC dI cI cJ zcr H.size (f_X0_add (0, 0, 0, 0) (f_X3_left gG (f_X3_up gG hs))) (f_X3_up gG hs)) (cwV 1 hts gX0_lookAround_X0_add rfl rfl rfl (by decide +kernel) ⟨Nat.le_of_ble_eq_true rfl, Nat.le_of_ble_eq_true rfl⟩) ⟨fun a U gg mk q => by obtain ⟨q0, q1, qP, qK, qD⟩ := q; exact ⟨q0, q1, qP, va_K.moved (u := U) (U := U.calling gg mk a) (Vm.Alike.refl U.vm) qK, qD⟩, va_recv hK hPc (ci := 0) (q0 := 0) rfl rfl, fun U hU hW => ⟨rfl, by rw [hU], by rw [hU]; exact hPc, va_K.moved hW.alike hK, hDc.weaken (fun _ _ _ _ => trivial)⟩⟩ rfl rfl hl.1 rfl (lv_room (Nat.le_of_ble_eq_true rfl)) dX0_lookAround_47 ⟨Nat.zero_le _, Nat.zero_le _⟩) hS (fun q _ h => hFc q h) hFc (fun u_ t H locs ht hvm hw hB hz1 hk1 hS => ?_)
  obtain ⟨hP1, -, hD1⟩ := hB
  rw [ht] at hP1
  obtain ⟨hP, hD⟩ := va_join (wr := [(zgr, .inr (2, [.int gG.1, .int gG.2.1, .int (bI gG.2.2.1), .long gG.2.2.2.1, .long gG.2.2.2.2.1, .long gG.2.2.2.2.2.1, .long gG.2.2.2.2.2.2.1, .long gG.2.2.2.2.2.2.2]))]) (w1 := [(zcr, .inr (0, [.long (f_X0_add (f_X0_add (0, 0, 0, 0) (f_X3_left gG (f_X3_up gG hs))) (f_X3_up gG hs)).1, .long (f_X0_add (f_X0_add (0, 0, 0, 0) (f_X3_left gG (f_X3_up gG hs))) (f_X3_up gG hs)).2.1, .long (f_X0_add (f_X0_add (0, 0, 0, 0) (f_X3_left gG (f_X3_up gG hs))) (f_X3_up gG hs)).2.2.1, .long (f_X0_add (f_X0_add (0, 0, 0, 0) (f_X3_left gG (f_X3_up gG hs))) (f_X3_up gG hs)).2.2.2]))]) hP hD [0] [1] rfl rfl (by decide) (by decide) hk1 hFc hP1 hD1
  have hP := hP.sub (ws' := [(zcr, .inr (0, [.long (f_X0_add (f_X0_add (0, 0, 0, 0) (f_X3_left gG (f_X3_up gG hs))) (f_X3_up gG hs)).1, .long (f_X0_add (f_X0_add (0, 0, 0, 0) (f_X3_left gG (f_X3_up gG hs))) (f_X3_up gG hs)).2.1, .long (f_X0_add (f_X0_add (0, 0, 0, 0) (f_X3_left gG (f_X3_up gG hs))) (f_X3_up gG hs)).2.2.1, .long (f_X0_add (f_X0_add (0, 0, 0, 0) (f_X3_left gG (f_X3_up gG hs))) (f_X3_up gG hs)).2.2.2])), (zgr, .inr (2, [.int gG.1, .int gG.2.1, .int (bI gG.2.2.1), .long gG.2.2.2.1, .long gG.2.2.2.2.1, .long gG.2.2.2.2.2.1, .long gG.2.2.2.2.2.2.1, .long gG.2.2.2.2.2.2.2]))]) [1, 0] rfl
  have hD := hD.sub (ws' := [(zcr, .inr (0, [.long (f_X0_add (f_X0_add (0, 0, 0, 0) (f_X3_left gG (f_X3_up gG hs))) (f_X3_up gG hs)).1, .long (f_X0_add (f_X0_add (0, 0, 0, 0) (f_X3_left gG (f_X3_up gG hs))) (f_X3_up gG hs)).2.1, .long (f_X0_add (f_X0_add (0, 0, 0, 0) (f_X3_left gG (f_X3_up gG hs))) (f_X3_up gG hs)).2.2.1, .long (f_X0_add (f_X0_add (0, 0, 0, 0) (f_X3_left gG (f_X3_up gG hs))) (f_X3_up gG hs)).2.2.2])), (zgr, .inr (2, [.int gG.1, .int gG.2.1, .int (bI gG.2.2.1), .long gG.2.2.2.1, .long gG.2.2.2.2.1, .long gG.2.2.2.2.2.1, .long gG.2.2.2.2.2.2.1, .long gG.2.2.2.2.2.2.2]))]) [1, 0] (by decide) rfl
  clear hPc hDc hFc hP1 hD1 hk1
  refine lv_aload_n hx hb dX0_lookAround_50 rfl (lv_at hl 2 rfl) ?_
  refine lv_aload_n hx hb dX0_lookAround_51 rfl (lv_at hl 4 rfl) ?_
  refine lv_lload hx hb dX0_lookAround_52 (lv_at hl 1 rfl) ?_
  have hPc := hP.sub (ws' := [(zgr, .inr (2, [.int gG.1, .int gG.2.1, .int (bI gG.2.2.1), .long gG.2.2.2.1, .long gG.2.2.2.2.1, .long gG.2.2.2.2.2.1, .long gG.2.2.2.2.2.2.1, .long gG.2.2.2.2.2.2.2]))]) [1] rfl
  have hDc := hD.sub (ws' := [(zgr, .inr (2, [.int gG.1, .int gG.2.1, .int (bI gG.2.2.1), .long gG.2.2.2.1, .long gG.2.2.2.2.1, .long gG.2.2.2.2.2.1, .long gG.2.2.2.2.2.2.1, .long gG.2.2.2.2.2.2.2]))]) [1] (by decide) rfl
  have hFc := va_free (wc := [(zgr, .inr (2, [.int gG.1, .int gG.2.1, .int (bI gG.2.2.1), .long gG.2.2.2.1, .long gG.2.2.2.2.1, .long gG.2.2.2.2.2.1, .long gG.2.2.2.2.2.2.1, .long gG.2.2.2.2.2.2.2]))]) hD hS hA [1] rfl
  refine va_calll (va_runV (As := [.long (f_X3_up gG hs)]) (rest := [.ref zcr]) ⟨hx, hb, hml, hown, hts⟩ (c_X3_right l dC dI cI cJ zgr H.size gG (f_X3_up gG hs)) (cwV 1 hts gX0_lookAround_X3_right rfl rfl rfl (by decide +kernel) ⟨Nat.le_of_ble_eq_true rfl, Nat.le_of_ble_eq_true rfl⟩) ⟨fun a U gg mk q => by obtain ⟨q0, q1, qP, qK, qD⟩ := q; exact ⟨q0, q1, qP, va_K.moved (u := U) (U := U.calling gg mk a) (Vm.Alike.refl U.vm) qK, qD⟩, va_recv hK hPc (ci := 2) (q0 := 0) rfl rfl, fun U hU hW => ⟨rfl, by rw [hU], by rw [hU]; exact hPc, va_K.moved hW.alike hK, hDc.weaken (fun _ _ _ _ => trivial)⟩⟩ rfl rfl hl.1 rfl (lv_room (Nat.le_of_ble_eq_true rfl)) dX0_lookAround_54 ⟨Nat.zero_le _, Nat.zero_le _⟩) hS (fun q _ h => hFc q h) hFc (fun r_ u_ t H locs ht hvm hw hB hz1 hk1 hS => ?_)
  obtain rfl := hw.symm
  obtain ⟨hP1, -, hD1⟩ := hB
  rw [ht] at hP1
  obtain ⟨hP, hD⟩ := va_join (wr := [(zcr, .inr (0, [.long (f_X0_add (f_X0_add (0, 0, 0, 0) (f_X3_left gG (f_X3_up gG hs))) (f_X3_up gG hs)).1, .long (f_X0_add (f_X0_add (0, 0, 0, 0) (f_X3_left gG (f_X3_up gG hs))) (f_X3_up gG hs)).2.1, .long (f_X0_add (f_X0_add (0, 0, 0, 0) (f_X3_left gG (f_X3_up gG hs))) (f_X3_up gG hs)).2.2.1, .long (f_X0_add (f_X0_add (0, 0, 0, 0) (f_X3_left gG (f_X3_up gG hs))) (f_X3_up gG hs)).2.2.2]))]) (w1 := [(zgr, .inr (2, [.int gG.1, .int gG.2.1, .int (bI gG.2.2.1), .long gG.2.2.2.1, .long gG.2.2.2.2.1, .long gG.2.2.2.2.2.1, .long gG.2.2.2.2.2.2.1, .long gG.2.2.2.2.2.2.2]))]) hP hD [1] [0] rfl rfl (by decide) (by decide) hk1 hFc hP1 hD1
  have hP := hP.sub (ws' := [(zcr, .inr (0, [.long (f_X0_add (f_X0_add (0, 0, 0, 0) (f_X3_left gG (f_X3_up gG hs))) (f_X3_up gG hs)).1, .long (f_X0_add (f_X0_add (0, 0, 0, 0) (f_X3_left gG (f_X3_up gG hs))) (f_X3_up gG hs)).2.1, .long (f_X0_add (f_X0_add (0, 0, 0, 0) (f_X3_left gG (f_X3_up gG hs))) (f_X3_up gG hs)).2.2.1, .long (f_X0_add (f_X0_add (0, 0, 0, 0) (f_X3_left gG (f_X3_up gG hs))) (f_X3_up gG hs)).2.2.2])), (zgr, .inr (2, [.int gG.1, .int gG.2.1, .int (bI gG.2.2.1), .long gG.2.2.2.1, .long gG.2.2.2.2.1, .long gG.2.2.2.2.2.1, .long gG.2.2.2.2.2.2.1, .long gG.2.2.2.2.2.2.2]))]) [0, 1] rfl
  have hD := hD.sub (ws' := [(zcr, .inr (0, [.long (f_X0_add (f_X0_add (0, 0, 0, 0) (f_X3_left gG (f_X3_up gG hs))) (f_X3_up gG hs)).1, .long (f_X0_add (f_X0_add (0, 0, 0, 0) (f_X3_left gG (f_X3_up gG hs))) (f_X3_up gG hs)).2.1, .long (f_X0_add (f_X0_add (0, 0, 0, 0) (f_X3_left gG (f_X3_up gG hs))) (f_X3_up gG hs)).2.2.1, .long (f_X0_add (f_X0_add (0, 0, 0, 0) (f_X3_left gG (f_X3_up gG hs))) (f_X3_up gG hs)).2.2.2])), (zgr, .inr (2, [.int gG.1, .int gG.2.1, .int (bI gG.2.2.1), .long gG.2.2.2.1, .long gG.2.2.2.2.1, .long gG.2.2.2.2.2.1, .long gG.2.2.2.2.2.2.1, .long gG.2.2.2.2.2.2.2]))]) [0, 1] (by decide) rfl
  clear hPc hDc hFc hP1 hD1 hk1
  have hPc := hP.sub (ws' := [(zcr, .inr (0, [.long (f_X0_add (f_X0_add (0, 0, 0, 0) (f_X3_left gG (f_X3_up gG hs))) (f_X3_up gG hs)).1, .long (f_X0_add (f_X0_add (0, 0, 0, 0) (f_X3_left gG (f_X3_up gG hs))) (f_X3_up gG hs)).2.1, .long (f_X0_add (f_X0_add (0, 0, 0, 0) (f_X3_left gG (f_X3_up gG hs))) (f_X3_up gG hs)).2.2.1, .long (f_X0_add (f_X0_add (0, 0, 0, 0) (f_X3_left gG (f_X3_up gG hs))) (f_X3_up gG hs)).2.2.2]))]) [0] rfl
  have hDc := hD.sub (ws' := [(zcr, .inr (0, [.long (f_X0_add (f_X0_add (0, 0, 0, 0) (f_X3_left gG (f_X3_up gG hs))) (f_X3_up gG hs)).1, .long (f_X0_add (f_X0_add (0, 0, 0, 0) (f_X3_left gG (f_X3_up gG hs))) (f_X3_up gG hs)).2.1, .long (f_X0_add (f_X0_add (0, 0, 0, 0) (f_X3_left gG (f_X3_up gG hs))) (f_X3_up gG hs)).2.2.1, .long (f_X0_add (f_X0_add (0, 0, 0, 0) (f_X3_left gG (f_X3_up gG hs))) (f_X3_up gG hs)).2.2.2]))]) [0] (by decide) rfl
  have hFc := va_free (wc := [(zcr, .inr (0, [.long (f_X0_add (f_X0_add (0, 0, 0, 0) (f_X3_left gG (f_X3_up gG hs))) (f_X3_up gG hs)).1, .long (f_X0_add (f_X0_add (0, 0, 0, 0) (f_X3_left gG (f_X3_up gG hs))) (f_X3_up gG hs)).2.1, .long (f_X0_add (f_X0_add (0, 0, 0, 0) (f_X3_left gG (f_X3_up gG hs))) (f_X3_up gG hs)).2.2.1, .long (f_X0_add (f_X0_add (0, 0, 0, 0) (f_X3_left gG (f_X3_up gG hs))) (f_X3_up gG hs)).2.2.2]))]) hD hS hA [0] rfl
  refine va_callv (va_runV (As := [.long (f_X3_right gG (f_X3_up gG hs))]) (rest := []) ⟨hx, hb, hml, hown, hts⟩ (c_X0_add l dC dI cI cJ zcr H.size (f_X0_add (f_X0_add (0, 0, 0, 0) (f_X3_left gG (f_X3_up gG hs))) (f_X3_up gG hs)) (f_X3_right gG (f_X3_up gG hs))) (cwV 1 hts gX0_lookAround_X0_add rfl rfl rfl (by decide +kernel) ⟨Nat.le_of_ble_eq_true rfl, Nat.le_of_ble_eq_true rfl⟩) ⟨fun a U gg mk q => by obtain ⟨q0, q1, qP, qK, qD⟩ := q; exact ⟨q0, q1, qP, va_K.moved (u := U) (U := U.calling gg mk a) (Vm.Alike.refl U.vm) qK, qD⟩, va_recv hK hPc (ci := 0) (q0 := 0) rfl rfl, fun U hU hW => ⟨rfl, by rw [hU], by rw [hU]; exact hPc, va_K.moved hW.alike hK, hDc.weaken (fun _ _ _ _ => trivial)⟩⟩ rfl rfl hl.1 rfl (lv_room (Nat.le_of_ble_eq_true rfl)) dX0_lookAround_57 ⟨Nat.zero_le _, Nat.zero_le _⟩) hS (fun q _ h => hFc q h) hFc (fun u_ t H locs ht hvm hw hB hz1 hk1 hS => ?_)
  obtain ⟨hP1, -, hD1⟩ := hB
  rw [ht] at hP1
  obtain ⟨hP, hD⟩ := va_join (wr := [(zgr, .inr (2, [.int gG.1, .int gG.2.1, .int (bI gG.2.2.1), .long gG.2.2.2.1, .long gG.2.2.2.2.1, .long gG.2.2.2.2.2.1, .long gG.2.2.2.2.2.2.1, .long gG.2.2.2.2.2.2.2]))]) (w1 := [(zcr, .inr (0, [.long (f_X0_add (f_X0_add (f_X0_add (0, 0, 0, 0) (f_X3_left gG (f_X3_up gG hs))) (f_X3_up gG hs)) (f_X3_right gG (f_X3_up gG hs))).1, .long (f_X0_add (f_X0_add (f_X0_add (0, 0, 0, 0) (f_X3_left gG (f_X3_up gG hs))) (f_X3_up gG hs)) (f_X3_right gG (f_X3_up gG hs))).2.1, .long (f_X0_add (f_X0_add (f_X0_add (0, 0, 0, 0) (f_X3_left gG (f_X3_up gG hs))) (f_X3_up gG hs)) (f_X3_right gG (f_X3_up gG hs))).2.2.1, .long (f_X0_add (f_X0_add (f_X0_add (0, 0, 0, 0) (f_X3_left gG (f_X3_up gG hs))) (f_X3_up gG hs)) (f_X3_right gG (f_X3_up gG hs))).2.2.2]))]) hP hD [0] [1] rfl rfl (by decide) (by decide) hk1 hFc hP1 hD1
  have hP := hP.sub (ws' := [(zcr, .inr (0, [.long (f_X0_add (f_X0_add (f_X0_add (0, 0, 0, 0) (f_X3_left gG (f_X3_up gG hs))) (f_X3_up gG hs)) (f_X3_right gG (f_X3_up gG hs))).1, .long (f_X0_add (f_X0_add (f_X0_add (0, 0, 0, 0) (f_X3_left gG (f_X3_up gG hs))) (f_X3_up gG hs)) (f_X3_right gG (f_X3_up gG hs))).2.1, .long (f_X0_add (f_X0_add (f_X0_add (0, 0, 0, 0) (f_X3_left gG (f_X3_up gG hs))) (f_X3_up gG hs)) (f_X3_right gG (f_X3_up gG hs))).2.2.1, .long (f_X0_add (f_X0_add (f_X0_add (0, 0, 0, 0) (f_X3_left gG (f_X3_up gG hs))) (f_X3_up gG hs)) (f_X3_right gG (f_X3_up gG hs))).2.2.2])), (zgr, .inr (2, [.int gG.1, .int gG.2.1, .int (bI gG.2.2.1), .long gG.2.2.2.1, .long gG.2.2.2.2.1, .long gG.2.2.2.2.2.1, .long gG.2.2.2.2.2.2.1, .long gG.2.2.2.2.2.2.2]))]) [1, 0] rfl
  have hD := hD.sub (ws' := [(zcr, .inr (0, [.long (f_X0_add (f_X0_add (f_X0_add (0, 0, 0, 0) (f_X3_left gG (f_X3_up gG hs))) (f_X3_up gG hs)) (f_X3_right gG (f_X3_up gG hs))).1, .long (f_X0_add (f_X0_add (f_X0_add (0, 0, 0, 0) (f_X3_left gG (f_X3_up gG hs))) (f_X3_up gG hs)) (f_X3_right gG (f_X3_up gG hs))).2.1, .long (f_X0_add (f_X0_add (f_X0_add (0, 0, 0, 0) (f_X3_left gG (f_X3_up gG hs))) (f_X3_up gG hs)) (f_X3_right gG (f_X3_up gG hs))).2.2.1, .long (f_X0_add (f_X0_add (f_X0_add (0, 0, 0, 0) (f_X3_left gG (f_X3_up gG hs))) (f_X3_up gG hs)) (f_X3_right gG (f_X3_up gG hs))).2.2.2])), (zgr, .inr (2, [.int gG.1, .int gG.2.1, .int (bI gG.2.2.1), .long gG.2.2.2.1, .long gG.2.2.2.2.1, .long gG.2.2.2.2.2.1, .long gG.2.2.2.2.2.2.1, .long gG.2.2.2.2.2.2.2]))]) [1, 0] (by decide) rfl
  clear hPc hDc hFc hP1 hD1 hk1
  refine lv_aload_n hx hb dX0_lookAround_60 rfl (lv_at hl 2 rfl) ?_
  refine lv_aload_n hx hb dX0_lookAround_61 rfl (lv_at hl 4 rfl) ?_
  refine lv_lload_n hx hb dX0_lookAround_62 rfl (lv_at hl 3 rfl) ?_
  have hPc := hP.sub (ws' := [(zgr, .inr (2, [.int gG.1, .int gG.2.1, .int (bI gG.2.2.1), .long gG.2.2.2.1, .long gG.2.2.2.2.1, .long gG.2.2.2.2.2.1, .long gG.2.2.2.2.2.2.1, .long gG.2.2.2.2.2.2.2]))]) [1] rfl
  have hDc := hD.sub (ws' := [(zgr, .inr (2, [.int gG.1, .int gG.2.1, .int (bI gG.2.2.1), .long gG.2.2.2.1, .long gG.2.2.2.2.1, .long gG.2.2.2.2.2.1, .long gG.2.2.2.2.2.2.1, .long gG.2.2.2.2.2.2.2]))]) [1] (by decide) rfl
  have hFc := va_free (wc := [(zgr, .inr (2, [.int gG.1, .int gG.2.1, .int (bI gG.2.2.1), .long gG.2.2.2.1, .long gG.2.2.2.2.1, .long gG.2.2.2.2.2.1, .long gG.2.2.2.2.2.2.1, .long gG.2.2.2.2.2.2.2]))]) hD hS hA [1] rfl
  refine va_calll (va_runV (As := [.long hs]) (rest := [.ref zcr]) ⟨hx, hb, hml, hown, hts⟩ (c_X3_left l dC dI cI cJ zgr H.size gG hs) (cwV 1 hts gX0_lookAround_X3_left rfl rfl rfl (by decide +kernel) ⟨Nat.le_of_ble_eq_true rfl, Nat.le_of_ble_eq_true rfl⟩) ⟨fun a U gg mk q => by obtain ⟨q0, q1, qP, qK, qD⟩ := q; exact ⟨q0, q1, qP, va_K.moved (u := U) (U := U.calling gg mk a) (Vm.Alike.refl U.vm) qK, qD⟩, va_recv hK hPc (ci := 2) (q0 := 0) rfl rfl, fun U hU hW => ⟨rfl, by rw [hU], by rw [hU]; exact hPc, va_K.moved hW.alike hK, hDc.weaken (fun _ _ _ _ => trivial)⟩⟩ rfl rfl hl.1 rfl (lv_room (Nat.le_of_ble_eq_true rfl)) dX0_lookAround_63 ⟨Nat.zero_le _, Nat.zero_le _⟩) hS (fun q _ h => hFc q h) hFc (fun r_ u_ t H locs ht hvm hw hB hz1 hk1 hS => ?_)
  obtain rfl := hw.symm
  obtain ⟨hP1, -, hD1⟩ := hB
  rw [ht] at hP1
  obtain ⟨hP, hD⟩ := va_join (wr := [(zcr, .inr (0, [.long (f_X0_add (f_X0_add (f_X0_add (0, 0, 0, 0) (f_X3_left gG (f_X3_up gG hs))) (f_X3_up gG hs)) (f_X3_right gG (f_X3_up gG hs))).1, .long (f_X0_add (f_X0_add (f_X0_add (0, 0, 0, 0) (f_X3_left gG (f_X3_up gG hs))) (f_X3_up gG hs)) (f_X3_right gG (f_X3_up gG hs))).2.1, .long (f_X0_add (f_X0_add (f_X0_add (0, 0, 0, 0) (f_X3_left gG (f_X3_up gG hs))) (f_X3_up gG hs)) (f_X3_right gG (f_X3_up gG hs))).2.2.1, .long (f_X0_add (f_X0_add (f_X0_add (0, 0, 0, 0) (f_X3_left gG (f_X3_up gG hs))) (f_X3_up gG hs)) (f_X3_right gG (f_X3_up gG hs))).2.2.2]))]) (w1 := [(zgr, .inr (2, [.int gG.1, .int gG.2.1, .int (bI gG.2.2.1), .long gG.2.2.2.1, .long gG.2.2.2.2.1, .long gG.2.2.2.2.2.1, .long gG.2.2.2.2.2.2.1, .long gG.2.2.2.2.2.2.2]))]) hP hD [1] [0] rfl rfl (by decide) (by decide) hk1 hFc hP1 hD1
  have hP := hP.sub (ws' := [(zcr, .inr (0, [.long (f_X0_add (f_X0_add (f_X0_add (0, 0, 0, 0) (f_X3_left gG (f_X3_up gG hs))) (f_X3_up gG hs)) (f_X3_right gG (f_X3_up gG hs))).1, .long (f_X0_add (f_X0_add (f_X0_add (0, 0, 0, 0) (f_X3_left gG (f_X3_up gG hs))) (f_X3_up gG hs)) (f_X3_right gG (f_X3_up gG hs))).2.1, .long (f_X0_add (f_X0_add (f_X0_add (0, 0, 0, 0) (f_X3_left gG (f_X3_up gG hs))) (f_X3_up gG hs)) (f_X3_right gG (f_X3_up gG hs))).2.2.1, .long (f_X0_add (f_X0_add (f_X0_add (0, 0, 0, 0) (f_X3_left gG (f_X3_up gG hs))) (f_X3_up gG hs)) (f_X3_right gG (f_X3_up gG hs))).2.2.2])), (zgr, .inr (2, [.int gG.1, .int gG.2.1, .int (bI gG.2.2.1), .long gG.2.2.2.1, .long gG.2.2.2.2.1, .long gG.2.2.2.2.2.1, .long gG.2.2.2.2.2.2.1, .long gG.2.2.2.2.2.2.2]))]) [0, 1] rfl
  have hD := hD.sub (ws' := [(zcr, .inr (0, [.long (f_X0_add (f_X0_add (f_X0_add (0, 0, 0, 0) (f_X3_left gG (f_X3_up gG hs))) (f_X3_up gG hs)) (f_X3_right gG (f_X3_up gG hs))).1, .long (f_X0_add (f_X0_add (f_X0_add (0, 0, 0, 0) (f_X3_left gG (f_X3_up gG hs))) (f_X3_up gG hs)) (f_X3_right gG (f_X3_up gG hs))).2.1, .long (f_X0_add (f_X0_add (f_X0_add (0, 0, 0, 0) (f_X3_left gG (f_X3_up gG hs))) (f_X3_up gG hs)) (f_X3_right gG (f_X3_up gG hs))).2.2.1, .long (f_X0_add (f_X0_add (f_X0_add (0, 0, 0, 0) (f_X3_left gG (f_X3_up gG hs))) (f_X3_up gG hs)) (f_X3_right gG (f_X3_up gG hs))).2.2.2])), (zgr, .inr (2, [.int gG.1, .int gG.2.1, .int (bI gG.2.2.1), .long gG.2.2.2.1, .long gG.2.2.2.2.1, .long gG.2.2.2.2.2.1, .long gG.2.2.2.2.2.2.1, .long gG.2.2.2.2.2.2.2]))]) [0, 1] (by decide) rfl
  clear hPc hDc hFc hP1 hD1 hk1
  have hPc := hP.sub (ws' := [(zcr, .inr (0, [.long (f_X0_add (f_X0_add (f_X0_add (0, 0, 0, 0) (f_X3_left gG (f_X3_up gG hs))) (f_X3_up gG hs)) (f_X3_right gG (f_X3_up gG hs))).1, .long (f_X0_add (f_X0_add (f_X0_add (0, 0, 0, 0) (f_X3_left gG (f_X3_up gG hs))) (f_X3_up gG hs)) (f_X3_right gG (f_X3_up gG hs))).2.1, .long (f_X0_add (f_X0_add (f_X0_add (0, 0, 0, 0) (f_X3_left gG (f_X3_up gG hs))) (f_X3_up gG hs)) (f_X3_right gG (f_X3_up gG hs))).2.2.1, .long (f_X0_add (f_X0_add (f_X0_add (0, 0, 0, 0) (f_X3_left gG (f_X3_up gG hs))) (f_X3_up gG hs)) (f_X3_right gG (f_X3_up gG hs))).2.2.2]))]) [0] rfl
  have hDc := hD.sub (ws' := [(zcr, .inr (0, [.long (f_X0_add (f_X0_add (f_X0_add (0, 0, 0, 0) (f_X3_left gG (f_X3_up gG hs))) (f_X3_up gG hs)) (f_X3_right gG (f_X3_up gG hs))).1, .long (f_X0_add (f_X0_add (f_X0_add (0, 0, 0, 0) (f_X3_left gG (f_X3_up gG hs))) (f_X3_up gG hs)) (f_X3_right gG (f_X3_up gG hs))).2.1, .long (f_X0_add (f_X0_add (f_X0_add (0, 0, 0, 0) (f_X3_left gG (f_X3_up gG hs))) (f_X3_up gG hs)) (f_X3_right gG (f_X3_up gG hs))).2.2.1, .long (f_X0_add (f_X0_add (f_X0_add (0, 0, 0, 0) (f_X3_left gG (f_X3_up gG hs))) (f_X3_up gG hs)) (f_X3_right gG (f_X3_up gG hs))).2.2.2]))]) [0] (by decide) rfl
  have hFc := va_free (wc := [(zcr, .inr (0, [.long (f_X0_add (f_X0_add (f_X0_add (0, 0, 0, 0) (f_X3_left gG (f_X3_up gG hs))) (f_X3_up gG hs)) (f_X3_right gG (f_X3_up gG hs))).1, .long (f_X0_add (f_X0_add (f_X0_add (0, 0, 0, 0) (f_X3_left gG (f_X3_up gG hs))) (f_X3_up gG hs)) (f_X3_right gG (f_X3_up gG hs))).2.1, .long (f_X0_add (f_X0_add (f_X0_add (0, 0, 0, 0) (f_X3_left gG (f_X3_up gG hs))) (f_X3_up gG hs)) (f_X3_right gG (f_X3_up gG hs))).2.2.1, .long (f_X0_add (f_X0_add (f_X0_add (0, 0, 0, 0) (f_X3_left gG (f_X3_up gG hs))) (f_X3_up gG hs)) (f_X3_right gG (f_X3_up gG hs))).2.2.2]))]) hD hS hA [0] rfl
  refine va_callv (va_runV (As := [.long (f_X3_left gG hs)]) (rest := []) ⟨hx, hb, hml, hown, hts⟩ (c_X0_add l dC dI cI cJ zcr H.size (f_X0_add (f_X0_add (f_X0_add (0, 0, 0, 0) (f_X3_left gG (f_X3_up gG hs))) (f_X3_up gG hs)) (f_X3_right gG (f_X3_up gG hs))) (f_X3_left gG hs)) (cwV 1 hts gX0_lookAround_X0_add rfl rfl rfl (by decide +kernel) ⟨Nat.le_of_ble_eq_true rfl, Nat.le_of_ble_eq_true rfl⟩) ⟨fun a U gg mk q => by obtain ⟨q0, q1, qP, qK, qD⟩ := q; exact ⟨q0, q1, qP, va_K.moved (u := U) (U := U.calling gg mk a) (Vm.Alike.refl U.vm) qK, qD⟩, va_recv hK hPc (ci := 0) (q0 := 0) rfl rfl, fun U hU hW => ⟨rfl, by rw [hU], by rw [hU]; exact hPc, va_K.moved hW.alike hK, hDc.weaken (fun _ _ _ _ => trivial)⟩⟩ rfl rfl hl.1 rfl (lv_room (Nat.le_of_ble_eq_true rfl)) dX0_lookAround_66 ⟨Nat.zero_le _, Nat.zero_le _⟩) hS (fun q _ h => hFc q h) hFc (fun u_ t H locs ht hvm hw hB hz1 hk1 hS => ?_)
  obtain ⟨hP1, -, hD1⟩ := hB
  rw [ht] at hP1
  obtain ⟨hP, hD⟩ := va_join (wr := [(zgr, .inr (2, [.int gG.1, .int gG.2.1, .int (bI gG.2.2.1), .long gG.2.2.2.1, .long gG.2.2.2.2.1, .long gG.2.2.2.2.2.1, .long gG.2.2.2.2.2.2.1, .long gG.2.2.2.2.2.2.2]))]) (w1 := [(zcr, .inr (0, [.long (f_X0_add (f_X0_add (f_X0_add (f_X0_add (0, 0, 0, 0) (f_X3_left gG (f_X3_up gG hs))) (f_X3_up gG hs)) (f_X3_right gG (f_X3_up gG hs))) (f_X3_left gG hs)).1, .long (f_X0_add (f_X0_add (f_X0_add (f_X0_add (0, 0, 0, 0) (f_X3_left gG (f_X3_up gG hs))) (f_X3_up gG hs)) (f_X3_right gG (f_X3_up gG hs))) (f_X3_left gG hs)).2.1, .long (f_X0_add (f_X0_add (f_X0_add (f_X0_add (0, 0, 0, 0) (f_X3_left gG (f_X3_up gG hs))) (f_X3_up gG hs)) (f_X3_right gG (f_X3_up gG hs))) (f_X3_left gG hs)).2.2.1, .long (f_X0_add (f_X0_add (f_X0_add (f_X0_add (0, 0, 0, 0) (f_X3_left gG (f_X3_up gG hs))) (f_X3_up gG hs)) (f_X3_right gG (f_X3_up gG hs))) (f_X3_left gG hs)).2.2.2]))]) hP hD [0] [1] rfl rfl (by decide) (by decide) hk1 hFc hP1 hD1
  have hP := hP.sub (ws' := [(zcr, .inr (0, [.long (f_X0_add (f_X0_add (f_X0_add (f_X0_add (0, 0, 0, 0) (f_X3_left gG (f_X3_up gG hs))) (f_X3_up gG hs)) (f_X3_right gG (f_X3_up gG hs))) (f_X3_left gG hs)).1, .long (f_X0_add (f_X0_add (f_X0_add (f_X0_add (0, 0, 0, 0) (f_X3_left gG (f_X3_up gG hs))) (f_X3_up gG hs)) (f_X3_right gG (f_X3_up gG hs))) (f_X3_left gG hs)).2.1, .long (f_X0_add (f_X0_add (f_X0_add (f_X0_add (0, 0, 0, 0) (f_X3_left gG (f_X3_up gG hs))) (f_X3_up gG hs)) (f_X3_right gG (f_X3_up gG hs))) (f_X3_left gG hs)).2.2.1, .long (f_X0_add (f_X0_add (f_X0_add (f_X0_add (0, 0, 0, 0) (f_X3_left gG (f_X3_up gG hs))) (f_X3_up gG hs)) (f_X3_right gG (f_X3_up gG hs))) (f_X3_left gG hs)).2.2.2])), (zgr, .inr (2, [.int gG.1, .int gG.2.1, .int (bI gG.2.2.1), .long gG.2.2.2.1, .long gG.2.2.2.2.1, .long gG.2.2.2.2.2.1, .long gG.2.2.2.2.2.2.1, .long gG.2.2.2.2.2.2.2]))]) [1, 0] rfl
  have hD := hD.sub (ws' := [(zcr, .inr (0, [.long (f_X0_add (f_X0_add (f_X0_add (f_X0_add (0, 0, 0, 0) (f_X3_left gG (f_X3_up gG hs))) (f_X3_up gG hs)) (f_X3_right gG (f_X3_up gG hs))) (f_X3_left gG hs)).1, .long (f_X0_add (f_X0_add (f_X0_add (f_X0_add (0, 0, 0, 0) (f_X3_left gG (f_X3_up gG hs))) (f_X3_up gG hs)) (f_X3_right gG (f_X3_up gG hs))) (f_X3_left gG hs)).2.1, .long (f_X0_add (f_X0_add (f_X0_add (f_X0_add (0, 0, 0, 0) (f_X3_left gG (f_X3_up gG hs))) (f_X3_up gG hs)) (f_X3_right gG (f_X3_up gG hs))) (f_X3_left gG hs)).2.2.1, .long (f_X0_add (f_X0_add (f_X0_add (f_X0_add (0, 0, 0, 0) (f_X3_left gG (f_X3_up gG hs))) (f_X3_up gG hs)) (f_X3_right gG (f_X3_up gG hs))) (f_X3_left gG hs)).2.2.2])), (zgr, .inr (2, [.int gG.1, .int gG.2.1, .int (bI gG.2.2.1), .long gG.2.2.2.1, .long gG.2.2.2.2.1, .long gG.2.2.2.2.2.1, .long gG.2.2.2.2.2.2.1, .long gG.2.2.2.2.2.2.2]))]) [1, 0] (by decide) rfl
  clear hPc hDc hFc hP1 hD1 hk1
  refine lv_aload_n hx hb dX0_lookAround_69 rfl (lv_at hl 2 rfl) ?_
  refine lv_aload_n hx hb dX0_lookAround_70 rfl (lv_at hl 4 rfl) ?_
  refine lv_lload_n hx hb dX0_lookAround_71 rfl (lv_at hl 3 rfl) ?_
  have hPc := hP.sub (ws' := [(zgr, .inr (2, [.int gG.1, .int gG.2.1, .int (bI gG.2.2.1), .long gG.2.2.2.1, .long gG.2.2.2.2.1, .long gG.2.2.2.2.2.1, .long gG.2.2.2.2.2.2.1, .long gG.2.2.2.2.2.2.2]))]) [1] rfl
  have hDc := hD.sub (ws' := [(zgr, .inr (2, [.int gG.1, .int gG.2.1, .int (bI gG.2.2.1), .long gG.2.2.2.1, .long gG.2.2.2.2.1, .long gG.2.2.2.2.2.1, .long gG.2.2.2.2.2.2.1, .long gG.2.2.2.2.2.2.2]))]) [1] (by decide) rfl
  have hFc := va_free (wc := [(zgr, .inr (2, [.int gG.1, .int gG.2.1, .int (bI gG.2.2.1), .long gG.2.2.2.1, .long gG.2.2.2.2.1, .long gG.2.2.2.2.2.1, .long gG.2.2.2.2.2.2.1, .long gG.2.2.2.2.2.2.2]))]) hD hS hA [1] rfl
  refine va_calll (va_runV (As := [.long hs]) (rest := [.ref zcr]) ⟨hx, hb, hml, hown, hts⟩ (c_X3_right l dC dI cI cJ zgr H.size gG hs) (cwV 1 hts gX0_lookAround_X3_right rfl rfl rfl (by decide +kernel) ⟨Nat.le_of_ble_eq_true rfl, Nat.le_of_ble_eq_true rfl⟩) ⟨fun a U gg mk q => by obtain ⟨q0, q1, qP, qK, qD⟩ := q; exact ⟨q0, q1, qP, va_K.moved (u := U) (U := U.calling gg mk a) (Vm.Alike.refl U.vm) qK, qD⟩, va_recv hK hPc (ci := 2) (q0 := 0) rfl rfl, fun U hU hW => ⟨rfl, by rw [hU], by rw [hU]; exact hPc, va_K.moved hW.alike hK, hDc.weaken (fun _ _ _ _ => trivial)⟩⟩ rfl rfl hl.1 rfl (lv_room (Nat.le_of_ble_eq_true rfl)) dX0_lookAround_72 ⟨Nat.zero_le _, Nat.zero_le _⟩) hS (fun q _ h => hFc q h) hFc (fun r_ u_ t H locs ht hvm hw hB hz1 hk1 hS => ?_)
  obtain rfl := hw.symm
  obtain ⟨hP1, -, hD1⟩ := hB
  rw [ht] at hP1
  obtain ⟨hP, hD⟩ := va_join (wr := [(zcr, .inr (0, [.long (f_X0_add (f_X0_add (f_X0_add (f_X0_add (0, 0, 0, 0) (f_X3_left gG (f_X3_up gG hs))) (f_X3_up gG hs)) (f_X3_right gG (f_X3_up gG hs))) (f_X3_left gG hs)).1, .long (f_X0_add (f_X0_add (f_X0_add (f_X0_add (0, 0, 0, 0) (f_X3_left gG (f_X3_up gG hs))) (f_X3_up gG hs)) (f_X3_right gG (f_X3_up gG hs))) (f_X3_left gG hs)).2.1, .long (f_X0_add (f_X0_add (f_X0_add (f_X0_add (0, 0, 0, 0) (f_X3_left gG (f_X3_up gG hs))) (f_X3_up gG hs)) (f_X3_right gG (f_X3_up gG hs))) (f_X3_left gG hs)).2.2.1, .long (f_X0_add (f_X0_add (f_X0_add (f_X0_add (0, 0, 0, 0) (f_X3_left gG (f_X3_up gG hs))) (f_X3_up gG hs)) (f_X3_right gG (f_X3_up gG hs))) (f_X3_left gG hs)).2.2.2]))]) (w1 := [(zgr, .inr (2, [.int gG.1, .int gG.2.1, .int (bI gG.2.2.1), .long gG.2.2.2.1, .long gG.2.2.2.2.1, .long gG.2.2.2.2.2.1, .long gG.2.2.2.2.2.2.1, .long gG.2.2.2.2.2.2.2]))]) hP hD [1] [0] rfl rfl (by decide) (by decide) hk1 hFc hP1 hD1
  have hP := hP.sub (ws' := [(zcr, .inr (0, [.long (f_X0_add (f_X0_add (f_X0_add (f_X0_add (0, 0, 0, 0) (f_X3_left gG (f_X3_up gG hs))) (f_X3_up gG hs)) (f_X3_right gG (f_X3_up gG hs))) (f_X3_left gG hs)).1, .long (f_X0_add (f_X0_add (f_X0_add (f_X0_add (0, 0, 0, 0) (f_X3_left gG (f_X3_up gG hs))) (f_X3_up gG hs)) (f_X3_right gG (f_X3_up gG hs))) (f_X3_left gG hs)).2.1, .long (f_X0_add (f_X0_add (f_X0_add (f_X0_add (0, 0, 0, 0) (f_X3_left gG (f_X3_up gG hs))) (f_X3_up gG hs)) (f_X3_right gG (f_X3_up gG hs))) (f_X3_left gG hs)).2.2.1, .long (f_X0_add (f_X0_add (f_X0_add (f_X0_add (0, 0, 0, 0) (f_X3_left gG (f_X3_up gG hs))) (f_X3_up gG hs)) (f_X3_right gG (f_X3_up gG hs))) (f_X3_left gG hs)).2.2.2])), (zgr, .inr (2, [.int gG.1, .int gG.2.1, .int (bI gG.2.2.1), .long gG.2.2.2.1, .long gG.2.2.2.2.1, .long gG.2.2.2.2.2.1, .long gG.2.2.2.2.2.2.1, .long gG.2.2.2.2.2.2.2]))]) [0, 1] rfl
  have hD := hD.sub (ws' := [(zcr, .inr (0, [.long (f_X0_add (f_X0_add (f_X0_add (f_X0_add (0, 0, 0, 0) (f_X3_left gG (f_X3_up gG hs))) (f_X3_up gG hs)) (f_X3_right gG (f_X3_up gG hs))) (f_X3_left gG hs)).1, .long (f_X0_add (f_X0_add (f_X0_add (f_X0_add (0, 0, 0, 0) (f_X3_left gG (f_X3_up gG hs))) (f_X3_up gG hs)) (f_X3_right gG (f_X3_up gG hs))) (f_X3_left gG hs)).2.1, .long (f_X0_add (f_X0_add (f_X0_add (f_X0_add (0, 0, 0, 0) (f_X3_left gG (f_X3_up gG hs))) (f_X3_up gG hs)) (f_X3_right gG (f_X3_up gG hs))) (f_X3_left gG hs)).2.2.1, .long (f_X0_add (f_X0_add (f_X0_add (f_X0_add (0, 0, 0, 0) (f_X3_left gG (f_X3_up gG hs))) (f_X3_up gG hs)) (f_X3_right gG (f_X3_up gG hs))) (f_X3_left gG hs)).2.2.2])), (zgr, .inr (2, [.int gG.1, .int gG.2.1, .int (bI gG.2.2.1), .long gG.2.2.2.1, .long gG.2.2.2.2.1, .long gG.2.2.2.2.2.1, .long gG.2.2.2.2.2.2.1, .long gG.2.2.2.2.2.2.2]))]) [0, 1] (by decide) rfl
  clear hPc hDc hFc hP1 hD1 hk1
  have hPc := hP.sub (ws' := [(zcr, .inr (0, [.long (f_X0_add (f_X0_add (f_X0_add (f_X0_add (0, 0, 0, 0) (f_X3_left gG (f_X3_up gG hs))) (f_X3_up gG hs)) (f_X3_right gG (f_X3_up gG hs))) (f_X3_left gG hs)).1, .long (f_X0_add (f_X0_add (f_X0_add (f_X0_add (0, 0, 0, 0) (f_X3_left gG (f_X3_up gG hs))) (f_X3_up gG hs)) (f_X3_right gG (f_X3_up gG hs))) (f_X3_left gG hs)).2.1, .long (f_X0_add (f_X0_add (f_X0_add (f_X0_add (0, 0, 0, 0) (f_X3_left gG (f_X3_up gG hs))) (f_X3_up gG hs)) (f_X3_right gG (f_X3_up gG hs))) (f_X3_left gG hs)).2.2.1, .long (f_X0_add (f_X0_add (f_X0_add (f_X0_add (0, 0, 0, 0) (f_X3_left gG (f_X3_up gG hs))) (f_X3_up gG hs)) (f_X3_right gG (f_X3_up gG hs))) (f_X3_left gG hs)).2.2.2]))]) [0] rfl
  have hDc := hD.sub (ws' := [(zcr, .inr (0, [.long (f_X0_add (f_X0_add (f_X0_add (f_X0_add (0, 0, 0, 0) (f_X3_left gG (f_X3_up gG hs))) (f_X3_up gG hs)) (f_X3_right gG (f_X3_up gG hs))) (f_X3_left gG hs)).1, .long (f_X0_add (f_X0_add (f_X0_add (f_X0_add (0, 0, 0, 0) (f_X3_left gG (f_X3_up gG hs))) (f_X3_up gG hs)) (f_X3_right gG (f_X3_up gG hs))) (f_X3_left gG hs)).2.1, .long (f_X0_add (f_X0_add (f_X0_add (f_X0_add (0, 0, 0, 0) (f_X3_left gG (f_X3_up gG hs))) (f_X3_up gG hs)) (f_X3_right gG (f_X3_up gG hs))) (f_X3_left gG hs)).2.2.1, .long (f_X0_add (f_X0_add (f_X0_add (f_X0_add (0, 0, 0, 0) (f_X3_left gG (f_X3_up gG hs))) (f_X3_up gG hs)) (f_X3_right gG (f_X3_up gG hs))) (f_X3_left gG hs)).2.2.2]))]) [0] (by decide) rfl
  have hFc := va_free (wc := [(zcr, .inr (0, [.long (f_X0_add (f_X0_add (f_X0_add (f_X0_add (0, 0, 0, 0) (f_X3_left gG (f_X3_up gG hs))) (f_X3_up gG hs)) (f_X3_right gG (f_X3_up gG hs))) (f_X3_left gG hs)).1, .long (f_X0_add (f_X0_add (f_X0_add (f_X0_add (0, 0, 0, 0) (f_X3_left gG (f_X3_up gG hs))) (f_X3_up gG hs)) (f_X3_right gG (f_X3_up gG hs))) (f_X3_left gG hs)).2.1, .long (f_X0_add (f_X0_add (f_X0_add (f_X0_add (0, 0, 0, 0) (f_X3_left gG (f_X3_up gG hs))) (f_X3_up gG hs)) (f_X3_right gG (f_X3_up gG hs))) (f_X3_left gG hs)).2.2.1, .long (f_X0_add (f_X0_add (f_X0_add (f_X0_add (0, 0, 0, 0) (f_X3_left gG (f_X3_up gG hs))) (f_X3_up gG hs)) (f_X3_right gG (f_X3_up gG hs))) (f_X3_left gG hs)).2.2.2]))]) hD hS hA [0] rfl
  refine va_callv (va_runV (As := [.long (f_X3_right gG hs)]) (rest := []) ⟨hx, hb, hml, hown, hts⟩ (c_X0_add l dC dI cI cJ zcr H.size (f_X0_add (f_X0_add (f_X0_add (f_X0_add (0, 0, 0, 0) (f_X3_left gG (f_X3_up gG hs))) (f_X3_up gG hs)) (f_X3_right gG (f_X3_up gG hs))) (f_X3_left gG hs)) (f_X3_right gG hs)) (cwV 1 hts gX0_lookAround_X0_add rfl rfl rfl (by decide +kernel) ⟨Nat.le_of_ble_eq_true rfl, Nat.le_of_ble_eq_true rfl⟩) ⟨fun a U gg mk q => by obtain ⟨q0, q1, qP, qK, qD⟩ := q; exact ⟨q0, q1, qP, va_K.moved (u := U) (U := U.calling gg mk a) (Vm.Alike.refl U.vm) qK, qD⟩, va_recv hK hPc (ci := 0) (q0 := 0) rfl rfl, fun U hU hW => ⟨rfl, by rw [hU], by rw [hU]; exact hPc, va_K.moved hW.alike hK, hDc.weaken (fun _ _ _ _ => trivial)⟩⟩ rfl rfl hl.1 rfl (lv_room (Nat.le_of_ble_eq_true rfl)) dX0_lookAround_75 ⟨Nat.zero_le _, Nat.zero_le _⟩) hS (fun q _ h => hFc q h) hFc (fun u_ t H locs ht hvm hw hB hz1 hk1 hS => ?_)
  obtain ⟨hP1, -, hD1⟩ := hB
  rw [ht] at hP1
  obtain ⟨hP, hD⟩ := va_join (wr := [(zgr, .inr (2, [.int gG.1, .int gG.2.1, .int (bI gG.2.2.1), .long gG.2.2.2.1, .long gG.2.2.2.2.1, .long gG.2.2.2.2.2.1, .long gG.2.2.2.2.2.2.1, .long gG.2.2.2.2.2.2.2]))]) (w1 := [(zcr, .inr (0, [.long (f_X0_add (f_X0_add (f_X0_add (f_X0_add (f_X0_add (0, 0, 0, 0) (f_X3_left gG (f_X3_up gG hs))) (f_X3_up gG hs)) (f_X3_right gG (f_X3_up gG hs))) (f_X3_left gG hs)) (f_X3_right gG hs)).1, .long (f_X0_add (f_X0_add (f_X0_add (f_X0_add (f_X0_add (0, 0, 0, 0) (f_X3_left gG (f_X3_up gG hs))) (f_X3_up gG hs)) (f_X3_right gG (f_X3_up gG hs))) (f_X3_left gG hs)) (f_X3_right gG hs)).2.1, .long (f_X0_add (f_X0_add (f_X0_add (f_X0_add (f_X0_add (0, 0, 0, 0) (f_X3_left gG (f_X3_up gG hs))) (f_X3_up gG hs)) (f_X3_right gG (f_X3_up gG hs))) (f_X3_left gG hs)) (f_X3_right gG hs)).2.2.1, .long (f_X0_add (f_X0_add (f_X0_add (f_X0_add (f_X0_add (0, 0, 0, 0) (f_X3_left gG (f_X3_up gG hs))) (f_X3_up gG hs)) (f_X3_right gG (f_X3_up gG hs))) (f_X3_left gG hs)) (f_X3_right gG hs)).2.2.2]))]) hP hD [0] [1] rfl rfl (by decide) (by decide) hk1 hFc hP1 hD1
  have hP := hP.sub (ws' := [(zcr, .inr (0, [.long (f_X0_add (f_X0_add (f_X0_add (f_X0_add (f_X0_add (0, 0, 0, 0) (f_X3_left gG (f_X3_up gG hs))) (f_X3_up gG hs)) (f_X3_right gG (f_X3_up gG hs))) (f_X3_left gG hs)) (f_X3_right gG hs)).1, .long (f_X0_add (f_X0_add (f_X0_add (f_X0_add (f_X0_add (0, 0, 0, 0) (f_X3_left gG (f_X3_up gG hs))) (f_X3_up gG hs)) (f_X3_right gG (f_X3_up gG hs))) (f_X3_left gG hs)) (f_X3_right gG hs)).2.1, .long (f_X0_add (f_X0_add (f_X0_add (f_X0_add (f_X0_add (0, 0, 0, 0) (f_X3_left gG (f_X3_up gG hs))) (f_X3_up gG hs)) (f_X3_right gG (f_X3_up gG hs))) (f_X3_left gG hs)) (f_X3_right gG hs)).2.2.1, .long (f_X0_add (f_X0_add (f_X0_add (f_X0_add (f_X0_add (0, 0, 0, 0) (f_X3_left gG (f_X3_up gG hs))) (f_X3_up gG hs)) (f_X3_right gG (f_X3_up gG hs))) (f_X3_left gG hs)) (f_X3_right gG hs)).2.2.2])), (zgr, .inr (2, [.int gG.1, .int gG.2.1, .int (bI gG.2.2.1), .long gG.2.2.2.1, .long gG.2.2.2.2.1, .long gG.2.2.2.2.2.1, .long gG.2.2.2.2.2.2.1, .long gG.2.2.2.2.2.2.2]))]) [1, 0] rfl
  have hD := hD.sub (ws' := [(zcr, .inr (0, [.long (f_X0_add (f_X0_add (f_X0_add (f_X0_add (f_X0_add (0, 0, 0, 0) (f_X3_left gG (f_X3_up gG hs))) (f_X3_up gG hs)) (f_X3_right gG (f_X3_up gG hs))) (f_X3_left gG hs)) (f_X3_right gG hs)).1, .long (f_X0_add (f_X0_add (f_X0_add (f_X0_add (f_X0_add (0, 0, 0, 0) (f_X3_left gG (f_X3_up gG hs))) (f_X3_up gG hs)) (f_X3_right gG (f_X3_up gG hs))) (f_X3_left gG hs)) (f_X3_right gG hs)).2.1, .long (f_X0_add (f_X0_add (f_X0_add (f_X0_add (f_X0_add (0, 0, 0, 0) (f_X3_left gG (f_X3_up gG hs))) (f_X3_up gG hs)) (f_X3_right gG (f_X3_up gG hs))) (f_X3_left gG hs)) (f_X3_right gG hs)).2.2.1, .long (f_X0_add (f_X0_add (f_X0_add (f_X0_add (f_X0_add (0, 0, 0, 0) (f_X3_left gG (f_X3_up gG hs))) (f_X3_up gG hs)) (f_X3_right gG (f_X3_up gG hs))) (f_X3_left gG hs)) (f_X3_right gG hs)).2.2.2])), (zgr, .inr (2, [.int gG.1, .int gG.2.1, .int (bI gG.2.2.1), .long gG.2.2.2.1, .long gG.2.2.2.2.1, .long gG.2.2.2.2.2.1, .long gG.2.2.2.2.2.2.1, .long gG.2.2.2.2.2.2.2]))]) [1, 0] (by decide) rfl
  clear hPc hDc hFc hP1 hD1 hk1
  refine lv_aload_n hx hb dX0_lookAround_78 rfl (lv_at hl 2 rfl) ?_
  refine lv_aload_n hx hb dX0_lookAround_79 rfl (lv_at hl 4 rfl) ?_
  refine lv_lload hx hb dX0_lookAround_80 (lv_at hl 0 rfl) ?_
  have hPc := hP.sub (ws' := [(zgr, .inr (2, [.int gG.1, .int gG.2.1, .int (bI gG.2.2.1), .long gG.2.2.2.1, .long gG.2.2.2.2.1, .long gG.2.2.2.2.2.1, .long gG.2.2.2.2.2.2.1, .long gG.2.2.2.2.2.2.2]))]) [1] rfl
  have hDc := hD.sub (ws' := [(zgr, .inr (2, [.int gG.1, .int gG.2.1, .int (bI gG.2.2.1), .long gG.2.2.2.1, .long gG.2.2.2.2.1, .long gG.2.2.2.2.2.1, .long gG.2.2.2.2.2.2.1, .long gG.2.2.2.2.2.2.2]))]) [1] (by decide) rfl
  have hFc := va_free (wc := [(zgr, .inr (2, [.int gG.1, .int gG.2.1, .int (bI gG.2.2.1), .long gG.2.2.2.1, .long gG.2.2.2.2.1, .long gG.2.2.2.2.2.1, .long gG.2.2.2.2.2.2.1, .long gG.2.2.2.2.2.2.2]))]) hD hS hA [1] rfl
  refine va_calll (va_runV (As := [.long (f_X3_down gG hs)]) (rest := [.ref zcr]) ⟨hx, hb, hml, hown, hts⟩ (c_X3_left l dC dI cI cJ zgr H.size gG (f_X3_down gG hs)) (cwV 1 hts gX0_lookAround_X3_left rfl rfl rfl (by decide +kernel) ⟨Nat.le_of_ble_eq_true rfl, Nat.le_of_ble_eq_true rfl⟩) ⟨fun a U gg mk q => by obtain ⟨q0, q1, qP, qK, qD⟩ := q; exact ⟨q0, q1, qP, va_K.moved (u := U) (U := U.calling gg mk a) (Vm.Alike.refl U.vm) qK, qD⟩, va_recv hK hPc (ci := 2) (q0 := 0) rfl rfl, fun U hU hW => ⟨rfl, by rw [hU], by rw [hU]; exact hPc, va_K.moved hW.alike hK, hDc.weaken (fun _ _ _ _ => trivial)⟩⟩ rfl rfl hl.1 rfl (lv_room (Nat.le_of_ble_eq_true rfl)) dX0_lookAround_82 ⟨Nat.zero_le _, Nat.zero_le _⟩) hS (fun q _ h => hFc q h) hFc (fun r_ u_ t H locs ht hvm hw hB hz1 hk1 hS => ?_)
  obtain rfl := hw.symm
  obtain ⟨hP1, -, hD1⟩ := hB
  rw [ht] at hP1
  obtain ⟨hP, hD⟩ := va_join (wr := [(zcr, .inr (0, [.long (f_X0_add (f_X0_add (f_X0_add (f_X0_add (f_X0_add (0, 0, 0, 0) (f_X3_left gG (f_X3_up gG hs))) (f_X3_up gG hs)) (f_X3_right gG (f_X3_up gG hs))) (f_X3_left gG hs)) (f_X3_right gG hs)).1, .long (f_X0_add (f_X0_add (f_X0_add (f_X0_add (f_X0_add (0, 0, 0, 0) (f_X3_left gG (f_X3_up gG hs))) (f_X3_up gG hs)) (f_X3_right gG (f_X3_up gG hs))) (f_X3_left gG hs)) (f_X3_right gG hs)).2.1, .long (f_X0_add (f_X0_add (f_X0_add (f_X0_add (f_X0_add (0, 0, 0, 0) (f_X3_left gG (f_X3_up gG hs))) (f_X3_up gG hs)) (f_X3_right gG (f_X3_up gG hs))) (f_X3_left gG hs)) (f_X3_right gG hs)).2.2.1, .long (f_X0_add (f_X0_add (f_X0_add (f_X0_add (f_X0_add (0, 0, 0, 0) (f_X3_left gG (f_X3_up gG hs))) (f_X3_up gG hs)) (f_X3_right gG (f_X3_up gG hs))) (f_X3_left gG hs)) (f_X3_right gG hs)).2.2.2]))]) (w1 := [(zgr, .inr (2, [.int gG.1, .int gG.2.1, .int (bI gG.2.2.1), .long gG.2.2.2.1, .long gG.2.2.2.2.1, .long gG.2.2.2.2.2.1, .long gG.2.2.2.2.2.2.1, .long gG.2.2.2.2.2.2.2]))]) hP hD [1] [0] rfl rfl (by decide) (by decide) hk1 hFc hP1 hD1
  have hP := hP.sub (ws' := [(zcr, .inr (0, [.long (f_X0_add (f_X0_add (f_X0_add (f_X0_add (f_X0_add (0, 0, 0, 0) (f_X3_left gG (f_X3_up gG hs))) (f_X3_up gG hs)) (f_X3_right gG (f_X3_up gG hs))) (f_X3_left gG hs)) (f_X3_right gG hs)).1, .long (f_X0_add (f_X0_add (f_X0_add (f_X0_add (f_X0_add (0, 0, 0, 0) (f_X3_left gG (f_X3_up gG hs))) (f_X3_up gG hs)) (f_X3_right gG (f_X3_up gG hs))) (f_X3_left gG hs)) (f_X3_right gG hs)).2.1, .long (f_X0_add (f_X0_add (f_X0_add (f_X0_add (f_X0_add (0, 0, 0, 0) (f_X3_left gG (f_X3_up gG hs))) (f_X3_up gG hs)) (f_X3_right gG (f_X3_up gG hs))) (f_X3_left gG hs)) (f_X3_right gG hs)).2.2.1, .long (f_X0_add (f_X0_add (f_X0_add (f_X0_add (f_X0_add (0, 0, 0, 0) (f_X3_left gG (f_X3_up gG hs))) (f_X3_up gG hs)) (f_X3_right gG (f_X3_up gG hs))) (f_X3_left gG hs)) (f_X3_right gG hs)).2.2.2])), (zgr, .inr (2, [.int gG.1, .int gG.2.1, .int (bI gG.2.2.1), .long gG.2.2.2.1, .long gG.2.2.2.2.1, .long gG.2.2.2.2.2.1, .long gG.2.2.2.2.2.2.1, .long gG.2.2.2.2.2.2.2]))]) [0, 1] rfl
  have hD := hD.sub (ws' := [(zcr, .inr (0, [.long (f_X0_add (f_X0_add (f_X0_add (f_X0_add (f_X0_add (0, 0, 0, 0) (f_X3_left gG (f_X3_up gG hs))) (f_X3_up gG hs)) (f_X3_right gG (f_X3_up gG hs))) (f_X3_left gG hs)) (f_X3_right gG hs)).1, .long (f_X0_add (f_X0_add (f_X0_add (f_X0_add (f_X0_add (0, 0, 0, 0) (f_X3_left gG (f_X3_up gG hs))) (f_X3_up gG hs)) (f_X3_right gG (f_X3_up gG hs))) (f_X3_left gG hs)) (f_X3_right gG hs)).2.1, .long (f_X0_add (f_X0_add (f_X0_add (f_X0_add (f_X0_add (0, 0, 0, 0) (f_X3_left gG (f_X3_up gG hs))) (f_X3_up gG hs)) (f_X3_right gG (f_X3_up gG hs))) (f_X3_left gG hs)) (f_X3_right gG hs)).2.2.1, .long (f_X0_add (f_X0_add (f_X0_add (f_X0_add (f_X0_add (0, 0, 0, 0) (f_X3_left gG (f_X3_up gG hs))) (f_X3_up gG hs)) (f_X3_right gG (f_X3_up gG hs))) (f_X3_left gG hs)) (f_X3_right gG hs)).2.2.2])), (zgr, .inr (2, [.int gG.1, .int gG.2.1, .int (bI gG.2.2.1), .long gG.2.2.2.1, .long gG.2.2.2.2.1, .long gG.2.2.2.2.2.1, .long gG.2.2.2.2.2.2.1, .long gG.2.2.2.2.2.2.2]))]) [0, 1] (by decide) rfl
  clear hPc hDc hFc hP1 hD1 hk1
  have hPc := hP.sub (ws' := [(zcr, .inr (0, [.long (f_X0_add (f_X0_add (f_X0_add (f_X0_add (f_X0_add (0, 0, 0, 0) (f_X3_left gG (f_X3_up gG hs))) (f_X3_up gG hs)) (f_X3_right gG (f_X3_up gG hs))) (f_X3_left gG hs)) (f_X3_right gG hs)).1, .long (f_X0_add (f_X0_add (f_X0_add (f_X0_add (f_X0_add (0, 0, 0, 0) (f_X3_left gG (f_X3_up gG hs))) (f_X3_up gG hs)) (f_X3_right gG (f_X3_up gG hs))) (f_X3_left gG hs)) (f_X3_right gG hs)).2.1, .long (f_X0_add (f_X0_add (f_X0_add (f_X0_add (f_X0_add (0, 0, 0, 0) (f_X3_left gG (f_X3_up gG hs))) (f_X3_up gG hs)) (f_X3_right gG (f_X3_up gG hs))) (f_X3_left gG hs)) (f_X3_right gG hs)).2.2.1, .long (f_X0_add (f_X0_add (f_X0_add (f_X0_add (f_X0_add (0, 0, 0, 0) (f_X3_left gG (f_X3_up gG hs))) (f_X3_up gG hs)) (f_X3_right gG (f_X3_up gG hs))) (f_X3_left gG hs)) (f_X3_right gG hs)).2.2.2]))]) [0] rfl
  have hDc := hD.sub (ws' := [(zcr, .inr (0, [.long (f_X0_add (f_X0_add (f_X0_add (f_X0_add (f_X0_add (0, 0, 0, 0) (f_X3_left gG (f_X3_up gG hs))) (f_X3_up gG hs)) (f_X3_right gG (f_X3_up gG hs))) (f_X3_left gG hs)) (f_X3_right gG hs)).1, .long (f_X0_add (f_X0_add (f_X0_add (f_X0_add (f_X0_add (0, 0, 0, 0) (f_X3_left gG (f_X3_up gG hs))) (f_X3_up gG hs)) (f_X3_right gG (f_X3_up gG hs))) (f_X3_left gG hs)) (f_X3_right gG hs)).2.1, .long (f_X0_add (f_X0_add (f_X0_add (f_X0_add (f_X0_add (0, 0, 0, 0) (f_X3_left gG (f_X3_up gG hs))) (f_X3_up gG hs)) (f_X3_right gG (f_X3_up gG hs))) (f_X3_left gG hs)) (f_X3_right gG hs)).2.2.1, .long (f_X0_add (f_X0_add (f_X0_add (f_X0_add (f_X0_add (0, 0, 0, 0) (f_X3_left gG (f_X3_up gG hs))) (f_X3_up gG hs)) (f_X3_right gG (f_X3_up gG hs))) (f_X3_left gG hs)) (f_X3_right gG hs)).2.2.2]))]) [0] (by decide) rfl
  have hFc := va_free (wc := [(zcr, .inr (0, [.long (f_X0_add (f_X0_add (f_X0_add (f_X0_add (f_X0_add (0, 0, 0, 0) (f_X3_left gG (f_X3_up gG hs))) (f_X3_up gG hs)) (f_X3_right gG (f_X3_up gG hs))) (f_X3_left gG hs)) (f_X3_right gG hs)).1, .long (f_X0_add (f_X0_add (f_X0_add (f_X0_add (f_X0_add (0, 0, 0, 0) (f_X3_left gG (f_X3_up gG hs))) (f_X3_up gG hs)) (f_X3_right gG (f_X3_up gG hs))) (f_X3_left gG hs)) (f_X3_right gG hs)).2.1, .long (f_X0_add (f_X0_add (f_X0_add (f_X0_add (f_X0_add (0, 0, 0, 0) (f_X3_left gG (f_X3_up gG hs))) (f_X3_up gG hs)) (f_X3_right gG (f_X3_up gG hs))) (f_X3_left gG hs)) (f_X3_right gG hs)).2.2.1, .long (f_X0_add (f_X0_add (f_X0_add (f_X0_add (f_X0_add (0, 0, 0, 0) (f_X3_left gG (f_X3_up gG hs))) (f_X3_up gG hs)) (f_X3_right gG (f_X3_up gG hs))) (f_X3_left gG hs)) (f_X3_right gG hs)).2.2.2]))]) hD hS hA [0] rfl
  refine va_callv (va_runV (As := [.long (f_X3_left gG (f_X3_down gG hs))]) (rest := []) ⟨hx, hb, hml, hown, hts⟩ (c_X0_add l dC dI cI cJ zcr H.size (f_X0_add (f_X0_add (f_X0_add (f_X0_add (f_X0_add (0, 0, 0, 0) (f_X3_left gG (f_X3_up gG hs))) (f_X3_up gG hs)) (f_X3_right gG (f_X3_up gG hs))) (f_X3_left gG hs)) (f_X3_right gG hs)) (f_X3_left gG (f_X3_down gG hs))) (cwV 1 hts gX0_lookAround_X0_add rfl rfl rfl (by decide +kernel) ⟨Nat.le_of_ble_eq_true rfl, Nat.le_of_ble_eq_true rfl⟩) ⟨fun a U gg mk q => by obtain ⟨q0, q1, qP, qK, qD⟩ := q; exact ⟨q0, q1, qP, va_K.moved (u := U) (U := U.calling gg mk a) (Vm.Alike.refl U.vm) qK, qD⟩, va_recv hK hPc (ci := 0) (q0 := 0) rfl rfl, fun U hU hW => ⟨rfl, by rw [hU], by rw [hU]; exact hPc, va_K.moved hW.alike hK, hDc.weaken (fun _ _ _ _ => trivial)⟩⟩ rfl rfl hl.1 rfl (lv_room (Nat.le_of_ble_eq_true rfl)) dX0_lookAround_85 ⟨Nat.zero_le _, Nat.zero_le _⟩) hS (fun q _ h => hFc q h) hFc (fun u_ t H locs ht hvm hw hB hz1 hk1 hS => ?_)
  obtain ⟨hP1, -, hD1⟩ := hB
  rw [ht] at hP1
  obtain ⟨hP, hD⟩ := va_join (wr := [(zgr, .inr (2, [.int gG.1, .int gG.2.1, .int (bI gG.2.2.1), .long gG.2.2.2.1, .long gG.2.2.2.2.1, .long gG.2.2.2.2.2.1, .long gG.2.2.2.2.2.2.1, .long gG.2.2.2.2.2.2.2]))]) (w1 := [(zcr, .inr (0, [.long (f_X0_add (f_X0_add (f_X0_add (f_X0_add (f_X0_add (f_X0_add (0, 0, 0, 0) (f_X3_left gG (f_X3_up gG hs))) (f_X3_up gG hs)) (f_X3_right gG (f_X3_up gG hs))) (f_X3_left gG hs)) (f_X3_right gG hs)) (f_X3_left gG (f_X3_down gG hs))).1, .long (f_X0_add (f_X0_add (f_X0_add (f_X0_add (f_X0_add (f_X0_add (0, 0, 0, 0) (f_X3_left gG (f_X3_up gG hs))) (f_X3_up gG hs)) (f_X3_right gG (f_X3_up gG hs))) (f_X3_left gG hs)) (f_X3_right gG hs)) (f_X3_left gG (f_X3_down gG hs))).2.1, .long (f_X0_add (f_X0_add (f_X0_add (f_X0_add (f_X0_add (f_X0_add (0, 0, 0, 0) (f_X3_left gG (f_X3_up gG hs))) (f_X3_up gG hs)) (f_X3_right gG (f_X3_up gG hs))) (f_X3_left gG hs)) (f_X3_right gG hs)) (f_X3_left gG (f_X3_down gG hs))).2.2.1, .long (f_X0_add (f_X0_add (f_X0_add (f_X0_add (f_X0_add (f_X0_add (0, 0, 0, 0) (f_X3_left gG (f_X3_up gG hs))) (f_X3_up gG hs)) (f_X3_right gG (f_X3_up gG hs))) (f_X3_left gG hs)) (f_X3_right gG hs)) (f_X3_left gG (f_X3_down gG hs))).2.2.2]))]) hP hD [0] [1] rfl rfl (by decide) (by decide) hk1 hFc hP1 hD1
  have hP := hP.sub (ws' := [(zcr, .inr (0, [.long (f_X0_add (f_X0_add (f_X0_add (f_X0_add (f_X0_add (f_X0_add (0, 0, 0, 0) (f_X3_left gG (f_X3_up gG hs))) (f_X3_up gG hs)) (f_X3_right gG (f_X3_up gG hs))) (f_X3_left gG hs)) (f_X3_right gG hs)) (f_X3_left gG (f_X3_down gG hs))).1, .long (f_X0_add (f_X0_add (f_X0_add (f_X0_add (f_X0_add (f_X0_add (0, 0, 0, 0) (f_X3_left gG (f_X3_up gG hs))) (f_X3_up gG hs)) (f_X3_right gG (f_X3_up gG hs))) (f_X3_left gG hs)) (f_X3_right gG hs)) (f_X3_left gG (f_X3_down gG hs))).2.1, .long (f_X0_add (f_X0_add (f_X0_add (f_X0_add (f_X0_add (f_X0_add (0, 0, 0, 0) (f_X3_left gG (f_X3_up gG hs))) (f_X3_up gG hs)) (f_X3_right gG (f_X3_up gG hs))) (f_X3_left gG hs)) (f_X3_right gG hs)) (f_X3_left gG (f_X3_down gG hs))).2.2.1, .long (f_X0_add (f_X0_add (f_X0_add (f_X0_add (f_X0_add (f_X0_add (0, 0, 0, 0) (f_X3_left gG (f_X3_up gG hs))) (f_X3_up gG hs)) (f_X3_right gG (f_X3_up gG hs))) (f_X3_left gG hs)) (f_X3_right gG hs)) (f_X3_left gG (f_X3_down gG hs))).2.2.2])), (zgr, .inr (2, [.int gG.1, .int gG.2.1, .int (bI gG.2.2.1), .long gG.2.2.2.1, .long gG.2.2.2.2.1, .long gG.2.2.2.2.2.1, .long gG.2.2.2.2.2.2.1, .long gG.2.2.2.2.2.2.2]))]) [1, 0] rfl
  have hD := hD.sub (ws' := [(zcr, .inr (0, [.long (f_X0_add (f_X0_add (f_X0_add (f_X0_add (f_X0_add (f_X0_add (0, 0, 0, 0) (f_X3_left gG (f_X3_up gG hs))) (f_X3_up gG hs)) (f_X3_right gG (f_X3_up gG hs))) (f_X3_left gG hs)) (f_X3_right gG hs)) (f_X3_left gG (f_X3_down gG hs))).1, .long (f_X0_add (f_X0_add (f_X0_add (f_X0_add (f_X0_add (f_X0_add (0, 0, 0, 0) (f_X3_left gG (f_X3_up gG hs))) (f_X3_up gG hs)) (f_X3_right gG (f_X3_up gG hs))) (f_X3_left gG hs)) (f_X3_right gG hs)) (f_X3_left gG (f_X3_down gG hs))).2.1, .long (f_X0_add (f_X0_add (f_X0_add (f_X0_add (f_X0_add (f_X0_add (0, 0, 0, 0) (f_X3_left gG (f_X3_up gG hs))) (f_X3_up gG hs)) (f_X3_right gG (f_X3_up gG hs))) (f_X3_left gG hs)) (f_X3_right gG hs)) (f_X3_left gG (f_X3_down gG hs))).2.2.1, .long (f_X0_add (f_X0_add (f_X0_add (f_X0_add (f_X0_add (f_X0_add (0, 0, 0, 0) (f_X3_left gG (f_X3_up gG hs))) (f_X3_up gG hs)) (f_X3_right gG (f_X3_up gG hs))) (f_X3_left gG hs)) (f_X3_right gG hs)) (f_X3_left gG (f_X3_down gG hs))).2.2.2])), (zgr, .inr (2, [.int gG.1, .int gG.2.1, .int (bI gG.2.2.1), .long gG.2.2.2.1, .long gG.2.2.2.2.1, .long gG.2.2.2.2.2.1, .long gG.2.2.2.2.2.2.1, .long gG.2.2.2.2.2.2.2]))]) [1, 0] (by decide) rfl
  clear hPc hDc hFc hP1 hD1 hk1
  refine lv_aload_n hx hb dX0_lookAround_88 rfl (lv_at hl 2 rfl) ?_
  refine lv_lload hx hb dX0_lookAround_89 (lv_at hl 0 rfl) ?_
  have hPc := hP.sub (ws' := [(zcr, .inr (0, [.long (f_X0_add (f_X0_add (f_X0_add (f_X0_add (f_X0_add (f_X0_add (0, 0, 0, 0) (f_X3_left gG (f_X3_up gG hs))) (f_X3_up gG hs)) (f_X3_right gG (f_X3_up gG hs))) (f_X3_left gG hs)) (f_X3_right gG hs)) (f_X3_left gG (f_X3_down gG hs))).1, .long (f_X0_add (f_X0_add (f_X0_add (f_X0_add (f_X0_add (f_X0_add (0, 0, 0, 0) (f_X3_left gG (f_X3_up gG hs))) (f_X3_up gG hs)) (f_X3_right gG (f_X3_up gG hs))) (f_X3_left gG hs)) (f_X3_right gG hs)) (f_X3_left gG (f_X3_down gG hs))).2.1, .long (f_X0_add (f_X0_add (f_X0_add (f_X0_add (f_X0_add (f_X0_add (0, 0, 0, 0) (f_X3_left gG (f_X3_up gG hs))) (f_X3_up gG hs)) (f_X3_right gG (f_X3_up gG hs))) (f_X3_left gG hs)) (f_X3_right gG hs)) (f_X3_left gG (f_X3_down gG hs))).2.2.1, .long (f_X0_add (f_X0_add (f_X0_add (f_X0_add (f_X0_add (f_X0_add (0, 0, 0, 0) (f_X3_left gG (f_X3_up gG hs))) (f_X3_up gG hs)) (f_X3_right gG (f_X3_up gG hs))) (f_X3_left gG hs)) (f_X3_right gG hs)) (f_X3_left gG (f_X3_down gG hs))).2.2.2]))]) [0] rfl
  have hDc := hD.sub (ws' := [(zcr, .inr (0, [.long (f_X0_add (f_X0_add (f_X0_add (f_X0_add (f_X0_add (f_X0_add (0, 0, 0, 0) (f_X3_left gG (f_X3_up gG hs))) (f_X3_up gG hs)) (f_X3_right gG (f_X3_up gG hs))) (f_X3_left gG hs)) (f_X3_right gG hs)) (f_X3_left gG (f_X3_down gG hs))).1, .long (f_X0_add (f_X0_add (f_X0_add (f_X0_add (f_X0_add (f_X0_add (0, 0, 0, 0) (f_X3_left gG (f_X3_up gG hs))) (f_X3_up gG hs)) (f_X3_right gG (f_X3_up gG hs))) (f_X3_left gG hs)) (f_X3_right gG hs)) (f_X3_left gG (f_X3_down gG hs))).2.1, .long (f_X0_add (f_X0_add (f_X0_add (f_X0_add (f_X0_add (f_X0_add (0, 0, 0, 0) (f_X3_left gG (f_X3_up gG hs))) (f_X3_up gG hs)) (f_X3_right gG (f_X3_up gG hs))) (f_X3_left gG hs)) (f_X3_right gG hs)) (f_X3_left gG (f_X3_down gG hs))).2.2.1, .long (f_X0_add (f_X0_add (f_X0_add (f_X0_add (f_X0_add (f_X0_add (0, 0, 0, 0) (f_X3_left gG (f_X3_up gG hs))) (f_X3_up gG hs)) (f_X3_right gG (f_X3_up gG hs))) (f_X3_left gG hs)) (f_X3_right gG hs)) (f_X3_left gG (f_X3_down gG hs))).2.2.2]))]) [0] (by decide) rfl
  have hFc := va_free (wc := [(zcr, .inr (0, [.long (f_X0_add (f_X0_add (f_X0_add (f_X0_add (f_X0_add (f_X0_add (0, 0, 0, 0) (f_X3_left gG (f_X3_up gG hs))) (f_X3_up gG hs)) (f_X3_right gG (f_X3_up gG hs))) (f_X3_left gG hs)) (f_X3_right gG hs)) (f_X3_left gG (f_X3_down gG hs))).1, .long (f_X0_add (f_X0_add (f_X0_add (f_X0_add (f_X0_add (f_X0_add (0, 0, 0, 0) (f_X3_left gG (f_X3_up gG hs))) (f_X3_up gG hs)) (f_X3_right gG (f_X3_up gG hs))) (f_X3_left gG hs)) (f_X3_right gG hs)) (f_X3_left gG (f_X3_down gG hs))).2.1, .long (f_X0_add (f_X0_add (f_X0_add (f_X0_add (f_X0_add (f_X0_add (0, 0, 0, 0) (f_X3_left gG (f_X3_up gG hs))) (f_X3_up gG hs)) (f_X3_right gG (f_X3_up gG hs))) (f_X3_left gG hs)) (f_X3_right gG hs)) (f_X3_left gG (f_X3_down gG hs))).2.2.1, .long (f_X0_add (f_X0_add (f_X0_add (f_X0_add (f_X0_add (f_X0_add (0, 0, 0, 0) (f_X3_left gG (f_X3_up gG hs))) (f_X3_up gG hs)) (f_X3_right gG (f_X3_up gG hs))) (f_X3_left gG hs)) (f_X3_right gG hs)) (f_X3_left gG (f_X3_down gG hs))).2.2.2]))]) hD hS hA [0] rfl
  refine va_callv (va_runV (As := [.long (f_X3_down gG hs)]) (rest := []) ⟨hx, hb, hml, hown, hts⟩ (c_X0_add l dC dI cI cJ zcr H.size (f_X0_add (f_X0_add (f_X0_add (f_X0_add (f_X0_add (f_X0_add (0, 0, 0, 0) (f_X3_left gG (f_X3_up gG hs))) (f_X3_up gG hs)) (f_X3_right gG (f_X3_up gG hs))) (f_X3_left gG hs)) (f_X3_right gG hs)) (f_X3_left gG (f_X3_down gG hs))) (f_X3_down gG hs)) (cwV 1 hts gX0_lookAround_X0_add rfl rfl rfl (by decide +kernel) ⟨Nat.le_of_ble_eq_true rfl, Nat.le_of_ble_eq_true rfl⟩) ⟨fun a U gg mk q => by obtain ⟨q0, q1, qP, qK, qD⟩ := q; exact ⟨q0, q1, qP, va_K.moved (u := U) (U := U.calling gg mk a) (Vm.Alike.refl U.vm) qK, qD⟩, va_recv hK hPc (ci := 0) (q0 := 0) rfl rfl, fun U hU hW => ⟨rfl, by rw [hU], by rw [hU]; exact hPc, va_K.moved hW.alike hK, hDc.weaken (fun _ _ _ _ => trivial)⟩⟩ rfl rfl hl.1 rfl (lv_room (Nat.le_of_ble_eq_true rfl)) dX0_lookAround_91 ⟨Nat.zero_le _, Nat.zero_le _⟩) hS (fun q _ h => hFc q h) hFc (fun u_ t H locs ht hvm hw hB hz1 hk1 hS => ?_)
  obtain ⟨hP1, -, hD1⟩ := hB
  rw [ht] at hP1
  obtain ⟨hP, hD⟩ := va_join (wr := [(zgr, .inr (2, [.int gG.1, .int gG.2.1, .int (bI gG.2.2.1), .long gG.2.2.2.1, .long gG.2.2.2.2.1, .long gG.2.2.2.2.2.1, .long gG.2.2.2.2.2.2.1, .long gG.2.2.2.2.2.2.2]))]) (w1 := [(zcr, .inr (0, [.long (f_X0_add (f_X0_add (f_X0_add (f_X0_add (f_X0_add (f_X0_add (f_X0_add (0, 0, 0, 0) (f_X3_left gG (f_X3_up gG hs))) (f_X3_up gG hs)) (f_X3_right gG (f_X3_up gG hs))) (f_X3_left gG hs)) (f_X3_right gG hs)) (f_X3_left gG (f_X3_down gG hs))) (f_X3_down gG hs)).1, .long (f_X0_add (f_X0_add (f_X0_add (f_X0_add (f_X0_add (f_X0_add (f_X0_add (0, 0, 0, 0) (f_X3_left gG (f_X3_up gG hs))) (f_X3_up gG hs)) (f_X3_right gG (f_X3_up gG hs))) (f_X3_left gG hs)) (f_X3_right gG hs)) (f_X3_left gG (f_X3_down gG hs))) (f_X3_down gG hs)).2.1, .long (f_X0_add (f_X0_add (f_X0_add (f_X0_add (f_X0_add (f_X0_add (f_X0_add (0, 0, 0, 0) (f_X3_left gG (f_X3_up gG hs))) (f_X3_up gG hs)) (f_X3_right gG (f_X3_up gG hs))) (f_X3_left gG hs)) (f_X3_right gG hs)) (f_X3_left gG (f_X3_down gG hs))) (f_X3_down gG hs)).2.2.1, .long (f_X0_add (f_X0_add (f_X0_add (f_X0_add (f_X0_add (f_X0_add (f_X0_add (0, 0, 0, 0) (f_X3_left gG (f_X3_up gG hs))) (f_X3_up gG hs)) (f_X3_right gG (f_X3_up gG hs))) (f_X3_left gG hs)) (f_X3_right gG hs)) (f_X3_left gG (f_X3_down gG hs))) (f_X3_down gG hs)).2.2.2]))]) hP hD [0] [1] rfl rfl (by decide) (by decide) hk1 hFc hP1 hD1
  have hP := hP.sub (ws' := [(zcr, .inr (0, [.long (f_X0_add (f_X0_add (f_X0_add (f_X0_add (f_X0_add (f_X0_add (f_X0_add (0, 0, 0, 0) (f_X3_left gG (f_X3_up gG hs))) (f_X3_up gG hs)) (f_X3_right gG (f_X3_up gG hs))) (f_X3_left gG hs)) (f_X3_right gG hs)) (f_X3_left gG (f_X3_down gG hs))) (f_X3_down gG hs)).1, .long (f_X0_add (f_X0_add (f_X0_add (f_X0_add (f_X0_add (f_X0_add (f_X0_add (0, 0, 0, 0) (f_X3_left gG (f_X3_up gG hs))) (f_X3_up gG hs)) (f_X3_right gG (f_X3_up gG hs))) (f_X3_left gG hs)) (f_X3_right gG hs)) (f_X3_left gG (f_X3_down gG hs))) (f_X3_down gG hs)).2.1, .long (f_X0_add (f_X0_add (f_X0_add (f_X0_add (f_X0_add (f_X0_add (f_X0_add (0, 0, 0, 0) (f_X3_left gG (f_X3_up gG hs))) (f_X3_up gG hs)) (f_X3_right gG (f_X3_up gG hs))) (f_X3_left gG hs)) (f_X3_right gG hs)) (f_X3_left gG (f_X3_down gG hs))) (f_X3_down gG hs)).2.2.1, .long (f_X0_add (f_X0_add (f_X0_add (f_X0_add (f_X0_add (f_X0_add (f_X0_add (0, 0, 0, 0) (f_X3_left gG (f_X3_up gG hs))) (f_X3_up gG hs)) (f_X3_right gG (f_X3_up gG hs))) (f_X3_left gG hs)) (f_X3_right gG hs)) (f_X3_left gG (f_X3_down gG hs))) (f_X3_down gG hs)).2.2.2])), (zgr, .inr (2, [.int gG.1, .int gG.2.1, .int (bI gG.2.2.1), .long gG.2.2.2.1, .long gG.2.2.2.2.1, .long gG.2.2.2.2.2.1, .long gG.2.2.2.2.2.2.1, .long gG.2.2.2.2.2.2.2]))]) [1, 0] rfl
  have hD := hD.sub (ws' := [(zcr, .inr (0, [.long (f_X0_add (f_X0_add (f_X0_add (f_X0_add (f_X0_add (f_X0_add (f_X0_add (0, 0, 0, 0) (f_X3_left gG (f_X3_up gG hs))) (f_X3_up gG hs)) (f_X3_right gG (f_X3_up gG hs))) (f_X3_left gG hs)) (f_X3_right gG hs)) (f_X3_left gG (f_X3_down gG hs))) (f_X3_down gG hs)).1, .long (f_X0_add (f_X0_add (f_X0_add (f_X0_add (f_X0_add (f_X0_add (f_X0_add (0, 0, 0, 0) (f_X3_left gG (f_X3_up gG hs))) (f_X3_up gG hs)) (f_X3_right gG (f_X3_up gG hs))) (f_X3_left gG hs)) (f_X3_right gG hs)) (f_X3_left gG (f_X3_down gG hs))) (f_X3_down gG hs)).2.1, .long (f_X0_add (f_X0_add (f_X0_add (f_X0_add (f_X0_add (f_X0_add (f_X0_add (0, 0, 0, 0) (f_X3_left gG (f_X3_up gG hs))) (f_X3_up gG hs)) (f_X3_right gG (f_X3_up gG hs))) (f_X3_left gG hs)) (f_X3_right gG hs)) (f_X3_left gG (f_X3_down gG hs))) (f_X3_down gG hs)).2.2.1, .long (f_X0_add (f_X0_add (f_X0_add (f_X0_add (f_X0_add (f_X0_add (f_X0_add (0, 0, 0, 0) (f_X3_left gG (f_X3_up gG hs))) (f_X3_up gG hs)) (f_X3_right gG (f_X3_up gG hs))) (f_X3_left gG hs)) (f_X3_right gG hs)) (f_X3_left gG (f_X3_down gG hs))) (f_X3_down gG hs)).2.2.2])), (zgr, .inr (2, [.int gG.1, .int gG.2.1, .int (bI gG.2.2.1), .long gG.2.2.2.1, .long gG.2.2.2.2.1, .long gG.2.2.2.2.2.1, .long gG.2.2.2.2.2.2.1, .long gG.2.2.2.2.2.2.2]))]) [1, 0] (by decide) rfl
  clear hPc hDc hFc hP1 hD1 hk1
  refine lv_aload_n hx hb dX0_lookAround_94 rfl (lv_at hl 2 rfl) ?_
  refine lv_aload_n hx hb dX0_lookAround_95 rfl (lv_at hl 4 rfl) ?_
  refine lv_lload hx hb dX0_lookAround_96 (lv_at hl 0 rfl) ?_
  have hPc := hP.sub (ws' := [(zgr, .inr (2, [.int gG.1, .int gG.2.1, .int (bI gG.2.2.1), .long gG.2.2.2.1, .long gG.2.2.2.2.1, .long gG.2.2.2.2.2.1, .long gG.2.2.2.2.2.2.1, .long gG.2.2.2.2.2.2.2]))]) [1] rfl
  have hDc := hD.sub (ws' := [(zgr, .inr (2, [.int gG.1, .int gG.2.1, .int (bI gG.2.2.1), .long gG.2.2.2.1, .long gG.2.2.2.2.1, .long gG.2.2.2.2.2.1, .long gG.2.2.2.2.2.2.1, .long gG.2.2.2.2.2.2.2]))]) [1] (by decide) rfl
  have hFc := va_free (wc := [(zgr, .inr (2, [.int gG.1, .int gG.2.1, .int (bI gG.2.2.1), .long gG.2.2.2.1, .long gG.2.2.2.2.1, .long gG.2.2.2.2.2.1, .long gG.2.2.2.2.2.2.1, .long gG.2.2.2.2.2.2.2]))]) hD hS hA [1] rfl
  refine va_calll (va_runV (As := [.long (f_X3_down gG hs)]) (rest := [.ref zcr]) ⟨hx, hb, hml, hown, hts⟩ (c_X3_right l dC dI cI cJ zgr H.size gG (f_X3_down gG hs)) (cwV 1 hts gX0_lookAround_X3_right rfl rfl rfl (by decide +kernel) ⟨Nat.le_of_ble_eq_true rfl, Nat.le_of_ble_eq_true rfl⟩) ⟨fun a U gg mk q => by obtain ⟨q0, q1, qP, qK, qD⟩ := q; exact ⟨q0, q1, qP, va_K.moved (u := U) (U := U.calling gg mk a) (Vm.Alike.refl U.vm) qK, qD⟩, va_recv hK hPc (ci := 2) (q0 := 0) rfl rfl, fun U hU hW => ⟨rfl, by rw [hU], by rw [hU]; exact hPc, va_K.moved hW.alike hK, hDc.weaken (fun _ _ _ _ => trivial)⟩⟩ rfl rfl hl.1 rfl (lv_room (Nat.le_of_ble_eq_true rfl)) dX0_lookAround_98 ⟨Nat.zero_le _, Nat.zero_le _⟩) hS (fun q _ h => hFc q h) hFc (fun r_ u_ t H locs ht hvm hw hB hz1 hk1 hS => ?_)
  obtain rfl := hw.symm
  obtain ⟨hP1, -, hD1⟩ := hB
  rw [ht] at hP1
  obtain ⟨hP, hD⟩ := va_join (wr := [(zcr, .inr (0, [.long (f_X0_add (f_X0_add (f_X0_add (f_X0_add (f_X0_add (f_X0_add (f_X0_add (0, 0, 0, 0) (f_X3_left gG (f_X3_up gG hs))) (f_X3_up gG hs)) (f_X3_right gG (f_X3_up gG hs))) (f_X3_left gG hs)) (f_X3_right gG hs)) (f_X3_left gG (f_X3_down gG hs))) (f_X3_down gG hs)).1, .long (f_X0_add (f_X0_add (f_X0_add (f_X0_add (f_X0_add (f_X0_add (f_X0_add (0, 0, 0, 0) (f_X3_left gG (f_X3_up gG hs))) (f_X3_up gG hs)) (f_X3_right gG (f_X3_up gG hs))) (f_X3_left gG hs)) (f_X3_right gG hs)) (f_X3_left gG (f_X3_down gG hs))) (f_X3_down gG hs)).2.1, .long (f_X0_add (f_X0_add (f_X0_add (f_X0_add (f_X0_add (f_X0_add (f_X0_add (0, 0, 0, 0) (f_X3_left gG (f_X3_up gG hs))) (f_X3_up gG hs)) (f_X3_right gG (f_X3_up gG hs))) (f_X3_left gG hs)) (f_X3_right gG hs)) (f_X3_left gG (f_X3_down gG hs))) (f_X3_down gG hs)).2.2.1, .long (f_X0_add (f_X0_add (f_X0_add (f_X0_add (f_X0_add (f_X0_add (f_X0_add (0, 0, 0, 0) (f_X3_left gG (f_X3_up gG hs))) (f_X3_up gG hs)) (f_X3_right gG (f_X3_up gG hs))) (f_X3_left gG hs)) (f_X3_right gG hs)) (f_X3_left gG (f_X3_down gG hs))) (f_X3_down gG hs)).2.2.2]))]) (w1 := [(zgr, .inr (2, [.int gG.1, .int gG.2.1, .int (bI gG.2.2.1), .long gG.2.2.2.1, .long gG.2.2.2.2.1, .long gG.2.2.2.2.2.1, .long gG.2.2.2.2.2.2.1, .long gG.2.2.2.2.2.2.2]))]) hP hD [1] [0] rfl rfl (by decide) (by decide) hk1 hFc hP1 hD1
  have hP := hP.sub (ws' := [(zcr, .inr (0, [.long (f_X0_add (f_X0_add (f_X0_add (f_X0_add (f_X0_add (f_X0_add (f_X0_add (0, 0, 0, 0) (f_X3_left gG (f_X3_up gG hs))) (f_X3_up gG hs)) (f_X3_right gG (f_X3_up gG hs))) (f_X3_left gG hs)) (f_X3_right gG hs)) (f_X3_left gG (f_X3_down gG hs))) (f_X3_down gG hs)).1, .long (f_X0_add (f_X0_add (f_X0_add (f_X0_add (f_X0_add (f_X0_add (f_X0_add (0, 0, 0, 0) (f_X3_left gG (f_X3_up gG hs))) (f_X3_up gG hs)) (f_X3_right gG (f_X3_up gG hs))) (f_X3_left gG hs)) (f_X3_right gG hs)) (f_X3_left gG (f_X3_down gG hs))) (f_X3_down gG hs)).2.1, .long (f_X0_add (f_X0_add (f_X0_add (f_X0_add (f_X0_add (f_X0_add (f_X0_add (0, 0, 0, 0) (f_X3_left gG (f_X3_up gG hs))) (f_X3_up gG hs)) (f_X3_right gG (f_X3_up gG hs))) (f_X3_left gG hs)) (f_X3_right gG hs)) (f_X3_left gG (f_X3_down gG hs))) (f_X3_down gG hs)).2.2.1, .long (f_X0_add (f_X0_add (f_X0_add (f_X0_add (f_X0_add (f_X0_add (f_X0_add (0, 0, 0, 0) (f_X3_left gG (f_X3_up gG hs))) (f_X3_up gG hs)) (f_X3_right gG (f_X3_up gG hs))) (f_X3_left gG hs)) (f_X3_right gG hs)) (f_X3_left gG (f_X3_down gG hs))) (f_X3_down gG hs)).2.2.2])), (zgr, .inr (2, [.int gG.1, .int gG.2.1, .int (bI gG.2.2.1), .long gG.2.2.2.1, .long gG.2.2.2.2.1, .long gG.2.2.2.2.2.1, .long gG.2.2.2.2.2.2.1, .long gG.2.2.2.2.2.2.2]))]) [0, 1] rfl
  have hD := hD.sub (ws' := [(zcr, .inr (0, [.long (f_X0_add (f_X0_add (f_X0_add (f_X0_add (f_X0_add (f_X0_add (f_X0_add (0, 0, 0, 0) (f_X3_left gG (f_X3_up gG hs))) (f_X3_up gG hs)) (f_X3_right gG (f_X3_up gG hs))) (f_X3_left gG hs)) (f_X3_right gG hs)) (f_X3_left gG (f_X3_down gG hs))) (f_X3_down gG hs)).1, .long (f_X0_add (f_X0_add (f_X0_add (f_X0_add (f_X0_add (f_X0_add (f_X0_add (0, 0, 0, 0) (f_X3_left gG (f_X3_up gG hs))) (f_X3_up gG hs)) (f_X3_right gG (f_X3_up gG hs))) (f_X3_left gG hs)) (f_X3_right gG hs)) (f_X3_left gG (f_X3_down gG hs))) (f_X3_down gG hs)).2.1, .long (f_X0_add (f_X0_add (f_X0_add (f_X0_add (f_X0_add (f_X0_add (f_X0_add (0, 0, 0, 0) (f_X3_left gG (f_X3_up gG hs))) (f_X3_up gG hs)) (f_X3_right gG (f_X3_up gG hs))) (f_X3_left gG hs)) (f_X3_right gG hs)) (f_X3_left gG (f_X3_down gG hs))) (f_X3_down gG hs)).2.2.1, .long (f_X0_add (f_X0_add (f_X0_add (f_X0_add (f_X0_add (f_X0_add (f_X0_add (0, 0, 0, 0) (f_X3_left gG (f_X3_up gG hs))) (f_X3_up gG hs)) (f_X3_right gG (f_X3_up gG hs))) (f_X3_left gG hs)) (f_X3_right gG hs)) (f_X3_left gG (f_X3_down gG hs))) (f_X3_down gG hs)).2.2.2])), (zgr, .inr (2, [.int gG.1, .int gG.2.1, .int (bI gG.2.2.1), .long gG.2.2.2.1, .long gG.2.2.2.2.1, .long gG.2.2.2.2.2.1, .long gG.2.2.2.2.2.2.1, .long gG.2.2.2.2.2.2.2]))]) [0, 1] (by decide) rfl
  clear hPc hDc hFc hP1 hD1 hk1
  have hPc := hP.sub (ws' := [(zcr, .inr (0, [.long (f_X0_add (f_X0_add (f_X0_add (f_X0_add (f_X0_add (f_X0_add (f_X0_add (0, 0, 0, 0) (f_X3_left gG (f_X3_up gG hs))) (f_X3_up gG hs)) (f_X3_right gG (f_X3_up gG hs))) (f_X3_left gG hs)) (f_X3_right gG hs)) (f_X3_left gG (f_X3_down gG hs))) (f_X3_down gG hs)).1, .long (f_X0_add (f_X0_add (f_X0_add (f_X0_add (f_X0_add (f_X0_add (f_X0_add (0, 0, 0, 0) (f_X3_left gG (f_X3_up gG hs))) (f_X3_up gG hs)) (f_X3_right gG (f_X3_up gG hs))) (f_X3_left gG hs)) (f_X3_right gG hs)) (f_X3_left gG (f_X3_down gG hs))) (f_X3_down gG hs)).2.1, .long (f_X0_add (f_X0_add (f_X0_add (f_X0_add (f_X0_add (f_X0_add (f_X0_add (0, 0, 0, 0) (f_X3_left gG (f_X3_up gG hs))) (f_X3_up gG hs)) (f_X3_right gG (f_X3_up gG hs))) (f_X3_left gG hs)) (f_X3_right gG hs)) (f_X3_left gG (f_X3_down gG hs))) (f_X3_down gG hs)).2.2.1, .long (f_X0_add (f_X0_add (f_X0_add (f_X0_add (f_X0_add (f_X0_add (f_X0_add (0, 0, 0, 0) (f_X3_left gG (f_X3_up gG hs))) (f_X3_up gG hs)) (f_X3_right gG (f_X3_up gG hs))) (f_X3_left gG hs)) (f_X3_right gG hs)) (f_X3_left gG (f_X3_down gG hs))) (f_X3_down gG hs)).2.2.2]))]) [0] rfl
  have hDc := hD.sub (ws' := [(zcr, .inr (0, [.long (f_X0_add (f_X0_add (f_X0_add (f_X0_add (f_X0_add (f_X0_add (f_X0_add (0, 0, 0, 0) (f_X3_left gG (f_X3_up gG hs))) (f_X3_up gG hs)) (f_X3_right gG (f_X3_up gG hs))) (f_X3_left gG hs)) (f_X3_right gG hs)) (f_X3_left gG (f_X3_down gG hs))) (f_X3_down gG hs)).1, .long (f_X0_add (f_X0_add (f_X0_add (f_X0_add (f_X0_add (f_X0_add (f_X0_add (0, 0, 0, 0) (f_X3_left gG (f_X3_up gG hs))) (f_X3_up gG hs)) (f_X3_right gG (f_X3_up gG hs))) (f_X3_left gG hs)) (f_X3_right gG hs)) (f_X3_left gG (f_X3_down gG hs))) (f_X3_down gG hs)).2.1, .long (f_X0_add (f_X0_add (f_X0_add (f_X0_add (f_X0_add (f_X0_add (f_X0_add (0, 0, 0, 0) (f_X3_left gG (f_X3_up gG hs))) (f_X3_up gG hs)) (f_X3_right gG (f_X3_up gG hs))) (f_X3_left gG hs)) (f_X3_right gG hs)) (f_X3_left gG (f_X3_down gG hs))) (f_X3_down gG hs)).2.2.1, .long (f_X0_add (f_X0_add (f_X0_add (f_X0_add (f_X0_add (f_X0_add (f_X0_add (0, 0, 0, 0) (f_X3_left gG (f_X3_up gG hs))) (f_X3_up gG hs)) (f_X3_right gG (f_X3_up gG hs))) (f_X3_left gG hs)) (f_X3_right gG hs)) (f_X3_left gG (f_X3_down gG hs))) (f_X3_down gG hs)).2.2.2]))]) [0] (by decide) rfl
  have hFc := va_free (wc := [(zcr, .inr (0, [.long (f_X0_add (f_X0_add (f_X0_add (f_X0_add (f_X0_add (f_X0_add (f_X0_add (0, 0, 0, 0) (f_X3_left gG (f_X3_up gG hs))) (f_X3_up gG hs)) (f_X3_right gG (f_X3_up gG hs))) (f_X3_left gG hs)) (f_X3_right gG hs)) (f_X3_left gG (f_X3_down gG hs))) (f_X3_down gG hs)).1, .long (f_X0_add (f_X0_add (f_X0_add (f_X0_add (f_X0_add (f_X0_add (f_X0_add (0, 0, 0, 0) (f_X3_left gG (f_X3_up gG hs))) (f_X3_up gG hs)) (f_X3_right gG (f_X3_up gG hs))) (f_X3_left gG hs)) (f_X3_right gG hs)) (f_X3_left gG (f_X3_down gG hs))) (f_X3_down gG hs)).2.1, .long (f_X0_add (f_X0_add (f_X0_add (f_X0_add (f_X0_add (f_X0_add (f_X0_add (0, 0, 0, 0) (f_X3_left gG (f_X3_up gG hs))) (f_X3_up gG hs)) (f_X3_right gG (f_X3_up gG hs))) (f_X3_left gG hs)) (f_X3_right gG hs)) (f_X3_left gG (f_X3_down gG hs))) (f_X3_down gG hs)).2.2.1, .long (f_X0_add (f_X0_add (f_X0_add (f_X0_add (f_X0_add (f_X0_add (f_X0_add (0, 0, 0, 0) (f_X3_left gG (f_X3_up gG hs))) (f_X3_up gG hs)) (f_X3_right gG (f_X3_up gG hs))) (f_X3_left gG hs)) (f_X3_right gG hs)) (f_X3_left gG (f_X3_down gG hs))) (f_X3_down gG hs)).2.2.2]))]) hD hS hA [0] rfl
  refine va_callv (va_runV (As := [.long (f_X3_right gG (f_X3_down gG hs))]) (rest := []) ⟨hx, hb, hml, hown, hts⟩ (c_X0_add l dC dI cI cJ zcr H.size (f_X0_add (f_X0_add (f_X0_add (f_X0_add (f_X0_add (f_X0_add (f_X0_add (0, 0, 0, 0) (f_X3_left gG (f_X3_up gG hs))) (f_X3_up gG hs)) (f_X3_right gG (f_X3_up gG hs))) (f_X3_left gG hs)) (f_X3_right gG hs)) (f_X3_left gG (f_X3_down gG hs))) (f_X3_down gG hs)) (f_X3_right gG (f_X3_down gG hs))) (cwV 1 hts gX0_lookAround_X0_add rfl rfl rfl (by decide +kernel) ⟨Nat.le_of_ble_eq_true rfl, Nat.le_of_ble_eq_true rfl⟩) ⟨fun a U gg mk q => by obtain ⟨q0, q1, qP, qK, qD⟩ := q; exact ⟨q0, q1, qP, va_K.moved (u := U) (U := U.calling gg mk a) (Vm.Alike.refl U.vm) qK, qD⟩, va_recv hK hPc (ci := 0) (q0 := 0) rfl rfl, fun U hU hW => ⟨rfl, by rw [hU], by rw [hU]; exact hPc, va_K.moved hW.alike hK, hDc.weaken (fun _ _ _ _ => trivial)⟩⟩ rfl rfl hl.1 rfl (lv_room (Nat.le_of_ble_eq_true rfl)) dX0_lookAround_101 ⟨Nat.zero_le _, Nat.zero_le _⟩) hS (fun q _ h => hFc q h) hFc (fun u_ t H locs ht hvm hw hB hz1 hk1 hS => ?_)
  obtain ⟨hP1, -, hD1⟩ := hB
  rw [ht] at hP1
  obtain ⟨hP, hD⟩ := va_join (wr := [(zgr, .inr (2, [.int gG.1, .int gG.2.1, .int (bI gG.2.2.1), .long gG.2.2.2.1, .long gG.2.2.2.2.1, .long gG.2.2.2.2.2.1, .long gG.2.2.2.2.2.2.1, .long gG.2.2.2.2.2.2.2]))]) (w1 := [(zcr, .inr (0, [.long (f_X0_add (f_X0_add (f_X0_add (f_X0_add (f_X0_add (f_X0_add (f_X0_add (f_X0_add (0, 0, 0, 0) (f_X3_left gG (f_X3_up gG hs))) (f_X3_up gG hs)) (f_X3_right gG (f_X3_up gG hs))) (f_X3_left gG hs)) (f_X3_right gG hs)) (f_X3_left gG (f_X3_down gG hs))) (f_X3_down gG hs)) (f_X3_right gG (f_X3_down gG hs))).1, .long (f_X0_add (f_X0_add (f_X0_add (f_X0_add (f_X0_add (f_X0_add (f_X0_add (f_X0_add (0, 0, 0, 0) (f_X3_left gG (f_X3_up gG hs))) (f_X3_up gG hs)) (f_X3_right gG (f_X3_up gG hs))) (f_X3_left gG hs)) (f_X3_right gG hs)) (f_X3_left gG (f_X3_down gG hs))) (f_X3_down gG hs)) (f_X3_right gG (f_X3_down gG hs))).2.1, .long (f_X0_add (f_X0_add (f_X0_add (f_X0_add (f_X0_add (f_X0_add (f_X0_add (f_X0_add (0, 0, 0, 0) (f_X3_left gG (f_X3_up gG hs))) (f_X3_up gG hs)) (f_X3_right gG (f_X3_up gG hs))) (f_X3_left gG hs)) (f_X3_right gG hs)) (f_X3_left gG (f_X3_down gG hs))) (f_X3_down gG hs)) (f_X3_right gG (f_X3_down gG hs))).2.2.1, .long (f_X0_add (f_X0_add (f_X0_add (f_X0_add (f_X0_add (f_X0_add (f_X0_add (f_X0_add (0, 0, 0, 0) (f_X3_left gG (f_X3_up gG hs))) (f_X3_up gG hs)) (f_X3_right gG (f_X3_up gG hs))) (f_X3_left gG hs)) (f_X3_right gG hs)) (f_X3_left gG (f_X3_down gG hs))) (f_X3_down gG hs)) (f_X3_right gG (f_X3_down gG hs))).2.2.2]))]) hP hD [0] [1] rfl rfl (by decide) (by decide) hk1 hFc hP1 hD1
  have hP := hP.sub (ws' := [(zcr, .inr (0, [.long (f_X0_add (f_X0_add (f_X0_add (f_X0_add (f_X0_add (f_X0_add (f_X0_add (f_X0_add (0, 0, 0, 0) (f_X3_left gG (f_X3_up gG hs))) (f_X3_up gG hs)) (f_X3_right gG (f_X3_up gG hs))) (f_X3_left gG hs)) (f_X3_right gG hs)) (f_X3_left gG (f_X3_down gG hs))) (f_X3_down gG hs)) (f_X3_right gG (f_X3_down gG hs))).1, .long (f_X0_add (f_X0_add (f_X0_add (f_X0_add (f_X0_add (f_X0_add (f_X0_add (f_X0_add (0, 0, 0, 0) (f_X3_left gG (f_X3_up gG hs))) (f_X3_up gG hs)) (f_X3_right gG (f_X3_up gG hs))) (f_X3_left gG hs)) (f_X3_right gG hs)) (f_X3_left gG (f_X3_down gG hs))) (f_X3_down gG hs)) (f_X3_right gG (f_X3_down gG hs))).2.1, .long (f_X0_add (f_X0_add (f_X0_add (f_X0_add (f_X0_add (f_X0_add (f_X0_add (f_X0_add (0, 0, 0, 0) (f_X3_left gG (f_X3_up gG hs))) (f_X3_up gG hs)) (f_X3_right gG (f_X3_up gG hs))) (f_X3_left gG hs)) (f_X3_right gG hs)) (f_X3_left gG (f_X3_down gG hs))) (f_X3_down gG hs)) (f_X3_right gG (f_X3_down gG hs))).2.2.1, .long (f_X0_add (f_X0_add (f_X0_add (f_X0_add (f_X0_add (f_X0_add (f_X0_add (f_X0_add (0, 0, 0, 0) (f_X3_left gG (f_X3_up gG hs))) (f_X3_up gG hs)) (f_X3_right gG (f_X3_up gG hs))) (f_X3_left gG hs)) (f_X3_right gG hs)) (f_X3_left gG (f_X3_down gG hs))) (f_X3_down gG hs)) (f_X3_right gG (f_X3_down gG hs))).2.2.2])), (zgr, .inr (2, [.int gG.1, .int gG.2.1, .int (bI gG.2.2.1), .long gG.2.2.2.1, .long gG.2.2.2.2.1, .long gG.2.2.2.2.2.1, .long gG.2.2.2.2.2.2.1, .long gG.2.2.2.2.2.2.2]))]) [1, 0] rfl
  have hD := hD.sub (ws' := [(zcr, .inr (0, [.long (f_X0_add (f_X0_add (f_X0_add (f_X0_add (f_X0_add (f_X0_add (f_X0_add (f_X0_add (0, 0, 0, 0) (f_X3_left gG (f_X3_up gG hs))) (f_X3_up gG hs)) (f_X3_right gG (f_X3_up gG hs))) (f_X3_left gG hs)) (f_X3_right gG hs)) (f_X3_left gG (f_X3_down gG hs))) (f_X3_down gG hs)) (f_X3_right gG (f_X3_down gG hs))).1, .long (f_X0_add (f_X0_add (f_X0_add (f_X0_add (f_X0_add (f_X0_add (f_X0_add (f_X0_add (0, 0, 0, 0) (f_X3_left gG (f_X3_up gG hs))) (f_X3_up gG hs)) (f_X3_right gG (f_X3_up gG hs))) (f_X3_left gG hs)) (f_X3_right gG hs)) (f_X3_left gG (f_X3_down gG hs))) (f_X3_down gG hs)) (f_X3_right gG (f_X3_down gG hs))).2.1, .long (f_X0_add (f_X0_add (f_X0_add (f_X0_add (f_X0_add (f_X0_add (f_X0_add (f_X0_add (0, 0, 0, 0) (f_X3_left gG (f_X3_up gG hs))) (f_X3_up gG hs)) (f_X3_right gG (f_X3_up gG hs))) (f_X3_left gG hs)) (f_X3_right gG hs)) (f_X3_left gG (f_X3_down gG hs))) (f_X3_down gG hs)) (f_X3_right gG (f_X3_down gG hs))).2.2.1, .long (f_X0_add (f_X0_add (f_X0_add (f_X0_add (f_X0_add (f_X0_add (f_X0_add (f_X0_add (0, 0, 0, 0) (f_X3_left gG (f_X3_up gG hs))) (f_X3_up gG hs)) (f_X3_right gG (f_X3_up gG hs))) (f_X3_left gG hs)) (f_X3_right gG hs)) (f_X3_left gG (f_X3_down gG hs))) (f_X3_down gG hs)) (f_X3_right gG (f_X3_down gG hs))).2.2.2])), (zgr, .inr (2, [.int gG.1, .int gG.2.1, .int (bI gG.2.2.1), .long gG.2.2.2.1, .long gG.2.2.2.2.1, .long gG.2.2.2.2.2.1, .long gG.2.2.2.2.2.2.1, .long gG.2.2.2.2.2.2.2]))]) [1, 0] (by decide) rfl
  clear hPc hDc hFc hP1 hD1 hk1
  obtain rfl := hf
  exact W.vret hx hb hr (fun t ht hW => ⟨⟨(), rfl, trivial, by rw [ht]; exact hP, va_K.moved hW.alike hK, hD⟩, hS.F ht⟩) hS.2.2 dX0_lookAround_104
/-! HedgeGliders$Crowd.bit(II)Z -/
def f_X0_bit (nu : Int32) (va : Int32) : Int32 := if (nu &&& va) = 0 then (0) else (1)
abbrev rm_X0_bit : Room := ({ frames := 0, cells := 0, slots := 0, locals := 0 } : Room)
abbrev A_X0_bit (cI cJ : ClassId) (nu : Int32) (va : Int32) (sz : Nat) : Nat → Prop := va_A [] sz
abbrev Q_X0_bit (dC : Nat → ClassId) (dI : Nat → Nat → Nat) (cI cJ : ClassId) (nu : Int32) (va : Int32) (sz : Nat) (R : Int32) : Array Value → State → Outcome → State → Prop := va_Qi (fun (r : Int32) (_ : Unit) => r = R) (fun u_ t => va_P (dC, dI) vwCl [] t.heap ∧ va_K (dC, dI) vwCl [(cI, .int), (cJ, .long)] t ∧ va_D (A_X0_bit cI cJ nu va sz) []) (A_X0_bit cI cJ nu va sz)
set_option maxHeartbeats 4000000 in
set_option maxRecDepth 100000 in
theorem c_X0_bit (l : Launch) (dC : Nat → ClassId) (dI : Nat → Nat → Nat) (cI cJ : ClassId) (sz : Nat) (nu : Int32) (va : Int32) : Met l yX0_bit wsX0_bit rm_X0_bit (va_Pc [.int nu, .int va] (fun U => U.heap.size = sz ∧ va_P (dC, dI) vwCl [] U.heap ∧ va_K (dC, dI) vwCl [(cI, .int), (cJ, .long)] U ∧ va_D (fun _ => True) [])) (Q_X0_bit dC dI cI cJ nu va sz (f_X0_bit nu va)) 0 0 (A_X0_bit cI cJ nu va sz) := by
  generalize hf : (f_X0_bit nu va) = R
  refine Met.ofW (cc := cX0_bit) (maxL := 2) (ret := (some .boolean)) (by decide) rfl ?_
  intro p e s m args below meth c s₁ B hml hv
  obtain ⟨hargs, hsz, hP, hK, hD0⟩ := hv
  have hx := B.exec
  have hb := B.bytes
  have hr := B.returns
  have hts := atoms_spec (ws := wsX0_bit) B.pre
  have hown : s.vm.findClass RX0 = some m.cls := findClass_of_methodNamed B.named
  have hlocks := B.notSynchronized
  subst hsz
  have hD : va_D (A_X0_bit cI cJ nu va s.heap.size) [] := hD0.self (sz := s.heap.size)
  have hA : ∀ q : Nat, s.heap.size ≤ q → (A_X0_bit cI cJ nu va s.heap.size) q := fun q h => Or.inr h
  have hS : va_S (A_X0_bit cI cJ nu va s.heap.size) s.heap s.heap [] := va_S.rf
  have hl := lv_entry ([.int nu, .int va]) (n := 2) (Nat.le_of_ble_eq_true rfl)
  have he0 : entryFrame m args 2 = entryFrame m ([.int nu, .int va] : List Value).toArray 2 := by rw [hargs]
  rw [he0, lg_entry_eq]
  generalize (lg_sl ([.int nu, .int va]) ++ List.replicate (2 - (lg_sl ([.int nu, .int va])).length) Slot.unset).toArray = ls at hl ⊢
  have hl : lv_has ls 2 [(0, .int nu), (1, .int va)] := hl
  rw [f_X0_bit] at hf
  refine lv_iload_n hx hb dX0_bit_0 rfl (lv_at hl 0 rfl) ?_
  refine lv_iload_n hx hb dX0_bit_1 rfl (lv_at hl 1 rfl) ?_
  refine lv_iand hx hb dX0_bit_2 ?_
  refine lv_if_eq (tgt := 10) hx hb dX0_bit_3 (by decide) (fun hc => ?_) (fun hc => ?_)
  · rw [if_pos hc] at hf
    refine lv_iconst (v := 0) hx hb dX0_bit_10 (by decide) ?_
    obtain rfl := hf
    exact W.zret (v := 0) (ty := .boolean) hx hb hr rfl (fun t ht hW => ⟨⟨0, (), rfl, rfl, by rw [ht]; exact hP, va_K.moved hW.alike hK, hD⟩, hS.F ht⟩) hS.2.2 dX0_bit_11
  · rw [if_neg hc] at hf
    refine lv_iconst (v := 1) hx hb dX0_bit_6 (by decide) ?_
    refine lv_goto (tgt := 11) hx hb dX0_bit_7 (by decide) ?_
    obtain rfl := hf
    exact W.zret (v := 1) (ty := .boolean) hx hb hr rfl (fun t ht hW => ⟨⟨1, (), rfl, rfl, by rw [ht]; exact hP, va_K.moved hW.alike hK, hD⟩, hS.F ht⟩) hS.2.2 dX0_bit_11
/-! HedgeGliders$Crowd.cellsWith(I)J -/
def f_X0_cellsWith (qC : CrS) (nu : Int32) : Int64 := bindv (if (f_X0_bit nu 1) = 0 then ((qC.1 ^^^ (-1))) else (qC.1) : Int64) fun v1 => bindv (if (f_X0_bit nu 2) = 0 then ((qC.2.1 ^^^ (-1))) else (qC.2.1) : Int64) fun v2 => bindv (if (f_X0_bit nu 4) = 0 then ((qC.2.2.1 ^^^ (-1))) else (qC.2.2.1) : Int64) fun v3 => bindv (if (f_X0_bit nu 8) = 0 then ((qC.2.2.2 ^^^ (-1))) else (qC.2.2.2) : Int64) fun v4 => (((v1 &&& v2) &&& v3) &&& v4)
abbrev rm_X0_cellsWith : Room := ({ frames := 1, cells := 0, slots := 0, locals := 21 } : Room)
abbrev A_X0_cellsWith (cI cJ : ClassId) (zcr : Nat) (qC : CrS) (nu : Int32) (sz : Nat) : Nat → Prop := va_A [(zcr, .inr (0, [.long qC.1, .long qC.2.1, .long qC.2.2.1, .long qC.2.2.2]))] sz
abbrev Q_X0_cellsWith (dC : Nat → ClassId) (dI : Nat → Nat → Nat) (cI cJ : ClassId) (zcr : Nat) (qC : CrS) (nu : Int32) (sz : Nat) (R : Int64) : Array Value → State → Outcome → State → Prop := va_Ql (fun (r : Int64) (_ : Unit) => r = R) (fun u_ t => va_P (dC, dI) vwCl [(zcr, .inr (0, [.long qC.1, .long qC.2.1, .long qC.2.2.1, .long qC.2.2.2]))] t.heap ∧ va_K (dC, dI) vwCl [(cI, .int), (cJ, .long)] t ∧ va_D (A_X0_cellsWith cI cJ zcr qC nu sz) [(zcr, .inr (0, [.long qC.1, .long qC.2.1, .long qC.2.2.1, .long qC.2.2.2]))]) (A_X0_cellsWith cI cJ zcr qC nu sz)
set_option maxHeartbeats 4000000 in
set_option maxRecDepth 100000 in
theorem c_X0_cellsWith (l : Launch) (dC : Nat → ClassId) (dI : Nat → Nat → Nat) (cI cJ : ClassId) (zcr : Nat) (sz : Nat) (qC : CrS) (nu : Int32) : Met l yX0_cellsWith wsX0_cellsWith rm_X0_cellsWith (va_Pc [.ref zcr, .int nu] (fun U => U.heap.size = sz ∧ va_P (dC, dI) vwCl [(zcr, .inr (0, [.long qC.1, .long qC.2.1, .long qC.2.2.1, .long qC.2.2.2]))] U.heap ∧ va_K (dC, dI) vwCl [(cI, .int), (cJ, .long)] U ∧ va_D (fun _ => True) [(zcr, .inr (0, [.long qC.1, .long qC.2.1, .long qC.2.2.1, .long qC.2.2.2]))])) (Q_X0_cellsWith dC dI cI cJ zcr qC nu sz (f_X0_cellsWith qC nu)) 0 0 (A_X0_cellsWith cI cJ zcr qC nu sz) := by
  generalize hf : (f_X0_cellsWith qC nu) = R
  refine Met.ofW (cc := cX0_cellsWith) (maxL := 2) (ret := (some .long)) (by decide) rfl ?_
  intro p e s m args below meth c s₁ B hml hv
  obtain ⟨hargs, hsz, hP, hK, hD0⟩ := hv
  have hx := B.exec
  have hb := B.bytes
  have hr := B.returns
  have hts := atoms_spec (ws := wsX0_cellsWith) B.pre
  have hown : s.vm.findClass RX0 = some m.cls := findClass_of_methodNamed B.named
  have hlocks := B.notSynchronized
  subst hsz
  have hD : va_D (A_X0_cellsWith cI cJ zcr qC nu s.heap.size) [(zcr, .inr (0, [.long qC.1, .long qC.2.1, .long qC.2.2.1, .long qC.2.2.2]))] := hD0.self (sz := s.heap.size)
  have hA : ∀ q : Nat, s.heap.size ≤ q → (A_X0_cellsWith cI cJ zcr qC nu s.heap.size) q := fun q h => Or.inr h
  have hS : va_S (A_X0_cellsWith cI cJ zcr qC nu s.heap.size) s.heap s.heap [] := va_S.rf
  have hinX0 : ∀ w ∈ wsX00, w ∈ wsX0_cellsWith := by decide +kernel
  have hw0 := hts (.fieldLink RX0 7 "HedgeGliders$Crowd" "ones" "J") (by decide +kernel)
  have hw1 := hts (.constantLong RX0 45 (-1)) (by decide +kernel)
  have hw2 := hts (.fieldLink RX0 13 "HedgeGliders$Crowd" "twos" "J") (by decide +kernel)
  have hw3 := hts (.fieldLink RX0 16 "HedgeGliders$Crowd" "fours" "J") (by decide +kernel)
  have hw4 := hts (.fieldLink RX0 19 "HedgeGliders$Crowd" "eights" "J") (by decide +kernel)
  have hl := lv_entry ([.ref zcr, .int nu]) (n := 2) (Nat.le_of_ble_eq_true rfl)
  have he0 : entryFrame m args 2 = entryFrame m ([.ref zcr, .int nu] : List Value).toArray 2 := by rw [hargs]
  rw [he0, lg_entry_eq]
  generalize (lg_sl ([.ref zcr, .int nu]) ++ List.replicate (2 - (lg_sl ([.ref zcr, .int nu])).length) Slot.unset).toArray = ls at hl ⊢
  have hl : lv_has ls 2 [(0, .ref zcr), (1, .int nu)] := hl
  rw [f_X0_cellsWith] at hf
  refine lv_iload_n hx hb dX0_cellsWith_0 rfl (lv_at hl 1 rfl) ?_
  refine lv_iconst (v := 1) hx hb dX0_cellsWith_1 (by decide) ?_
  have hPc := hP.sub (ws' := []) [] rfl
  have hDc := hD.sub (ws' := []) [] (by decide) rfl
  have hFc := va_free (wc := []) hD hS hA [] rfl
  refine va_calli (va_runS (As := [.int nu, .int 1]) (rest := []) ⟨hx, hb, hml, hown, hts⟩ (c_X0_bit l dC dI cI cJ  s.heap.size nu 1) (va_cwS 2 hts gX0_cellsWith_X0_bit rfl rfl rfl (by decide +kernel) ⟨Nat.le_of_ble_eq_true rfl, Nat.le_of_ble_eq_true rfl⟩) ⟨fun a U gg mk q => by obtain ⟨q0, q1, qP, qK, qD⟩ := q; exact ⟨q0, q1, qP, va_K.moved (u := U) (U := U.calling gg mk a) (Vm.Alike.refl U.vm) qK, qD⟩, fun U hU hW => ⟨rfl, by rw [hU], by rw [hU]; exact hPc, va_K.moved hW.alike hK, hDc.weaken (fun _ _ _ _ => trivial)⟩⟩ rfl rfl hl.1 rfl (lv_room (Nat.le_of_ble_eq_true rfl)) dX0_cellsWith_2 ⟨Nat.zero_le _, Nat.zero_le _⟩) hS (fun q _ h => hFc q h) hFc (fun r_ u_ t H locs ht hvm hw hB hz1 hk1 hS => ?_)
  obtain rfl := hw.symm
  obtain ⟨hP1, -, hD1⟩ := hB
  rw [ht] at hP1
  obtain ⟨hP, hD⟩ := va_join (wr := [(zcr, .inr (0, [.long qC.1, .long qC.2.1, .long qC.2.2.1, .long qC.2.2.2]))]) (w1 := []) hP hD [] [0] rfl rfl (by decide) (by decide) hk1 hFc hP1 hD1
  have hP := hP.sub (ws' := [(zcr, .inr (0, [.long qC.1, .long qC.2.1, .long qC.2.2.1, .long qC.2.2.2]))]) [0] rfl
  have hD := hD.sub (ws' := [(zcr, .inr (0, [.long qC.1, .long qC.2.1, .long qC.2.2.1, .long qC.2.2.2]))]) [0] (by decide) rfl
  clear hPc hDc hFc hP1 hD1 hk1
  obtain ⟨v1, hv, hf⟩ := vbind hf
  have K5 : ∀ (H : Heap) (locs : List Loc) (ls : Array Slot), va_P (dC, dI) vwCl [(zcr, .inr (0, [.long qC.1, .long qC.2.1, .long qC.2.2.1, .long qC.2.2.2]))] H → va_D (A_X0_cellsWith cI cJ zcr qC nu s.heap.size) [(zcr, .inr (0, [.long qC.1, .long qC.2.1, .long qC.2.2.1, .long qC.2.2.2]))] → va_S (A_X0_cellsWith cI cJ zcr qC nu s.heap.size) s.heap H locs → lv_has ls 2 [(0, .ref zcr), (1, .int nu)] → W p l e rm_X0_cellsWith s m args below meth c H locs 0 0 (MQ below (Q_X0_cellsWith dC dI cI cJ zcr qC nu s.heap.size R) args s 0 0 (A_X0_cellsWith cI cJ zcr qC nu s.heap.size)) (F0 m 23 ls [.long v1]) := by
    intro H locs ls hP hD hS hl
    refine lv_iload_n hx hb dX0_cellsWith_23 rfl (lv_at hl 1 rfl) ?_
    refine lv_iconst (v := 2) hx hb dX0_cellsWith_24 (by decide) ?_
    have hPc := hP.sub (ws' := []) [] rfl
    have hDc := hD.sub (ws' := []) [] (by decide) rfl
    have hFc := va_free (wc := []) hD hS hA [] rfl
    refine va_calli (va_runS (As := [.int nu, .int 2]) (rest := [.long v1]) ⟨hx, hb, hml, hown, hts⟩ (c_X0_bit l dC dI cI cJ  H.size nu 2) (va_cwS 2 hts gX0_cellsWith_X0_bit rfl rfl rfl (by decide +kernel) ⟨Nat.le_of_ble_eq_true rfl, Nat.le_of_ble_eq_true rfl⟩) ⟨fun a U gg mk q => by obtain ⟨q0, q1, qP, qK, qD⟩ := q; exact ⟨q0, q1, qP, va_K.moved (u := U) (U := U.calling gg mk a) (Vm.Alike.refl U.vm) qK, qD⟩, fun U hU hW => ⟨rfl, by rw [hU], by rw [hU]; exact hPc, va_K.moved hW.alike hK, hDc.weaken (fun _ _ _ _ => trivial)⟩⟩ rfl rfl hl.1 rfl (lv_room (Nat.le_of_ble_eq_true rfl)) dX0_cellsWith_25 ⟨Nat.zero_le _, Nat.zero_le _⟩) hS (fun q _ h => hFc q h) hFc (fun r_ u_ t H locs ht hvm hw hB hz1 hk1 hS => ?_)
    obtain rfl := hw.symm
    obtain ⟨hP1, -, hD1⟩ := hB
    rw [ht] at hP1
    obtain ⟨hP, hD⟩ := va_join (wr := [(zcr, .inr (0, [.long qC.1, .long qC.2.1, .long qC.2.2.1, .long qC.2.2.2]))]) (w1 := []) hP hD [] [0] rfl rfl (by decide) (by decide) hk1 hFc hP1 hD1
    have hP := hP.sub (ws' := [(zcr, .inr (0, [.long qC.1, .long qC.2.1, .long qC.2.2.1, .long qC.2.2.2]))]) [0] rfl
    have hD := hD.sub (ws' := [(zcr, .inr (0, [.long qC.1, .long qC.2.1, .long qC.2.2.1, .long qC.2.2.2]))]) [0] (by decide) rfl
    clear hPc hDc hFc hP1 hD1 hk1
    obtain ⟨v2, hv, hf⟩ := vbind hf
    have K6 : ∀ (H : Heap) (locs : List Loc) (ls : Array Slot), va_P (dC, dI) vwCl [(zcr, .inr (0, [.long qC.1, .long qC.2.1, .long qC.2.2.1, .long qC.2.2.2]))] H → va_D (A_X0_cellsWith cI cJ zcr qC nu s.heap.size) [(zcr, .inr (0, [.long qC.1, .long qC.2.1, .long qC.2.2.1, .long qC.2.2.2]))] → va_S (A_X0_cellsWith cI cJ zcr qC nu s.heap.size) s.heap H locs → lv_has ls 2 [(0, .ref zcr), (1, .int nu)] → W p l e rm_X0_cellsWith s m args below meth c H locs 0 0 (MQ below (Q_X0_cellsWith dC dI cI cJ zcr qC nu s.heap.size R) args s 0 0 (A_X0_cellsWith cI cJ zcr qC nu s.heap.size)) (F0 m 46 ls [.long v2, .long v1]) := by
      intro H locs ls hP hD hS hl
      refine lv_land hx hb dX0_cellsWith_46 ?_
      refine lv_iload_n hx hb dX0_cellsWith_47 rfl (lv_at hl 1 rfl) ?_
      refine lv_iconst (v := 4) hx hb dX0_cellsWith_48 (by decide) ?_
      have hPc := hP.sub (ws' := []) [] rfl
      have hDc := hD.sub (ws' := []) [] (by decide) rfl
      have hFc := va_free (wc := []) hD hS hA [] rfl
      refine va_calli (va_runS (As := [.int nu, .int 4]) (rest := [.long (v1 &&& v2)]) ⟨hx, hb, hml, hown, hts⟩ (c_X0_bit l dC dI cI cJ  H.size nu 4) (va_cwS 2 hts gX0_cellsWith_X0_bit rfl rfl rfl (by decide +kernel) ⟨Nat.le_of_ble_eq_true rfl, Nat.le_of_ble_eq_true rfl⟩) ⟨fun a U gg mk q => by obtain ⟨q0, q1, qP, qK, qD⟩ := q; exact ⟨q0, q1, qP, va_K.moved (u := U) (U := U.calling gg mk a) (Vm.Alike.refl U.vm) qK, qD⟩, fun U hU hW => ⟨rfl, by rw [hU], by rw [hU]; exact hPc, va_K.moved hW.alike hK, hDc.weaken (fun _ _ _ _ => trivial)⟩⟩ rfl rfl hl.1 rfl (lv_room (Nat.le_of_ble_eq_true rfl)) dX0_cellsWith_49 ⟨Nat.zero_le _, Nat.zero_le _⟩) hS (fun q _ h => hFc q h) hFc (fun r_ u_ t H locs ht hvm hw hB hz1 hk1 hS => ?_)
      obtain rfl := hw.symm
      obtain ⟨hP1, -, hD1⟩ := hB
      rw [ht] at hP1
      obtain ⟨hP, hD⟩ := va_join (wr := [(zcr, .inr (0, [.long qC.1, .long qC.2.1, .long qC.2.2.1, .long qC.2.2.2]))]) (w1 := []) hP hD [] [0] rfl rfl (by decide) (by decide) hk1 hFc hP1 hD1
      have hP := hP.sub (ws' := [(zcr, .inr (0, [.long qC.1, .long qC.2.1, .long qC.2.2.1, .long qC.2.2.2]))]) [0] rfl
      have hD := hD.sub (ws' := [(zcr, .inr (0, [.long qC.1, .long qC.2.1, .long qC.2.2.1, .long qC.2.2.2]))]) [0] (by decide) rfl
      clear hPc hDc hFc hP1 hD1 hk1
      obtain ⟨v3, hv, hf⟩ := vbind hf
      have K7 : ∀ (H : Heap) (locs : List Loc) (ls : Array Slot), va_P (dC, dI) vwCl [(zcr, .inr (0, [.long qC.1, .long qC.2.1, .long qC.2.2.1, .long qC.2.2.2]))] H → va_D (A_X0_cellsWith cI cJ zcr qC nu s.heap.size) [(zcr, .inr (0, [.long qC.1, .long qC.2.1, .long qC.2.2.1, .long qC.2.2.2]))] → va_S (A_X0_cellsWith cI cJ zcr qC nu s.heap.size) s.heap H locs → lv_has ls 2 [(0, .ref zcr), (1, .int nu)] → W p l e rm_X0_cellsWith s m args below meth c H locs 0 0 (MQ below (Q_X0_cellsWith dC dI cI cJ zcr qC nu s.heap.size R) args s 0 0 (A_X0_cellsWith cI cJ zcr qC nu s.heap.size)) (F0 m 70 ls [.long v3, .long (v1 &&& v2)]) := by
        intro H locs ls hP hD hS hl
        refine lv_land hx hb dX0_cellsWith_70 ?_
        refine lv_iload_n hx hb dX0_cellsWith_71 rfl (lv_at hl 1 rfl) ?_
        refine lv_bipush (v := 8) hx hb dX0_cellsWith_72 (by decide) ?_
        have hPc := hP.sub (ws' := []) [] rfl
        have hDc := hD.sub (ws' := []) [] (by decide) rfl
        have hFc := va_free (wc := []) hD hS hA [] rfl
        refine va_calli (va_runS (As := [.int nu, .int 8]) (rest := [.long ((v1 &&& v2) &&& v3)]) ⟨hx, hb, hml, hown, hts⟩ (c_X0_bit l dC dI cI cJ  H.size nu 8) (va_cwS 2 hts gX0_cellsWith_X0_bit rfl rfl rfl (by decide +kernel) ⟨Nat.le_of_ble_eq_true rfl, Nat.le_of_ble_eq_true rfl⟩) ⟨fun a U gg mk q => by obtain ⟨q0, q1, qP, qK, qD⟩ := q; exact ⟨q0, q1, qP, va_K.moved (u := U) (U := U.calling gg mk a) (Vm.Alike.refl U.vm) qK, qD⟩, fun U hU hW => ⟨rfl, by rw [hU], by rw [hU]; exact hPc, va_K.moved hW.alike hK, hDc.weaken (fun _ _ _ _ => trivial)⟩⟩ rfl rfl hl.1 rfl (lv_room (Nat.le_of_ble_eq_true rfl)) dX0_cellsWith_74 ⟨Nat.zero_le _, Nat.zero_le _⟩) hS (fun q _ h => hFc q h) hFc (fun r_ u_ t H locs ht hvm hw hB hz1 hk1 hS => ?_)
        obtain rfl := hw.symm
        obtain ⟨hP1, -, hD1⟩ := hB
        rw [ht] at hP1
        obtain ⟨hP, hD⟩ := va_join (wr := [(zcr, .inr (0, [.long qC.1, .long qC.2.1, .long qC.2.2.1, .long qC.2.2.2]))]) (w1 := []) hP hD [] [0] rfl rfl (by decide) (by decide) hk1 hFc hP1 hD1
        have hP := hP.sub (ws' := [(zcr, .inr (0, [.long qC.1, .long qC.2.1, .long qC.2.2.1, .long qC.2.2.2]))]) [0] rfl
        have hD := hD.sub (ws' := [(zcr, .inr (0, [.long qC.1, .long qC.2.1, .long qC.2.2.1, .long qC.2.2.2]))]) [0] (by decide) rfl
        clear hPc hDc hFc hP1 hD1 hk1
        obtain ⟨v4, hv, hf⟩ := vbind hf
        have K8 : ∀ (H : Heap) (locs : List Loc) (ls : Array Slot), va_P (dC, dI) vwCl [(zcr, .inr (0, [.long qC.1, .long qC.2.1, .long qC.2.2.1, .long qC.2.2.2]))] H → va_D (A_X0_cellsWith cI cJ zcr qC nu s.heap.size) [(zcr, .inr (0, [.long qC.1, .long qC.2.1, .long qC.2.2.1, .long qC.2.2.2]))] → va_S (A_X0_cellsWith cI cJ zcr qC nu s.heap.size) s.heap H locs → lv_has ls 2 [] → W p l e rm_X0_cellsWith s m args below meth c H locs 0 0 (MQ below (Q_X0_cellsWith dC dI cI cJ zcr qC nu s.heap.size R) args s 0 0 (A_X0_cellsWith cI cJ zcr qC nu s.heap.size)) (F0 m 95 ls [.long v4, .long ((v1 &&& v2) &&& v3)]) := by
          intro H locs ls hP hD hS hl
          refine lv_land hx hb dX0_cellsWith_95 ?_
          obtain rfl := hf
          exact W.lret (v := (((v1 &&& v2) &&& v3) &&& v4)) hx hb hr (fun t ht hW => ⟨⟨(((v1 &&& v2) &&& v3) &&& v4), (), rfl, rfl, by rw [ht]; exact hP, va_K.moved hW.alike hK, hD⟩, hS.F ht⟩) hS.2.2 dX0_cellsWith_96
        clear hf; have hf := hv; clear hv
        refine lv_if_eq (tgt := 87) hx hb dX0_cellsWith_77 (by decide) (fun hc => ?_) (fun hc => ?_)
        · rw [if_pos hc] at hf
          refine lv_aload_n hx hb dX0_cellsWith_87 rfl (lv_at hl 0 rfl) ?_
          refine va_get (D := (dC, dI)) (ci := 0) (v := .long qC.2.2.2) (C := RX0) (T := TX0) (N := 4) hx hb hts hinX0 hown hK hP 0 rfl rfl 3 (by decide) hw4 (fun _ h9 => h9) rfl dX0_cellsWith_88 ?_
          refine lv_ldc2 (v := (-1)) hx hb hown hw1 dX0_cellsWith_91 ?_
          refine lv_lxor hx hb dX0_cellsWith_94 ?_
          obtain rfl := hf
          exact K8 _ _ _ hP hD hS (lv_sub hl [] rfl)
        · rw [if_neg hc] at hf
          refine lv_aload_n hx hb dX0_cellsWith_80 rfl (lv_at hl 0 rfl) ?_
          refine va_get (D := (dC, dI)) (ci := 0) (v := .long qC.2.2.2) (C := RX0) (T := TX0) (N := 4) hx hb hts hinX0 hown hK hP 0 rfl rfl 3 (by decide) hw4 (fun _ h9 => h9) rfl dX0_cellsWith_81 ?_
          refine lv_goto (tgt := 95) hx hb dX0_cellsWith_84 (by decide) ?_
          obtain rfl := hf
          exact K8 _ _ _ hP hD hS (lv_sub hl [] rfl)
      clear hf; have hf := hv; clear hv
      refine lv_if_eq (tgt := 62) hx hb dX0_cellsWith_52 (by decide) (fun hc => ?_) (fun hc => ?_)
      · rw [if_pos hc] at hf
        refine lv_aload_n hx hb dX0_cellsWith_62 rfl (lv_at hl 0 rfl) ?_
        refine va_get (D := (dC, dI)) (ci := 0) (v := .long qC.2.2.1) (C := RX0) (T := TX0) (N := 4) hx hb hts hinX0 hown hK hP 0 rfl rfl 2 (by decide) hw3 (fun _ h9 => h9) rfl dX0_cellsWith_63 ?_
        refine lv_ldc2 (v := (-1)) hx hb hown hw1 dX0_cellsWith_66 ?_
        refine lv_lxor hx hb dX0_cellsWith_69 ?_
        obtain rfl := hf
        exact K7 _ _ _ hP hD hS (lv_sub hl [0, 1] rfl)
      · rw [if_neg hc] at hf
        refine lv_aload_n hx hb dX0_cellsWith_55 rfl (lv_at hl 0 rfl) ?_
        refine va_get (D := (dC, dI)) (ci := 0) (v := .long qC.2.2.1) (C := RX0) (T := TX0) (N := 4) hx hb hts hinX0 hown hK hP 0 rfl rfl 2 (by decide) hw3 (fun _ h9 => h9) rfl dX0_cellsWith_56 ?_
        refine lv_goto (tgt := 70) hx hb dX0_cellsWith_59 (by decide) ?_
        obtain rfl := hf
        exact K7 _ _ _ hP hD hS (lv_sub hl [0, 1] rfl)
    clear hf; have hf := hv; clear hv
    refine lv_if_eq (tgt := 38) hx hb dX0_cellsWith_28 (by decide) (fun hc => ?_) (fun hc => ?_)
    · rw [if_pos hc] at hf
      refine lv_aload_n hx hb dX0_cellsWith_38 rfl (lv_at hl 0 rfl) ?_
      refine va_get (D := (dC, dI)) (ci := 0) (v := .long qC.2.1) (C := RX0) (T := TX0) (N := 4) hx hb hts hinX0 hown hK hP 0 rfl rfl 1 (by decide) hw2 (fun _ h9 => h9) rfl dX0_cellsWith_39 ?_
      refine lv_ldc2 (v := (-1)) hx hb hown hw1 dX0_cellsWith_42 ?_
      refine lv_lxor hx hb dX0_cellsWith_45 ?_
      obtain rfl := hf
      exact K6 _ _ _ hP hD hS (lv_sub hl [0, 1] rfl)
    · rw [if_neg hc] at hf
      refine lv_aload_n hx hb dX0_cellsWith_31 rfl (lv_at hl 0 rfl) ?_
      refine va_get (D := (dC, dI)) (ci := 0) (v := .long qC.2.1) (C := RX0) (T := TX0) (N := 4) hx hb hts hinX0 hown hK hP 0 rfl rfl 1 (by decide) hw2 (fun _ h9 => h9) rfl dX0_cellsWith_32 ?_
      refine lv_goto (tgt := 46) hx hb dX0_cellsWith_35 (by decide) ?_
      obtain rfl := hf
      exact K6 _ _ _ hP hD hS (lv_sub hl [0, 1] rfl)
  clear hf; have hf := hv; clear hv
  refine lv_if_eq (tgt := 15) hx hb dX0_cellsWith_5 (by decide) (fun hc => ?_) (fun hc => ?_)
  · rw [if_pos hc] at hf
    refine lv_aload_n hx hb dX0_cellsWith_15 rfl (lv_at hl 0 rfl) ?_
    refine va_get (D := (dC, dI)) (ci := 0) (v := .long qC.1) (C := RX0) (T := TX0) (N := 4) hx hb hts hinX0 hown hK hP 0 rfl rfl 0 (by decide) hw0 (fun _ h9 => h9) rfl dX0_cellsWith_16 ?_
    refine lv_ldc2 (v := (-1)) hx hb hown hw1 dX0_cellsWith_19 ?_
    refine lv_lxor hx hb dX0_cellsWith_22 ?_
    obtain rfl := hf
    exact K5 _ _ _ hP hD hS (lv_sub hl [0, 1] rfl)
  · rw [if_neg hc] at hf
    refine lv_aload_n hx hb dX0_cellsWith_8 rfl (lv_at hl 0 rfl) ?_
    refine va_get (D := (dC, dI)) (ci := 0) (v := .long qC.1) (C := RX0) (T := TX0) (N := 4) hx hb hts hinX0 hown hK hP 0 rfl rfl 0 (by decide) hw0 (fun _ h9 => h9) rfl dX0_cellsWith_9 ?_
    refine lv_goto (tgt := 23) hx hb dX0_cellsWith_12 (by decide) ?_
    obtain rfl := hf
    exact K5 _ _ _ hP hD hS (lv_sub hl [0, 1] rfl)
/-! HedgeGliders$Crowd.worth(JI)I -/
def f_X0_worth (cs : Int64) (va : Int32) : Int32 := if cs = 0 then (0) else (va)
abbrev rm_X0_worth : Room := ({ frames := 0, cells := 0, slots := 0, locals := 0 } : Room)
abbrev A_X0_worth (cI cJ : ClassId) (cs : Int64) (va : Int32) (sz : Nat) : Nat → Prop := va_A [] sz
abbrev Q_X0_worth (dC : Nat → ClassId) (dI : Nat → Nat → Nat) (cI cJ : ClassId) (cs : Int64) (va : Int32) (sz : Nat) (R : Int32) : Array Value → State → Outcome → State → Prop := va_Qi (fun (r : Int32) (_ : Unit) => r = R) (fun u_ t => va_P (dC, dI) vwCl [] t.heap ∧ va_K (dC, dI) vwCl [(cI, .int), (cJ, .long)] t ∧ va_D (A_X0_worth cI cJ cs va sz) []) (A_X0_worth cI cJ cs va sz)
set_option maxHeartbeats 4000000 in
set_option maxRecDepth 100000 in
theorem c_X0_worth (l : Launch) (dC : Nat → ClassId) (dI : Nat → Nat → Nat) (cI cJ : ClassId) (sz : Nat) (cs : Int64) (va : Int32) : Met l yX0_worth wsX0_worth rm_X0_worth (va_Pc [.long cs, .int va] (fun U => U.heap.size = sz ∧ va_P (dC, dI) vwCl [] U.heap ∧ va_K (dC, dI) vwCl [(cI, .int), (cJ, .long)] U ∧ va_D (fun _ => True) [])) (Q_X0_worth dC dI cI cJ cs va sz (f_X0_worth cs va)) 0 0 (A_X0_worth cI cJ cs va sz) := by
  generalize hf : (f_X0_worth cs va) = R
  refine Met.ofW (cc := cX0_worth) (maxL := 3) (ret := (some .int)) (by decide) rfl ?_
  intro p e s m args below meth c s₁ B hml hv
  obtain ⟨hargs, hsz, hP, hK, hD0⟩ := hv
  have hx := B.exec
  have hb := B.bytes
  have hr := B.returns
  have hts := atoms_spec (ws := wsX0_worth) B.pre
  have hown : s.vm.findClass RX0 = some m.cls := findClass_of_methodNamed B.named
  have hlocks := B.notSynchronized
  subst hsz
  have hD : va_D (A_X0_worth cI cJ cs va s.heap.size) [] := hD0.self (sz := s.heap.size)
  have hA : ∀ q : Nat, s.heap.size ≤ q → (A_X0_worth cI cJ cs va s.heap.size) q := fun q h => Or.inr h
  have hS : va_S (A_X0_worth cI cJ cs va s.heap.size) s.heap s.heap [] := va_S.rf
  have hl := lv_entry ([.long cs, .int va]) (n := 3) (Nat.le_of_ble_eq_true rfl)
  have he0 : entryFrame m args 3 = entryFrame m ([.long cs, .int va] : List Value).toArray 3 := by rw [hargs]
  rw [he0, lg_entry_eq]
  generalize (lg_sl ([.long cs, .int va]) ++ List.replicate (3 - (lg_sl ([.long cs, .int va])).length) Slot.unset).toArray = ls at hl ⊢
  have hl : lv_has ls 3 [(0, .long cs), (2, .int va)] := hl
  rw [f_X0_worth] at hf
  refine lv_lload_n hx hb dX0_worth_0 rfl (lv_at hl 0 rfl) ?_
  refine lv_lconst (v := 0) hx hb dX0_worth_1 (by decide) ?_
  refine W.lcmp hx hb dX0_worth_2 ?_
  refine lv_if_eq (tgt := 10) hx hb dX0_worth_3 (by decide) (fun hc => ?_) (fun hc => ?_)
  · have hc := lgz.mp hc
    rw [if_pos hc] at hf
    refine lv_iconst (v := 0) hx hb dX0_worth_10 (by decide) ?_
    obtain rfl := hf
    exact W.iret (v := 0) hx hb hr (fun t ht hW => ⟨⟨0, (), rfl, rfl, by rw [ht]; exact hP, va_K.moved hW.alike hK, hD⟩, hS.F ht⟩) hS.2.2 dX0_worth_11
  · have hc := fun h9 => hc (lgz.mpr h9)
    rw [if_neg hc] at hf
    refine lv_iload_n hx hb dX0_worth_6 rfl (lv_at hl 1 rfl) ?_
    refine lv_goto (tgt := 11) hx hb dX0_worth_7 (by decide) ?_
    obtain rfl := hf
    exact W.iret (v := va) hx hb hr (fun t ht hW => ⟨⟨va, (), rfl, rfl, by rw [ht]; exact hP, va_K.moved hW.alike hK, hD⟩, hS.F ht⟩) hS.2.2 dX0_worth_11
/-! HedgeGliders$Crowd.around(J)I -/
def f_X0_around (qC : CrS) (ce : Int64) : Int32 := ((((f_X0_worth (qC.1 &&& ce) 1) + (f_X0_worth (qC.2.1 &&& ce) 2)) + (f_X0_worth (qC.2.2.1 &&& ce) 4)) + (f_X0_worth (qC.2.2.2 &&& ce) 8))
abbrev rm_X0_around : Room := ({ frames := 1, cells := 0, slots := 0, locals := 22 } : Room)
abbrev A_X0_around (cI cJ : ClassId) (zcr : Nat) (qC : CrS) (ce : Int64) (sz : Nat) : Nat → Prop := va_A [(zcr, .inr (0, [.long qC.1, .long qC.2.1, .long qC.2.2.1, .long qC.2.2.2]))] sz
abbrev Q_X0_around (dC : Nat → ClassId) (dI : Nat → Nat → Nat) (cI cJ : ClassId) (zcr : Nat) (qC : CrS) (ce : Int64) (sz : Nat) (R : Int32) : Array Value → State → Outcome → State → Prop := va_Qi (fun (r : Int32) (_ : Unit) => r = R) (fun u_ t => va_P (dC, dI) vwCl [(zcr, .inr (0, [.long qC.1, .long qC.2.1, .long qC.2.2.1, .long qC.2.2.2]))] t.heap ∧ va_K (dC, dI) vwCl [(cI, .int), (cJ, .long)] t ∧ va_D (A_X0_around cI cJ zcr qC ce sz) [(zcr, .inr (0, [.long qC.1, .long qC.2.1, .long qC.2.2.1, .long qC.2.2.2]))]) (A_X0_around cI cJ zcr qC ce sz)
set_option maxHeartbeats 4000000 in
set_option maxRecDepth 100000 in
theorem c_X0_around (l : Launch) (dC : Nat → ClassId) (dI : Nat → Nat → Nat) (cI cJ : ClassId) (zcr : Nat) (sz : Nat) (qC : CrS) (ce : Int64) : Met l yX0_around wsX0_around rm_X0_around (va_Pc [.ref zcr, .long ce] (fun U => U.heap.size = sz ∧ va_P (dC, dI) vwCl [(zcr, .inr (0, [.long qC.1, .long qC.2.1, .long qC.2.2.1, .long qC.2.2.2]))] U.heap ∧ va_K (dC, dI) vwCl [(cI, .int), (cJ, .long)] U ∧ va_D (fun _ => True) [(zcr, .inr (0, [.long qC.1, .long qC.2.1, .long qC.2.2.1, .long qC.2.2.2]))])) (Q_X0_around dC dI cI cJ zcr qC ce sz (f_X0_around qC ce)) 0 0 (A_X0_around cI cJ zcr qC ce sz) := by
  generalize hf : (f_X0_around qC ce) = R
  refine Met.ofW (cc := cX0_around) (maxL := 3) (ret := (some .int)) (by decide) rfl ?_
  intro p e s m args below meth c s₁ B hml hv
  obtain ⟨hargs, hsz, hP, hK, hD0⟩ := hv
  have hx := B.exec
  have hb := B.bytes
  have hr := B.returns
  have hts := atoms_spec (ws := wsX0_around) B.pre
  have hown : s.vm.findClass RX0 = some m.cls := findClass_of_methodNamed B.named
  have hlocks := B.notSynchronized
  subst hsz
  have hD : va_D (A_X0_around cI cJ zcr qC ce s.heap.size) [(zcr, .inr (0, [.long qC.1, .long qC.2.1, .long qC.2.2.1, .long qC.2.2.2]))] := hD0.self (sz := s.heap.size)
  have hA : ∀ q : Nat, s.heap.size ≤ q → (A_X0_around cI cJ zcr qC ce s.heap.size) q := fun q h => Or.inr h
  have hS : va_S (A_X0_around cI cJ zcr qC ce s.heap.size) s.heap s.heap [] := va_S.rf
  have hinX0 : ∀ w ∈ wsX00, w ∈ wsX0_around := by decide +kernel
  have hw0 := hts (.fieldLink RX0 7 "HedgeGliders$Crowd" "ones" "J") (by decide +kernel)
  have hw1 := hts (.fieldLink RX0 13 "HedgeGliders$Crowd" "twos" "J") (by decide +kernel)
  have hw2 := hts (.fieldLink RX0 16 "HedgeGliders$Crowd" "fours" "J") (by decide +kernel)
  have hw3 := hts (.fieldLink RX0 19 "HedgeGliders$Crowd" "eights" "J") (by decide +kernel)
  have hl := lv_entry ([.ref zcr, .long ce]) (n := 3) (Nat.le_of_ble_eq_true rfl)
  have he0 : entryFrame m args 3 = entryFrame m ([.ref zcr, .long ce] : List Value).toArray 3 := by rw [hargs]
  rw [he0, lg_entry_eq]
  generalize (lg_sl ([.ref zcr, .long ce]) ++ List.replicate (3 - (lg_sl ([.ref zcr, .long ce])).length) Slot.unset).toArray = ls at hl ⊢
  have hl : lv_has ls 3 [(0, .ref zcr), (1, .long ce)] := hl
  rw [f_X0_around] at hf
  refine lv_aload_n hx hb dX0_around_0 rfl (lv_at hl 0 rfl) ?_
  refine va_get (D := (dC, dI)) (ci := 0) (v := .long qC.1) (C := RX0) (T := TX0) (N := 4) hx hb hts hinX0 hown hK hP 0 rfl rfl 0 (by decide) hw0 (fun _ h9 => h9) rfl dX0_around_1 ?_
  refine lv_lload_n hx hb dX0_around_4 rfl (lv_at hl 1 rfl) ?_
  refine lv_land hx hb dX0_around_5 ?_
  refine lv_iconst (v := 1) hx hb dX0_around_6 (by decide) ?_
  have hPc := hP.sub (ws' := []) [] rfl
  have hDc := hD.sub (ws' := []) [] (by decide) rfl
  have hFc := va_free (wc := []) hD hS hA [] rfl
  refine va_calli (va_runS (As := [.long (qC.1 &&& ce), .int 1]) (rest := []) ⟨hx, hb, hml, hown, hts⟩ (c_X0_worth l dC dI cI cJ  s.heap.size (qC.1 &&& ce) 1) (va_cwS 2 hts gX0_around_X0_worth rfl rfl rfl (by decide +kernel) ⟨Nat.le_of_ble_eq_true rfl, Nat.le_of_ble_eq_true rfl⟩) ⟨fun a U gg mk q => by obtain ⟨q0, q1, qP, qK, qD⟩ := q; exact ⟨q0, q1, qP, va_K.moved (u := U) (U := U.calling gg mk a) (Vm.Alike.refl U.vm) qK, qD⟩, fun U hU hW => ⟨rfl, by rw [hU], by rw [hU]; exact hPc, va_K.moved hW.alike hK, hDc.weaken (fun _ _ _ _ => trivial)⟩⟩ rfl rfl hl.1 rfl (lv_room (Nat.le_of_ble_eq_true rfl)) dX0_around_7 ⟨Nat.zero_le _, Nat.zero_le _⟩) hS (fun q _ h => hFc q h) hFc (fun r_ u_ t H locs ht hvm hw hB hz1 hk1 hS => ?_)
  obtain rfl := hw.symm
  obtain ⟨hP1, -, hD1⟩ := hB
  rw [ht] at hP1
  obtain ⟨hP, hD⟩ := va_join (wr := [(zcr, .inr (0, [.long qC.1, .long qC.2.1, .long qC.2.2.1, .long qC.2.2.2]))]) (w1 := []) hP hD [] [0] rfl rfl (by decide) (by decide) hk1 hFc hP1 hD1
  have hP := hP.sub (ws' := [(zcr, .inr (0, [.long qC.1, .long qC.2.1, .long qC.2.2.1, .long qC.2.2.2]))]) [0] rfl
  have hD := hD.sub (ws' := [(zcr, .inr (0, [.long qC.1, .long qC.2.1, .long qC.2.2.1, .long qC.2.2.2]))]) [0] (by decide) rfl
  clear hPc hDc hFc hP1 hD1 hk1
  refine lv_aload_n hx hb dX0_around_10 rfl (lv_at hl 0 rfl) ?_
  refine va_get (D := (dC, dI)) (ci := 0) (v := .long qC.2.1) (C := RX0) (T := TX0) (N := 4) hx hb hts hinX0 hown hK hP 0 rfl rfl 1 (by decide) hw1 (fun _ h9 => h9) rfl dX0_around_11 ?_
  refine lv_lload_n hx hb dX0_around_14 rfl (lv_at hl 1 rfl) ?_
  refine lv_land hx hb dX0_around_15 ?_
  refine lv_iconst (v := 2) hx hb dX0_around_16 (by decide) ?_
  have hPc := hP.sub (ws' := []) [] rfl
  have hDc := hD.sub (ws' := []) [] (by decide) rfl
  have hFc := va_free (wc := []) hD hS hA [] rfl
  refine va_calli (va_runS (As := [.long (qC.2.1 &&& ce), .int 2]) (rest := [.int (f_X0_worth (qC.1 &&& ce) 1)]) ⟨hx, hb, hml, hown, hts⟩ (c_X0_worth l dC dI cI cJ  H.size (qC.2.1 &&& ce) 2) (va_cwS 2 hts gX0_around_X0_worth rfl rfl rfl (by decide +kernel) ⟨Nat.le_of_ble_eq_true rfl, Nat.le_of_ble_eq_true rfl⟩) ⟨fun a U gg mk q => by obtain ⟨q0, q1, qP, qK, qD⟩ := q; exact ⟨q0, q1, qP, va_K.moved (u := U) (U := U.calling gg mk a) (Vm.Alike.refl U.vm) qK, qD⟩, fun U hU hW => ⟨rfl, by rw [hU], by rw [hU]; exact hPc, va_K.moved hW.alike hK, hDc.weaken (fun _ _ _ _ => trivial)⟩⟩ rfl rfl hl.1 rfl (lv_room (Nat.le_of_ble_eq_true rfl)) dX0_around_17 ⟨Nat.zero_le _, Nat.zero_le _⟩) hS (fun q _ h => hFc q h) hFc (fun r_ u_ t H locs ht hvm hw hB hz1 hk1 hS => ?_)
  obtain rfl := hw.symm
  obtain ⟨hP1, -, hD1⟩ := hB
  rw [ht] at hP1
  obtain ⟨hP, hD⟩ := va_join (wr := [(zcr, .inr (0, [.long qC.1, .long qC.2.1, .long qC.2.2.1, .long qC.2.2.2]))]) (w1 := []) hP hD [] [0] rfl rfl (by decide) (by decide) hk1 hFc hP1 hD1
  have hP := hP.sub (ws' := [(zcr, .inr (0, [.long qC.1, .long qC.2.1, .long qC.2.2.1, .long qC.2.2.2]))]) [0] rfl
  have hD := hD.sub (ws' := [(zcr, .inr (0, [.long qC.1, .long qC.2.1, .long qC.2.2.1, .long qC.2.2.2]))]) [0] (by decide) rfl
  clear hPc hDc hFc hP1 hD1 hk1
  refine lv_iadd hx hb dX0_around_20 ?_
  refine lv_aload_n hx hb dX0_around_21 rfl (lv_at hl 0 rfl) ?_
  refine va_get (D := (dC, dI)) (ci := 0) (v := .long qC.2.2.1) (C := RX0) (T := TX0) (N := 4) hx hb hts hinX0 hown hK hP 0 rfl rfl 2 (by decide) hw2 (fun _ h9 => h9) rfl dX0_around_22 ?_
  refine lv_lload_n hx hb dX0_around_25 rfl (lv_at hl 1 rfl) ?_
  refine lv_land hx hb dX0_around_26 ?_
  refine lv_iconst (v := 4) hx hb dX0_around_27 (by decide) ?_
  have hPc := hP.sub (ws' := []) [] rfl
  have hDc := hD.sub (ws' := []) [] (by decide) rfl
  have hFc := va_free (wc := []) hD hS hA [] rfl
  refine va_calli (va_runS (As := [.long (qC.2.2.1 &&& ce), .int 4]) (rest := [.int ((f_X0_worth (qC.1 &&& ce) 1) + (f_X0_worth (qC.2.1 &&& ce) 2))]) ⟨hx, hb, hml, hown, hts⟩ (c_X0_worth l dC dI cI cJ  H.size (qC.2.2.1 &&& ce) 4) (va_cwS 2 hts gX0_around_X0_worth rfl rfl rfl (by decide +kernel) ⟨Nat.le_of_ble_eq_true rfl, Nat.le_of_ble_eq_true rfl⟩) ⟨fun a U gg mk q => by obtain ⟨q0, q1, qP, qK, qD⟩ := q; exact ⟨q0, q1, qP, va_K.moved (u := U) (U := U.calling gg mk a) (Vm.Alike.refl U.vm) qK, qD⟩, fun U hU hW => ⟨rfl, by rw [hU], by rw [hU]; exact hPc, va_K.moved hW.alike hK, hDc.weaken (fun _ _ _ _ => trivial)⟩⟩ rfl rfl hl.1 rfl (lv_room (Nat.le_of_ble_eq_true rfl)) dX0_around_28 ⟨Nat.zero_le _, Nat.zero_le _⟩) hS (fun q _ h => hFc q h) hFc (fun r_ u_ t H locs ht hvm hw hB hz1 hk1 hS => ?_)
  obtain rfl := hw.symm
  obtain ⟨hP1, -, hD1⟩ := hB
  rw [ht] at hP1
  obtain ⟨hP, hD⟩ := va_join (wr := [(zcr, .inr (0, [.long qC.1, .long qC.2.1, .long qC.2.2.1, .long qC.2.2.2]))]) (w1 := []) hP hD [] [0] rfl rfl (by decide) (by decide) hk1 hFc hP1 hD1
  have hP := hP.sub (ws' := [(zcr, .inr (0, [.long qC.1, .long qC.2.1, .long qC.2.2.1, .long qC.2.2.2]))]) [0] rfl
  have hD := hD.sub (ws' := [(zcr, .inr (0, [.long qC.1, .long qC.2.1, .long qC.2.2.1, .long qC.2.2.2]))]) [0] (by decide) rfl
  clear hPc hDc hFc hP1 hD1 hk1
  refine lv_iadd hx hb dX0_around_31 ?_
  refine lv_aload_n hx hb dX0_around_32 rfl (lv_at hl 0 rfl) ?_
  refine va_get (D := (dC, dI)) (ci := 0) (v := .long qC.2.2.2) (C := RX0) (T := TX0) (N := 4) hx hb hts hinX0 hown hK hP 0 rfl rfl 3 (by decide) hw3 (fun _ h9 => h9) rfl dX0_around_33 ?_
  refine lv_lload_n hx hb dX0_around_36 rfl (lv_at hl 1 rfl) ?_
  refine lv_land hx hb dX0_around_37 ?_
  refine lv_bipush (v := 8) hx hb dX0_around_38 (by decide) ?_
  have hPc := hP.sub (ws' := []) [] rfl
  have hDc := hD.sub (ws' := []) [] (by decide) rfl
  have hFc := va_free (wc := []) hD hS hA [] rfl
  refine va_calli (va_runS (As := [.long (qC.2.2.2 &&& ce), .int 8]) (rest := [.int (((f_X0_worth (qC.1 &&& ce) 1) + (f_X0_worth (qC.2.1 &&& ce) 2)) + (f_X0_worth (qC.2.2.1 &&& ce) 4))]) ⟨hx, hb, hml, hown, hts⟩ (c_X0_worth l dC dI cI cJ  H.size (qC.2.2.2 &&& ce) 8) (va_cwS 2 hts gX0_around_X0_worth rfl rfl rfl (by decide +kernel) ⟨Nat.le_of_ble_eq_true rfl, Nat.le_of_ble_eq_true rfl⟩) ⟨fun a U gg mk q => by obtain ⟨q0, q1, qP, qK, qD⟩ := q; exact ⟨q0, q1, qP, va_K.moved (u := U) (U := U.calling gg mk a) (Vm.Alike.refl U.vm) qK, qD⟩, fun U hU hW => ⟨rfl, by rw [hU], by rw [hU]; exact hPc, va_K.moved hW.alike hK, hDc.weaken (fun _ _ _ _ => trivial)⟩⟩ rfl rfl hl.1 rfl (lv_room (Nat.le_of_ble_eq_true rfl)) dX0_around_40 ⟨Nat.zero_le _, Nat.zero_le _⟩) hS (fun q _ h => hFc q h) hFc (fun r_ u_ t H locs ht hvm hw hB hz1 hk1 hS => ?_)
  obtain rfl := hw.symm
  obtain ⟨hP1, -, hD1⟩ := hB
  rw [ht] at hP1
  obtain ⟨hP, hD⟩ := va_join (wr := [(zcr, .inr (0, [.long qC.1, .long qC.2.1, .long qC.2.2.1, .long qC.2.2.2]))]) (w1 := []) hP hD [] [0] rfl rfl (by decide) (by decide) hk1 hFc hP1 hD1
  have hP := hP.sub (ws' := [(zcr, .inr (0, [.long qC.1, .long qC.2.1, .long qC.2.2.1, .long qC.2.2.2]))]) [0] rfl
  have hD := hD.sub (ws' := [(zcr, .inr (0, [.long qC.1, .long qC.2.1, .long qC.2.2.1, .long qC.2.2.2]))]) [0] (by decide) rfl
  clear hPc hDc hFc hP1 hD1 hk1
  refine lv_iadd hx hb dX0_around_43 ?_
  obtain rfl := hf
  exact W.iret (v := ((((f_X0_worth (qC.1 &&& ce) 1) + (f_X0_worth (qC.2.1 &&& ce) 2)) + (f_X0_worth (qC.2.2.1 &&& ce) 4)) + (f_X0_worth (qC.2.2.2 &&& ce) 8))) hx hb hr (fun t ht hW => ⟨⟨((((f_X0_worth (qC.1 &&& ce) 1) + (f_X0_worth (qC.2.1 &&& ce) 2)) + (f_X0_worth (qC.2.2.1 &&& ce) 4)) + (f_X0_worth (qC.2.2.2 &&& ce) 8)), (), rfl, rfl, by rw [ht]; exact hP, va_K.moved hW.alike hK, hD⟩, hS.F ht⟩) hS.2.2 dX0_around_44
/-! HedgeGliders$Rules.births()I -/
def f_X4_births (rR : RuS) : Int32 := rR.1
abbrev rm_X4_births : Room := ({ frames := 0, cells := 0, slots := 0, locals := 0 } : Room)
abbrev A_X4_births (cI cJ : ClassId) (zru zgr zcr : Nat) (rR : RuS) (sz : Nat) : Nat → Prop := va_A [(zru, .inr (3, [.ref zgr, .ref zcr, .int rR.1, .int rR.2]))] sz
abbrev Q_X4_births (dC : Nat → ClassId) (dI : Nat → Nat → Nat) (cI cJ : ClassId) (zru zgr zcr : Nat) (rR : RuS) (sz : Nat) (R : Int32) : Array Value → State → Outcome → State → Prop := va_Qi (fun (r : Int32) (_ : Unit) => r = R) (fun u_ t => va_P (dC, dI) vwCl [(zru, .inr (3, [.ref zgr, .ref zcr, .int rR.1, .int rR.2]))] t.heap ∧ va_K (dC, dI) vwCl [(cI, .int), (cJ, .long)] t ∧ va_D (A_X4_births cI cJ zru zgr zcr rR sz) [(zru, .inr (3, [.ref zgr, .ref zcr, .int rR.1, .int rR.2]))]) (A_X4_births cI cJ zru zgr zcr rR sz)
set_option maxHeartbeats 4000000 in
set_option maxRecDepth 100000 in
theorem c_X4_births (l : Launch) (dC : Nat → ClassId) (dI : Nat → Nat → Nat) (cI cJ : ClassId) (zru zgr zcr : Nat) (sz : Nat) (rR : RuS) : Met l yX4_births wsX4_births rm_X4_births (va_Pc [.ref zru] (fun U => U.heap.size = sz ∧ va_P (dC, dI) vwCl [(zru, .inr (3, [.ref zgr, .ref zcr, .int rR.1, .int rR.2]))] U.heap ∧ va_K (dC, dI) vwCl [(cI, .int), (cJ, .long)] U ∧ va_D (fun _ => True) [(zru, .inr (3, [.ref zgr, .ref zcr, .int rR.1, .int rR.2]))])) (Q_X4_births dC dI cI cJ zru zgr zcr rR sz (f_X4_births rR)) 0 0 (A_X4_births cI cJ zru zgr zcr rR sz) := by
  generalize hf : (f_X4_births rR) = R
  refine Met.ofW (cc := cX4_births) (maxL := 1) (ret := (some .int)) (by decide) rfl ?_
  intro p e s m args below meth c s₁ B hml hv
  obtain ⟨hargs, hsz, hP, hK, hD0⟩ := hv
  have hx := B.exec
  have hb := B.bytes
  have hr := B.returns
  have hts := atoms_spec (ws := wsX4_births) B.pre
  have hown : s.vm.findClass RX4 = some m.cls := findClass_of_methodNamed B.named
  have hlocks := B.notSynchronized
  subst hsz
  have hD : va_D (A_X4_births cI cJ zru zgr zcr rR s.heap.size) [(zru, .inr (3, [.ref zgr, .ref zcr, .int rR.1, .int rR.2]))] := hD0.self (sz := s.heap.size)
  have hA : ∀ q : Nat, s.heap.size ≤ q → (A_X4_births cI cJ zru zgr zcr rR s.heap.size) q := fun q h => Or.inr h
  have hS : va_S (A_X4_births cI cJ zru zgr zcr rR s.heap.size) s.heap s.heap [] := va_S.rf
  have hinX4 : ∀ w ∈ wsX40, w ∈ wsX4_births := by decide +kernel
  have hw0 := hts (.fieldLink RX4 16 "HedgeGliders$Rules" "births" "I") (by decide +kernel)
  have hl := lv_entry ([.ref zru]) (n := 1) (Nat.le_of_ble_eq_true rfl)
  have he0 : entryFrame m args 1 = entryFrame m ([.ref zru] : List Value).toArray 1 := by rw [hargs]
  rw [he0, lg_entry_eq]
  generalize (lg_sl ([.ref zru]) ++ List.replicate (1 - (lg_sl ([.ref zru])).length) Slot.unset).toArray = ls at hl ⊢
  have hl : lv_has ls 1 [(0, .ref zru)] := hl
  rw [f_X4_births] at hf
  refine lv_aload_n hx hb dX4_births_0 rfl (lv_at hl 0 rfl) ?_
  refine va_get (D := (dC, dI)) (ci := 3) (v := .int rR.1) (C := RX4) (T := TX4) (N := 4) hx hb hts hinX4 hown hK hP 0 rfl rfl 2 (by decide) hw0 (fun _ h9 => h9) rfl dX4_births_1 ?_
  obtain rfl := hf
  exact W.iret (v := rR.1) hx hb hr (fun t ht hW => ⟨⟨rR.1, (), rfl, rfl, by rw [ht]; exact hP, va_K.moved hW.alike hK, hD⟩, hS.F ht⟩) hS.2.2 dX4_births_4
/-! HedgeGliders$Rules.stays()I -/
def f_X4_stays (rR : RuS) : Int32 := rR.2
abbrev rm_X4_stays : Room := ({ frames := 0, cells := 0, slots := 0, locals := 0 } : Room)
abbrev A_X4_stays (cI cJ : ClassId) (zru zgr zcr : Nat) (rR : RuS) (sz : Nat) : Nat → Prop := va_A [(zru, .inr (3, [.ref zgr, .ref zcr, .int rR.1, .int rR.2]))] sz
abbrev Q_X4_stays (dC : Nat → ClassId) (dI : Nat → Nat → Nat) (cI cJ : ClassId) (zru zgr zcr : Nat) (rR : RuS) (sz : Nat) (R : Int32) : Array Value → State → Outcome → State → Prop := va_Qi (fun (r : Int32) (_ : Unit) => r = R) (fun u_ t => va_P (dC, dI) vwCl [(zru, .inr (3, [.ref zgr, .ref zcr, .int rR.1, .int rR.2]))] t.heap ∧ va_K (dC, dI) vwCl [(cI, .int), (cJ, .long)] t ∧ va_D (A_X4_stays cI cJ zru zgr zcr rR sz) [(zru, .inr (3, [.ref zgr, .ref zcr, .int rR.1, .int rR.2]))]) (A_X4_stays cI cJ zru zgr zcr rR sz)
set_option maxHeartbeats 4000000 in
set_option maxRecDepth 100000 in
theorem c_X4_stays (l : Launch) (dC : Nat → ClassId) (dI : Nat → Nat → Nat) (cI cJ : ClassId) (zru zgr zcr : Nat) (sz : Nat) (rR : RuS) : Met l yX4_stays wsX4_stays rm_X4_stays (va_Pc [.ref zru] (fun U => U.heap.size = sz ∧ va_P (dC, dI) vwCl [(zru, .inr (3, [.ref zgr, .ref zcr, .int rR.1, .int rR.2]))] U.heap ∧ va_K (dC, dI) vwCl [(cI, .int), (cJ, .long)] U ∧ va_D (fun _ => True) [(zru, .inr (3, [.ref zgr, .ref zcr, .int rR.1, .int rR.2]))])) (Q_X4_stays dC dI cI cJ zru zgr zcr rR sz (f_X4_stays rR)) 0 0 (A_X4_stays cI cJ zru zgr zcr rR sz) := by
  generalize hf : (f_X4_stays rR) = R
  refine Met.ofW (cc := cX4_stays) (maxL := 1) (ret := (some .int)) (by decide) rfl ?_
  intro p e s m args below meth c s₁ B hml hv
  obtain ⟨hargs, hsz, hP, hK, hD0⟩ := hv
  have hx := B.exec
  have hb := B.bytes
  have hr := B.returns
  have hts := atoms_spec (ws := wsX4_stays) B.pre
  have hown : s.vm.findClass RX4 = some m.cls := findClass_of_methodNamed B.named
  have hlocks := B.notSynchronized
  subst hsz
  have hD : va_D (A_X4_stays cI cJ zru zgr zcr rR s.heap.size) [(zru, .inr (3, [.ref zgr, .ref zcr, .int rR.1, .int rR.2]))] := hD0.self (sz := s.heap.size)
  have hA : ∀ q : Nat, s.heap.size ≤ q → (A_X4_stays cI cJ zru zgr zcr rR s.heap.size) q := fun q h => Or.inr h
  have hS : va_S (A_X4_stays cI cJ zru zgr zcr rR s.heap.size) s.heap s.heap [] := va_S.rf
  have hinX4 : ∀ w ∈ wsX40, w ∈ wsX4_stays := by decide +kernel
  have hw0 := hts (.fieldLink RX4 20 "HedgeGliders$Rules" "stays" "I") (by decide +kernel)
  have hl := lv_entry ([.ref zru]) (n := 1) (Nat.le_of_ble_eq_true rfl)
  have he0 : entryFrame m args 1 = entryFrame m ([.ref zru] : List Value).toArray 1 := by rw [hargs]
  rw [he0, lg_entry_eq]
  generalize (lg_sl ([.ref zru]) ++ List.replicate (1 - (lg_sl ([.ref zru])).length) Slot.unset).toArray = ls at hl ⊢
  have hl : lv_has ls 1 [(0, .ref zru)] := hl
  rw [f_X4_stays] at hf
  refine lv_aload_n hx hb dX4_stays_0 rfl (lv_at hl 0 rfl) ?_
  refine va_get (D := (dC, dI)) (ci := 3) (v := .int rR.2) (C := RX4) (T := TX4) (N := 4) hx hb hts hinX4 hown hK hP 0 rfl rfl 3 (by decide) hw0 (fun _ h9 => h9) rfl dX4_stays_1 ?_
  obtain rfl := hf
  exact W.iret (v := rR.2) hx hb hr (fun t ht hW => ⟨⟨rR.2, (), rfl, rfl, by rw [ht]; exact hP, va_K.moved hW.alike hK, hD⟩, hS.F ht⟩) hS.2.2 dX4_stays_4
/-! HedgeGliders$Rules.replace(II)V -/
def f_X4_replace (rR : RuS) (bn : Int32) (sn : Int32) : RuS := (bn, sn)
abbrev rm_X4_replace : Room := ({ frames := 0, cells := 0, slots := 0, locals := 0 } : Room)
abbrev A_X4_replace (cI cJ : ClassId) (zru zgr zcr : Nat) (rR : RuS) (bn : Int32) (sn : Int32) (sz : Nat) : Nat → Prop := va_A [(zru, .inr (3, [.ref zgr, .ref zcr, .int rR.1, .int rR.2]))] sz
abbrev Q_X4_replace (dC : Nat → ClassId) (dI : Nat → Nat → Nat) (cI cJ : ClassId) (zru zgr zcr : Nat) (rR : RuS) (bn : Int32) (sn : Int32) (sz : Nat) (R : RuS) : Array Value → State → Outcome → State → Prop := va_Qv (fun _ : Unit => True) (fun u_ t => va_P (dC, dI) vwCl [(zru, .inr (3, [.ref zgr, .ref zcr, .int R.1, .int R.2]))] t.heap ∧ va_K (dC, dI) vwCl [(cI, .int), (cJ, .long)] t ∧ va_D (A_X4_replace cI cJ zru zgr zcr rR bn sn sz) [(zru, .inr (3, [.ref zgr, .ref zcr, .int R.1, .int R.2]))]) (A_X4_replace cI cJ zru zgr zcr rR bn sn sz)
set_option maxHeartbeats 4000000 in
set_option maxRecDepth 100000 in
theorem c_X4_replace (l : Launch) (dC : Nat → ClassId) (dI : Nat → Nat → Nat) (cI cJ : ClassId) (zru zgr zcr : Nat) (sz : Nat) (rR : RuS) (bn : Int32) (sn : Int32) : Met l yX4_replace wsX4_replace rm_X4_replace (va_Pc [.ref zru, .int bn, .int sn] (fun U => U.heap.size = sz ∧ va_P (dC, dI) vwCl [(zru, .inr (3, [.ref zgr, .ref zcr, .int rR.1, .int rR.2]))] U.heap ∧ va_K (dC, dI) vwCl [(cI, .int), (cJ, .long)] U ∧ va_D (fun _ => True) [(zru, .inr (3, [.ref zgr, .ref zcr, .int rR.1, .int rR.2]))])) (Q_X4_replace dC dI cI cJ zru zgr zcr rR bn sn sz (f_X4_replace rR bn sn)) 0 0 (A_X4_replace cI cJ zru zgr zcr rR bn sn sz) := by
  generalize hf : (f_X4_replace rR bn sn) = R
  refine Met.ofW (cc := cX4_replace) (maxL := 3) (ret := none) (by decide) rfl ?_
  intro p e s m args below meth c s₁ B hml hv
  obtain ⟨hargs, hsz, hP, hK, hD0⟩ := hv
  have hx := B.exec
  have hb := B.bytes
  have hr := B.returns
  have hts := atoms_spec (ws := wsX4_replace) B.pre
  have hown : s.vm.findClass RX4 = some m.cls := findClass_of_methodNamed B.named
  have hlocks := B.notSynchronized
  subst hsz
  have hD : va_D (A_X4_replace cI cJ zru zgr zcr rR bn sn s.heap.size) [(zru, .inr (3, [.ref zgr, .ref zcr, .int rR.1, .int rR.2]))] := hD0.self (sz := s.heap.size)
  have hA : ∀ q : Nat, s.heap.size ≤ q → (A_X4_replace cI cJ zru zgr zcr rR bn sn s.heap.size) q := fun q h => Or.inr h
  have hS : va_S (A_X4_replace cI cJ zru zgr zcr rR bn sn s.heap.size) s.heap s.heap [] := va_S.rf
  have hinX4 : ∀ w ∈ wsX40, w ∈ wsX4_replace := by decide +kernel
  have hw0 := hts (.fieldLink RX4 16 "HedgeGliders$Rules" "births" "I") (by decide +kernel)
  have hw1 := hts (.fieldLink RX4 20 "HedgeGliders$Rules" "stays" "I") (by decide +kernel)
  have hl := lv_entry ([.ref zru, .int bn, .int sn]) (n := 3) (Nat.le_of_ble_eq_true rfl)
  have he0 : entryFrame m args 3 = entryFrame m ([.ref zru, .int bn, .int sn] : List Value).toArray 3 := by rw [hargs]
  rw [he0, lg_entry_eq]
  generalize (lg_sl ([.ref zru, .int bn, .int sn]) ++ List.replicate (3 - (lg_sl ([.ref zru, .int bn, .int sn])).length) Slot.unset).toArray = ls at hl ⊢
  have hl : lv_has ls 3 [(0, .ref zru), (1, .int bn), (2, .int sn)] := hl
  rw [f_X4_replace] at hf
  refine lv_aload_n hx hb dX4_replace_0 rfl (lv_at hl 0 rfl) ?_
  refine lv_iload_n hx hb dX4_replace_1 rfl (lv_at hl 1 rfl) ?_
  refine va_put (D := (dC, dI)) (ci := 3) (v := .int bn) (ty := .int) (C := RX4) (T := TX4) (N := 4) hx hb hts hinX4 tyX4 tyX4_ok nmX4 hown hK hP hD hS 0 rfl rfl 2 (by decide) hw0 (fun _ h9 => h9) rfl (by decide +kernel) rfl rfl (Nat.le_of_ble_eq_true rfl) dX4_replace_2 (fun H locs hP hD hS => ?_)
  have hP : va_P (dC, dI) vwCl [(zru, .inr (3, [.ref zgr, .ref zcr, .int bn, .int rR.2]))] H := hP
  have hD : va_D (A_X4_replace cI cJ zru zgr zcr rR bn sn s.heap.size) [(zru, .inr (3, [.ref zgr, .ref zcr, .int bn, .int rR.2]))] := hD
  refine lv_aload_n hx hb dX4_replace_5 rfl (lv_at hl 0 rfl) ?_
  refine lv_iload_n hx hb dX4_replace_6 rfl (lv_at hl 2 rfl) ?_
  refine va_put (D := (dC, dI)) (ci := 3) (v := .int sn) (ty := .int) (C := RX4) (T := TX4) (N := 4) hx hb hts hinX4 tyX4 tyX4_ok nmX4 hown hK hP hD hS 0 rfl rfl 3 (by decide) hw1 (fun _ h9 => h9) rfl (by decide +kernel) rfl rfl (Nat.le_of_ble_eq_true rfl) dX4_replace_7 (fun H locs hP hD hS => ?_)
  have hP : va_P (dC, dI) vwCl [(zru, .inr (3, [.ref zgr, .ref zcr, .int bn, .int sn]))] H := hP
  have hD : va_D (A_X4_replace cI cJ zru zgr zcr rR bn sn s.heap.size) [(zru, .inr (3, [.ref zgr, .ref zcr, .int bn, .int sn]))] := hD
  obtain rfl := hf
  exact W.vret hx hb hr (fun t ht hW => ⟨⟨(), rfl, trivial, by rw [ht]; exact hP, va_K.moved hW.alike hK, hD⟩, hS.F ht⟩) hS.2.2 dX4_replace_10
/-! HedgeGliders$Rules.cellsWithOneOf(I)J -/
def lp_X4_cellsWithOneOf_5 (qC : CrS) (nu : Int32) : Nat → Int64 → Int32 → Option (Int64)
  | 0, _, _ => none
  | nf + 1, y5, y6 => if 8 < y6 then (some y5) else (bindv (if ((nu >>> (y6 &&& 31)) &&& 1) = 0 then (y5) else ((y5 ||| (f_X0_cellsWith qC y6))) : Int64) fun v7 => lp_X4_cellsWithOneOf_5 qC nu nf v7 (y6 + 1))
def f_X4_cellsWithOneOf (rR : RuS) (qC : CrS) (nu : Int32) : Option (Int64) := Option.bind (lp_X4_cellsWithOneOf_5 qC nu 100 0 0) fun v8 => some v8
abbrev rm_X4_cellsWithOneOf : Room := ({ frames := 2, cells := 0, slots := 0, locals := 42 } : Room)
abbrev A_X4_cellsWithOneOf (cI cJ : ClassId) (zru zcr zgr : Nat) (rR : RuS) (qC : CrS) (nu : Int32) (sz : Nat) : Nat → Prop := va_A [(zru, .inr (3, [.ref zgr, .ref zcr, .int rR.1, .int rR.2])), (zcr, .inr (0, [.long qC.1, .long qC.2.1, .long qC.2.2.1, .long qC.2.2.2]))] sz
abbrev Q_X4_cellsWithOneOf (dC : Nat → ClassId) (dI : Nat → Nat → Nat) (cI cJ : ClassId) (zru zcr zgr : Nat) (rR : RuS) (qC : CrS) (nu : Int32) (sz : Nat) (R : Int64) : Array Value → State → Outcome → State → Prop := va_Ql (fun (r : Int64) (_ : Unit) => r = R) (fun u_ t => va_P (dC, dI) vwCl [(zru, .inr (3, [.ref zgr, .ref zcr, .int rR.1, .int rR.2])), (zcr, .inr (0, [.long qC.1, .long qC.2.1, .long qC.2.2.1, .long qC.2.2.2]))] t.heap ∧ va_K (dC, dI) vwCl [(cI, .int), (cJ, .long)] t ∧ va_D (A_X4_cellsWithOneOf cI cJ zru zcr zgr rR qC nu sz) [(zru, .inr (3, [.ref zgr, .ref zcr, .int rR.1, .int rR.2])), (zcr, .inr (0, [.long qC.1, .long qC.2.1, .long qC.2.2.1, .long qC.2.2.2]))]) (A_X4_cellsWithOneOf cI cJ zru zcr zgr rR qC nu sz)
set_option maxHeartbeats 4000000 in
set_option maxRecDepth 100000 in
theorem c_X4_cellsWithOneOf (l : Launch) (dC : Nat → ClassId) (dI : Nat → Nat → Nat) (cI cJ : ClassId) (zru zcr zgr : Nat) (sz : Nat) (rR : RuS) (qC : CrS) (nu : Int32) (R : Int64) (hR : f_X4_cellsWithOneOf rR qC nu = some R) : Met l yX4_cellsWithOneOf wsX4_cellsWithOneOf rm_X4_cellsWithOneOf (va_Pc [.ref zru, .int nu] (fun U => U.heap.size = sz ∧ va_P (dC, dI) vwCl [(zru, .inr (3, [.ref zgr, .ref zcr, .int rR.1, .int rR.2])), (zcr, .inr (0, [.long qC.1, .long qC.2.1, .long qC.2.2.1, .long qC.2.2.2]))] U.heap ∧ va_K (dC, dI) vwCl [(cI, .int), (cJ, .long)] U ∧ va_D (fun _ => True) [(zru, .inr (3, [.ref zgr, .ref zcr, .int rR.1, .int rR.2])), (zcr, .inr (0, [.long qC.1, .long qC.2.1, .long qC.2.2.1, .long qC.2.2.2]))])) (Q_X4_cellsWithOneOf dC dI cI cJ zru zcr zgr rR qC nu sz R) 0 0 (A_X4_cellsWithOneOf cI cJ zru zcr zgr rR qC nu sz) := by
  have hf := hR
  refine Met.ofW (cc := cX4_cellsWithOneOf) (maxL := 5) (ret := (some .long)) (by decide) rfl ?_
  intro p e s m args below meth c s₁ B hml hv
  obtain ⟨hargs, hsz, hP, hK, hD0⟩ := hv
  have hx := B.exec
  have hb := B.bytes
  have hr := B.returns
  have hts := atoms_spec (ws := wsX4_cellsWithOneOf) B.pre
  have hown : s.vm.findClass RX4 = some m.cls := findClass_of_methodNamed B.named
  have hlocks := B.notSynchronized
  subst hsz
  have hD : va_D (A_X4_cellsWithOneOf cI cJ zru zcr zgr rR qC nu s.heap.size) [(zru, .inr (3, [.ref zgr, .ref zcr, .int rR.1, .int rR.2])), (zcr, .inr (0, [.long qC.1, .long qC.2.1, .long qC.2.2.1, .long qC.2.2.2]))] := hD0.self (sz := s.heap.size)
  have hA : ∀ q : Nat, s.heap.size ≤ q → (A_X4_cellsWithOneOf cI cJ zru zcr zgr rR qC nu s.heap.size) q := fun q h => Or.inr h
  have hS : va_S (A_X4_cellsWithOneOf cI cJ zru zcr zgr rR qC nu s.heap.size) s.heap s.heap [] := va_S.rf
  have hinX4 : ∀ w ∈ wsX40, w ∈ wsX4_cellsWithOneOf := by decide +kernel
  have hw0 := hts (.fieldLink RX4 10 "HedgeGliders$Rules" "crowd" "LHedgeGliders$Crowd;") (by decide +kernel)
  have hl := lv_entry ([.ref zru, .int nu]) (n := 5) (Nat.le_of_ble_eq_true rfl)
  have he0 : entryFrame m args 5 = entryFrame m ([.ref zru, .int nu] : List Value).toArray 5 := by rw [hargs]
  rw [he0, lg_entry_eq]
  generalize (lg_sl ([.ref zru, .int nu]) ++ List.replicate (5 - (lg_sl ([.ref zru, .int nu])).length) Slot.unset).toArray = ls at hl ⊢
  have hl : lv_has ls 5 [(0, .ref zru), (1, .int nu)] := hl
  rw [f_X4_cellsWithOneOf] at hf
  refine lv_lconst (v := 0) hx hb dX4_cellsWithOneOf_0 (by decide) ?_
  refine lv_lstore_n (lv' := [(2, .long 0), (0, .ref zru), (1, .int nu)]) hx hb dX4_cellsWithOneOf_1 rfl hl (by decide) rfl (fun ls hl => ?_)
  refine lv_iconst (v := 0) hx hb dX4_cellsWithOneOf_2 (by decide) ?_
  refine lv_istore (lv' := [(4, .int 0), (2, .long 0), (0, .ref zru), (1, .int nu)]) hx hb dX4_cellsWithOneOf_3 hl (by decide) rfl (fun ls hl => ?_)
  obtain ⟨v8, hv, hf⟩ := obind hf
  have K9 : ∀ (H : Heap) (locs : List Loc) (ls : Array Slot), va_P (dC, dI) vwCl [(zru, .inr (3, [.ref zgr, .ref zcr, .int rR.1, .int rR.2])), (zcr, .inr (0, [.long qC.1, .long qC.2.1, .long qC.2.2.1, .long qC.2.2.2]))] H → va_D (A_X4_cellsWithOneOf cI cJ zru zcr zgr rR qC nu s.heap.size) [(zru, .inr (3, [.ref zgr, .ref zcr, .int rR.1, .int rR.2])), (zcr, .inr (0, [.long qC.1, .long qC.2.1, .long qC.2.2.1, .long qC.2.2.2]))] → va_S (A_X4_cellsWithOneOf cI cJ zru zcr zgr rR qC nu s.heap.size) s.heap H locs → lv_has ls 5 [(2, .long v8)] → W p l e rm_X4_cellsWithOneOf s m args below meth c H locs 0 0 (MQ below (Q_X4_cellsWithOneOf dC dI cI cJ zru zcr zgr rR qC nu s.heap.size R) args s 0 0 (A_X4_cellsWithOneOf cI cJ zru zcr zgr rR qC nu s.heap.size)) (F0 m 39 ls []) := by
    intro H locs ls hP hD hS hl
    refine lv_lload_n hx hb dX4_cellsWithOneOf_39 rfl (lv_at hl 0 rfl) ?_
    obtain rfl := Option.some.inj hf
    exact W.lret (v := v8) hx hb hr (fun t ht hW => ⟨⟨v8, (), rfl, rfl, by rw [ht]; exact hP, va_K.moved hW.alike hK, hD⟩, hS.F ht⟩) hS.2.2 dX4_cellsWithOneOf_40
  have lp10 : ∀ (nf : Nat) (y5 : Int64) (y6 : Int32) (H : Heap) (locs : List Loc) (ls : Array Slot), lp_X4_cellsWithOneOf_5 qC nu nf y5 y6 = some v8 → va_P (dC, dI) vwCl [(zru, .inr (3, [.ref zgr, .ref zcr, .int rR.1, .int rR.2])), (zcr, .inr (0, [.long qC.1, .long qC.2.1, .long qC.2.2.1, .long qC.2.2.2]))] H → va_D (A_X4_cellsWithOneOf cI cJ zru zcr zgr rR qC nu s.heap.size) [(zru, .inr (3, [.ref zgr, .ref zcr, .int rR.1, .int rR.2])), (zcr, .inr (0, [.long qC.1, .long qC.2.1, .long qC.2.2.1, .long qC.2.2.2]))] → va_S (A_X4_cellsWithOneOf cI cJ zru zcr zgr rR qC nu s.heap.size) s.heap H locs → lv_has ls 5 [(0, .ref zru), (1, .int nu), (2, .long y5), (4, .int y6)] → W p l e rm_X4_cellsWithOneOf s m args below meth c H locs 0 0 (MQ below (Q_X4_cellsWithOneOf dC dI cI cJ zru zcr zgr rR qC nu s.heap.size R) args s 0 0 (A_X4_cellsWithOneOf cI cJ zru zcr zgr rR qC nu s.heap.size)) (F0 m 5 ls []) := by
    intro nf
    induction nf with
    | zero => intro y5 y6 H locs ls h9; exact nomatch h9
    | succ nf ih11 =>
      intro y5 y6 H locs ls hf hP hD hS hl
      rw [lp_X4_cellsWithOneOf_5.eq_2] at hf
      refine lv_iload hx hb dX4_cellsWithOneOf_5 (lv_at hl 3 rfl) ?_
      refine lv_bipush (v := 8) hx hb dX4_cellsWithOneOf_7 (by decide) ?_
      refine lv_icmp_gt (tgt := 39) hx hb dX4_cellsWithOneOf_9 (by decide) (fun hc => ?_) (fun hc => ?_)
      · rw [if_pos hc] at hf
        obtain rfl := Option.some.inj hf
        exact K9 _ _ _ hP hD hS (lv_sub hl [2] rfl)
      · rw [if_neg hc] at hf
        refine lv_iload_n hx hb dX4_cellsWithOneOf_12 rfl (lv_at hl 1 rfl) ?_
        refine lv_iload hx hb dX4_cellsWithOneOf_13 (lv_at hl 3 rfl) ?_
        refine lv_ishr hx hb dX4_cellsWithOneOf_15 ?_
        refine lv_iconst (v := 1) hx hb dX4_cellsWithOneOf_16 (by decide) ?_
        refine lv_iand hx hb dX4_cellsWithOneOf_17 ?_
        obtain ⟨v7, hv, hf⟩ := vbind hf
        have K12 : ∀ (H : Heap) (locs : List Loc) (ls : Array Slot), va_P (dC, dI) vwCl [(zru, .inr (3, [.ref zgr, .ref zcr, .int rR.1, .int rR.2])), (zcr, .inr (0, [.long qC.1, .long qC.2.1, .long qC.2.2.1, .long qC.2.2.2]))] H → va_D (A_X4_cellsWithOneOf cI cJ zru zcr zgr rR qC nu s.heap.size) [(zru, .inr (3, [.ref zgr, .ref zcr, .int rR.1, .int rR.2])), (zcr, .inr (0, [.long qC.1, .long qC.2.1, .long qC.2.2.1, .long qC.2.2.2]))] → va_S (A_X4_cellsWithOneOf cI cJ zru zcr zgr rR qC nu s.heap.size) s.heap H locs → lv_has ls 5 [(0, .ref zru), (1, .int nu), (2, .long v7), (4, .int y6)] → W p l e rm_X4_cellsWithOneOf s m args below meth c H locs 0 0 (MQ below (Q_X4_cellsWithOneOf dC dI cI cJ zru zcr zgr rR qC nu s.heap.size R) args s 0 0 (A_X4_cellsWithOneOf cI cJ zru zcr zgr rR qC nu s.heap.size)) (F0 m 33 ls []) := by
          intro H locs ls hP hD hS hl
          refine lv_iinc (v := (y6 + 1)) (lv' := [(4, .int (y6 + 1)), (0, .ref zru), (1, .int nu), (2, .long v7)]) hx hb dX4_cellsWithOneOf_33 hl (k := 3) rfl rfl (by decide) rfl (fun ls hl => ?_)
          refine lv_goto (tgt := 5) hx hb dX4_cellsWithOneOf_36 (by decide) ?_
          exact ih11 _ _ _ _ _ hf hP hD hS (lv_sub hl [1, 2, 3, 0] rfl)
        clear hf; have hf := hv; clear hv
        refine lv_if_eq (tgt := 33) hx hb dX4_cellsWithOneOf_18 (by decide) (fun hc => ?_) (fun hc => ?_)
        · rw [if_pos hc] at hf
          obtain rfl := hf
          exact K12 _ _ _ hP hD hS (lv_sub hl [0, 1, 2, 3] rfl)
        · rw [if_neg hc] at hf
          refine lv_lload_n hx hb dX4_cellsWithOneOf_21 rfl (lv_at hl 2 rfl) ?_
          refine lv_aload_n hx hb dX4_cellsWithOneOf_22 rfl (lv_at hl 0 rfl) ?_
          refine va_get (D := (dC, dI)) (ci := 3) (v := .ref zcr) (C := RX4) (T := TX4) (N := 4) hx hb hts hinX4 hown hK hP 0 rfl rfl 1 (by decide) hw0 (fun _ h9 => h9) rfl dX4_cellsWithOneOf_23 ?_
          refine lv_iload hx hb dX4_cellsWithOneOf_26 (lv_at hl 3 rfl) ?_
          have hPc := hP.sub (ws' := [(zcr, .inr (0, [.long qC.1, .long qC.2.1, .long qC.2.2.1, .long qC.2.2.2]))]) [1] rfl
          have hDc := hD.sub (ws' := [(zcr, .inr (0, [.long qC.1, .long qC.2.1, .long qC.2.2.1, .long qC.2.2.2]))]) [1] (by decide) rfl
          have hFc := va_free (wc := [(zcr, .inr (0, [.long qC.1, .long qC.2.1, .long qC.2.2.1, .long qC.2.2.2]))]) hD hS hA [1] rfl
          refine va_calll (va_runV (As := [.int y6]) (rest := [.long y5]) ⟨hx, hb, hml, hown, hts⟩ (c_X0_cellsWith l dC dI cI cJ zcr H.size qC y6) (cwV 1 hts gX4_cellsWithOneOf_X0_cellsWith rfl rfl rfl (by decide +kernel) ⟨Nat.le_of_ble_eq_true rfl, Nat.le_of_ble_eq_true rfl⟩) ⟨fun a U gg mk q => by obtain ⟨q0, q1, qP, qK, qD⟩ := q; exact ⟨q0, q1, qP, va_K.moved (u := U) (U := U.calling gg mk a) (Vm.Alike.refl U.vm) qK, qD⟩, va_recv hK hPc (ci := 0) (q0 := 0) rfl rfl, fun U hU hW => ⟨rfl, by rw [hU], by rw [hU]; exact hPc, va_K.moved hW.alike hK, hDc.weaken (fun _ _ _ _ => trivial)⟩⟩ rfl rfl hl.1 rfl (lv_room (Nat.le_of_ble_eq_true rfl)) dX4_cellsWithOneOf_28 ⟨Nat.zero_le _, Nat.zero_le _⟩) hS (fun q _ h => hFc q h) hFc (fun r_ u_ t H locs ht hvm hw hB hz1 hk1 hS => ?_)
          obtain rfl := hw.symm
          obtain ⟨hP1, -, hD1⟩ := hB
          rw [ht] at hP1
          obtain ⟨hP, hD⟩ := va_join (wr := [(zru, .inr (3, [.ref zgr, .ref zcr, .int rR.1, .int rR.2]))]) (w1 := [(zcr, .inr (0, [.long qC.1, .long qC.2.1, .long qC.2.2.1, .long qC.2.2.2]))]) hP hD [1] [0] rfl rfl (by decide) (by decide) hk1 hFc hP1 hD1
          have hP := hP.sub (ws' := [(zru, .inr (3, [.ref zgr, .ref zcr, .int rR.1, .int rR.2])), (zcr, .inr (0, [.long qC.1, .long qC.2.1, .long qC.2.2.1, .long qC.2.2.2]))]) [0, 1] rfl
          have hD := hD.sub (ws' := [(zru, .inr (3, [.ref zgr, .ref zcr, .int rR.1, .int rR.2])), (zcr, .inr (0, [.long qC.1, .long qC.2.1, .long qC.2.2.1, .long qC.2.2.2]))]) [0, 1] (by decide) rfl
          clear hPc hDc hFc hP1 hD1 hk1
          refine lv_lor hx hb dX4_cellsWithOneOf_31 ?_
          refine lv_lstore_n (lv' := [(2, .long (y5 ||| (f_X0_cellsWith qC y6))), (0, .ref zru), (1, .int nu), (4, .int y6)]) hx hb dX4_cellsWithOneOf_32 rfl hl (by decide) rfl (fun ls hl => ?_)
          obtain rfl := hf
          exact K12 _ _ _ hP hD hS (lv_sub hl [1, 2, 0, 3] rfl)
  exact lp10 100 _ _ _ _ _ hv hP hD hS (lv_sub hl [2, 3, 1, 0] rfl)
/-! HedgeGliders$Rules.neighbours(JJ)I -/
def f_X4_neighbours (rR : RuS) (gG : GrS) (hs : Int64) (ce : Int64) : Int32 := (f_X0_around (f_X0_lookAround gG hs) ce)
abbrev rm_X4_neighbours : Room := ({ frames := 2, cells := 0, slots := 0, locals := 55 } : Room)
abbrev A_X4_neighbours (cI cJ : ClassId) (zru zgr zcr : Nat) (rR : RuS) (gG : GrS) (hs : Int64) (ce : Int64) (qC : CrS) (sz : Nat) : Nat → Prop := va_A [(zru, .inr (3, [.ref zgr, .ref zcr, .int rR.1, .int rR.2])), (zgr, .inr (2, [.int gG.1, .int gG.2.1, .int (bI gG.2.2.1), .long gG.2.2.2.1, .long gG.2.2.2.2.1, .long gG.2.2.2.2.2.1, .long gG.2.2.2.2.2.2.1, .long gG.2.2.2.2.2.2.2])), (zcr, .inr (0, [.long qC.1, .long qC.2.1, .long qC.2.2.1, .long qC.2.2.2]))] sz
abbrev Q_X4_neighbours (dC : Nat → ClassId) (dI : Nat → Nat → Nat) (cI cJ : ClassId) (zru zgr zcr : Nat) (rR : RuS) (gG : GrS) (hs : Int64) (ce : Int64) (qC : CrS) (sz : Nat) (R : Int32) : Array Value → State → Outcome → State → Prop := va_Qi (fun (r : Int32) (_ : CrS) => r = R) (fun u_ t => va_P (dC, dI) vwCl [(zru, .inr (3, [.ref zgr, .ref zcr, .int rR.1, .int rR.2])), (zgr, .inr (2, [.int gG.1, .int gG.2.1, .int (bI gG.2.2.1), .long gG.2.2.2.1, .long gG.2.2.2.2.1, .long gG.2.2.2.2.2.1, .long gG.2.2.2.2.2.2.1, .long gG.2.2.2.2.2.2.2])), (zcr, .inr (0, [.long u_.1, .long u_.2.1, .long u_.2.2.1, .long u_.2.2.2]))] t.heap ∧ va_K (dC, dI) vwCl [(cI, .int), (cJ, .long)] t ∧ va_D (A_X4_neighbours cI cJ zru zgr zcr rR gG hs ce qC sz) [(zru, .inr (3, [.ref zgr, .ref zcr, .int rR.1, .int rR.2])), (zgr, .inr (2, [.int gG.1, .int gG.2.1, .int (bI gG.2.2.1), .long gG.2.2.2.1, .long gG.2.2.2.2.1, .long gG.2.2.2.2.2.1, .long gG.2.2.2.2.2.2.1, .long gG.2.2.2.2.2.2.2])), (zcr, .inr (0, [.long u_.1, .long u_.2.1, .long u_.2.2.1, .long u_.2.2.2]))]) (A_X4_neighbours cI cJ zru zgr zcr rR gG hs ce qC sz)
set_option maxHeartbeats 4000000 in
set_option maxRecDepth 100000 in
theorem c_X4_neighbours (l : Launch) (dC : Nat → ClassId) (dI : Nat → Nat → Nat) (cI cJ : ClassId) (zru zgr zcr : Nat) (sz : Nat) (rR : RuS) (gG : GrS) (hs : Int64) (ce : Int64) (qC : CrS) : Met l yX4_neighbours wsX4_neighbours rm_X4_neighbours (va_Pc [.ref zru, .long hs, .long ce] (fun U => U.heap.size = sz ∧ va_P (dC, dI) vwCl [(zru, .inr (3, [.ref zgr, .ref zcr, .int rR.1, .int rR.2])), (zgr, .inr (2, [.int gG.1, .int gG.2.1, .int (bI gG.2.2.1), .long gG.2.2.2.1, .long gG.2.2.2.2.1, .long gG.2.2.2.2.2.1, .long gG.2.2.2.2.2.2.1, .long gG.2.2.2.2.2.2.2])), (zcr, .inr (0, [.long qC.1, .long qC.2.1, .long qC.2.2.1, .long qC.2.2.2]))] U.heap ∧ va_K (dC, dI) vwCl [(cI, .int), (cJ, .long)] U ∧ va_D (fun _ => True) [(zru, .inr (3, [.ref zgr, .ref zcr, .int rR.1, .int rR.2])), (zgr, .inr (2, [.int gG.1, .int gG.2.1, .int (bI gG.2.2.1), .long gG.2.2.2.1, .long gG.2.2.2.2.1, .long gG.2.2.2.2.2.1, .long gG.2.2.2.2.2.2.1, .long gG.2.2.2.2.2.2.2])), (zcr, .inr (0, [.long qC.1, .long qC.2.1, .long qC.2.2.1, .long qC.2.2.2]))])) (Q_X4_neighbours dC dI cI cJ zru zgr zcr rR gG hs ce qC sz (f_X4_neighbours rR gG hs ce)) 0 0 (A_X4_neighbours cI cJ zru zgr zcr rR gG hs ce qC sz) := by
  generalize hf : (f_X4_neighbours rR gG hs ce) = R
  refine Met.ofW (cc := cX4_neighbours) (maxL := 5) (ret := (some .int)) (by decide) rfl ?_
  intro p e s m args below meth c s₁ B hml hv
  obtain ⟨hargs, hsz, hP, hK, hD0⟩ := hv
  have hx := B.exec
  have hb := B.bytes
  have hr := B.returns
  have hts := atoms_spec (ws := wsX4_neighbours) B.pre
  have hown : s.vm.findClass RX4 = some m.cls := findClass_of_methodNamed B.named
  have hlocks := B.notSynchronized
  subst hsz
  have hD : va_D (A_X4_neighbours cI cJ zru zgr zcr rR gG hs ce qC s.heap.size) [(zru, .inr (3, [.ref zgr, .ref zcr, .int rR.1, .int rR.2])), (zgr, .inr (2, [.int gG.1, .int gG.2.1, .int (bI gG.2.2.1), .long gG.2.2.2.1, .long gG.2.2.2.2.1, .long gG.2.2.2.2.2.1, .long gG.2.2.2.2.2.2.1, .long gG.2.2.2.2.2.2.2])), (zcr, .inr (0, [.long qC.1, .long qC.2.1, .long qC.2.2.1, .long qC.2.2.2]))] := hD0.self (sz := s.heap.size)
  have hA : ∀ q : Nat, s.heap.size ≤ q → (A_X4_neighbours cI cJ zru zgr zcr rR gG hs ce qC s.heap.size) q := fun q h => Or.inr h
  have hS : va_S (A_X4_neighbours cI cJ zru zgr zcr rR gG hs ce qC s.heap.size) s.heap s.heap [] := va_S.rf
  have hinX4 : ∀ w ∈ wsX40, w ∈ wsX4_neighbours := by decide +kernel
  have hw0 := hts (.fieldLink RX4 10 "HedgeGliders$Rules" "crowd" "LHedgeGliders$Crowd;") (by decide +kernel)
  have hw1 := hts (.fieldLink RX4 23 "HedgeGliders$Rules" "ground" "LHedgeGliders$Ground;") (by decide +kernel)
  have hl := lv_entry ([.ref zru, .long hs, .long ce]) (n := 5) (Nat.le_of_ble_eq_true rfl)
  have he0 : entryFrame m args 5 = entryFrame m ([.ref zru, .long hs, .long ce] : List Value).toArray 5 := by rw [hargs]
  rw [he0, lg_entry_eq]
  generalize (lg_sl ([.ref zru, .long hs, .long ce]) ++ List.replicate (5 - (lg_sl ([.ref zru, .long hs, .long ce])).length) Slot.unset).toArray = ls at hl ⊢
  have hl : lv_has ls 5 [(0, .ref zru), (1, .long hs), (3, .long ce)] := hl
  rw [f_X4_neighbours] at hf
  refine lv_aload_n hx hb dX4_neighbours_0 rfl (lv_at hl 0 rfl) ?_
  refine va_get (D := (dC, dI)) (ci := 3) (v := .ref zcr) (C := RX4) (T := TX4) (N := 4) hx hb hts hinX4 hown hK hP 0 rfl rfl 1 (by decide) hw0 (fun _ h9 => h9) rfl dX4_neighbours_1 ?_
  refine lv_lload_n hx hb dX4_neighbours_4 rfl (lv_at hl 1 rfl) ?_
  refine lv_aload_n hx hb dX4_neighbours_5 rfl (lv_at hl 0 rfl) ?_
  refine va_get (D := (dC, dI)) (ci := 3) (v := .ref zgr) (C := RX4) (T := TX4) (N := 4) hx hb hts hinX4 hown hK hP 0 rfl rfl 0 (by decide) hw1 (fun _ h9 => h9) rfl dX4_neighbours_6 ?_
  have hPc := hP.sub (ws' := [(zcr, .inr (0, [.long qC.1, .long qC.2.1, .long qC.2.2.1, .long qC.2.2.2])), (zgr, .inr (2, [.int gG.1, .int gG.2.1, .int (bI gG.2.2.1), .long gG.2.2.2.1, .long gG.2.2.2.2.1, .long gG.2.2.2.2.2.1, .long gG.2.2.2.2.2.2.1, .long gG.2.2.2.2.2.2.2]))]) [2, 1] rfl
  have hDc := hD.sub (ws' := [(zcr, .inr (0, [.long qC.1, .long qC.2.1, .long qC.2.2.1, .long qC.2.2.2])), (zgr, .inr (2, [.int gG.1, .int gG.2.1, .int (bI gG.2.2.1), .long gG.2.2.2.1, .long gG.2.2.2.2.1, .long gG.2.2.2.2.2.1, .long gG.2.2.2.2.2.2.1, .long gG.2.2.2.2.2.2.2]))]) [2, 1] (by decide) rfl
  have hFc := va_free (wc := [(zcr, .inr (0, [.long qC.1, .long qC.2.1, .long qC.2.2.1, .long qC.2.2.2])), (zgr, .inr (2, [.int gG.1, .int gG.2.1, .int (bI gG.2.2.1), .long gG.2.2.2.1, .long gG.2.2.2.2.1, .long gG.2.2.2.2.2.1, .long gG.2.2.2.2.2.2.1, .long gG.2.2.2.2.2.2.2]))]) hD hS hA [2, 1] rfl
  refine va_callv (va_runV (As := [.long hs, .ref zgr]) (rest := []) ⟨hx, hb, hml, hown, hts⟩ (c_X0_lookAround l dC dI cI cJ zcr zgr s.heap.size gG hs qC) (cwV 2 hts gX4_neighbours_X0_lookAround rfl rfl rfl (by decide +kernel) ⟨Nat.le_of_ble_eq_true rfl, Nat.le_of_ble_eq_true rfl⟩) ⟨fun a U gg mk q => by obtain ⟨q0, q1, qP, qK, qD⟩ := q; exact ⟨q0, q1, qP, va_K.moved (u := U) (U := U.calling gg mk a) (Vm.Alike.refl U.vm) qK, qD⟩, va_recv hK hPc (ci := 0) (q0 := 0) rfl rfl, fun U hU hW => ⟨rfl, by rw [hU], by rw [hU]; exact hPc, va_K.moved hW.alike hK, hDc.weaken (fun _ _ _ _ => trivial)⟩⟩ rfl rfl hl.1 rfl (lv_room (Nat.le_of_ble_eq_true rfl)) dX4_neighbours_9 ⟨Nat.zero_le _, Nat.zero_le _⟩) hS (fun q _ h => hFc q h) hFc (fun u_ t H locs ht hvm hw hB hz1 hk1 hS => ?_)
  obtain ⟨hP1, -, hD1⟩ := hB
  rw [ht] at hP1
  obtain ⟨hP, hD⟩ := va_join (wr := [(zru, .inr (3, [.ref zgr, .ref zcr, .int rR.1, .int rR.2]))]) (w1 := [(zcr, .inr (0, [.long (f_X0_lookAround gG hs).1, .long (f_X0_lookAround gG hs).2.1, .long (f_X0_lookAround gG hs).2.2.1, .long (f_X0_lookAround gG hs).2.2.2])), (zgr, .inr (2, [.int gG.1, .int gG.2.1, .int (bI gG.2.2.1), .long gG.2.2.2.1, .long gG.2.2.2.2.1, .long gG.2.2.2.2.2.1, .long gG.2.2.2.2.2.2.1, .long gG.2.2.2.2.2.2.2]))]) hP hD [2, 1] [0] rfl rfl (by decide) (by decide) hk1 hFc hP1 hD1
  have hP := hP.sub (ws' := [(zru, .inr (3, [.ref zgr, .ref zcr, .int rR.1, .int rR.2])), (zgr, .inr (2, [.int gG.1, .int gG.2.1, .int (bI gG.2.2.1), .long gG.2.2.2.1, .long gG.2.2.2.2.1, .long gG.2.2.2.2.2.1, .long gG.2.2.2.2.2.2.1, .long gG.2.2.2.2.2.2.2])), (zcr, .inr (0, [.long (f_X0_lookAround gG hs).1, .long (f_X0_lookAround gG hs).2.1, .long (f_X0_lookAround gG hs).2.2.1, .long (f_X0_lookAround gG hs).2.2.2]))]) [0, 2, 1] rfl
  have hD := hD.sub (ws' := [(zru, .inr (3, [.ref zgr, .ref zcr, .int rR.1, .int rR.2])), (zgr, .inr (2, [.int gG.1, .int gG.2.1, .int (bI gG.2.2.1), .long gG.2.2.2.1, .long gG.2.2.2.2.1, .long gG.2.2.2.2.2.1, .long gG.2.2.2.2.2.2.1, .long gG.2.2.2.2.2.2.2])), (zcr, .inr (0, [.long (f_X0_lookAround gG hs).1, .long (f_X0_lookAround gG hs).2.1, .long (f_X0_lookAround gG hs).2.2.1, .long (f_X0_lookAround gG hs).2.2.2]))]) [0, 2, 1] (by decide) rfl
  clear hPc hDc hFc hP1 hD1 hk1
  refine lv_aload_n hx hb dX4_neighbours_12 rfl (lv_at hl 0 rfl) ?_
  refine va_get (D := (dC, dI)) (ci := 3) (v := .ref zcr) (C := RX4) (T := TX4) (N := 4) hx hb hts hinX4 hown hK hP 0 rfl rfl 1 (by decide) hw0 (fun _ h9 => h9) rfl dX4_neighbours_13 ?_
  refine lv_lload_n hx hb dX4_neighbours_16 rfl (lv_at hl 2 rfl) ?_
  have hPc := hP.sub (ws' := [(zcr, .inr (0, [.long (f_X0_lookAround gG hs).1, .long (f_X0_lookAround gG hs).2.1, .long (f_X0_lookAround gG hs).2.2.1, .long (f_X0_lookAround gG hs).2.2.2]))]) [2] rfl
  have hDc := hD.sub (ws' := [(zcr, .inr (0, [.long (f_X0_lookAround gG hs).1, .long (f_X0_lookAround gG hs).2.1, .long (f_X0_lookAround gG hs).2.2.1, .long (f_X0_lookAround gG hs).2.2.2]))]) [2] (by decide) rfl
  have hFc := va_free (wc := [(zcr, .inr (0, [.long (f_X0_lookAround gG hs).1, .long (f_X0_lookAround gG hs).2.1, .long (f_X0_lookAround gG hs).2.2.1, .long (f_X0_lookAround gG hs).2.2.2]))]) hD hS hA [2] rfl
  refine va_calli (va_runV (As := [.long ce]) (rest := []) ⟨hx, hb, hml, hown, hts⟩ (c_X0_around l dC dI cI cJ zcr H.size (f_X0_lookAround gG hs) ce) (cwV 1 hts gX4_neighbours_X0_around rfl rfl rfl (by decide +kernel) ⟨Nat.le_of_ble_eq_true rfl, Nat.le_of_ble_eq_true rfl⟩) ⟨fun a U gg mk q => by obtain ⟨q0, q1, qP, qK, qD⟩ := q; exact ⟨q0, q1, qP, va_K.moved (u := U) (U := U.calling gg mk a) (Vm.Alike.refl U.vm) qK, qD⟩, va_recv hK hPc (ci := 0) (q0 := 0) rfl rfl, fun U hU hW => ⟨rfl, by rw [hU], by rw [hU]; exact hPc, va_K.moved hW.alike hK, hDc.weaken (fun _ _ _ _ => trivial)⟩⟩ rfl rfl hl.1 rfl (lv_room (Nat.le_of_ble_eq_true rfl)) dX4_neighbours_17 ⟨Nat.zero_le _, Nat.zero_le _⟩) hS (fun q _ h => hFc q h) hFc (fun r_ u_ t H locs ht hvm hw hB hz1 hk1 hS => ?_)
  obtain rfl := hw.symm
  obtain ⟨hP1, -, hD1⟩ := hB
  rw [ht] at hP1
  obtain ⟨hP, hD⟩ := va_join (wr := [(zru, .inr (3, [.ref zgr, .ref zcr, .int rR.1, .int rR.2])), (zgr, .inr (2, [.int gG.1, .int gG.2.1, .int (bI gG.2.2.1), .long gG.2.2.2.1, .long gG.2.2.2.2.1, .long gG.2.2.2.2.2.1, .long gG.2.2.2.2.2.2.1, .long gG.2.2.2.2.2.2.2]))]) (w1 := [(zcr, .inr (0, [.long (f_X0_lookAround gG hs).1, .long (f_X0_lookAround gG hs).2.1, .long (f_X0_lookAround gG hs).2.2.1, .long (f_X0_lookAround gG hs).2.2.2]))]) hP hD [2] [0, 1] rfl rfl (by decide) (by decide) hk1 hFc hP1 hD1
  have hP := hP.sub (ws' := [(zru, .inr (3, [.ref zgr, .ref zcr, .int rR.1, .int rR.2])), (zgr, .inr (2, [.int gG.1, .int gG.2.1, .int (bI gG.2.2.1), .long gG.2.2.2.1, .long gG.2.2.2.2.1, .long gG.2.2.2.2.2.1, .long gG.2.2.2.2.2.2.1, .long gG.2.2.2.2.2.2.2])), (zcr, .inr (0, [.long (f_X0_lookAround gG hs).1, .long (f_X0_lookAround gG hs).2.1, .long (f_X0_lookAround gG hs).2.2.1, .long (f_X0_lookAround gG hs).2.2.2]))]) [0, 1, 2] rfl
  have hD := hD.sub (ws' := [(zru, .inr (3, [.ref zgr, .ref zcr, .int rR.1, .int rR.2])), (zgr, .inr (2, [.int gG.1, .int gG.2.1, .int (bI gG.2.2.1), .long gG.2.2.2.1, .long gG.2.2.2.2.1, .long gG.2.2.2.2.2.1, .long gG.2.2.2.2.2.2.1, .long gG.2.2.2.2.2.2.2])), (zcr, .inr (0, [.long (f_X0_lookAround gG hs).1, .long (f_X0_lookAround gG hs).2.1, .long (f_X0_lookAround gG hs).2.2.1, .long (f_X0_lookAround gG hs).2.2.2]))]) [0, 1, 2] (by decide) rfl
  clear hPc hDc hFc hP1 hD1 hk1
  obtain rfl := hf
  exact W.iret (v := (f_X0_around (f_X0_lookAround gG hs) ce)) hx hb hr (fun t ht hW => ⟨⟨(f_X0_around (f_X0_lookAround gG hs) ce), ((f_X0_lookAround gG hs)), rfl, rfl, by rw [ht]; exact hP, va_K.moved hW.alike hK, hD⟩, hS.F ht⟩) hS.2.2 dX4_neighbours_20
/-! HedgeGliders$Rules.born(J)J -/
def f_X4_born (rR : RuS) (gG : GrS) (hs : Int64) : Option (Int64) := Option.bind (f_X4_cellsWithOneOf rR (f_X0_lookAround gG hs) rR.1) fun r1 => some ((f_X3_open gG hs) &&& r1)
abbrev rm_X4_born : Room := ({ frames := 3, cells := 0, slots := 0, locals := 66 } : Room)
abbrev A_X4_born (cI cJ : ClassId) (zru zgr zcr : Nat) (rR : RuS) (gG : GrS) (hs : Int64) (qC : CrS) (sz : Nat) : Nat → Prop := va_A [(zru, .inr (3, [.ref zgr, .ref zcr, .int rR.1, .int rR.2])), (zgr, .inr (2, [.int gG.1, .int gG.2.1, .int (bI gG.2.2.1), .long gG.2.2.2.1, .long gG.2.2.2.2.1, .long gG.2.2.2.2.2.1, .long gG.2.2.2.2.2.2.1, .long gG.2.2.2.2.2.2.2])), (zcr, .inr (0, [.long qC.1, .long qC.2.1, .long qC.2.2.1, .long qC.2.2.2]))] sz
abbrev Q_X4_born (dC : Nat → ClassId) (dI : Nat → Nat → Nat) (cI cJ : ClassId) (zru zgr zcr : Nat) (rR : RuS) (gG : GrS) (hs : Int64) (qC : CrS) (sz : Nat) (R : Int64) : Array Value → State → Outcome → State → Prop := va_Ql (fun (r : Int64) (_ : CrS) => r = R) (fun u_ t => va_P (dC, dI) vwCl [(zru, .inr (3, [.ref zgr, .ref zcr, .int rR.1, .int rR.2])), (zgr, .inr (2, [.int gG.1, .int gG.2.1, .int (bI gG.2.2.1), .long gG.2.2.2.1, .long gG.2.2.2.2.1, .long gG.2.2.2.2.2.1, .long gG.2.2.2.2.2.2.1, .long gG.2.2.2.2.2.2.2])), (zcr, .inr (0, [.long u_.1, .long u_.2.1, .long u_.2.2.1, .long u_.2.2.2]))] t.heap ∧ va_K (dC, dI) vwCl [(cI, .int), (cJ, .long)] t ∧ va_D (A_X4_born cI cJ zru zgr zcr rR gG hs qC sz) [(zru, .inr (3, [.ref zgr, .ref zcr, .int rR.1, .int rR.2])), (zgr, .inr (2, [.int gG.1, .int gG.2.1, .int (bI gG.2.2.1), .long gG.2.2.2.1, .long gG.2.2.2.2.1, .long gG.2.2.2.2.2.1, .long gG.2.2.2.2.2.2.1, .long gG.2.2.2.2.2.2.2])), (zcr, .inr (0, [.long u_.1, .long u_.2.1, .long u_.2.2.1, .long u_.2.2.2]))]) (A_X4_born cI cJ zru zgr zcr rR gG hs qC sz)
set_option maxHeartbeats 4000000 in
set_option maxRecDepth 100000 in
theorem c_X4_born (l : Launch) (dC : Nat → ClassId) (dI : Nat → Nat → Nat) (cI cJ : ClassId) (zru zgr zcr : Nat) (sz : Nat) (rR : RuS) (gG : GrS) (hs : Int64) (qC : CrS) (R : Int64) (hR : f_X4_born rR gG hs = some R) : Met l yX4_born wsX4_born rm_X4_born (va_Pc [.ref zru, .long hs] (fun U => U.heap.size = sz ∧ va_P (dC, dI) vwCl [(zru, .inr (3, [.ref zgr, .ref zcr, .int rR.1, .int rR.2])), (zgr, .inr (2, [.int gG.1, .int gG.2.1, .int (bI gG.2.2.1), .long gG.2.2.2.1, .long gG.2.2.2.2.1, .long gG.2.2.2.2.2.1, .long gG.2.2.2.2.2.2.1, .long gG.2.2.2.2.2.2.2])), (zcr, .inr (0, [.long qC.1, .long qC.2.1, .long qC.2.2.1, .long qC.2.2.2]))] U.heap ∧ va_K (dC, dI) vwCl [(cI, .int), (cJ, .long)] U ∧ va_D (fun _ => True) [(zru, .inr (3, [.ref zgr, .ref zcr, .int rR.1, .int rR.2])), (zgr, .inr (2, [.int gG.1, .int gG.2.1, .int (bI gG.2.2.1), .long gG.2.2.2.1, .long gG.2.2.2.2.1, .long gG.2.2.2.2.2.1, .long gG.2.2.2.2.2.2.1, .long gG.2.2.2.2.2.2.2])), (zcr, .inr (0, [.long qC.1, .long qC.2.1, .long qC.2.2.1, .long qC.2.2.2]))])) (Q_X4_born dC dI cI cJ zru zgr zcr rR gG hs qC sz R) 0 0 (A_X4_born cI cJ zru zgr zcr rR gG hs qC sz) := by
  have hf := hR
  refine Met.ofW (cc := cX4_born) (maxL := 3) (ret := (some .long)) (by decide) rfl ?_
  intro p e s m args below meth c s₁ B hml hv
  obtain ⟨hargs, hsz, hP, hK, hD0⟩ := hv
  have hx := B.exec
  have hb := B.bytes
  have hr := B.returns
  have hts := atoms_spec (ws := wsX4_born) B.pre
  have hown : s.vm.findClass RX4 = some m.cls := findClass_of_methodNamed B.named
  have hlocks := B.notSynchronized
  subst hsz
  have hD : va_D (A_X4_born cI cJ zru zgr zcr rR gG hs qC s.heap.size) [(zru, .inr (3, [.ref zgr, .ref zcr, .int rR.1, .int rR.2])), (zgr, .inr (2, [.int gG.1, .int gG.2.1, .int (bI gG.2.2.1), .long gG.2.2.2.1, .long gG.2.2.2.2.1, .long gG.2.2.2.2.2.1, .long gG.2.2.2.2.2.2.1, .long gG.2.2.2.2.2.2.2])), (zcr, .inr (0, [.long qC.1, .long qC.2.1, .long qC.2.2.1, .long qC.2.2.2]))] := hD0.self (sz := s.heap.size)
  have hA : ∀ q : Nat, s.heap.size ≤ q → (A_X4_born cI cJ zru zgr zcr rR gG hs qC s.heap.size) q := fun q h => Or.inr h
  have hS : va_S (A_X4_born cI cJ zru zgr zcr rR gG hs qC s.heap.size) s.heap s.heap [] := va_S.rf
  have hinX4 : ∀ w ∈ wsX40, w ∈ wsX4_born := by decide +kernel
  have hw0 := hts (.fieldLink RX4 10 "HedgeGliders$Rules" "crowd" "LHedgeGliders$Crowd;") (by decide +kernel)
  have hw1 := hts (.fieldLink RX4 23 "HedgeGliders$Rules" "ground" "LHedgeGliders$Ground;") (by decide +kernel)
  have hw2 := hts (.fieldLink RX4 16 "HedgeGliders$Rules" "births" "I") (by decide +kernel)
  have hl := lv_entry ([.ref zru, .long hs]) (n := 3) (Nat.le_of_ble_eq_true rfl)
  have he0 : entryFrame m args 3 = entryFrame m ([.ref zru, .long hs] : List Value).toArray 3 := by rw [hargs]
  rw [he0, lg_entry_eq]
  generalize (lg_sl ([.ref zru, .long hs]) ++ List.replicate (3 - (lg_sl ([.ref zru, .long hs])).length) Slot.unset).toArray = ls at hl ⊢
  have hl : lv_has ls 3 [(0, .ref zru), (1, .long hs)] := hl
  rw [f_X4_born] at hf
  refine lv_aload_n hx hb dX4_born_0 rfl (lv_at hl 0 rfl) ?_
  refine va_get (D := (dC, dI)) (ci := 3) (v := .ref zcr) (C := RX4) (T := TX4) (N := 4) hx hb hts hinX4 hown hK hP 0 rfl rfl 1 (by decide) hw0 (fun _ h9 => h9) rfl dX4_born_1 ?_
  refine lv_lload_n hx hb dX4_born_4 rfl (lv_at hl 1 rfl) ?_
  refine lv_aload_n hx hb dX4_born_5 rfl (lv_at hl 0 rfl) ?_
  refine va_get (D := (dC, dI)) (ci := 3) (v := .ref zgr) (C := RX4) (T := TX4) (N := 4) hx hb hts hinX4 hown hK hP 0 rfl rfl 0 (by decide) hw1 (fun _ h9 => h9) rfl dX4_born_6 ?_
  have hPc := hP.sub (ws' := [(zcr, .inr (0, [.long qC.1, .long qC.2.1, .long qC.2.2.1, .long qC.2.2.2])), (zgr, .inr (2, [.int gG.1, .int gG.2.1, .int (bI gG.2.2.1), .long gG.2.2.2.1, .long gG.2.2.2.2.1, .long gG.2.2.2.2.2.1, .long gG.2.2.2.2.2.2.1, .long gG.2.2.2.2.2.2.2]))]) [2, 1] rfl
  have hDc := hD.sub (ws' := [(zcr, .inr (0, [.long qC.1, .long qC.2.1, .long qC.2.2.1, .long qC.2.2.2])), (zgr, .inr (2, [.int gG.1, .int gG.2.1, .int (bI gG.2.2.1), .long gG.2.2.2.1, .long gG.2.2.2.2.1, .long gG.2.2.2.2.2.1, .long gG.2.2.2.2.2.2.1, .long gG.2.2.2.2.2.2.2]))]) [2, 1] (by decide) rfl
  have hFc := va_free (wc := [(zcr, .inr (0, [.long qC.1, .long qC.2.1, .long qC.2.2.1, .long qC.2.2.2])), (zgr, .inr (2, [.int gG.1, .int gG.2.1, .int (bI gG.2.2.1), .long gG.2.2.2.1, .long gG.2.2.2.2.1, .long gG.2.2.2.2.2.1, .long gG.2.2.2.2.2.2.1, .long gG.2.2.2.2.2.2.2]))]) hD hS hA [2, 1] rfl
  refine va_callv (va_runV (As := [.long hs, .ref zgr]) (rest := []) ⟨hx, hb, hml, hown, hts⟩ (c_X0_lookAround l dC dI cI cJ zcr zgr s.heap.size gG hs qC) (cwV 2 hts gX4_born_X0_lookAround rfl rfl rfl (by decide +kernel) ⟨Nat.le_of_ble_eq_true rfl, Nat.le_of_ble_eq_true rfl⟩) ⟨fun a U gg mk q => by obtain ⟨q0, q1, qP, qK, qD⟩ := q; exact ⟨q0, q1, qP, va_K.moved (u := U) (U := U.calling gg mk a) (Vm.Alike.refl U.vm) qK, qD⟩, va_recv hK hPc (ci := 0) (q0 := 0) rfl rfl, fun U hU hW => ⟨rfl, by rw [hU], by rw [hU]; exact hPc, va_K.moved hW.alike hK, hDc.weaken (fun _ _ _ _ => trivial)⟩⟩ rfl rfl hl.1 rfl (lv_room (Nat.le_of_ble_eq_true rfl)) dX4_born_9 ⟨Nat.zero_le _, Nat.zero_le _⟩) hS (fun q _ h => hFc q h) hFc (fun u_ t H locs ht hvm hw hB hz1 hk1 hS => ?_)
  obtain ⟨hP1, -, hD1⟩ := hB
  rw [ht] at hP1
  obtain ⟨hP, hD⟩ := va_join (wr := [(zru, .inr (3, [.ref zgr, .ref zcr, .int rR.1, .int rR.2]))]) (w1 := [(zcr, .inr (0, [.long (f_X0_lookAround gG hs).1, .long (f_X0_lookAround gG hs).2.1, .long (f_X0_lookAround gG hs).2.2.1, .long (f_X0_lookAround gG hs).2.2.2])), (zgr, .inr (2, [.int gG.1, .int gG.2.1, .int (bI gG.2.2.1), .long gG.2.2.2.1, .long gG.2.2.2.2.1, .long gG.2.2.2.2.2.1, .long gG.2.2.2.2.2.2.1, .long gG.2.2.2.2.2.2.2]))]) hP hD [2, 1] [0] rfl rfl (by decide) (by decide) hk1 hFc hP1 hD1
  have hP := hP.sub (ws' := [(zru, .inr (3, [.ref zgr, .ref zcr, .int rR.1, .int rR.2])), (zgr, .inr (2, [.int gG.1, .int gG.2.1, .int (bI gG.2.2.1), .long gG.2.2.2.1, .long gG.2.2.2.2.1, .long gG.2.2.2.2.2.1, .long gG.2.2.2.2.2.2.1, .long gG.2.2.2.2.2.2.2])), (zcr, .inr (0, [.long (f_X0_lookAround gG hs).1, .long (f_X0_lookAround gG hs).2.1, .long (f_X0_lookAround gG hs).2.2.1, .long (f_X0_lookAround gG hs).2.2.2]))]) [0, 2, 1] rfl
  have hD := hD.sub (ws' := [(zru, .inr (3, [.ref zgr, .ref zcr, .int rR.1, .int rR.2])), (zgr, .inr (2, [.int gG.1, .int gG.2.1, .int (bI gG.2.2.1), .long gG.2.2.2.1, .long gG.2.2.2.2.1, .long gG.2.2.2.2.2.1, .long gG.2.2.2.2.2.2.1, .long gG.2.2.2.2.2.2.2])), (zcr, .inr (0, [.long (f_X0_lookAround gG hs).1, .long (f_X0_lookAround gG hs).2.1, .long (f_X0_lookAround gG hs).2.2.1, .long (f_X0_lookAround gG hs).2.2.2]))]) [0, 2, 1] (by decide) rfl
  clear hPc hDc hFc hP1 hD1 hk1
  refine lv_aload_n hx hb dX4_born_12 rfl (lv_at hl 0 rfl) ?_
  refine va_get (D := (dC, dI)) (ci := 3) (v := .ref zgr) (C := RX4) (T := TX4) (N := 4) hx hb hts hinX4 hown hK hP 0 rfl rfl 0 (by decide) hw1 (fun _ h9 => h9) rfl dX4_born_13 ?_
  refine lv_lload_n hx hb dX4_born_16 rfl (lv_at hl 1 rfl) ?_
  have hPc := hP.sub (ws' := [(zgr, .inr (2, [.int gG.1, .int gG.2.1, .int (bI gG.2.2.1), .long gG.2.2.2.1, .long gG.2.2.2.2.1, .long gG.2.2.2.2.2.1, .long gG.2.2.2.2.2.2.1, .long gG.2.2.2.2.2.2.2]))]) [1] rfl
  have hDc := hD.sub (ws' := [(zgr, .inr (2, [.int gG.1, .int gG.2.1, .int (bI gG.2.2.1), .long gG.2.2.2.1, .long gG.2.2.2.2.1, .long gG.2.2.2.2.2.1, .long gG.2.2.2.2.2.2.1, .long gG.2.2.2.2.2.2.2]))]) [1] (by decide) rfl
  have hFc := va_free (wc := [(zgr, .inr (2, [.int gG.1, .int gG.2.1, .int (bI gG.2.2.1), .long gG.2.2.2.1, .long gG.2.2.2.2.1, .long gG.2.2.2.2.2.1, .long gG.2.2.2.2.2.2.1, .long gG.2.2.2.2.2.2.2]))]) hD hS hA [1] rfl
  refine va_calll (va_runV (As := [.long hs]) (rest := []) ⟨hx, hb, hml, hown, hts⟩ (c_X3_open l dC dI cI cJ zgr H.size gG hs) (cwV 1 hts gX4_born_X3_open rfl rfl rfl (by decide +kernel) ⟨Nat.le_of_ble_eq_true rfl, Nat.le_of_ble_eq_true rfl⟩) ⟨fun a U gg mk q => by obtain ⟨q0, q1, qP, qK, qD⟩ := q; exact ⟨q0, q1, qP, va_K.moved (u := U) (U := U.calling gg mk a) (Vm.Alike.refl U.vm) qK, qD⟩, va_recv hK hPc (ci := 2) (q0 := 0) rfl rfl, fun U hU hW => ⟨rfl, by rw [hU], by rw [hU]; exact hPc, va_K.moved hW.alike hK, hDc.weaken (fun _ _ _ _ => trivial)⟩⟩ rfl rfl hl.1 rfl (lv_room (Nat.le_of_ble_eq_true rfl)) dX4_born_17 ⟨Nat.zero_le _, Nat.zero_le _⟩) hS (fun q _ h => hFc q h) hFc (fun r_ u_ t H locs ht hvm hw hB hz1 hk1 hS => ?_)
  obtain rfl := hw.symm
  obtain ⟨hP1, -, hD1⟩ := hB
  rw [ht] at hP1
  obtain ⟨hP, hD⟩ := va_join (wr := [(zru, .inr (3, [.ref zgr, .ref zcr, .int rR.1, .int rR.2])), (zcr, .inr (0, [.long (f_X0_lookAround gG hs).1, .long (f_X0_lookAround gG hs).2.1, .long (f_X0_lookAround gG hs).2.2.1, .long (f_X0_lookAround gG hs).2.2.2]))]) (w1 := [(zgr, .inr (2, [.int gG.1, .int gG.2.1, .int (bI gG.2.2.1), .long gG.2.2.2.1, .long gG.2.2.2.2.1, .long gG.2.2.2.2.2.1, .long gG.2.2.2.2.2.2.1, .long gG.2.2.2.2.2.2.2]))]) hP hD [1] [0, 2] rfl rfl (by decide) (by decide) hk1 hFc hP1 hD1
  have hP := hP.sub (ws' := [(zru, .inr (3, [.ref zgr, .ref zcr, .int rR.1, .int rR.2])), (zgr, .inr (2, [.int gG.1, .int gG.2.1, .int (bI gG.2.2.1), .long gG.2.2.2.1, .long gG.2.2.2.2.1, .long gG.2.2.2.2.2.1, .long gG.2.2.2.2.2.2.1, .long gG.2.2.2.2.2.2.2])), (zcr, .inr (0, [.long (f_X0_lookAround gG hs).1, .long (f_X0_lookAround gG hs).2.1, .long (f_X0_lookAround gG hs).2.2.1, .long (f_X0_lookAround gG hs).2.2.2]))]) [0, 2, 1] rfl
  have hD := hD.sub (ws' := [(zru, .inr (3, [.ref zgr, .ref zcr, .int rR.1, .int rR.2])), (zgr, .inr (2, [.int gG.1, .int gG.2.1, .int (bI gG.2.2.1), .long gG.2.2.2.1, .long gG.2.2.2.2.1, .long gG.2.2.2.2.2.1, .long gG.2.2.2.2.2.2.1, .long gG.2.2.2.2.2.2.2])), (zcr, .inr (0, [.long (f_X0_lookAround gG hs).1, .long (f_X0_lookAround gG hs).2.1, .long (f_X0_lookAround gG hs).2.2.1, .long (f_X0_lookAround gG hs).2.2.2]))]) [0, 2, 1] (by decide) rfl
  clear hPc hDc hFc hP1 hD1 hk1
  refine lv_aload_n hx hb dX4_born_20 rfl (lv_at hl 0 rfl) ?_
  refine lv_aload_n hx hb dX4_born_21 rfl (lv_at hl 0 rfl) ?_
  refine va_get (D := (dC, dI)) (ci := 3) (v := .int rR.1) (C := RX4) (T := TX4) (N := 4) hx hb hts hinX4 hown hK hP 0 rfl rfl 2 (by decide) hw2 (fun _ h9 => h9) rfl dX4_born_22 ?_
  obtain ⟨r1, hr1, hf⟩ := obind hf
  have hPc := hP.sub (ws' := [(zru, .inr (3, [.ref zgr, .ref zcr, .int rR.1, .int rR.2])), (zcr, .inr (0, [.long (f_X0_lookAround gG hs).1, .long (f_X0_lookAround gG hs).2.1, .long (f_X0_lookAround gG hs).2.2.1, .long (f_X0_lookAround gG hs).2.2.2]))]) [0, 2] rfl
  have hDc := hD.sub (ws' := [(zru, .inr (3, [.ref zgr, .ref zcr, .int rR.1, .int rR.2])), (zcr, .inr (0, [.long (f_X0_lookAround gG hs).1, .long (f_X0_lookAround gG hs).2.1, .long (f_X0_lookAround gG hs).2.2.1, .long (f_X0_lookAround gG hs).2.2.2]))]) [0, 2] (by decide) rfl
  have hFc := va_free (wc := [(zru, .inr (3, [.ref zgr, .ref zcr, .int rR.1, .int rR.2])), (zcr, .inr (0, [.long (f_X0_lookAround gG hs).1, .long (f_X0_lookAround gG hs).2.1, .long (f_X0_lookAround gG hs).2.2.1, .long (f_X0_lookAround gG hs).2.2.2]))]) hD hS hA [0, 2] rfl
  refine va_calll (va_runV (As := [.int rR.1]) (rest := [.long (f_X3_open gG hs)]) ⟨hx, hb, hml, hown, hts⟩ (c_X4_cellsWithOneOf l dC dI cI cJ zru zcr zgr H.size rR (f_X0_lookAround gG hs) rR.1 _ hr1) (cwV 1 hts gX4_born_X4_cellsWithOneOf rfl rfl rfl (by decide +kernel) ⟨Nat.le_of_ble_eq_true rfl, Nat.le_of_ble_eq_true rfl⟩) ⟨fun a U gg mk q => by obtain ⟨q0, q1, qP, qK, qD⟩ := q; exact ⟨q0, q1, qP, va_K.moved (u := U) (U := U.calling gg mk a) (Vm.Alike.refl U.vm) qK, qD⟩, va_recv hK hPc (ci := 3) (q0 := 0) rfl rfl, fun U hU hW => ⟨rfl, by rw [hU], by rw [hU]; exact hPc, va_K.moved hW.alike hK, hDc.weaken (fun _ _ _ _ => trivial)⟩⟩ rfl rfl hl.1 rfl (lv_room (Nat.le_of_ble_eq_true rfl)) dX4_born_25 ⟨Nat.zero_le _, Nat.zero_le _⟩) hS (fun q _ h => hFc q h) hFc (fun r_ u_ t H locs ht hvm hw hB hz1 hk1 hS => ?_)
  obtain rfl := hw.symm
  obtain ⟨hP1, -, hD1⟩ := hB
  rw [ht] at hP1
  obtain ⟨hP, hD⟩ := va_join (wr := [(zgr, .inr (2, [.int gG.1, .int gG.2.1, .int (bI gG.2.2.1), .long gG.2.2.2.1, .long gG.2.2.2.2.1, .long gG.2.2.2.2.2.1, .long gG.2.2.2.2.2.2.1, .long gG.2.2.2.2.2.2.2]))]) (w1 := [(zru, .inr (3, [.ref zgr, .ref zcr, .int rR.1, .int rR.2])), (zcr, .inr (0, [.long (f_X0_lookAround gG hs).1, .long (f_X0_lookAround gG hs).2.1, .long (f_X0_lookAround gG hs).2.2.1, .long (f_X0_lookAround gG hs).2.2.2]))]) hP hD [0, 2] [1] rfl rfl (by decide) (by decide) hk1 hFc hP1 hD1
  have hP := hP.sub (ws' := [(zru, .inr (3, [.ref zgr, .ref zcr, .int rR.1, .int rR.2])), (zgr, .inr (2, [.int gG.1, .int gG.2.1, .int (bI gG.2.2.1), .long gG.2.2.2.1, .long gG.2.2.2.2.1, .long gG.2.2.2.2.2.1, .long gG.2.2.2.2.2.2.1, .long gG.2.2.2.2.2.2.2])), (zcr, .inr (0, [.long (f_X0_lookAround gG hs).1, .long (f_X0_lookAround gG hs).2.1, .long (f_X0_lookAround gG hs).2.2.1, .long (f_X0_lookAround gG hs).2.2.2]))]) [1, 0, 2] rfl
  have hD := hD.sub (ws' := [(zru, .inr (3, [.ref zgr, .ref zcr, .int rR.1, .int rR.2])), (zgr, .inr (2, [.int gG.1, .int gG.2.1, .int (bI gG.2.2.1), .long gG.2.2.2.1, .long gG.2.2.2.2.1, .long gG.2.2.2.2.2.1, .long gG.2.2.2.2.2.2.1, .long gG.2.2.2.2.2.2.2])), (zcr, .inr (0, [.long (f_X0_lookAround gG hs).1, .long (f_X0_lookAround gG hs).2.1, .long (f_X0_lookAround gG hs).2.2.1, .long (f_X0_lookAround gG hs).2.2.2]))]) [1, 0, 2] (by decide) rfl
  clear hPc hDc hFc hP1 hD1 hk1
  refine lv_land hx hb dX4_born_28 ?_
  obtain rfl := Option.some.inj hf
  exact W.lret (v := ((f_X3_open gG hs) &&& r1)) hx hb hr (fun t ht hW => ⟨⟨((f_X3_open gG hs) &&& r1), ((f_X0_lookAround gG hs)), rfl, rfl, by rw [ht]; exact hP, va_K.moved hW.alike hK, hD⟩, hS.F ht⟩) hS.2.2 dX4_born_29
/-! HedgeGliders$Rules.staying(J)J -/
def f_X4_staying (rR : RuS) (gG : GrS) (hs : Int64) : Option (Int64) := Option.bind (f_X4_cellsWithOneOf rR (f_X0_lookAround gG hs) rR.2) fun r1 => some (hs &&& r1)
abbrev rm_X4_staying : Room := ({ frames := 3, cells := 0, slots := 0, locals := 66 } : Room)
abbrev A_X4_staying (cI cJ : ClassId) (zru zgr zcr : Nat) (rR : RuS) (gG : GrS) (hs : Int64) (qC : CrS) (sz : Nat) : Nat → Prop := va_A [(zru, .inr (3, [.ref zgr, .ref zcr, .int rR.1, .int rR.2])), (zgr, .inr (2, [.int gG.1, .int gG.2.1, .int (bI gG.2.2.1), .long gG.2.2.2.1, .long gG.2.2.2.2.1, .long gG.2.2.2.2.2.1, .long gG.2.2.2.2.2.2.1, .long gG.2.2.2.2.2.2.2])), (zcr, .inr (0, [.long qC.1, .long qC.2.1, .long qC.2.2.1, .long qC.2.2.2]))] sz
abbrev Q_X4_staying (dC : Nat → ClassId) (dI : Nat → Nat → Nat) (cI cJ : ClassId) (zru zgr zcr : Nat) (rR : RuS) (gG : GrS) (hs : Int64) (qC : CrS) (sz : Nat) (R : Int64) : Array Value → State → Outcome → State → Prop := va_Ql (fun (r : Int64) (_ : CrS) => r = R) (fun u_ t => va_P (dC, dI) vwCl [(zru, .inr (3, [.ref zgr, .ref zcr, .int rR.1, .int rR.2])), (zgr, .inr (2, [.int gG.1, .int gG.2.1, .int (bI gG.2.2.1), .long gG.2.2.2.1, .long gG.2.2.2.2.1, .long gG.2.2.2.2.2.1, .long gG.2.2.2.2.2.2.1, .long gG.2.2.2.2.2.2.2])), (zcr, .inr (0, [.long u_.1, .long u_.2.1, .long u_.2.2.1, .long u_.2.2.2]))] t.heap ∧ va_K (dC, dI) vwCl [(cI, .int), (cJ, .long)] t ∧ va_D (A_X4_staying cI cJ zru zgr zcr rR gG hs qC sz) [(zru, .inr (3, [.ref zgr, .ref zcr, .int rR.1, .int rR.2])), (zgr, .inr (2, [.int gG.1, .int gG.2.1, .int (bI gG.2.2.1), .long gG.2.2.2.1, .long gG.2.2.2.2.1, .long gG.2.2.2.2.2.1, .long gG.2.2.2.2.2.2.1, .long gG.2.2.2.2.2.2.2])), (zcr, .inr (0, [.long u_.1, .long u_.2.1, .long u_.2.2.1, .long u_.2.2.2]))]) (A_X4_staying cI cJ zru zgr zcr rR gG hs qC sz)
set_option maxHeartbeats 4000000 in
set_option maxRecDepth 100000 in
theorem c_X4_staying (l : Launch) (dC : Nat → ClassId) (dI : Nat → Nat → Nat) (cI cJ : ClassId) (zru zgr zcr : Nat) (sz : Nat) (rR : RuS) (gG : GrS) (hs : Int64) (qC : CrS) (R : Int64) (hR : f_X4_staying rR gG hs = some R) : Met l yX4_staying wsX4_staying rm_X4_staying (va_Pc [.ref zru, .long hs] (fun U => U.heap.size = sz ∧ va_P (dC, dI) vwCl [(zru, .inr (3, [.ref zgr, .ref zcr, .int rR.1, .int rR.2])), (zgr, .inr (2, [.int gG.1, .int gG.2.1, .int (bI gG.2.2.1), .long gG.2.2.2.1, .long gG.2.2.2.2.1, .long gG.2.2.2.2.2.1, .long gG.2.2.2.2.2.2.1, .long gG.2.2.2.2.2.2.2])), (zcr, .inr (0, [.long qC.1, .long qC.2.1, .long qC.2.2.1, .long qC.2.2.2]))] U.heap ∧ va_K (dC, dI) vwCl [(cI, .int), (cJ, .long)] U ∧ va_D (fun _ => True) [(zru, .inr (3, [.ref zgr, .ref zcr, .int rR.1, .int rR.2])), (zgr, .inr (2, [.int gG.1, .int gG.2.1, .int (bI gG.2.2.1), .long gG.2.2.2.1, .long gG.2.2.2.2.1, .long gG.2.2.2.2.2.1, .long gG.2.2.2.2.2.2.1, .long gG.2.2.2.2.2.2.2])), (zcr, .inr (0, [.long qC.1, .long qC.2.1, .long qC.2.2.1, .long qC.2.2.2]))])) (Q_X4_staying dC dI cI cJ zru zgr zcr rR gG hs qC sz R) 0 0 (A_X4_staying cI cJ zru zgr zcr rR gG hs qC sz) := by
  have hf := hR
  refine Met.ofW (cc := cX4_staying) (maxL := 3) (ret := (some .long)) (by decide) rfl ?_
  intro p e s m args below meth c s₁ B hml hv
  obtain ⟨hargs, hsz, hP, hK, hD0⟩ := hv
  have hx := B.exec
  have hb := B.bytes
  have hr := B.returns
  have hts := atoms_spec (ws := wsX4_staying) B.pre
  have hown : s.vm.findClass RX4 = some m.cls := findClass_of_methodNamed B.named
  have hlocks := B.notSynchronized
  subst hsz
  have hD : va_D (A_X4_staying cI cJ zru zgr zcr rR gG hs qC s.heap.size) [(zru, .inr (3, [.ref zgr, .ref zcr, .int rR.1, .int rR.2])), (zgr, .inr (2, [.int gG.1, .int gG.2.1, .int (bI gG.2.2.1), .long gG.2.2.2.1, .long gG.2.2.2.2.1, .long gG.2.2.2.2.2.1, .long gG.2.2.2.2.2.2.1, .long gG.2.2.2.2.2.2.2])), (zcr, .inr (0, [.long qC.1, .long qC.2.1, .long qC.2.2.1, .long qC.2.2.2]))] := hD0.self (sz := s.heap.size)
  have hA : ∀ q : Nat, s.heap.size ≤ q → (A_X4_staying cI cJ zru zgr zcr rR gG hs qC s.heap.size) q := fun q h => Or.inr h
  have hS : va_S (A_X4_staying cI cJ zru zgr zcr rR gG hs qC s.heap.size) s.heap s.heap [] := va_S.rf
  have hinX4 : ∀ w ∈ wsX40, w ∈ wsX4_staying := by decide +kernel
  have hw0 := hts (.fieldLink RX4 10 "HedgeGliders$Rules" "crowd" "LHedgeGliders$Crowd;") (by decide +kernel)
  have hw1 := hts (.fieldLink RX4 23 "HedgeGliders$Rules" "ground" "LHedgeGliders$Ground;") (by decide +kernel)
  have hw2 := hts (.fieldLink RX4 20 "HedgeGliders$Rules" "stays" "I") (by decide +kernel)
  have hl := lv_entry ([.ref zru, .long hs]) (n := 3) (Nat.le_of_ble_eq_true rfl)
  have he0 : entryFrame m args 3 = entryFrame m ([.ref zru, .long hs] : List Value).toArray 3 := by rw [hargs]
  rw [he0, lg_entry_eq]
  generalize (lg_sl ([.ref zru, .long hs]) ++ List.replicate (3 - (lg_sl ([.ref zru, .long hs])).length) Slot.unset).toArray = ls at hl ⊢
  have hl : lv_has ls 3 [(0, .ref zru), (1, .long hs)] := hl
  rw [f_X4_staying] at hf
  refine lv_aload_n hx hb dX4_staying_0 rfl (lv_at hl 0 rfl) ?_
  refine va_get (D := (dC, dI)) (ci := 3) (v := .ref zcr) (C := RX4) (T := TX4) (N := 4) hx hb hts hinX4 hown hK hP 0 rfl rfl 1 (by decide) hw0 (fun _ h9 => h9) rfl dX4_staying_1 ?_
  refine lv_lload_n hx hb dX4_staying_4 rfl (lv_at hl 1 rfl) ?_
  refine lv_aload_n hx hb dX4_staying_5 rfl (lv_at hl 0 rfl) ?_
  refine va_get (D := (dC, dI)) (ci := 3) (v := .ref zgr) (C := RX4) (T := TX4) (N := 4) hx hb hts hinX4 hown hK hP 0 rfl rfl 0 (by decide) hw1 (fun _ h9 => h9) rfl dX4_staying_6 ?_
  have hPc := hP.sub (ws' := [(zcr, .inr (0, [.long qC.1, .long qC.2.1, .long qC.2.2.1, .long qC.2.2.2])), (zgr, .inr (2, [.int gG.1, .int gG.2.1, .int (bI gG.2.2.1), .long gG.2.2.2.1, .long gG.2.2.2.2.1, .long gG.2.2.2.2.2.1, .long gG.2.2.2.2.2.2.1, .long gG.2.2.2.2.2.2.2]))]) [2, 1] rfl
  have hDc := hD.sub (ws' := [(zcr, .inr (0, [.long qC.1, .long qC.2.1, .long qC.2.2.1, .long qC.2.2.2])), (zgr, .inr (2, [.int gG.1, .int gG.2.1, .int (bI gG.2.2.1), .long gG.2.2.2.1, .long gG.2.2.2.2.1, .long gG.2.2.2.2.2.1, .long gG.2.2.2.2.2.2.1, .long gG.2.2.2.2.2.2.2]))]) [2, 1] (by decide) rfl
  have hFc := va_free (wc := [(zcr, .inr (0, [.long qC.1, .long qC.2.1, .long qC.2.2.1, .long qC.2.2.2])), (zgr, .inr (2, [.int gG.1, .int gG.2.1, .int (bI gG.2.2.1), .long gG.2.2.2.1, .long gG.2.2.2.2.1, .long gG.2.2.2.2.2.1, .long gG.2.2.2.2.2.2.1, .long gG.2.2.2.2.2.2.2]))]) hD hS hA [2, 1] rfl
  refine va_callv (va_runV (As := [.long hs, .ref zgr]) (rest := []) ⟨hx, hb, hml, hown, hts⟩ (c_X0_lookAround l dC dI cI cJ zcr zgr s.heap.size gG hs qC) (cwV 2 hts gX4_staying_X0_lookAround rfl rfl rfl (by decide +kernel) ⟨Nat.le_of_ble_eq_true rfl, Nat.le_of_ble_eq_true rfl⟩) ⟨fun a U gg mk q => by obtain ⟨q0, q1, qP, qK, qD⟩ := q; exact ⟨q0, q1, qP, va_K.moved (u := U) (U := U.calling gg mk a) (Vm.Alike.refl U.vm) qK, qD⟩, va_recv hK hPc (ci := 0) (q0 := 0) rfl rfl, fun U hU hW => ⟨rfl, by rw [hU], by rw [hU]; exact hPc, va_K.moved hW.alike hK, hDc.weaken (fun _ _ _ _ => trivial)⟩⟩ rfl rfl hl.1 rfl (lv_room (Nat.le_of_ble_eq_true rfl)) dX4_staying_9 ⟨Nat.zero_le _, Nat.zero_le _⟩) hS (fun q _ h => hFc q h) hFc (fun u_ t H locs ht hvm hw hB hz1 hk1 hS => ?_)
  obtain ⟨hP1, -, hD1⟩ := hB
  rw [ht] at hP1
  obtain ⟨hP, hD⟩ := va_join (wr := [(zru, .inr (3, [.ref zgr, .ref zcr, .int rR.1, .int rR.2]))]) (w1 := [(zcr, .inr (0, [.long (f_X0_lookAround gG hs).1, .long (f_X0_lookAround gG hs).2.1, .long (f_X0_lookAround gG hs).2.2.1, .long (f_X0_lookAround gG hs).2.2.2])), (zgr, .inr (2, [.int gG.1, .int gG.2.1, .int (bI gG.2.2.1), .long gG.2.2.2.1, .long gG.2.2.2.2.1, .long gG.2.2.2.2.2.1, .long gG.2.2.2.2.2.2.1, .long gG.2.2.2.2.2.2.2]))]) hP hD [2, 1] [0] rfl rfl (by decide) (by decide) hk1 hFc hP1 hD1
  have hP := hP.sub (ws' := [(zru, .inr (3, [.ref zgr, .ref zcr, .int rR.1, .int rR.2])), (zgr, .inr (2, [.int gG.1, .int gG.2.1, .int (bI gG.2.2.1), .long gG.2.2.2.1, .long gG.2.2.2.2.1, .long gG.2.2.2.2.2.1, .long gG.2.2.2.2.2.2.1, .long gG.2.2.2.2.2.2.2])), (zcr, .inr (0, [.long (f_X0_lookAround gG hs).1, .long (f_X0_lookAround gG hs).2.1, .long (f_X0_lookAround gG hs).2.2.1, .long (f_X0_lookAround gG hs).2.2.2]))]) [0, 2, 1] rfl
  have hD := hD.sub (ws' := [(zru, .inr (3, [.ref zgr, .ref zcr, .int rR.1, .int rR.2])), (zgr, .inr (2, [.int gG.1, .int gG.2.1, .int (bI gG.2.2.1), .long gG.2.2.2.1, .long gG.2.2.2.2.1, .long gG.2.2.2.2.2.1, .long gG.2.2.2.2.2.2.1, .long gG.2.2.2.2.2.2.2])), (zcr, .inr (0, [.long (f_X0_lookAround gG hs).1, .long (f_X0_lookAround gG hs).2.1, .long (f_X0_lookAround gG hs).2.2.1, .long (f_X0_lookAround gG hs).2.2.2]))]) [0, 2, 1] (by decide) rfl
  clear hPc hDc hFc hP1 hD1 hk1
  refine lv_lload_n hx hb dX4_staying_12 rfl (lv_at hl 1 rfl) ?_
  refine lv_aload_n hx hb dX4_staying_13 rfl (lv_at hl 0 rfl) ?_
  refine lv_aload_n hx hb dX4_staying_14 rfl (lv_at hl 0 rfl) ?_
  refine va_get (D := (dC, dI)) (ci := 3) (v := .int rR.2) (C := RX4) (T := TX4) (N := 4) hx hb hts hinX4 hown hK hP 0 rfl rfl 3 (by decide) hw2 (fun _ h9 => h9) rfl dX4_staying_15 ?_
  obtain ⟨r1, hr1, hf⟩ := obind hf
  have hPc := hP.sub (ws' := [(zru, .inr (3, [.ref zgr, .ref zcr, .int rR.1, .int rR.2])), (zcr, .inr (0, [.long (f_X0_lookAround gG hs).1, .long (f_X0_lookAround gG hs).2.1, .long (f_X0_lookAround gG hs).2.2.1, .long (f_X0_lookAround gG hs).2.2.2]))]) [0, 2] rfl
  have hDc := hD.sub (ws' := [(zru, .inr (3, [.ref zgr, .ref zcr, .int rR.1, .int rR.2])), (zcr, .inr (0, [.long (f_X0_lookAround gG hs).1, .long (f_X0_lookAround gG hs).2.1, .long (f_X0_lookAround gG hs).2.2.1, .long (f_X0_lookAround gG hs).2.2.2]))]) [0, 2] (by decide) rfl
  have hFc := va_free (wc := [(zru, .inr (3, [.ref zgr, .ref zcr, .int rR.1, .int rR.2])), (zcr, .inr (0, [.long (f_X0_lookAround gG hs).1, .long (f_X0_lookAround gG hs).2.1, .long (f_X0_lookAround gG hs).2.2.1, .long (f_X0_lookAround gG hs).2.2.2]))]) hD hS hA [0, 2] rfl
  refine va_calll (va_runV (As := [.int rR.2]) (rest := [.long hs]) ⟨hx, hb, hml, hown, hts⟩ (c_X4_cellsWithOneOf l dC dI cI cJ zru zcr zgr H.size rR (f_X0_lookAround gG hs) rR.2 _ hr1) (cwV 1 hts gX4_staying_X4_cellsWithOneOf rfl rfl rfl (by decide +kernel) ⟨Nat.le_of_ble_eq_true rfl, Nat.le_of_ble_eq_true rfl⟩) ⟨fun a U gg mk q => by obtain ⟨q0, q1, qP, qK, qD⟩ := q; exact ⟨q0, q1, qP, va_K.moved (u := U) (U := U.calling gg mk a) (Vm.Alike.refl U.vm) qK, qD⟩, va_recv hK hPc (ci := 3) (q0 := 0) rfl rfl, fun U hU hW => ⟨rfl, by rw [hU], by rw [hU]; exact hPc, va_K.moved hW.alike hK, hDc.weaken (fun _ _ _ _ => trivial)⟩⟩ rfl rfl hl.1 rfl (lv_room (Nat.le_of_ble_eq_true rfl)) dX4_staying_18 ⟨Nat.zero_le _, Nat.zero_le _⟩) hS (fun q _ h => hFc q h) hFc (fun r_ u_ t H locs ht hvm hw hB hz1 hk1 hS => ?_)
  obtain rfl := hw.symm
  obtain ⟨hP1, -, hD1⟩ := hB
  rw [ht] at hP1
  obtain ⟨hP, hD⟩ := va_join (wr := [(zgr, .inr (2, [.int gG.1, .int gG.2.1, .int (bI gG.2.2.1), .long gG.2.2.2.1, .long gG.2.2.2.2.1, .long gG.2.2.2.2.2.1, .long gG.2.2.2.2.2.2.1, .long gG.2.2.2.2.2.2.2]))]) (w1 := [(zru, .inr (3, [.ref zgr, .ref zcr, .int rR.1, .int rR.2])), (zcr, .inr (0, [.long (f_X0_lookAround gG hs).1, .long (f_X0_lookAround gG hs).2.1, .long (f_X0_lookAround gG hs).2.2.1, .long (f_X0_lookAround gG hs).2.2.2]))]) hP hD [0, 2] [1] rfl rfl (by decide) (by decide) hk1 hFc hP1 hD1
  have hP := hP.sub (ws' := [(zru, .inr (3, [.ref zgr, .ref zcr, .int rR.1, .int rR.2])), (zgr, .inr (2, [.int gG.1, .int gG.2.1, .int (bI gG.2.2.1), .long gG.2.2.2.1, .long gG.2.2.2.2.1, .long gG.2.2.2.2.2.1, .long gG.2.2.2.2.2.2.1, .long gG.2.2.2.2.2.2.2])), (zcr, .inr (0, [.long (f_X0_lookAround gG hs).1, .long (f_X0_lookAround gG hs).2.1, .long (f_X0_lookAround gG hs).2.2.1, .long (f_X0_lookAround gG hs).2.2.2]))]) [1, 0, 2] rfl
  have hD := hD.sub (ws' := [(zru, .inr (3, [.ref zgr, .ref zcr, .int rR.1, .int rR.2])), (zgr, .inr (2, [.int gG.1, .int gG.2.1, .int (bI gG.2.2.1), .long gG.2.2.2.1, .long gG.2.2.2.2.1, .long gG.2.2.2.2.2.1, .long gG.2.2.2.2.2.2.1, .long gG.2.2.2.2.2.2.2])), (zcr, .inr (0, [.long (f_X0_lookAround gG hs).1, .long (f_X0_lookAround gG hs).2.1, .long (f_X0_lookAround gG hs).2.2.1, .long (f_X0_lookAround gG hs).2.2.2]))]) [1, 0, 2] (by decide) rfl
  clear hPc hDc hFc hP1 hD1 hk1
  refine lv_land hx hb dX4_staying_21 ?_
  obtain rfl := Option.some.inj hf
  exact W.lret (v := (hs &&& r1)) hx hb hr (fun t ht hW => ⟨⟨(hs &&& r1), ((f_X0_lookAround gG hs)), rfl, rfl, by rw [ht]; exact hP, va_K.moved hW.alike hK, hD⟩, hS.F ht⟩) hS.2.2 dX4_staying_22
/-! HedgeGliders$Rules.behindYears(JI)J -/
def lp_X4_behindYears_6 (rR : RuS) (gG : GrS) (yr : Int32) : Nat → Int64 → Int32 → Option (Int64)
  | 0, _, _ => none
  | nf + 1, y12, y13 => if yr ≤ y13 then (some y12) else (Option.bind (f_X4_born rR gG y12) fun r15 => Option.bind (f_X4_staying rR gG y12) fun r17 => lp_X4_behindYears_6 rR gG yr nf (r15 ||| r17) (y13 + 1))
def f_X4_behindYears (rR : RuS) (gG : GrS) (hs : Int64) (yr : Int32) : Option (Int64) := Option.bind (lp_X4_behindYears_6 rR gG yr 100 hs 0) fun v19 => some v19
abbrev rm_X4_behindYears : Room := ({ frames := 4, cells := 0, slots := 0, locals := 88 } : Room)
abbrev A_X4_behindYears (cI cJ : ClassId) (zru zgr zcr : Nat) (rR : RuS) (gG : GrS) (hs : Int64) (yr : Int32) (qC : CrS) (sz : Nat) : Nat → Prop := va_A [(zru, .inr (3, [.ref zgr, .ref zcr, .int rR.1, .int rR.2])), (zgr, .inr (2, [.int gG.1, .int gG.2.1, .int (bI gG.2.2.1), .long gG.2.2.2.1, .long gG.2.2.2.2.1, .long gG.2.2.2.2.2.1, .long gG.2.2.2.2.2.2.1, .long gG.2.2.2.2.2.2.2])), (zcr, .inr (0, [.long qC.1, .long qC.2.1, .long qC.2.2.1, .long qC.2.2.2]))] sz
abbrev Q_X4_behindYears (dC : Nat → ClassId) (dI : Nat → Nat → Nat) (cI cJ : ClassId) (zru zgr zcr : Nat) (rR : RuS) (gG : GrS) (hs : Int64) (yr : Int32) (qC : CrS) (sz : Nat) (R : Int64) : Array Value → State → Outcome → State → Prop := va_Ql (fun (r : Int64) (_ : CrS) => r = R) (fun u_ t => va_P (dC, dI) vwCl [(zru, .inr (3, [.ref zgr, .ref zcr, .int rR.1, .int rR.2])), (zgr, .inr (2, [.int gG.1, .int gG.2.1, .int (bI gG.2.2.1), .long gG.2.2.2.1, .long gG.2.2.2.2.1, .long gG.2.2.2.2.2.1, .long gG.2.2.2.2.2.2.1, .long gG.2.2.2.2.2.2.2])), (zcr, .inr (0, [.long u_.1, .long u_.2.1, .long u_.2.2.1, .long u_.2.2.2]))] t.heap ∧ va_K (dC, dI) vwCl [(cI, .int), (cJ, .long)] t ∧ va_D (A_X4_behindYears cI cJ zru zgr zcr rR gG hs yr qC sz) [(zru, .inr (3, [.ref zgr, .ref zcr, .int rR.1, .int rR.2])), (zgr, .inr (2, [.int gG.1, .int gG.2.1, .int (bI gG.2.2.1), .long gG.2.2.2.1, .long gG.2.2.2.2.1, .long gG.2.2.2.2.2.1, .long gG.2.2.2.2.2.2.1, .long gG.2.2.2.2.2.2.2])), (zcr, .inr (0, [.long u_.1, .long u_.2.1, .long u_.2.2.1, .long u_.2.2.2]))]) (A_X4_behindYears cI cJ zru zgr zcr rR gG hs yr qC sz)
set_option maxHeartbeats 4000000 in
set_option maxRecDepth 100000 in
theorem c_X4_behindYears (l : Launch) (dC : Nat → ClassId) (dI : Nat → Nat → Nat) (cI cJ : ClassId) (zru zgr zcr : Nat) (sz : Nat) (rR : RuS) (gG : GrS) (hs : Int64) (yr : Int32) (qC : CrS) (R : Int64) (hR : f_X4_behindYears rR gG hs yr = some R) : Met l yX4_behindYears wsX4_behindYears rm_X4_behindYears (va_Pc [.ref zru, .long hs, .int yr] (fun U => U.heap.size = sz ∧ va_P (dC, dI) vwCl [(zru, .inr (3, [.ref zgr, .ref zcr, .int rR.1, .int rR.2])), (zgr, .inr (2, [.int gG.1, .int gG.2.1, .int (bI gG.2.2.1), .long gG.2.2.2.1, .long gG.2.2.2.2.1, .long gG.2.2.2.2.2.1, .long gG.2.2.2.2.2.2.1, .long gG.2.2.2.2.2.2.2])), (zcr, .inr (0, [.long qC.1, .long qC.2.1, .long qC.2.2.1, .long qC.2.2.2]))] U.heap ∧ va_K (dC, dI) vwCl [(cI, .int), (cJ, .long)] U ∧ va_D (fun _ => True) [(zru, .inr (3, [.ref zgr, .ref zcr, .int rR.1, .int rR.2])), (zgr, .inr (2, [.int gG.1, .int gG.2.1, .int (bI gG.2.2.1), .long gG.2.2.2.1, .long gG.2.2.2.2.1, .long gG.2.2.2.2.2.1, .long gG.2.2.2.2.2.2.1, .long gG.2.2.2.2.2.2.2])), (zcr, .inr (0, [.long qC.1, .long qC.2.1, .long qC.2.2.1, .long qC.2.2.2]))])) (Q_X4_behindYears dC dI cI cJ zru zgr zcr rR gG hs yr qC sz R) 0 0 (A_X4_behindYears cI cJ zru zgr zcr rR gG hs yr qC sz) := by
  have hf := hR
  refine Met.ofW (cc := cX4_behindYears) (maxL := 7) (ret := (some .long)) (by decide) rfl ?_
  intro p e s m args below meth c s₁ B hml hv
  obtain ⟨hargs, hsz, hP, hK, hD0⟩ := hv
  have hx := B.exec
  have hb := B.bytes
  have hr := B.returns
  have hts := atoms_spec (ws := wsX4_behindYears) B.pre
  have hown : s.vm.findClass RX4 = some m.cls := findClass_of_methodNamed B.named
  have hlocks := B.notSynchronized
  subst hsz
  have hD : va_D (A_X4_behindYears cI cJ zru zgr zcr rR gG hs yr qC s.heap.size) [(zru, .inr (3, [.ref zgr, .ref zcr, .int rR.1, .int rR.2])), (zgr, .inr (2, [.int gG.1, .int gG.2.1, .int (bI gG.2.2.1), .long gG.2.2.2.1, .long gG.2.2.2.2.1, .long gG.2.2.2.2.2.1, .long gG.2.2.2.2.2.2.1, .long gG.2.2.2.2.2.2.2])), (zcr, .inr (0, [.long qC.1, .long qC.2.1, .long qC.2.2.1, .long qC.2.2.2]))] := hD0.self (sz := s.heap.size)
  have hA : ∀ q : Nat, s.heap.size ≤ q → (A_X4_behindYears cI cJ zru zgr zcr rR gG hs yr qC s.heap.size) q := fun q h => Or.inr h
  have hS : va_S (A_X4_behindYears cI cJ zru zgr zcr rR gG hs yr qC s.heap.size) s.heap s.heap [] := va_S.rf
  have hl := lv_entry ([.ref zru, .long hs, .int yr]) (n := 7) (Nat.le_of_ble_eq_true rfl)
  have he0 : entryFrame m args 7 = entryFrame m ([.ref zru, .long hs, .int yr] : List Value).toArray 7 := by rw [hargs]
  rw [he0, lg_entry_eq]
  generalize (lg_sl ([.ref zru, .long hs, .int yr]) ++ List.replicate (7 - (lg_sl ([.ref zru, .long hs, .int yr])).length) Slot.unset).toArray = ls at hl ⊢
  have hl : lv_has ls 7 [(0, .ref zru), (1, .long hs), (3, .int yr)] := hl
  rw [f_X4_behindYears] at hf
  refine lv_lload_n hx hb dX4_behindYears_0 rfl (lv_at hl 1 rfl) ?_
  refine lv_lstore (lv' := [(4, .long hs), (0, .ref zru), (1, .long hs), (3, .int yr)]) hx hb dX4_behindYears_1 hl (by decide) rfl (fun ls hl => ?_)
  refine lv_iconst (v := 0) hx hb dX4_behindYears_3 (by decide) ?_
  refine lv_istore (lv' := [(6, .int 0), (4, .long hs), (0, .ref zru), (1, .long hs), (3, .int yr)]) hx hb dX4_behindYears_4 hl (by decide) rfl (fun ls hl => ?_)
  obtain ⟨v19, hv, hf⟩ := obind hf
  have K21 : ∀ (u20 : CrS) (H : Heap) (locs : List Loc) (ls : Array Slot), va_P (dC, dI) vwCl [(zru, .inr (3, [.ref zgr, .ref zcr, .int rR.1, .int rR.2])), (zgr, .inr (2, [.int gG.1, .int gG.2.1, .int (bI gG.2.2.1), .long gG.2.2.2.1, .long gG.2.2.2.2.1, .long gG.2.2.2.2.2.1, .long gG.2.2.2.2.2.2.1, .long gG.2.2.2.2.2.2.2])), (zcr, .inr (0, [.long u20.1, .long u20.2.1, .long u20.2.2.1, .long u20.2.2.2]))] H → va_D (A_X4_behindYears cI cJ zru zgr zcr rR gG hs yr qC s.heap.size) [(zru, .inr (3, [.ref zgr, .ref zcr, .int rR.1, .int rR.2])), (zgr, .inr (2, [.int gG.1, .int gG.2.1, .int (bI gG.2.2.1), .long gG.2.2.2.1, .long gG.2.2.2.2.1, .long gG.2.2.2.2.2.1, .long gG.2.2.2.2.2.2.1, .long gG.2.2.2.2.2.2.2])), (zcr, .inr (0, [.long u20.1, .long u20.2.1, .long u20.2.2.1, .long u20.2.2.2]))] → va_S (A_X4_behindYears cI cJ zru zgr zcr rR gG hs yr qC s.heap.size) s.heap H locs → lv_has ls 7 [(4, .long v19)] → W p l e rm_X4_behindYears s m args below meth c H locs 0 0 (MQ below (Q_X4_behindYears dC dI cI cJ zru zgr zcr rR gG hs yr qC s.heap.size R) args s 0 0 (A_X4_behindYears cI cJ zru zgr zcr rR gG hs yr qC s.heap.size)) (F0 m 33 ls []) := by
    intro u20 H locs ls hP hD hS hl
    refine lv_lload hx hb dX4_behindYears_33 (lv_at hl 0 rfl) ?_
    obtain rfl := Option.some.inj hf
    exact W.lret (v := v19) hx hb hr (fun t ht hW => ⟨⟨v19, (u20), rfl, rfl, by rw [ht]; exact hP, va_K.moved hW.alike hK, hD⟩, hS.F ht⟩) hS.2.2 dX4_behindYears_35
  have lp22 : ∀ (nf : Nat) (y12 : Int64) (y13 : Int32) (u14 : CrS) (H : Heap) (locs : List Loc) (ls : Array Slot), lp_X4_behindYears_6 rR gG yr nf y12 y13 = some v19 → va_P (dC, dI) vwCl [(zru, .inr (3, [.ref zgr, .ref zcr, .int rR.1, .int rR.2])), (zgr, .inr (2, [.int gG.1, .int gG.2.1, .int (bI gG.2.2.1), .long gG.2.2.2.1, .long gG.2.2.2.2.1, .long gG.2.2.2.2.2.1, .long gG.2.2.2.2.2.2.1, .long gG.2.2.2.2.2.2.2])), (zcr, .inr (0, [.long u14.1, .long u14.2.1, .long u14.2.2.1, .long u14.2.2.2]))] H → va_D (A_X4_behindYears cI cJ zru zgr zcr rR gG hs yr qC s.heap.size) [(zru, .inr (3, [.ref zgr, .ref zcr, .int rR.1, .int rR.2])), (zgr, .inr (2, [.int gG.1, .int gG.2.1, .int (bI gG.2.2.1), .long gG.2.2.2.1, .long gG.2.2.2.2.1, .long gG.2.2.2.2.2.1, .long gG.2.2.2.2.2.2.1, .long gG.2.2.2.2.2.2.2])), (zcr, .inr (0, [.long u14.1, .long u14.2.1, .long u14.2.2.1, .long u14.2.2.2]))] → va_S (A_X4_behindYears cI cJ zru zgr zcr rR gG hs yr qC s.heap.size) s.heap H locs → lv_has ls 7 [(0, .ref zru), (3, .int yr), (4, .long y12), (6, .int y13)] → W p l e rm_X4_behindYears s m args below meth c H locs 0 0 (MQ below (Q_X4_behindYears dC dI cI cJ zru zgr zcr rR gG hs yr qC s.heap.size R) args s 0 0 (A_X4_behindYears cI cJ zru zgr zcr rR gG hs yr qC s.heap.size)) (F0 m 6 ls []) := by
    intro nf
    induction nf with
    | zero => intro y12 y13 u14 H locs ls h9; exact nomatch h9
    | succ nf ih23 =>
      intro y12 y13 u14 H locs ls hf hP hD hS hl
      rw [lp_X4_behindYears_6.eq_2] at hf
      refine lv_iload hx hb dX4_behindYears_6 (lv_at hl 3 rfl) ?_
      refine lv_iload_n hx hb dX4_behindYears_8 rfl (lv_at hl 1 rfl) ?_
      refine lv_icmp_ge (tgt := 33) hx hb dX4_behindYears_9 (by decide) (fun hc => ?_) (fun hc => ?_)
      · rw [if_pos hc] at hf
        obtain rfl := Option.some.inj hf
        exact K21 u14 _ _ _ hP hD hS (lv_sub hl [2] rfl)
      · rw [if_neg hc] at hf
        refine lv_aload_n hx hb dX4_behindYears_12 rfl (lv_at hl 0 rfl) ?_
        refine lv_lload hx hb dX4_behindYears_13 (lv_at hl 2 rfl) ?_
        obtain ⟨r15, hr15, hf⟩ := obind hf
        have hPc := hP.sub (ws' := [(zru, .inr (3, [.ref zgr, .ref zcr, .int rR.1, .int rR.2])), (zgr, .inr (2, [.int gG.1, .int gG.2.1, .int (bI gG.2.2.1), .long gG.2.2.2.1, .long gG.2.2.2.2.1, .long gG.2.2.2.2.2.1, .long gG.2.2.2.2.2.2.1, .long gG.2.2.2.2.2.2.2])), (zcr, .inr (0, [.long u14.1, .long u14.2.1, .long u14.2.2.1, .long u14.2.2.2]))]) [0, 1, 2] rfl
        have hDc := hD.sub (ws' := [(zru, .inr (3, [.ref zgr, .ref zcr, .int rR.1, .int rR.2])), (zgr, .inr (2, [.int gG.1, .int gG.2.1, .int (bI gG.2.2.1), .long gG.2.2.2.1, .long gG.2.2.2.2.1, .long gG.2.2.2.2.2.1, .long gG.2.2.2.2.2.2.1, .long gG.2.2.2.2.2.2.2])), (zcr, .inr (0, [.long u14.1, .long u14.2.1, .long u14.2.2.1, .long u14.2.2.2]))]) [0, 1, 2] (by decide) rfl
        have hFc := va_free (wc := [(zru, .inr (3, [.ref zgr, .ref zcr, .int rR.1, .int rR.2])), (zgr, .inr (2, [.int gG.1, .int gG.2.1, .int (bI gG.2.2.1), .long gG.2.2.2.1, .long gG.2.2.2.2.1, .long gG.2.2.2.2.2.1, .long gG.2.2.2.2.2.2.1, .long gG.2.2.2.2.2.2.2])), (zcr, .inr (0, [.long u14.1, .long u14.2.1, .long u14.2.2.1, .long u14.2.2.2]))]) hD hS hA [0, 1, 2] rfl
        refine va_calll (va_runV (As := [.long y12]) (rest := []) ⟨hx, hb, hml, hown, hts⟩ (c_X4_born l dC dI cI cJ zru zgr zcr H.size rR gG y12 u14 _ hr15) (cwV 1 hts gX4_behindYears_X4_born rfl rfl rfl (by decide +kernel) ⟨Nat.le_of_ble_eq_true rfl, Nat.le_of_ble_eq_true rfl⟩) ⟨fun a U gg mk q => by obtain ⟨q0, q1, qP, qK, qD⟩ := q; exact ⟨q0, q1, qP, va_K.moved (u := U) (U := U.calling gg mk a) (Vm.Alike.refl U.vm) qK, qD⟩, va_recv hK hPc (ci := 3) (q0 := 0) rfl rfl, fun U hU hW => ⟨rfl, by rw [hU], by rw [hU]; exact hPc, va_K.moved hW.alike hK, hDc.weaken (fun _ _ _ _ => trivial)⟩⟩ rfl rfl hl.1 rfl (lv_room (Nat.le_of_ble_eq_true rfl)) dX4_behindYears_15 ⟨Nat.zero_le _, Nat.zero_le _⟩) hS (fun q _ h => hFc q h) hFc (fun r_ u_ t H locs ht hvm hw hB hz1 hk1 hS => ?_)
        obtain ⟨u16, rfl⟩ : ∃ z, z = u_ := ⟨_, rfl⟩
        obtain rfl := hw.symm
        obtain ⟨hP1, -, hD1⟩ := hB
        rw [ht] at hP1
        obtain ⟨hP, hD⟩ := va_join (wr := []) (w1 := [(zru, .inr (3, [.ref zgr, .ref zcr, .int rR.1, .int rR.2])), (zgr, .inr (2, [.int gG.1, .int gG.2.1, .int (bI gG.2.2.1), .long gG.2.2.2.1, .long gG.2.2.2.2.1, .long gG.2.2.2.2.2.1, .long gG.2.2.2.2.2.2.1, .long gG.2.2.2.2.2.2.2])), (zcr, .inr (0, [.long u16.1, .long u16.2.1, .long u16.2.2.1, .long u16.2.2.2]))]) hP hD [0, 1, 2] [] rfl rfl (by decide) (by decide) hk1 hFc hP1 hD1
        have hP := hP.sub (ws' := [(zru, .inr (3, [.ref zgr, .ref zcr, .int rR.1, .int rR.2])), (zgr, .inr (2, [.int gG.1, .int gG.2.1, .int (bI gG.2.2.1), .long gG.2.2.2.1, .long gG.2.2.2.2.1, .long gG.2.2.2.2.2.1, .long gG.2.2.2.2.2.2.1, .long gG.2.2.2.2.2.2.2])), (zcr, .inr (0, [.long u16.1, .long u16.2.1, .long u16.2.2.1, .long u16.2.2.2]))]) [0, 1, 2] rfl
        have hD := hD.sub (ws' := [(zru, .inr (3, [.ref zgr, .ref zcr, .int rR.1, .int rR.2])), (zgr, .inr (2, [.int gG.1, .int gG.2.1, .int (bI gG.2.2.1), .long gG.2.2.2.1, .long gG.2.2.2.2.1, .long gG.2.2.2.2.2.1, .long gG.2.2.2.2.2.2.1, .long gG.2.2.2.2.2.2.2])), (zcr, .inr (0, [.long u16.1, .long u16.2.1, .long u16.2.2.1, .long u16.2.2.2]))]) [0, 1, 2] (by decide) rfl
        clear hPc hDc hFc hP1 hD1 hk1
        refine lv_aload_n hx hb dX4_behindYears_18 rfl (lv_at hl 0 rfl) ?_
        refine lv_lload hx hb dX4_behindYears_19 (lv_at hl 2 rfl) ?_
        obtain ⟨r17, hr17, hf⟩ := obind hf
        have hPc := hP.sub (ws' := [(zru, .inr (3, [.ref zgr, .ref zcr, .int rR.1, .int rR.2])), (zgr, .inr (2, [.int gG.1, .int gG.2.1, .int (bI gG.2.2.1), .long gG.2.2.2.1, .long gG.2.2.2.2.1, .long gG.2.2.2.2.2.1, .long gG.2.2.2.2.2.2.1, .long gG.2.2.2.2.2.2.2])), (zcr, .inr (0, [.long u16.1, .long u16.2.1, .long u16.2.2.1, .long u16.2.2.2]))]) [0, 1, 2] rfl
        have hDc := hD.sub (ws' := [(zru, .inr (3, [.ref zgr, .ref zcr, .int rR.1, .int rR.2])), (zgr, .inr (2, [.int gG.1, .int gG.2.1, .int (bI gG.2.2.1), .long gG.2.2.2.1, .long gG.2.2.2.2.1, .long gG.2.2.2.2.2.1, .long gG.2.2.2.2.2.2.1, .long gG.2.2.2.2.2.2.2])), (zcr, .inr (0, [.long u16.1, .long u16.2.1, .long u16.2.2.1, .long u16.2.2.2]))]) [0, 1, 2] (by decide) rfl
        have hFc := va_free (wc := [(zru, .inr (3, [.ref zgr, .ref zcr, .int rR.1, .int rR.2])), (zgr, .inr (2, [.int gG.1, .int gG.2.1, .int (bI gG.2.2.1), .long gG.2.2.2.1, .long gG.2.2.2.2.1, .long gG.2.2.2.2.2.1, .long gG.2.2.2.2.2.2.1, .long gG.2.2.2.2.2.2.2])), (zcr, .inr (0, [.long u16.1, .long u16.2.1, .long u16.2.2.1, .long u16.2.2.2]))]) hD hS hA [0, 1, 2] rfl
        refine va_calll (va_runV (As := [.long y12]) (rest := [.long r15]) ⟨hx, hb, hml, hown, hts⟩ (c_X4_staying l dC dI cI cJ zru zgr zcr H.size rR gG y12 u16 _ hr17) (cwV 1 hts gX4_behindYears_X4_staying rfl rfl rfl (by decide +kernel) ⟨Nat.le_of_ble_eq_true rfl, Nat.le_of_ble_eq_true rfl⟩) ⟨fun a U gg mk q => by obtain ⟨q0, q1, qP, qK, qD⟩ := q; exact ⟨q0, q1, qP, va_K.moved (u := U) (U := U.calling gg mk a) (Vm.Alike.refl U.vm) qK, qD⟩, va_recv hK hPc (ci := 3) (q0 := 0) rfl rfl, fun U hU hW => ⟨rfl, by rw [hU], by rw [hU]; exact hPc, va_K.moved hW.alike hK, hDc.weaken (fun _ _ _ _ => trivial)⟩⟩ rfl rfl hl.1 rfl (lv_room (Nat.le_of_ble_eq_true rfl)) dX4_behindYears_21 ⟨Nat.zero_le _, Nat.zero_le _⟩) hS (fun q _ h => hFc q h) hFc (fun r_ u_ t H locs ht hvm hw hB hz1 hk1 hS => ?_)
        obtain ⟨u18, rfl⟩ : ∃ z, z = u_ := ⟨_, rfl⟩
        obtain rfl := hw.symm
        obtain ⟨hP1, -, hD1⟩ := hB
        rw [ht] at hP1
        obtain ⟨hP, hD⟩ := va_join (wr := []) (w1 := [(zru, .inr (3, [.ref zgr, .ref zcr, .int rR.1, .int rR.2])), (zgr, .inr (2, [.int gG.1, .int gG.2.1, .int (bI gG.2.2.1), .long gG.2.2.2.1, .long gG.2.2.2.2.1, .long gG.2.2.2.2.2.1, .long gG.2.2.2.2.2.2.1, .long gG.2.2.2.2.2.2.2])), (zcr, .inr (0, [.long u18.1, .long u18.2.1, .long u18.2.2.1, .long u18.2.2.2]))]) hP hD [0, 1, 2] [] rfl rfl (by decide) (by decide) hk1 hFc hP1 hD1
        have hP := hP.sub (ws' := [(zru, .inr (3, [.ref zgr, .ref zcr, .int rR.1, .int rR.2])), (zgr, .inr (2, [.int gG.1, .int gG.2.1, .int (bI gG.2.2.1), .long gG.2.2.2.1, .long gG.2.2.2.2.1, .long gG.2.2.2.2.2.1, .long gG.2.2.2.2.2.2.1, .long gG.2.2.2.2.2.2.2])), (zcr, .inr (0, [.long u18.1, .long u18.2.1, .long u18.2.2.1, .long u18.2.2.2]))]) [0, 1, 2] rfl
        have hD := hD.sub (ws' := [(zru, .inr (3, [.ref zgr, .ref zcr, .int rR.1, .int rR.2])), (zgr, .inr (2, [.int gG.1, .int gG.2.1, .int (bI gG.2.2.1), .long gG.2.2.2.1, .long gG.2.2.2.2.1, .long gG.2.2.2.2.2.1, .long gG.2.2.2.2.2.2.1, .long gG.2.2.2.2.2.2.2])), (zcr, .inr (0, [.long u18.1, .long u18.2.1, .long u18.2.2.1, .long u18.2.2.2]))]) [0, 1, 2] (by decide) rfl
        clear hPc hDc hFc hP1 hD1 hk1
        refine lv_lor hx hb dX4_behindYears_24 ?_
        refine lv_lstore (lv' := [(4, .long (r15 ||| r17)), (0, .ref zru), (3, .int yr), (6, .int y13)]) hx hb dX4_behindYears_25 hl (by decide) rfl (fun ls hl => ?_)
        refine lv_iinc (v := (y13 + 1)) (lv' := [(6, .int (y13 + 1)), (4, .long (r15 ||| r17)), (0, .ref zru), (3, .int yr)]) hx hb dX4_behindYears_27 hl (k := 3) rfl rfl (by decide) rfl (fun ls hl => ?_)
        refine lv_goto (tgt := 6) hx hb dX4_behindYears_30 (by decide) ?_
        exact ih23 _ _ u18 _ _ _ hf hP hD hS (lv_sub hl [2, 3, 1, 0] rfl)
  exact lp22 100 _ _ qC _ _ _ hv hP hD hS (lv_sub hl [2, 4, 1, 0] rfl)
