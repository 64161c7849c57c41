/-! HedgeGlidersModel.open(LHedgeGlidersModel$State;)J -/
def f_X7_open (mM : MoS) (sW : StS) : Int64 := bindv (if (mM.2.1 * mM.2.2.1) = 64 then ((-1)) else (((jshl 1 (mM.2.1 * mM.2.2.1)) - 1)) : Int64) fun v1 => (v1 &&& (sW.2.2.2 ^^^ (-1)))
abbrev rm_X7_open : Room := ({ frames := 0, cells := 0, slots := 0, locals := 0 } : Room)
abbrev A_X7_open (cI cJ : ClassId) (zmo zwo zar zbe zst zah zgd zwq : Nat) (mM : MoS) (sW : StS) (sz : Nat) : Nat → Prop := va_A [(zmo, .inr (6, [.int mM.1, .int mM.2.1, .int mM.2.2.1, .int (bI mM.2.2.2.1), .int mM.2.2.2.2.1, .int mM.2.2.2.2.2, .ref zar, .ref zbe, .ref zst, .ref zah, .ref zgd])), (zwo, .inr (5, [.int sW.1, .int sW.2.1, .int sW.2.2.1, .long sW.2.2.2, .ref zwq]))] sz
abbrev Q_X7_open (dC : Nat → ClassId) (dI : Nat → Nat → Nat) (cI cJ : ClassId) (zmo zwo zar zbe zst zah zgd zwq : Nat) (mM : MoS) (sW : StS) (sz : Nat) (R : Int64) : Array Value → State → Outcome → State → Prop := va_Ql (fun (r : Int64) (_ : Unit) => r = R) (fun u_ t => va_P (dC, dI) vwCl [(zmo, .inr (6, [.int mM.1, .int mM.2.1, .int mM.2.2.1, .int (bI mM.2.2.2.1), .int mM.2.2.2.2.1, .int mM.2.2.2.2.2, .ref zar, .ref zbe, .ref zst, .ref zah, .ref zgd])), (zwo, .inr (5, [.int sW.1, .int sW.2.1, .int sW.2.2.1, .long sW.2.2.2, .ref zwq]))] t.heap ∧ va_K (dC, dI) vwCl [(cI, .int), (cJ, .long)] t ∧ va_D (A_X7_open cI cJ zmo zwo zar zbe zst zah zgd zwq mM sW sz) [(zmo, .inr (6, [.int mM.1, .int mM.2.1, .int mM.2.2.1, .int (bI mM.2.2.2.1), .int mM.2.2.2.2.1, .int mM.2.2.2.2.2, .ref zar, .ref zbe, .ref zst, .ref zah, .ref zgd])), (zwo, .inr (5, [.int sW.1, .int sW.2.1, .int sW.2.2.1, .long sW.2.2.2, .ref zwq]))]) (A_X7_open cI cJ zmo zwo zar zbe zst zah zgd zwq mM sW sz)
set_option maxHeartbeats 4000000 in
set_option maxRecDepth 100000 in
theorem c_X7_open (l : Launch) (dC : Nat → ClassId) (dI : Nat → Nat → Nat) (cI cJ : ClassId) (zmo zwo zar zbe zst zah zgd zwq : Nat) (sz : Nat) (mM : MoS) (sW : StS) : Met l yX7_open wsX7_open rm_X7_open (va_Pc [.ref zmo, .ref zwo] (fun U => U.heap.size = sz ∧ va_P (dC, dI) vwCl [(zmo, .inr (6, [.int mM.1, .int mM.2.1, .int mM.2.2.1, .int (bI mM.2.2.2.1), .int mM.2.2.2.2.1, .int mM.2.2.2.2.2, .ref zar, .ref zbe, .ref zst, .ref zah, .ref zgd])), (zwo, .inr (5, [.int sW.1, .int sW.2.1, .int sW.2.2.1, .long sW.2.2.2, .ref zwq]))] U.heap ∧ va_K (dC, dI) vwCl [(cI, .int), (cJ, .long)] U ∧ va_D (fun _ => True) [(zmo, .inr (6, [.int mM.1, .int mM.2.1, .int mM.2.2.1, .int (bI mM.2.2.2.1), .int mM.2.2.2.2.1, .int mM.2.2.2.2.2, .ref zar, .ref zbe, .ref zst, .ref zah, .ref zgd])), (zwo, .inr (5, [.int sW.1, .int sW.2.1, .int sW.2.2.1, .long sW.2.2.2, .ref zwq]))] ∧ nwM U)) (Q_X7_open dC dI cI cJ zmo zwo zar zbe zst zah zgd zwq mM sW sz (f_X7_open mM sW)) 0 0 (A_X7_open cI cJ zmo zwo zar zbe zst zah zgd zwq mM sW sz) := by
  generalize hf : (f_X7_open mM sW) = R
  refine Met.ofW (cc := cX7_open) (maxL := 4) (ret := (some .long)) (by decide) rfl ?_
  intro p e s m args below meth c s₁ B hml hv
  obtain ⟨hargs, hsz, hP, hK, hD0, hnw⟩ := hv
  have hx := B.exec
  have hb := B.bytes
  have hr := B.returns
  have hts := atoms_spec (ws := wsX7_open) B.pre
  have hown : s.vm.findClass RX7 = some m.cls := findClass_of_methodNamed B.named
  have hlocks := B.notSynchronized
  subst hsz
  obtain ⟨hnw_hedges, hnw_ages, hnw_born, hnw_dead, hnw_year⟩ := id hnw
  have hD : va_D (A_X7_open cI cJ zmo zwo zar zbe zst zah zgd zwq mM sW s.heap.size) [(zmo, .inr (6, [.int mM.1, .int mM.2.1, .int mM.2.2.1, .int (bI mM.2.2.2.1), .int mM.2.2.2.2.1, .int mM.2.2.2.2.2, .ref zar, .ref zbe, .ref zst, .ref zah, .ref zgd])), (zwo, .inr (5, [.int sW.1, .int sW.2.1, .int sW.2.2.1, .long sW.2.2.2, .ref zwq]))] := hD0.self (sz := s.heap.size)
  have hA : ∀ q : Nat, s.heap.size ≤ q → (A_X7_open cI cJ zmo zwo zar zbe zst zah zgd zwq mM sW s.heap.size) q := fun q h => Or.inr h
  have hS : va_S (A_X7_open cI cJ zmo zwo zar zbe zst zah zgd zwq mM sW s.heap.size) s.heap s.heap [] := va_S.rf
  have hinX6 : ∀ w ∈ wsX60, w ∈ wsX7_open := by decide +kernel
  have hinX7 : ∀ w ∈ wsX70, w ∈ wsX7_open := by decide +kernel
  have hw0 := hts (.fieldLink RX7 9 "HedgeGlidersModel" "w" "I") (by decide +kernel)
  have hw1 := hts (.fieldLink RX7 13 "HedgeGlidersModel" "h" "I") (by decide +kernel)
  have hw2 := hts (.constantLong RX7 97 (-1)) (by decide +kernel)
  have hl := lv_entry ([.ref zmo, .ref zwo]) (n := 4) (Nat.le_of_ble_eq_true rfl)
  have he0 : entryFrame m args 4 = entryFrame m ([.ref zmo, .ref zwo] : List Value).toArray 4 := by rw [hargs]
  rw [he0, lg_entry_eq]
  generalize (lg_sl ([.ref zmo, .ref zwo]) ++ List.replicate (4 - (lg_sl ([.ref zmo, .ref zwo])).length) Slot.unset).toArray = ls at hl ⊢
  have hl : lv_has ls 4 [(0, .ref zmo), (1, .ref zwo)] := hl
  rw [f_X7_open] at hf
  refine lv_aload_n hx hb dX7_open_0 rfl (lv_at hl 0 rfl) ?_
  refine va_get (D := (dC, dI)) (ci := 6) (v := .int mM.2.1) (C := RX7) (T := TX7) (N := 11) hx hb hts hinX7 hown hK hP 0 rfl rfl 1 (by decide) hw0 (fun _ h9 => h9) rfl dX7_open_1 ?_
  refine lv_aload_n hx hb dX7_open_4 rfl (lv_at hl 0 rfl) ?_
  refine va_get (D := (dC, dI)) (ci := 6) (v := .int mM.2.2.1) (C := RX7) (T := TX7) (N := 11) hx hb hts hinX7 hown hK hP 0 rfl rfl 2 (by decide) hw1 (fun _ h9 => h9) rfl dX7_open_5 ?_
  refine lv_imul hx hb dX7_open_8 ?_
  refine lv_bipush (v := 64) hx hb dX7_open_9 (by decide) ?_
  obtain ⟨v1, hv, hf⟩ := vbind hf
  have K2 : ∀ (H : Heap) (locs : List Loc) (ls : Array Slot), va_P (dC, dI) vwCl [(zmo, .inr (6, [.int mM.1, .int mM.2.1, .int mM.2.2.1, .int (bI mM.2.2.2.1), .int mM.2.2.2.2.1, .int mM.2.2.2.2.2, .ref zar, .ref zbe, .ref zst, .ref zah, .ref zgd])), (zwo, .inr (5, [.int sW.1, .int sW.2.1, .int sW.2.2.1, .long sW.2.2.2, .ref zwq]))] H → va_D (A_X7_open cI cJ zmo zwo zar zbe zst zah zgd zwq mM sW s.heap.size) [(zmo, .inr (6, [.int mM.1, .int mM.2.1, .int mM.2.2.1, .int (bI mM.2.2.2.1), .int mM.2.2.2.2.1, .int mM.2.2.2.2.2, .ref zar, .ref zbe, .ref zst, .ref zah, .ref zgd])), (zwo, .inr (5, [.int sW.1, .int sW.2.1, .int sW.2.2.1, .long sW.2.2.2, .ref zwq]))] → va_S (A_X7_open cI cJ zmo zwo zar zbe zst zah zgd zwq mM sW s.heap.size) s.heap H locs → lv_has ls 4 [(1, .ref zwo)] → W p l e rm_X7_open s m args below meth c H locs 0 0 (MQ below (Q_X7_open dC dI cI cJ zmo zwo zar zbe zst zah zgd zwq mM sW s.heap.size R) args s 0 0 (A_X7_open cI cJ zmo zwo zar zbe zst zah zgd zwq mM sW s.heap.size)) (F0 m 33 ls [.long v1]) := by
    intro H locs ls hP hD hS hl
    refine lv_lstore_n (lv' := [(2, .long v1), (1, .ref zwo)]) hx hb dX7_open_33 rfl hl (by decide) rfl (fun ls hl => ?_)
    refine lv_lload_n hx hb dX7_open_34 rfl (lv_at hl 0 rfl) ?_
    refine lv_aload_n hx hb dX7_open_35 rfl (lv_at hl 1 rfl) ?_
    refine va_getN (D := (dC, dI)) (ci := 5) (v := .long sW.2.2.2) (C := RX6) (T := TX6) (N := 5) hx hb hts hinX6 hown hK hP 1 rfl rfl 3 (by decide) (va_Nw.use rfl hnw_hedges) (fun _ h9 => h9) rfl dX7_open_36 ?_
    refine lv_ldc2 (v := (-1)) hx hb hown hw2 dX7_open_39 ?_
    refine lv_lxor hx hb dX7_open_42 ?_
    refine lv_land hx hb dX7_open_43 ?_
    obtain rfl := hf
    exact W.lret (v := (v1 &&& (sW.2.2.2 ^^^ (-1)))) hx hb hr (fun t ht hW => ⟨⟨(v1 &&& (sW.2.2.2 ^^^ (-1))), (), rfl, rfl, by rw [ht]; exact hP, va_K.moved hW.alike hK, hD⟩, hS.F ht⟩) hS.2.2 dX7_open_44
  clear hf; have hf := hv; clear hv
  refine lv_icmp_ne (tgt := 20) hx hb dX7_open_11 (by decide) (fun hc => ?_) (fun hc => ?_)
  · rw [if_neg hc] at hf
    refine lv_lconst (v := 1) hx hb dX7_open_20 (by decide) ?_
    refine lv_aload_n hx hb dX7_open_21 rfl (lv_at hl 0 rfl) ?_
    refine va_get (D := (dC, dI)) (ci := 6) (v := .int mM.2.1) (C := RX7) (T := TX7) (N := 11) hx hb hts hinX7 hown hK hP 0 rfl rfl 1 (by decide) hw0 (fun _ h9 => h9) rfl dX7_open_22 ?_
    refine lv_aload_n hx hb dX7_open_25 rfl (lv_at hl 0 rfl) ?_
    refine va_get (D := (dC, dI)) (ci := 6) (v := .int mM.2.2.1) (C := RX7) (T := TX7) (N := 11) hx hb hts hinX7 hown hK hP 0 rfl rfl 2 (by decide) hw1 (fun _ h9 => h9) rfl dX7_open_26 ?_
    refine lv_imul hx hb dX7_open_29 ?_
    refine lv_lshl (v := (jshl 1 (mM.2.1 * mM.2.2.1))) hx hb dX7_open_30 rfl ?_
    refine lv_lconst (v := 1) hx hb dX7_open_31 (by decide) ?_
    refine lv_lsub hx hb dX7_open_32 ?_
    obtain rfl := hf
    exact K2 _ _ _ hP hD hS (lv_sub hl [1] rfl)
  · rw [if_pos hc] at hf
    refine lv_ldc2 (v := (-1)) hx hb hown hw2 dX7_open_14 ?_
    refine lv_goto (tgt := 33) hx hb dX7_open_17 (by decide) ?_
    obtain rfl := hf
    exact K2 _ _ _ hP hD hS (lv_sub hl [1] rfl)
/-! HedgeGlidersModel.lawn(JI)J -/
def lp_X7_lawn_25 (mM : MoS) (fB : Nat → Int64) (op : Int64) (y19 : Int64) : Nat → Int64 → Int32 → Option (Int64)
  | 0, _, _ => none
  | nf + 1, y25, y26 => if (mM.2.1 * mM.2.2.1) ≤ y26 then (some y25) else (Option.bind (if ((jshr y19 y26) &&& 1) = 1 then (if y26 < 0 ∨ 64 ≤ y26.toNatClampNeg then none else some (y25 ||| ((fB y26.toNatClampNeg) &&& op))) else (some y25) : Option (Int64)) fun v27 => lp_X7_lawn_25 mM fB op y19 nf v27 (y26 + 1))
def lp_X7_lawn_10 (mM : MoS) (fB : Nat → Int64) (op : Int64) : Nat → Int64 → Int64 → Option (Int64)
  | 0, _, _ => none
  | nf + 1, y19, y20 => if y19 = y20 then (some y19) else (Option.bind (lp_X7_lawn_25 mM fB op y19 100 y19 0) fun v28 => lp_X7_lawn_10 mM fB op nf v28 y19)
def f_X7_lawn (mM : MoS) (fB : Nat → Int64) (op : Int64) (ce : Int32) : Option (Int64) := Option.bind (lp_X7_lawn_10 mM fB op 100 ((jshl 1 ce) &&& op) 0) fun v29 => some v29
abbrev rm_X7_lawn : Room := ({ frames := 0, cells := 0, slots := 0, locals := 0 } : Room)
abbrev A_X7_lawn (cI cJ : ClassId) (zmo zbe zar zst zah zgd : Nat) (mM : MoS) (fB : Nat → Int64) (op : Int64) (ce : Int32) (sz : Nat) : Nat → Prop := va_A [(zmo, .inr (6, [.int mM.1, .int mM.2.1, .int mM.2.2.1, .int (bI mM.2.2.2.1), .int mM.2.2.2.2.1, .int mM.2.2.2.2.2, .ref zar, .ref zbe, .ref zst, .ref zah, .ref zgd])), (zbe, .inl (cJ, 64, .inr (.inl fB)))] sz
abbrev Q_X7_lawn (dC : Nat → ClassId) (dI : Nat → Nat → Nat) (cI cJ : ClassId) (zmo zbe zar zst zah zgd : Nat) (mM : MoS) (fB : Nat → Int64) (op : Int64) (ce : Int32) (sz : Nat) (R : Int64) : Array Value → State → Outcome → State → Prop := va_Ql (fun (r : Int64) (_ : Unit) => r = R) (fun u_ t => va_P (dC, dI) vwCl [(zmo, .inr (6, [.int mM.1, .int mM.2.1, .int mM.2.2.1, .int (bI mM.2.2.2.1), .int mM.2.2.2.2.1, .int mM.2.2.2.2.2, .ref zar, .ref zbe, .ref zst, .ref zah, .ref zgd])), (zbe, .inl (cJ, 64, .inr (.inl fB)))] t.heap ∧ va_K (dC, dI) vwCl [(cI, .int), (cJ, .long)] t ∧ va_D (A_X7_lawn cI cJ zmo zbe zar zst zah zgd mM fB op ce sz) [(zmo, .inr (6, [.int mM.1, .int mM.2.1, .int mM.2.2.1, .int (bI mM.2.2.2.1), .int mM.2.2.2.2.1, .int mM.2.2.2.2.2, .ref zar, .ref zbe, .ref zst, .ref zah, .ref zgd])), (zbe, .inl (cJ, 64, .inr (.inl fB)))]) (A_X7_lawn cI cJ zmo zbe zar zst zah zgd mM fB op ce sz)
set_option maxHeartbeats 4000000 in
set_option maxRecDepth 100000 in
theorem c_X7_lawn (l : Launch) (dC : Nat → ClassId) (dI : Nat → Nat → Nat) (cI cJ : ClassId) (zmo zbe zar zst zah zgd : Nat) (sz : Nat) (mM : MoS) (fB : Nat → Int64) (op : Int64) (ce : Int32) (R : Int64) (hR : f_X7_lawn mM fB op ce = some R) : Met l yX7_lawn wsX7_lawn rm_X7_lawn (va_Pc [.ref zmo, .long op, .int ce] (fun U => U.heap.size = sz ∧ va_P (dC, dI) vwCl [(zmo, .inr (6, [.int mM.1, .int mM.2.1, .int mM.2.2.1, .int (bI mM.2.2.2.1), .int mM.2.2.2.2.1, .int mM.2.2.2.2.2, .ref zar, .ref zbe, .ref zst, .ref zah, .ref zgd])), (zbe, .inl (cJ, 64, .inr (.inl fB)))] U.heap ∧ va_K (dC, dI) vwCl [(cI, .int), (cJ, .long)] U ∧ va_D (fun _ => True) [(zmo, .inr (6, [.int mM.1, .int mM.2.1, .int mM.2.2.1, .int (bI mM.2.2.2.1), .int mM.2.2.2.2.1, .int mM.2.2.2.2.2, .ref zar, .ref zbe, .ref zst, .ref zah, .ref zgd])), (zbe, .inl (cJ, 64, .inr (.inl fB)))])) (Q_X7_lawn dC dI cI cJ zmo zbe zar zst zah zgd mM fB op ce sz R) 0 0 (A_X7_lawn cI cJ zmo zbe zar zst zah zgd mM fB op ce sz) := by
  have hf := hR
  refine Met.ofW (cc := cX7_lawn) (maxL := 9) (ret := (some .long)) (by decide) rfl ?_
  intro p e s m args below meth c s₁ B hml hv
  obtain ⟨hargs, hsz, hP, hK, hD0⟩ := hv
  have hx := B.exec
  have hb := B.bytes
  have hr := B.returns
  have hts := atoms_spec (ws := wsX7_lawn) B.pre
  have hown : s.vm.findClass RX7 = some m.cls := findClass_of_methodNamed B.named
  have hlocks := B.notSynchronized
  subst hsz
  have hD : va_D (A_X7_lawn cI cJ zmo zbe zar zst zah zgd mM fB op ce s.heap.size) [(zmo, .inr (6, [.int mM.1, .int mM.2.1, .int mM.2.2.1, .int (bI mM.2.2.2.1), .int mM.2.2.2.2.1, .int mM.2.2.2.2.2, .ref zar, .ref zbe, .ref zst, .ref zah, .ref zgd])), (zbe, .inl (cJ, 64, .inr (.inl fB)))] := hD0.self (sz := s.heap.size)
  have hA : ∀ q : Nat, s.heap.size ≤ q → (A_X7_lawn cI cJ zmo zbe zar zst zah zgd mM fB op ce s.heap.size) q := fun q h => Or.inr h
  have hS : va_S (A_X7_lawn cI cJ zmo zbe zar zst zah zgd mM fB op ce s.heap.size) s.heap s.heap [] := va_S.rf
  have hinX7 : ∀ w ∈ wsX70, w ∈ wsX7_lawn := by decide +kernel
  have hw0 := hts (.fieldLink RX7 9 "HedgeGlidersModel" "w" "I") (by decide +kernel)
  have hw1 := hts (.fieldLink RX7 13 "HedgeGlidersModel" "h" "I") (by decide +kernel)
  have hw2 := hts (.fieldLink RX7 26 "HedgeGlidersModel" "beside" "[J") (by decide +kernel)
  have hl := lv_entry ([.ref zmo, .long op, .int ce]) (n := 9) (Nat.le_of_ble_eq_true rfl)
  have he0 : entryFrame m args 9 = entryFrame m ([.ref zmo, .long op, .int ce] : List Value).toArray 9 := by rw [hargs]
  rw [he0, lg_entry_eq]
  generalize (lg_sl ([.ref zmo, .long op, .int ce]) ++ List.replicate (9 - (lg_sl ([.ref zmo, .long op, .int ce])).length) Slot.unset).toArray = ls at hl ⊢
  have hl : lv_has ls 9 [(0, .ref zmo), (1, .long op), (3, .int ce)] := hl
  rw [f_X7_lawn] at hf
  refine lv_lconst (v := 1) hx hb dX7_lawn_0 (by decide) ?_
  refine lv_iload_n hx hb dX7_lawn_1 rfl (lv_at hl 2 rfl) ?_
  refine lv_lshl (v := (jshl 1 ce)) hx hb dX7_lawn_2 rfl ?_
  refine lv_lload_n hx hb dX7_lawn_3 rfl (lv_at hl 1 rfl) ?_
  refine lv_land hx hb dX7_lawn_4 ?_
  refine lv_lstore (lv' := [(4, .long ((jshl 1 ce) &&& op)), (0, .ref zmo), (1, .long op), (3, .int ce)]) hx hb dX7_lawn_5 hl (by decide) rfl (fun ls hl => ?_)
  refine lv_lconst (v := 0) hx hb dX7_lawn_7 (by decide) ?_
  refine lv_lstore (lv' := [(6, .long 0), (4, .long ((jshl 1 ce) &&& op)), (0, .ref zmo), (1, .long op), (3, .int ce)]) hx hb dX7_lawn_8 hl (by decide) rfl (fun ls hl => ?_)
  obtain ⟨v29, hv, hf⟩ := obind hf
  have K30 : ∀ (H : Heap) (locs : List Loc) (ls : Array Slot), va_P (dC, dI) vwCl [(zmo, .inr (6, [.int mM.1, .int mM.2.1, .int mM.2.2.1, .int (bI mM.2.2.2.1), .int mM.2.2.2.2.1, .int mM.2.2.2.2.2, .ref zar, .ref zbe, .ref zst, .ref zah, .ref zgd])), (zbe, .inl (cJ, 64, .inr (.inl fB)))] H → va_D (A_X7_lawn cI cJ zmo zbe zar zst zah zgd mM fB op ce s.heap.size) [(zmo, .inr (6, [.int mM.1, .int mM.2.1, .int mM.2.2.1, .int (bI mM.2.2.2.1), .int mM.2.2.2.2.1, .int mM.2.2.2.2.2, .ref zar, .ref zbe, .ref zst, .ref zah, .ref zgd])), (zbe, .inl (cJ, 64, .inr (.inl fB)))] → va_S (A_X7_lawn cI cJ zmo zbe zar zst zah zgd mM fB op ce s.heap.size) s.heap H locs → lv_has ls 9 [(4, .long v29)] → W p l e rm_X7_lawn s m args below meth c H locs 0 0 (MQ below (Q_X7_lawn dC dI cI cJ zmo zbe zar zst zah zgd mM fB op ce s.heap.size R) args s 0 0 (A_X7_lawn cI cJ zmo zbe zar zst zah zgd mM fB op ce s.heap.size)) (F0 m 74 ls []) := by
    intro H locs ls hP hD hS hl
    refine lv_lload hx hb dX7_lawn_74 (lv_at hl 0 rfl) ?_
    obtain rfl := Option.some.inj hf
    exact W.lret (v := v29) hx hb hr (fun t ht hW => ⟨⟨v29, (), rfl, rfl, by rw [ht]; exact hP, va_K.moved hW.alike hK, hD⟩, hS.F ht⟩) hS.2.2 dX7_lawn_76
  have lp31 : ∀ (nf : Nat) (y19 : Int64) (y20 : Int64) (H : Heap) (locs : List Loc) (ls : Array Slot), lp_X7_lawn_10 mM fB op nf y19 y20 = some v29 → va_P (dC, dI) vwCl [(zmo, .inr (6, [.int mM.1, .int mM.2.1, .int mM.2.2.1, .int (bI mM.2.2.2.1), .int mM.2.2.2.2.1, .int mM.2.2.2.2.2, .ref zar, .ref zbe, .ref zst, .ref zah, .ref zgd])), (zbe, .inl (cJ, 64, .inr (.inl fB)))] H → va_D (A_X7_lawn cI cJ zmo zbe zar zst zah zgd mM fB op ce s.heap.size) [(zmo, .inr (6, [.int mM.1, .int mM.2.1, .int mM.2.2.1, .int (bI mM.2.2.2.1), .int mM.2.2.2.2.1, .int mM.2.2.2.2.2, .ref zar, .ref zbe, .ref zst, .ref zah, .ref zgd])), (zbe, .inl (cJ, 64, .inr (.inl fB)))] → va_S (A_X7_lawn cI cJ zmo zbe zar zst zah zgd mM fB op ce s.heap.size) s.heap H locs → lv_has ls 9 [(0, .ref zmo), (1, .long op), (4, .long y19), (6, .long y20)] → W p l e rm_X7_lawn s m args below meth c H locs 0 0 (MQ below (Q_X7_lawn dC dI cI cJ zmo zbe zar zst zah zgd mM fB op ce s.heap.size R) args s 0 0 (A_X7_lawn cI cJ zmo zbe zar zst zah zgd mM fB op ce s.heap.size)) (F0 m 10 ls []) := by
    intro nf
    induction nf with
    | zero => intro y19 y20 H locs ls h9; exact nomatch h9
    | succ nf ih32 =>
      intro y19 y20 H locs ls hf hP hD hS hl
      rw [lp_X7_lawn_10.eq_2] at hf
      refine lv_lload hx hb dX7_lawn_10 (lv_at hl 2 rfl) ?_
      refine lv_lload hx hb dX7_lawn_12 (lv_at hl 3 rfl) ?_
      refine W.lcmp hx hb dX7_lawn_14 ?_
      refine lv_if_eq (tgt := 74) hx hb dX7_lawn_15 (by decide) (fun hc => ?_) (fun hc => ?_)
      · have hc := lgz.mp hc
        rw [if_pos hc] at hf
        obtain rfl := Option.some.inj hf
        exact K30 _ _ _ hP hD hS (lv_sub hl [2] rfl)
      · have hc := fun h9 => hc (lgz.mpr h9)
        rw [if_neg hc] at hf
        refine lv_lload hx hb dX7_lawn_18 (lv_at hl 2 rfl) ?_
        refine lv_lstore (lv' := [(6, .long y19), (0, .ref zmo), (1, .long op), (4, .long y19)]) hx hb dX7_lawn_20 hl (by decide) rfl (fun ls hl => ?_)
        refine lv_iconst (v := 0) hx hb dX7_lawn_22 (by decide) ?_
        refine lv_istore (lv' := [(8, .int 0), (6, .long y19), (0, .ref zmo), (1, .long op), (4, .long y19)]) hx hb dX7_lawn_23 hl (by decide) rfl (fun ls hl => ?_)
        obtain ⟨v28, hv, hf⟩ := obind hf
        have K33 : ∀ (H : Heap) (locs : List Loc) (ls : Array Slot), va_P (dC, dI) vwCl [(zmo, .inr (6, [.int mM.1, .int mM.2.1, .int mM.2.2.1, .int (bI mM.2.2.2.1), .int mM.2.2.2.2.1, .int mM.2.2.2.2.2, .ref zar, .ref zbe, .ref zst, .ref zah, .ref zgd])), (zbe, .inl (cJ, 64, .inr (.inl fB)))] H → va_D (A_X7_lawn cI cJ zmo zbe zar zst zah zgd mM fB op ce s.heap.size) [(zmo, .inr (6, [.int mM.1, .int mM.2.1, .int mM.2.2.1, .int (bI mM.2.2.2.1), .int mM.2.2.2.2.1, .int mM.2.2.2.2.2, .ref zar, .ref zbe, .ref zst, .ref zah, .ref zgd])), (zbe, .inl (cJ, 64, .inr (.inl fB)))] → va_S (A_X7_lawn cI cJ zmo zbe zar zst zah zgd mM fB op ce s.heap.size) s.heap H locs → lv_has ls 9 [(0, .ref zmo), (1, .long op), (4, .long v28), (6, .long y19)] → W p l e rm_X7_lawn s m args below meth c H locs 0 0 (MQ below (Q_X7_lawn dC dI cI cJ zmo zbe zar zst zah zgd mM fB op ce s.heap.size R) args s 0 0 (A_X7_lawn cI cJ zmo zbe zar zst zah zgd mM fB op ce s.heap.size)) (F0 m 71 ls []) := by
          intro H locs ls hP hD hS hl
          refine lv_goto (tgt := 10) hx hb dX7_lawn_71 (by decide) ?_
          exact ih32 _ _ _ _ _ hf hP hD hS (lv_sub hl [0, 1, 2, 3] rfl)
        have lp34 : ∀ (nf : Nat) (y25 : Int64) (y26 : Int32) (H : Heap) (locs : List Loc) (ls : Array Slot), lp_X7_lawn_25 mM fB op y19 nf y25 y26 = some v28 → va_P (dC, dI) vwCl [(zmo, .inr (6, [.int mM.1, .int mM.2.1, .int mM.2.2.1, .int (bI mM.2.2.2.1), .int mM.2.2.2.2.1, .int mM.2.2.2.2.2, .ref zar, .ref zbe, .ref zst, .ref zah, .ref zgd])), (zbe, .inl (cJ, 64, .inr (.inl fB)))] H → va_D (A_X7_lawn cI cJ zmo zbe zar zst zah zgd mM fB op ce s.heap.size) [(zmo, .inr (6, [.int mM.1, .int mM.2.1, .int mM.2.2.1, .int (bI mM.2.2.2.1), .int mM.2.2.2.2.1, .int mM.2.2.2.2.2, .ref zar, .ref zbe, .ref zst, .ref zah, .ref zgd])), (zbe, .inl (cJ, 64, .inr (.inl fB)))] → va_S (A_X7_lawn cI cJ zmo zbe zar zst zah zgd mM fB op ce s.heap.size) s.heap H locs → lv_has ls 9 [(0, .ref zmo), (1, .long op), (4, .long y25), (6, .long y19), (8, .int y26)] → W p l e rm_X7_lawn s m args below meth c H locs 0 0 (MQ below (Q_X7_lawn dC dI cI cJ zmo zbe zar zst zah zgd mM fB op ce s.heap.size R) args s 0 0 (A_X7_lawn cI cJ zmo zbe zar zst zah zgd mM fB op ce s.heap.size)) (F0 m 25 ls []) := by
          intro nf
          induction nf with
          | zero => intro y25 y26 H locs ls h9; exact nomatch h9
          | succ nf ih35 =>
            intro y25 y26 H locs ls hf hP hD hS hl
            rw [lp_X7_lawn_25.eq_2] at hf
            refine lv_iload hx hb dX7_lawn_25 (lv_at hl 4 rfl) ?_
            refine lv_aload_n hx hb dX7_lawn_27 rfl (lv_at hl 0 rfl) ?_
            refine va_get (D := (dC, dI)) (ci := 6) (v := .int mM.2.1) (C := RX7) (T := TX7) (N := 11) hx hb hts hinX7 hown hK hP 0 rfl rfl 1 (by decide) hw0 (fun _ h9 => h9) rfl dX7_lawn_28 ?_
            refine lv_aload_n hx hb dX7_lawn_31 rfl (lv_at hl 0 rfl) ?_
            refine va_get (D := (dC, dI)) (ci := 6) (v := .int mM.2.2.1) (C := RX7) (T := TX7) (N := 11) hx hb hts hinX7 hown hK hP 0 rfl rfl 2 (by decide) hw1 (fun _ h9 => h9) rfl dX7_lawn_32 ?_
            refine lv_imul hx hb dX7_lawn_35 ?_
            refine lv_icmp_ge (tgt := 71) hx hb dX7_lawn_36 (by decide) (fun hc => ?_) (fun hc => ?_)
            · rw [if_pos hc] at hf
              obtain rfl := Option.some.inj hf
              exact K33 _ _ _ hP hD hS (lv_sub hl [0, 1, 2, 3] rfl)
            · rw [if_neg hc] at hf
              refine lv_lload hx hb dX7_lawn_39 (lv_at hl 3 rfl) ?_
              refine lv_iload hx hb dX7_lawn_41 (lv_at hl 4 rfl) ?_
              refine lv_lshr (v := (jshr y19 y26)) hx hb dX7_lawn_43 rfl ?_
              refine lv_lconst (v := 1) hx hb dX7_lawn_44 (by decide) ?_
              refine lv_land hx hb dX7_lawn_45 ?_
              refine lv_lconst (v := 1) hx hb dX7_lawn_46 (by decide) ?_
              refine W.lcmp hx hb dX7_lawn_47 ?_
              obtain ⟨v27, hv, hf⟩ := obind hf
              have K36 : ∀ (H : Heap) (locs : List Loc) (ls : Array Slot), va_P (dC, dI) vwCl [(zmo, .inr (6, [.int mM.1, .int mM.2.1, .int mM.2.2.1, .int (bI mM.2.2.2.1), .int mM.2.2.2.2.1, .int mM.2.2.2.2.2, .ref zar, .ref zbe, .ref zst, .ref zah, .ref zgd])), (zbe, .inl (cJ, 64, .inr (.inl fB)))] H → va_D (A_X7_lawn cI cJ zmo zbe zar zst zah zgd mM fB op ce s.heap.size) [(zmo, .inr (6, [.int mM.1, .int mM.2.1, .int mM.2.2.1, .int (bI mM.2.2.2.1), .int mM.2.2.2.2.1, .int mM.2.2.2.2.2, .ref zar, .ref zbe, .ref zst, .ref zah, .ref zgd])), (zbe, .inl (cJ, 64, .inr (.inl fB)))] → va_S (A_X7_lawn cI cJ zmo zbe zar zst zah zgd mM fB op ce s.heap.size) s.heap H locs → lv_has ls 9 [(0, .ref zmo), (1, .long op), (4, .long v27), (6, .long y19), (8, .int y26)] → W p l e rm_X7_lawn s m args below meth c H locs 0 0 (MQ below (Q_X7_lawn dC dI cI cJ zmo zbe zar zst zah zgd mM fB op ce s.heap.size R) args s 0 0 (A_X7_lawn cI cJ zmo zbe zar zst zah zgd mM fB op ce s.heap.size)) (F0 m 65 ls []) := by
                intro H locs ls hP hD hS hl
                refine lv_iinc (v := (y26 + 1)) (lv' := [(8, .int (y26 + 1)), (0, .ref zmo), (1, .long op), (4, .long v27), (6, .long y19)]) hx hb dX7_lawn_65 hl (k := 4) rfl rfl (by decide) rfl (fun ls hl => ?_)
                refine lv_goto (tgt := 25) hx hb dX7_lawn_68 (by decide) ?_
                exact ih35 _ _ _ _ _ hf hP hD hS (lv_sub hl [1, 2, 3, 4, 0] rfl)
              clear hf; have hf := hv; clear hv
              refine lv_if_ne (tgt := 65) hx hb dX7_lawn_48 (by decide) (fun hc => ?_) (fun hc => ?_)
              · have hc := fun h9 => hc (lgz.mpr h9)
                rw [if_neg hc] at hf
                obtain rfl := Option.some.inj hf
                exact K36 _ _ _ hP hD hS (lv_sub hl [0, 1, 2, 3, 4] rfl)
              · have hc := lgz.mp hc
                rw [if_pos hc] at hf
                refine lv_lload hx hb dX7_lawn_51 (lv_at hl 2 rfl) ?_
                refine lv_aload_n hx hb dX7_lawn_53 rfl (lv_at hl 0 rfl) ?_
                refine va_get (D := (dC, dI)) (ci := 6) (v := .ref zbe) (C := RX7) (T := TX7) (N := 11) hx hb hts hinX7 hown hK hP 0 rfl rfl 7 (by decide) hw2 (fun _ h9 => h9) rfl dX7_lawn_54 ?_
                refine lv_iload hx hb dX7_lawn_57 (lv_at hl 4 rfl) ?_
                have hg0 : ¬ (y26 < 0 ∨ 64 ≤ y26.toNatClampNeg) := fun hq => by rw [if_pos hq] at hf; exact nomatch hf
                rw [if_neg hg0] at hf
                have hg : vp_in y26 64 := hg0
                refine va_lald hx hb hK hP 1 1 rfl rfl hg dX7_lawn_59 ?_
                refine lv_lload_n hx hb dX7_lawn_60 rfl (lv_at hl 1 rfl) ?_
                refine lv_land hx hb dX7_lawn_61 ?_
                refine lv_lor hx hb dX7_lawn_62 ?_
                refine lv_lstore (lv' := [(4, .long (y25 ||| ((fB y26.toNatClampNeg) &&& op))), (0, .ref zmo), (1, .long op), (6, .long y19), (8, .int y26)]) hx hb dX7_lawn_63 hl (by decide) rfl (fun ls hl => ?_)
                obtain rfl := Option.some.inj hf
                exact K36 _ _ _ hP hD hS (lv_sub hl [1, 2, 0, 3, 4] rfl)
        exact lp34 100 _ _ _ _ _ hv hP hD hS (lv_sub hl [2, 3, 4, 1, 0] rfl)
  exact lp31 100 _ _ _ _ _ hv hP hD hS (lv_sub hl [2, 3, 1, 0] rfl)
/-! HedgeGlidersModel.lawns(LHedgeGlidersModel$State;I)I -/
def lp_X7_lawns_25 (mM : MoS) (fB : Nat → Int64) (r1 : Int64) : Nat → Int64 → Int32 → Int32 → Int32 → Option (Int32 × Int32 × Int32)
  | 0, _, _, _, _ => none
  | nf + 1, y12, y13, y14, y15 => if y12 = 0 then (some (y13, y14, y15)) else (Option.bind (f_X7_lawn mM fB y12 (f_J13_numberOfTrailingZeros_95d88 y12)) fun r16 => bindv (if y14 < (f_J13_bitCount_95d88 r16) then (f_J13_bitCount_95d88 r16) else y14) fun x17 => bindv (if (r16 &&& r1) = 0 then (1) else (0) : Int32) fun v18 => lp_X7_lawns_25 mM fB r1 nf (y12 &&& (r16 ^^^ (-1))) (y13 + 1) x17 (y15 + v18))
def f_X7_lawns (mM : MoS) (fR : Nat → Int64) (fB : Nat → Int64) (sW : StS) (wh : Int32) : Option (Int32) := Option.bind (f_X7_next mM fR sW.2.2.2) fun r1 => Option.bind (lp_X7_lawns_25 mM fB r1 100 (f_X7_open mM sW) 0 0 0) fun v19 => if wh = 0 then (some v19.1) else (if wh = 1 then (some v19.2.1) else (some v19.2.2))
abbrev rm_X7_lawns : Room := ({ frames := 3, cells := 0, slots := 0, locals := 71 } : Room)
abbrev A_X7_lawns (cI cJ : ClassId) (zmo zar zbe zwo zst zah zgd zwq : Nat) (mM : MoS) (fR : Nat → Int64) (fB : Nat → Int64) (sW : StS) (wh : Int32) (sz : Nat) : Nat → Prop := va_A [(zmo, .inr (6, [.int mM.1, .int mM.2.1, .int mM.2.2.1, .int (bI mM.2.2.2.1), .int mM.2.2.2.2.1, .int mM.2.2.2.2.2, .ref zar, .ref zbe, .ref zst, .ref zah, .ref zgd])), (zar, .inl (cJ, 64, .inr (.inl fR))), (zbe, .inl (cJ, 64, .inr (.inl fB))), (zwo, .inr (5, [.int sW.1, .int sW.2.1, .int sW.2.2.1, .long sW.2.2.2, .ref zwq]))] sz
abbrev Q_X7_lawns (dC : Nat → ClassId) (dI : Nat → Nat → Nat) (cI cJ : ClassId) (zmo zar zbe zwo zst zah zgd zwq : Nat) (mM : MoS) (fR : Nat → Int64) (fB : Nat → Int64) (sW : StS) (wh : Int32) (sz : Nat) (R : Int32) : Array Value → State → Outcome → State → Prop := va_Qi (fun (r : Int32) (_ : Unit) => r = R) (fun u_ t => va_P (dC, dI) vwCl [(zmo, .inr (6, [.int mM.1, .int mM.2.1, .int mM.2.2.1, .int (bI mM.2.2.2.1), .int mM.2.2.2.2.1, .int mM.2.2.2.2.2, .ref zar, .ref zbe, .ref zst, .ref zah, .ref zgd])), (zar, .inl (cJ, 64, .inr (.inl fR))), (zbe, .inl (cJ, 64, .inr (.inl fB))), (zwo, .inr (5, [.int sW.1, .int sW.2.1, .int sW.2.2.1, .long sW.2.2.2, .ref zwq]))] t.heap ∧ va_K (dC, dI) vwCl [(cI, .int), (cJ, .long)] t ∧ va_D (A_X7_lawns cI cJ zmo zar zbe zwo zst zah zgd zwq mM fR fB sW wh sz) [(zmo, .inr (6, [.int mM.1, .int mM.2.1, .int mM.2.2.1, .int (bI mM.2.2.2.1), .int mM.2.2.2.2.1, .int mM.2.2.2.2.2, .ref zar, .ref zbe, .ref zst, .ref zah, .ref zgd])), (zar, .inl (cJ, 64, .inr (.inl fR))), (zbe, .inl (cJ, 64, .inr (.inl fB))), (zwo, .inr (5, [.int sW.1, .int sW.2.1, .int sW.2.2.1, .long sW.2.2.2, .ref zwq]))]) (A_X7_lawns cI cJ zmo zar zbe zwo zst zah zgd zwq mM fR fB sW wh sz)
set_option maxHeartbeats 4000000 in
set_option maxRecDepth 100000 in
theorem c_X7_lawns (l : Launch) (dC : Nat → ClassId) (dI : Nat → Nat → Nat) (cI cJ : ClassId) (zmo zar zbe zwo zst zah zgd zwq : Nat) (sz : Nat) (mM : MoS) (fR : Nat → Int64) (fB : Nat → Int64) (sW : StS) (wh : Int32) (R : Int32) (hR : f_X7_lawns mM fR fB sW wh = some R) : Met l yX7_lawns wsX7_lawns rm_X7_lawns (va_Pc [.ref zmo, .ref zwo, .int wh] (fun U => U.heap.size = sz ∧ va_P (dC, dI) vwCl [(zmo, .inr (6, [.int mM.1, .int mM.2.1, .int mM.2.2.1, .int (bI mM.2.2.2.1), .int mM.2.2.2.2.1, .int mM.2.2.2.2.2, .ref zar, .ref zbe, .ref zst, .ref zah, .ref zgd])), (zar, .inl (cJ, 64, .inr (.inl fR))), (zbe, .inl (cJ, 64, .inr (.inl fB))), (zwo, .inr (5, [.int sW.1, .int sW.2.1, .int sW.2.2.1, .long sW.2.2.2, .ref zwq]))] U.heap ∧ va_K (dC, dI) vwCl [(cI, .int), (cJ, .long)] U ∧ va_D (fun _ => True) [(zmo, .inr (6, [.int mM.1, .int mM.2.1, .int mM.2.2.1, .int (bI mM.2.2.2.1), .int mM.2.2.2.2.1, .int mM.2.2.2.2.2, .ref zar, .ref zbe, .ref zst, .ref zah, .ref zgd])), (zar, .inl (cJ, 64, .inr (.inl fR))), (zbe, .inl (cJ, 64, .inr (.inl fB))), (zwo, .inr (5, [.int sW.1, .int sW.2.1, .int sW.2.2.1, .long sW.2.2.2, .ref zwq]))] ∧ nwM U)) (Q_X7_lawns dC dI cI cJ zmo zar zbe zwo zst zah zgd zwq mM fR fB sW wh sz R) 0 0 (A_X7_lawns cI cJ zmo zar zbe zwo zst zah zgd zwq mM fR fB sW wh sz) := by
  have hf := hR
  refine Met.ofW (cc := cX7_lawns) (maxL := 12) (ret := (some .int)) (by decide) rfl ?_
  intro p e s m args below meth c s₁ B hml hv
  obtain ⟨hargs, hsz, hP, hK, hD0, hnw⟩ := hv
  have hx := B.exec
  have hb := B.bytes
  have hr := B.returns
  have hts := atoms_spec (ws := wsX7_lawns) B.pre
  have hown : s.vm.findClass RX7 = some m.cls := findClass_of_methodNamed B.named
  have hlocks := B.notSynchronized
  subst hsz
  obtain ⟨hnw_hedges, hnw_ages, hnw_born, hnw_dead, hnw_year⟩ := id hnw
  have hD : va_D (A_X7_lawns cI cJ zmo zar zbe zwo zst zah zgd zwq mM fR fB sW wh s.heap.size) [(zmo, .inr (6, [.int mM.1, .int mM.2.1, .int mM.2.2.1, .int (bI mM.2.2.2.1), .int mM.2.2.2.2.1, .int mM.2.2.2.2.2, .ref zar, .ref zbe, .ref zst, .ref zah, .ref zgd])), (zar, .inl (cJ, 64, .inr (.inl fR))), (zbe, .inl (cJ, 64, .inr (.inl fB))), (zwo, .inr (5, [.int sW.1, .int sW.2.1, .int sW.2.2.1, .long sW.2.2.2, .ref zwq]))] := hD0.self (sz := s.heap.size)
  have hA : ∀ q : Nat, s.heap.size ≤ q → (A_X7_lawns cI cJ zmo zar zbe zwo zst zah zgd zwq mM fR fB sW wh s.heap.size) q := fun q h => Or.inr h
  have hS : va_S (A_X7_lawns cI cJ zmo zar zbe zwo zst zah zgd zwq mM fR fB sW wh s.heap.size) s.heap s.heap [] := va_S.rf
  have hinX6 : ∀ w ∈ wsX60, w ∈ wsX7_lawns := by decide +kernel
  have hw0 := hts (.constantLong RX7 97 (-1)) (by decide +kernel)
  have hw1 := hts (.methodLink RX7 116 Lib.Math.max.name) (by decide +kernel)
  have hw2 := hts (.static Lib.Math.max.name) (by decide +kernel)
  have hw3 := hts (.initialized "java/lang/Math") (by decide +kernel)
  have hw4 := hts (.code Lib.Math.max.name Lib.Math.max.code 2 (some .int)) (by decide +kernel)
  have hl := lv_entry ([.ref zmo, .ref zwo, .int wh]) (n := 12) (Nat.le_of_ble_eq_true rfl)
  have he0 : entryFrame m args 12 = entryFrame m ([.ref zmo, .ref zwo, .int wh] : List Value).toArray 12 := by rw [hargs]
  rw [he0, lg_entry_eq]
  generalize (lg_sl ([.ref zmo, .ref zwo, .int wh]) ++ List.replicate (12 - (lg_sl ([.ref zmo, .ref zwo, .int wh])).length) Slot.unset).toArray = ls at hl ⊢
  have hl : lv_has ls 12 [(0, .ref zmo), (1, .ref zwo), (2, .int wh)] := hl
  rw [f_X7_lawns] at hf
  refine lv_aload_n hx hb dX7_lawns_0 rfl (lv_at hl 0 rfl) ?_
  refine lv_aload_n hx hb dX7_lawns_1 rfl (lv_at hl 1 rfl) ?_
  have hPc := hP.sub (ws' := [(zmo, .inr (6, [.int mM.1, .int mM.2.1, .int mM.2.2.1, .int (bI mM.2.2.2.1), .int mM.2.2.2.2.1, .int mM.2.2.2.2.2, .ref zar, .ref zbe, .ref zst, .ref zah, .ref zgd])), (zwo, .inr (5, [.int sW.1, .int sW.2.1, .int sW.2.2.1, .long sW.2.2.2, .ref zwq]))]) [0, 3] rfl
  have hDc := hD.sub (ws' := [(zmo, .inr (6, [.int mM.1, .int mM.2.1, .int mM.2.2.1, .int (bI mM.2.2.2.1), .int mM.2.2.2.2.1, .int mM.2.2.2.2.2, .ref zar, .ref zbe, .ref zst, .ref zah, .ref zgd])), (zwo, .inr (5, [.int sW.1, .int sW.2.1, .int sW.2.2.1, .long sW.2.2.2, .ref zwq]))]) [0, 3] (by decide) rfl
  have hFc := va_free (wc := [(zmo, .inr (6, [.int mM.1, .int mM.2.1, .int mM.2.2.1, .int (bI mM.2.2.2.1), .int mM.2.2.2.2.1, .int mM.2.2.2.2.2, .ref zar, .ref zbe, .ref zst, .ref zah, .ref zgd])), (zwo, .inr (5, [.int sW.1, .int sW.2.1, .int sW.2.2.1, .long sW.2.2.2, .ref zwq]))]) hD hS hA [0, 3] rfl
  refine va_calll (va_runV (As := [.ref zwo]) (rest := []) ⟨hx, hb, hml, hown, hts⟩ (c_X7_open l dC dI cI cJ zmo zwo zar zbe zst zah zgd zwq s.heap.size mM sW) (cwV 1 hts gX7_lawns_X7_open rfl rfl rfl (by decide +kernel) ⟨Nat.le_of_ble_eq_true rfl, Nat.le_of_ble_eq_true rfl⟩) ⟨fun a U gg mk q => by obtain ⟨q0, q1, qP, qK, qD, qn⟩ := q; exact ⟨q0, q1, qP, va_K.moved (u := U) (U := U.calling gg mk a) (Vm.Alike.refl U.vm) qK, qD, nwM.same (u := U) (U := U.calling gg mk a) rfl qn⟩, va_recv hK hPc (ci := 6) (q0 := 0) rfl rfl, fun U hU hW => ⟨rfl, by rw [hU], by rw [hU]; exact hPc, va_K.moved hW.alike hK, hDc.weaken (fun _ _ _ _ => trivial), nwM.moved hW hnw⟩⟩ rfl rfl hl.1 rfl (lv_room (Nat.le_of_ble_eq_true rfl)) dX7_lawns_2 ⟨Nat.zero_le _, Nat.zero_le _⟩) hS (fun q _ h => hFc q h) hFc (fun r_ u_ t H locs ht hvm hw hB hz1 hk1 hS => ?_)
  obtain rfl := hw.symm
  obtain ⟨hP1, -, hD1⟩ := hB
  rw [ht] at hP1
  obtain ⟨hP, hD⟩ := va_join (wr := [(zar, .inl (cJ, 64, .inr (.inl fR))), (zbe, .inl (cJ, 64, .inr (.inl fB)))]) (w1 := [(zmo, .inr (6, [.int mM.1, .int mM.2.1, .int mM.2.2.1, .int (bI mM.2.2.2.1), .int mM.2.2.2.2.1, .int mM.2.2.2.2.2, .ref zar, .ref zbe, .ref zst, .ref zah, .ref zgd])), (zwo, .inr (5, [.int sW.1, .int sW.2.1, .int sW.2.2.1, .long sW.2.2.2, .ref zwq]))]) hP hD [0, 3] [1, 2] rfl rfl (by decide) (by decide) hk1 hFc hP1 hD1
  have hP := hP.sub (ws' := [(zmo, .inr (6, [.int mM.1, .int mM.2.1, .int mM.2.2.1, .int (bI mM.2.2.2.1), .int mM.2.2.2.2.1, .int mM.2.2.2.2.2, .ref zar, .ref zbe, .ref zst, .ref zah, .ref zgd])), (zar, .inl (cJ, 64, .inr (.inl fR))), (zbe, .inl (cJ, 64, .inr (.inl fB))), (zwo, .inr (5, [.int sW.1, .int sW.2.1, .int sW.2.2.1, .long sW.2.2.2, .ref zwq]))]) [2, 0, 1, 3] rfl
  have hD := hD.sub (ws' := [(zmo, .inr (6, [.int mM.1, .int mM.2.1, .int mM.2.2.1, .int (bI mM.2.2.2.1), .int mM.2.2.2.2.1, .int mM.2.2.2.2.2, .ref zar, .ref zbe, .ref zst, .ref zah, .ref zgd])), (zar, .inl (cJ, 64, .inr (.inl fR))), (zbe, .inl (cJ, 64, .inr (.inl fB))), (zwo, .inr (5, [.int sW.1, .int sW.2.1, .int sW.2.2.1, .long sW.2.2.2, .ref zwq]))]) [2, 0, 1, 3] (by decide) rfl
  clear hPc hDc hFc hP1 hD1 hk1
  refine lv_lstore_n (lv' := [(3, .long (f_X7_open mM sW)), (0, .ref zmo), (1, .ref zwo), (2, .int wh)]) hx hb dX7_lawns_5 rfl hl (by decide) rfl (fun ls hl => ?_)
  refine lv_aload_n hx hb dX7_lawns_6 rfl (lv_at hl 1 rfl) ?_
  refine lv_aload_n hx hb dX7_lawns_7 rfl (lv_at hl 2 rfl) ?_
  refine va_getN (D := (dC, dI)) (ci := 5) (v := .long sW.2.2.2) (C := RX6) (T := TX6) (N := 5) hx hb hts hinX6 hown hK hP 3 rfl rfl 3 (by decide) (va_Nw.use rfl hnw_hedges) (fun _ h9 => h9) rfl dX7_lawns_8 ?_
  obtain ⟨r1, hr1, hf⟩ := obind hf
  have hPc := hP.sub (ws' := [(zmo, .inr (6, [.int mM.1, .int mM.2.1, .int mM.2.2.1, .int (bI mM.2.2.2.1), .int mM.2.2.2.2.1, .int mM.2.2.2.2.2, .ref zar, .ref zbe, .ref zst, .ref zah, .ref zgd])), (zar, .inl (cJ, 64, .inr (.inl fR)))]) [0, 1] rfl
  have hDc := hD.sub (ws' := [(zmo, .inr (6, [.int mM.1, .int mM.2.1, .int mM.2.2.1, .int (bI mM.2.2.2.1), .int mM.2.2.2.2.1, .int mM.2.2.2.2.2, .ref zar, .ref zbe, .ref zst, .ref zah, .ref zgd])), (zar, .inl (cJ, 64, .inr (.inl fR)))]) [0, 1] (by decide) rfl
  have hFc := va_free (wc := [(zmo, .inr (6, [.int mM.1, .int mM.2.1, .int mM.2.2.1, .int (bI mM.2.2.2.1), .int mM.2.2.2.2.1, .int mM.2.2.2.2.2, .ref zar, .ref zbe, .ref zst, .ref zah, .ref zgd])), (zar, .inl (cJ, 64, .inr (.inl fR)))]) hD hS hA [0, 1] rfl
  refine va_calll (va_runV (As := [.long sW.2.2.2]) (rest := []) ⟨hx, hb, hml, hown, hts⟩ (c_X7_next l dC dI cI cJ zmo zar zbe zst zah zgd H.size mM fR sW.2.2.2 _ hr1) (cwV 1 hts gX7_lawns_X7_next rfl rfl rfl (by decide +kernel) ⟨Nat.le_of_ble_eq_true rfl, Nat.le_of_ble_eq_true rfl⟩) ⟨fun a U gg mk q => by obtain ⟨q0, q1, qP, qK, qD⟩ := q; exact ⟨q0, q1, qP, va_K.moved (u := U) (U := U.calling gg mk a) (Vm.Alike.refl U.vm) qK, qD⟩, va_recv hK hPc (ci := 6) (q0 := 0) rfl rfl, fun U hU hW => ⟨rfl, by rw [hU], by rw [hU]; exact hPc, va_K.moved hW.alike hK, hDc.weaken (fun _ _ _ _ => trivial)⟩⟩ rfl rfl hl.1 rfl (lv_room (Nat.le_of_ble_eq_true rfl)) dX7_lawns_11 ⟨Nat.zero_le _, Nat.zero_le _⟩) hS (fun q _ h => hFc q h) hFc (fun r_ u_ t H locs ht hvm hw hB hz1 hk1 hS => ?_)
  obtain rfl := hw.symm
  obtain ⟨hP1, -, hD1⟩ := hB
  rw [ht] at hP1
  obtain ⟨hP, hD⟩ := va_join (wr := [(zbe, .inl (cJ, 64, .inr (.inl fB))), (zwo, .inr (5, [.int sW.1, .int sW.2.1, .int sW.2.2.1, .long sW.2.2.2, .ref zwq]))]) (w1 := [(zmo, .inr (6, [.int mM.1, .int mM.2.1, .int mM.2.2.1, .int (bI mM.2.2.2.1), .int mM.2.2.2.2.1, .int mM.2.2.2.2.2, .ref zar, .ref zbe, .ref zst, .ref zah, .ref zgd])), (zar, .inl (cJ, 64, .inr (.inl fR)))]) hP hD [0, 1] [2, 3] rfl rfl (by decide) (by decide) hk1 hFc hP1 hD1
  have hP := hP.sub (ws' := [(zmo, .inr (6, [.int mM.1, .int mM.2.1, .int mM.2.2.1, .int (bI mM.2.2.2.1), .int mM.2.2.2.2.1, .int mM.2.2.2.2.2, .ref zar, .ref zbe, .ref zst, .ref zah, .ref zgd])), (zar, .inl (cJ, 64, .inr (.inl fR))), (zbe, .inl (cJ, 64, .inr (.inl fB))), (zwo, .inr (5, [.int sW.1, .int sW.2.1, .int sW.2.2.1, .long sW.2.2.2, .ref zwq]))]) [2, 3, 0, 1] rfl
  have hD := hD.sub (ws' := [(zmo, .inr (6, [.int mM.1, .int mM.2.1, .int mM.2.2.1, .int (bI mM.2.2.2.1), .int mM.2.2.2.2.1, .int mM.2.2.2.2.2, .ref zar, .ref zbe, .ref zst, .ref zah, .ref zgd])), (zar, .inl (cJ, 64, .inr (.inl fR))), (zbe, .inl (cJ, 64, .inr (.inl fB))), (zwo, .inr (5, [.int sW.1, .int sW.2.1, .int sW.2.2.1, .long sW.2.2.2, .ref zwq]))]) [2, 3, 0, 1] (by decide) rfl
  clear hPc hDc hFc hP1 hD1 hk1
  refine lv_lstore (lv' := [(5, .long r1), (3, .long (f_X7_open mM sW)), (0, .ref zmo), (1, .ref zwo), (2, .int wh)]) hx hb dX7_lawns_14 hl (by decide) rfl (fun ls hl => ?_)
  refine lv_iconst (v := 0) hx hb dX7_lawns_16 (by decide) ?_
  refine lv_istore (lv' := [(7, .int 0), (5, .long r1), (3, .long (f_X7_open mM sW)), (0, .ref zmo), (1, .ref zwo), (2, .int wh)]) hx hb dX7_lawns_17 hl (by decide) rfl (fun ls hl => ?_)
  refine lv_iconst (v := 0) hx hb dX7_lawns_19 (by decide) ?_
  refine lv_istore (lv' := [(8, .int 0), (7, .int 0), (5, .long r1), (3, .long (f_X7_open mM sW)), (0, .ref zmo), (1, .ref zwo), (2, .int wh)]) hx hb dX7_lawns_20 hl (by decide) rfl (fun ls hl => ?_)
  refine lv_iconst (v := 0) hx hb dX7_lawns_22 (by decide) ?_
  refine lv_istore (lv' := [(9, .int 0), (8, .int 0), (7, .int 0), (5, .long r1), (3, .long (f_X7_open mM sW)), (0, .ref zmo), (1, .ref zwo), (2, .int wh)]) hx hb dX7_lawns_23 hl (by decide) rfl (fun ls hl => ?_)
  obtain ⟨v19, hv, hf⟩ := obind hf
  have K20 : ∀ (H : Heap) (locs : List Loc) (ls : Array Slot), va_P (dC, dI) vwCl [(zmo, .inr (6, [.int mM.1, .int mM.2.1, .int mM.2.2.1, .int (bI mM.2.2.2.1), .int mM.2.2.2.2.1, .int mM.2.2.2.2.2, .ref zar, .ref zbe, .ref zst, .ref zah, .ref zgd])), (zar, .inl (cJ, 64, .inr (.inl fR))), (zbe, .inl (cJ, 64, .inr (.inl fB))), (zwo, .inr (5, [.int sW.1, .int sW.2.1, .int sW.2.2.1, .long sW.2.2.2, .ref zwq]))] H → va_D (A_X7_lawns cI cJ zmo zar zbe zwo zst zah zgd zwq mM fR fB sW wh s.heap.size) [(zmo, .inr (6, [.int mM.1, .int mM.2.1, .int mM.2.2.1, .int (bI mM.2.2.2.1), .int mM.2.2.2.2.1, .int mM.2.2.2.2.2, .ref zar, .ref zbe, .ref zst, .ref zah, .ref zgd])), (zar, .inl (cJ, 64, .inr (.inl fR))), (zbe, .inl (cJ, 64, .inr (.inl fB))), (zwo, .inr (5, [.int sW.1, .int sW.2.1, .int sW.2.2.1, .long sW.2.2.2, .ref zwq]))] → va_S (A_X7_lawns cI cJ zmo zar zbe zwo zst zah zgd zwq mM fR fB sW wh s.heap.size) s.heap H locs → lv_has ls 12 [(2, .int wh), (7, .int v19.1), (8, .int v19.2.1), (9, .int v19.2.2)] → W p l e rm_X7_lawns s m args below meth c H locs 0 0 (MQ below (Q_X7_lawns dC dI cI cJ zmo zar zbe zwo zst zah zgd zwq mM fR fB sW wh s.heap.size R) args s 0 0 (A_X7_lawns cI cJ zmo zar zbe zwo zst zah zgd zwq mM fR fB sW wh s.heap.size)) (F0 m 89 ls []) := by
    intro H locs ls hP hD hS hl
    refine lv_iload_n hx hb dX7_lawns_89 rfl (lv_at hl 0 rfl) ?_
    refine lv_if_ne (tgt := 98) hx hb dX7_lawns_90 (by decide) (fun hc => ?_) (fun hc => ?_)
    · rw [if_neg hc] at hf
      refine lv_iload_n hx hb dX7_lawns_98 rfl (lv_at hl 0 rfl) ?_
      refine lv_iconst (v := 1) hx hb dX7_lawns_99 (by decide) ?_
      refine lv_icmp_ne (tgt := 108) hx hb dX7_lawns_100 (by decide) (fun hc => ?_) (fun hc => ?_)
      · rw [if_neg hc] at hf
        refine lv_iload hx hb dX7_lawns_108 (lv_at hl 3 rfl) ?_
        obtain rfl := Option.some.inj hf
        exact W.iret (v := v19.2.2) hx hb hr (fun t ht hW => ⟨⟨v19.2.2, (), rfl, rfl, by rw [ht]; exact hP, va_K.moved hW.alike hK, hD⟩, hS.F ht⟩) hS.2.2 dX7_lawns_110
      · rw [if_pos hc] at hf
        refine lv_iload hx hb dX7_lawns_103 (lv_at hl 2 rfl) ?_
        refine lv_goto (tgt := 110) hx hb dX7_lawns_105 (by decide) ?_
        obtain rfl := Option.some.inj hf
        exact W.iret (v := v19.2.1) hx hb hr (fun t ht hW => ⟨⟨v19.2.1, (), rfl, rfl, by rw [ht]; exact hP, va_K.moved hW.alike hK, hD⟩, hS.F ht⟩) hS.2.2 dX7_lawns_110
    · rw [if_pos hc] at hf
      refine lv_iload hx hb dX7_lawns_93 (lv_at hl 1 rfl) ?_
      refine lv_goto (tgt := 110) hx hb dX7_lawns_95 (by decide) ?_
      obtain rfl := Option.some.inj hf
      exact W.iret (v := v19.1) hx hb hr (fun t ht hW => ⟨⟨v19.1, (), rfl, rfl, by rw [ht]; exact hP, va_K.moved hW.alike hK, hD⟩, hS.F ht⟩) hS.2.2 dX7_lawns_110
  have lp21 : ∀ (nf : Nat) (y12 : Int64) (y13 : Int32) (y14 : Int32) (y15 : Int32) (H : Heap) (locs : List Loc) (ls : Array Slot), lp_X7_lawns_25 mM fB r1 nf y12 y13 y14 y15 = some v19 → va_P (dC, dI) vwCl [(zmo, .inr (6, [.int mM.1, .int mM.2.1, .int mM.2.2.1, .int (bI mM.2.2.2.1), .int mM.2.2.2.2.1, .int mM.2.2.2.2.2, .ref zar, .ref zbe, .ref zst, .ref zah, .ref zgd])), (zar, .inl (cJ, 64, .inr (.inl fR))), (zbe, .inl (cJ, 64, .inr (.inl fB))), (zwo, .inr (5, [.int sW.1, .int sW.2.1, .int sW.2.2.1, .long sW.2.2.2, .ref zwq]))] H → va_D (A_X7_lawns cI cJ zmo zar zbe zwo zst zah zgd zwq mM fR fB sW wh s.heap.size) [(zmo, .inr (6, [.int mM.1, .int mM.2.1, .int mM.2.2.1, .int (bI mM.2.2.2.1), .int mM.2.2.2.2.1, .int mM.2.2.2.2.2, .ref zar, .ref zbe, .ref zst, .ref zah, .ref zgd])), (zar, .inl (cJ, 64, .inr (.inl fR))), (zbe, .inl (cJ, 64, .inr (.inl fB))), (zwo, .inr (5, [.int sW.1, .int sW.2.1, .int sW.2.2.1, .long sW.2.2.2, .ref zwq]))] → va_S (A_X7_lawns cI cJ zmo zar zbe zwo zst zah zgd zwq mM fR fB sW wh s.heap.size) s.heap H locs → lv_has ls 12 [(0, .ref zmo), (2, .int wh), (3, .long y12), (5, .long r1), (7, .int y13), (8, .int y14), (9, .int y15)] → W p l e rm_X7_lawns s m args below meth c H locs 0 0 (MQ below (Q_X7_lawns dC dI cI cJ zmo zar zbe zwo zst zah zgd zwq mM fR fB sW wh s.heap.size R) args s 0 0 (A_X7_lawns cI cJ zmo zar zbe zwo zst zah zgd zwq mM fR fB sW wh s.heap.size)) (F0 m 25 ls []) := by
    intro nf
    induction nf with
    | zero => intro y12 y13 y14 y15 H locs ls h9; exact nomatch h9
    | succ nf ih22 =>
      intro y12 y13 y14 y15 H locs ls hf hP hD hS hl
      rw [lp_X7_lawns_25.eq_2] at hf
      refine lv_lload_n hx hb dX7_lawns_25 rfl (lv_at hl 2 rfl) ?_
      refine lv_lconst (v := 0) hx hb dX7_lawns_26 (by decide) ?_
      refine W.lcmp hx hb dX7_lawns_27 ?_
      refine lv_if_eq (tgt := 89) hx hb dX7_lawns_28 (by decide) (fun hc => ?_) (fun hc => ?_)
      · have hc := lgz.mp hc
        rw [if_pos hc] at hf
        obtain rfl := Option.some.inj hf
        exact K20 _ _ _ hP hD hS (lv_sub hl [1, 4, 5, 6] rfl)
      · have hc := fun h9 => hc (lgz.mpr h9)
        rw [if_neg hc] at hf
        refine lv_aload_n hx hb dX7_lawns_31 rfl (lv_at hl 0 rfl) ?_
        refine lv_lload_n hx hb dX7_lawns_32 rfl (lv_at hl 2 rfl) ?_
        refine lv_lload_n hx hb dX7_lawns_33 rfl (lv_at hl 2 rfl) ?_
        have hPc := hP.sub (ws' := []) [] rfl
        have hDc := hD.sub (ws' := []) [] (by decide) rfl
        have hFc := va_free (wc := []) hD hS hA [] rfl
        refine va_calli (va_runS (As := [.long y12]) (rest := [.long y12, .ref zmo]) ⟨hx, hb, hml, hown, hts⟩ (c_J13_numberOfTrailingZeros_95d88 l dC dI cI cJ  H.size y12) (va_cwS 1 hts gX7_lawns_J13_numberOfTrailingZeros_95d88 rfl rfl rfl (by decide +kernel) ⟨Nat.le_of_ble_eq_true rfl, Nat.le_of_ble_eq_true rfl⟩) ⟨fun a U gg mk q => by obtain ⟨q0, q1, qP, qK, qD⟩ := q; exact ⟨q0, q1, qP, va_K.moved (u := U) (U := U.calling gg mk a) (Vm.Alike.refl U.vm) qK, qD⟩, fun U hU hW => ⟨rfl, by rw [hU], by rw [hU]; exact hPc, va_K.moved hW.alike hK, hDc.weaken (fun _ _ _ _ => trivial)⟩⟩ rfl rfl hl.1 rfl (lv_room (Nat.le_of_ble_eq_true rfl)) dX7_lawns_34 ⟨Nat.zero_le _, Nat.zero_le _⟩) hS (fun q _ h => hFc q h) hFc (fun r_ u_ t H locs ht hvm hw hB hz1 hk1 hS => ?_)
        obtain rfl := hw.symm
        obtain ⟨hP1, -, hD1⟩ := hB
        rw [ht] at hP1
        obtain ⟨hP, hD⟩ := va_join (wr := [(zmo, .inr (6, [.int mM.1, .int mM.2.1, .int mM.2.2.1, .int (bI mM.2.2.2.1), .int mM.2.2.2.2.1, .int mM.2.2.2.2.2, .ref zar, .ref zbe, .ref zst, .ref zah, .ref zgd])), (zar, .inl (cJ, 64, .inr (.inl fR))), (zbe, .inl (cJ, 64, .inr (.inl fB))), (zwo, .inr (5, [.int sW.1, .int sW.2.1, .int sW.2.2.1, .long sW.2.2.2, .ref zwq]))]) (w1 := []) hP hD [] [0, 1, 2, 3] rfl rfl (by decide) (by decide) hk1 hFc hP1 hD1
        have hP := hP.sub (ws' := [(zmo, .inr (6, [.int mM.1, .int mM.2.1, .int mM.2.2.1, .int (bI mM.2.2.2.1), .int mM.2.2.2.2.1, .int mM.2.2.2.2.2, .ref zar, .ref zbe, .ref zst, .ref zah, .ref zgd])), (zar, .inl (cJ, 64, .inr (.inl fR))), (zbe, .inl (cJ, 64, .inr (.inl fB))), (zwo, .inr (5, [.int sW.1, .int sW.2.1, .int sW.2.2.1, .long sW.2.2.2, .ref zwq]))]) [0, 1, 2, 3] rfl
        have hD := hD.sub (ws' := [(zmo, .inr (6, [.int mM.1, .int mM.2.1, .int mM.2.2.1, .int (bI mM.2.2.2.1), .int mM.2.2.2.2.1, .int mM.2.2.2.2.2, .ref zar, .ref zbe, .ref zst, .ref zah, .ref zgd])), (zar, .inl (cJ, 64, .inr (.inl fR))), (zbe, .inl (cJ, 64, .inr (.inl fB))), (zwo, .inr (5, [.int sW.1, .int sW.2.1, .int sW.2.2.1, .long sW.2.2.2, .ref zwq]))]) [0, 1, 2, 3] (by decide) rfl
        clear hPc hDc hFc hP1 hD1 hk1
        obtain ⟨r16, hr16, hf⟩ := obind hf
        have hPc := hP.sub (ws' := [(zmo, .inr (6, [.int mM.1, .int mM.2.1, .int mM.2.2.1, .int (bI mM.2.2.2.1), .int mM.2.2.2.2.1, .int mM.2.2.2.2.2, .ref zar, .ref zbe, .ref zst, .ref zah, .ref zgd])), (zbe, .inl (cJ, 64, .inr (.inl fB)))]) [0, 2] rfl
        have hDc := hD.sub (ws' := [(zmo, .inr (6, [.int mM.1, .int mM.2.1, .int mM.2.2.1, .int (bI mM.2.2.2.1), .int mM.2.2.2.2.1, .int mM.2.2.2.2.2, .ref zar, .ref zbe, .ref zst, .ref zah, .ref zgd])), (zbe, .inl (cJ, 64, .inr (.inl fB)))]) [0, 2] (by decide) rfl
        have hFc := va_free (wc := [(zmo, .inr (6, [.int mM.1, .int mM.2.1, .int mM.2.2.1, .int (bI mM.2.2.2.1), .int mM.2.2.2.2.1, .int mM.2.2.2.2.2, .ref zar, .ref zbe, .ref zst, .ref zah, .ref zgd])), (zbe, .inl (cJ, 64, .inr (.inl fB)))]) hD hS hA [0, 2] rfl
        refine va_calll (va_runV (As := [.long y12, .int (f_J13_numberOfTrailingZeros_95d88 y12)]) (rest := []) ⟨hx, hb, hml, hown, hts⟩ (c_X7_lawn l dC dI cI cJ zmo zbe zar zst zah zgd H.size mM fB y12 (f_J13_numberOfTrailingZeros_95d88 y12) _ hr16) (cwV 2 hts gX7_lawns_X7_lawn rfl rfl rfl (by decide +kernel) ⟨Nat.le_of_ble_eq_true rfl, Nat.le_of_ble_eq_true rfl⟩) ⟨fun a U gg mk q => by obtain ⟨q0, q1, qP, qK, qD⟩ := q; exact ⟨q0, q1, qP, va_K.moved (u := U) (U := U.calling gg mk a) (Vm.Alike.refl U.vm) qK, qD⟩, va_recv hK hPc (ci := 6) (q0 := 0) rfl rfl, fun U hU hW => ⟨rfl, by rw [hU], by rw [hU]; exact hPc, va_K.moved hW.alike hK, hDc.weaken (fun _ _ _ _ => trivial)⟩⟩ rfl rfl hl.1 rfl (lv_room (Nat.le_of_ble_eq_true rfl)) dX7_lawns_37 ⟨Nat.zero_le _, Nat.zero_le _⟩) hS (fun q _ h => hFc q h) hFc (fun r_ u_ t H locs ht hvm hw hB hz1 hk1 hS => ?_)
        obtain rfl := hw.symm
        obtain ⟨hP1, -, hD1⟩ := hB
        rw [ht] at hP1
        obtain ⟨hP, hD⟩ := va_join (wr := [(zar, .inl (cJ, 64, .inr (.inl fR))), (zwo, .inr (5, [.int sW.1, .int sW.2.1, .int sW.2.2.1, .long sW.2.2.2, .ref zwq]))]) (w1 := [(zmo, .inr (6, [.int mM.1, .int mM.2.1, .int mM.2.2.1, .int (bI mM.2.2.2.1), .int mM.2.2.2.2.1, .int mM.2.2.2.2.2, .ref zar, .ref zbe, .ref zst, .ref zah, .ref zgd])), (zbe, .inl (cJ, 64, .inr (.inl fB)))]) hP hD [0, 2] [1, 3] rfl rfl (by decide) (by decide) hk1 hFc hP1 hD1
        have hP := hP.sub (ws' := [(zmo, .inr (6, [.int mM.1, .int mM.2.1, .int mM.2.2.1, .int (bI mM.2.2.2.1), .int mM.2.2.2.2.1, .int mM.2.2.2.2.2, .ref zar, .ref zbe, .ref zst, .ref zah, .ref zgd])), (zar, .inl (cJ, 64, .inr (.inl fR))), (zbe, .inl (cJ, 64, .inr (.inl fB))), (zwo, .inr (5, [.int sW.1, .int sW.2.1, .int sW.2.2.1, .long sW.2.2.2, .ref zwq]))]) [2, 0, 3, 1] rfl
        have hD := hD.sub (ws' := [(zmo, .inr (6, [.int mM.1, .int mM.2.1, .int mM.2.2.1, .int (bI mM.2.2.2.1), .int mM.2.2.2.2.1, .int mM.2.2.2.2.2, .ref zar, .ref zbe, .ref zst, .ref zah, .ref zgd])), (zar, .inl (cJ, 64, .inr (.inl fR))), (zbe, .inl (cJ, 64, .inr (.inl fB))), (zwo, .inr (5, [.int sW.1, .int sW.2.1, .int sW.2.2.1, .long sW.2.2.2, .ref zwq]))]) [2, 0, 3, 1] (by decide) rfl
        clear hPc hDc hFc hP1 hD1 hk1
        refine lv_lstore (lv' := [(10, .long r16), (0, .ref zmo), (2, .int wh), (3, .long y12), (5, .long r1), (7, .int y13), (8, .int y14), (9, .int y15)]) hx hb dX7_lawns_40 hl (by decide) rfl (fun ls hl => ?_)
        refine lv_lload_n hx hb dX7_lawns_42 rfl (lv_at hl 3 rfl) ?_
        refine lv_lload hx hb dX7_lawns_43 (lv_at hl 0 rfl) ?_
        refine lv_ldc2 (v := (-1)) hx hb hown hw0 dX7_lawns_45 ?_
        refine lv_lxor hx hb dX7_lawns_48 ?_
        refine lv_land hx hb dX7_lawns_49 ?_
        refine lv_lstore_n (lv' := [(3, .long (y12 &&& (r16 ^^^ (-1)))), (10, .long r16), (0, .ref zmo), (2, .int wh), (5, .long r1), (7, .int y13), (8, .int y14), (9, .int y15)]) hx hb dX7_lawns_50 rfl hl (by decide) rfl (fun ls hl => ?_)
        refine lv_iinc (v := (y13 + 1)) (lv' := [(7, .int (y13 + 1)), (3, .long (y12 &&& (r16 ^^^ (-1)))), (10, .long r16), (0, .ref zmo), (2, .int wh), (5, .long r1), (8, .int y14), (9, .int y15)]) hx hb dX7_lawns_51 hl (k := 5) rfl rfl (by decide) rfl (fun ls hl => ?_)
        refine lv_iload hx hb dX7_lawns_54 (lv_at hl 6 rfl) ?_
        refine lv_lload hx hb dX7_lawns_56 (lv_at hl 2 rfl) ?_
        have hPc := hP.sub (ws' := []) [] rfl
        have hDc := hD.sub (ws' := []) [] (by decide) rfl
        have hFc := va_free (wc := []) hD hS hA [] rfl
        refine va_calli (va_runS (As := [.long r16]) (rest := [.int y14]) ⟨hx, hb, hml, hown, hts⟩ (c_J13_bitCount_95d88 l dC dI cI cJ  H.size r16) (va_cwS 1 hts gX7_lawns_J13_bitCount_95d88 rfl rfl rfl (by decide +kernel) ⟨Nat.le_of_ble_eq_true rfl, Nat.le_of_ble_eq_true rfl⟩) ⟨fun a U gg mk q => by obtain ⟨q0, q1, qP, qK, qD⟩ := q; exact ⟨q0, q1, qP, va_K.moved (u := U) (U := U.calling gg mk a) (Vm.Alike.refl U.vm) qK, qD⟩, fun U hU hW => ⟨rfl, by rw [hU], by rw [hU]; exact hPc, va_K.moved hW.alike hK, hDc.weaken (fun _ _ _ _ => trivial)⟩⟩ rfl rfl hl.1 rfl (lv_room (Nat.le_of_ble_eq_true rfl)) dX7_lawns_58 ⟨Nat.zero_le _, Nat.zero_le _⟩) hS (fun q _ h => hFc q h) hFc (fun r_ u_ t H locs ht hvm hw hB hz1 hk1 hS => ?_)
        obtain rfl := hw.symm
        obtain ⟨hP1, -, hD1⟩ := hB
        rw [ht] at hP1
        obtain ⟨hP, hD⟩ := va_join (wr := [(zmo, .inr (6, [.int mM.1, .int mM.2.1, .int mM.2.2.1, .int (bI mM.2.2.2.1), .int mM.2.2.2.2.1, .int mM.2.2.2.2.2, .ref zar, .ref zbe, .ref zst, .ref zah, .ref zgd])), (zar, .inl (cJ, 64, .inr (.inl fR))), (zbe, .inl (cJ, 64, .inr (.inl fB))), (zwo, .inr (5, [.int sW.1, .int sW.2.1, .int sW.2.2.1, .long sW.2.2.2, .ref zwq]))]) (w1 := []) hP hD [] [0, 1, 2, 3] rfl rfl (by decide) (by decide) hk1 hFc hP1 hD1
        have hP := hP.sub (ws' := [(zmo, .inr (6, [.int mM.1, .int mM.2.1, .int mM.2.2.1, .int (bI mM.2.2.2.1), .int mM.2.2.2.2.1, .int mM.2.2.2.2.2, .ref zar, .ref zbe, .ref zst, .ref zah, .ref zgd])), (zar, .inl (cJ, 64, .inr (.inl fR))), (zbe, .inl (cJ, 64, .inr (.inl fB))), (zwo, .inr (5, [.int sW.1, .int sW.2.1, .int sW.2.2.1, .long sW.2.2.2, .ref zwq]))]) [0, 1, 2, 3] rfl
        have hD := hD.sub (ws' := [(zmo, .inr (6, [.int mM.1, .int mM.2.1, .int mM.2.2.1, .int (bI mM.2.2.2.1), .int mM.2.2.2.2.1, .int mM.2.2.2.2.2, .ref zar, .ref zbe, .ref zst, .ref zah, .ref zgd])), (zar, .inl (cJ, 64, .inr (.inl fR))), (zbe, .inl (cJ, 64, .inr (.inl fB))), (zwo, .inr (5, [.int sW.1, .int sW.2.1, .int sW.2.2.1, .long sW.2.2.2, .ref zwq]))]) [0, 1, 2, 3] (by decide) rfl
        clear hPc hDc hFc hP1 hD1 hk1
        refine va_mmax hx hb (hml.trans hl.1.symm) hown hw1 hw2 hw3 hw4 (Nat.le_of_ble_eq_true rfl) (Nat.le_of_ble_eq_true rfl) (Nat.zero_le _) (Nat.zero_le _) dX7_lawns_61 ?_
        obtain ⟨x17, hx17, hf⟩ := vbind hf
        refine topi_e hx17 ?_
        refine lv_istore (lv' := [(8, .int x17), (7, .int (y13 + 1)), (3, .long (y12 &&& (r16 ^^^ (-1)))), (10, .long r16), (0, .ref zmo), (2, .int wh), (5, .long r1), (9, .int y15)]) hx hb dX7_lawns_64 hl (by decide) rfl (fun ls hl => ?_)
        refine lv_iload hx hb dX7_lawns_66 (lv_at hl 7 rfl) ?_
        refine lv_lload hx hb dX7_lawns_68 (lv_at hl 3 rfl) ?_
        refine lv_lload hx hb dX7_lawns_70 (lv_at hl 6 rfl) ?_
        refine lv_land hx hb dX7_lawns_72 ?_
        refine lv_lconst (v := 0) hx hb dX7_lawns_73 (by decide) ?_
        refine W.lcmp hx hb dX7_lawns_74 ?_
        obtain ⟨v18, hv, hf⟩ := vbind hf
        have K23 : ∀ (H : Heap) (locs : List Loc) (ls : Array Slot), va_P (dC, dI) vwCl [(zmo, .inr (6, [.int mM.1, .int mM.2.1, .int mM.2.2.1, .int (bI mM.2.2.2.1), .int mM.2.2.2.2.1, .int mM.2.2.2.2.2, .ref zar, .ref zbe, .ref zst, .ref zah, .ref zgd])), (zar, .inl (cJ, 64, .inr (.inl fR))), (zbe, .inl (cJ, 64, .inr (.inl fB))), (zwo, .inr (5, [.int sW.1, .int sW.2.1, .int sW.2.2.1, .long sW.2.2.2, .ref zwq]))] H → va_D (A_X7_lawns cI cJ zmo zar zbe zwo zst zah zgd zwq mM fR fB sW wh s.heap.size) [(zmo, .inr (6, [.int mM.1, .int mM.2.1, .int mM.2.2.1, .int (bI mM.2.2.2.1), .int mM.2.2.2.2.1, .int mM.2.2.2.2.2, .ref zar, .ref zbe, .ref zst, .ref zah, .ref zgd])), (zar, .inl (cJ, 64, .inr (.inl fR))), (zbe, .inl (cJ, 64, .inr (.inl fB))), (zwo, .inr (5, [.int sW.1, .int sW.2.1, .int sW.2.2.1, .long sW.2.2.2, .ref zwq]))] → va_S (A_X7_lawns cI cJ zmo zar zbe zwo zst zah zgd zwq mM fR fB sW wh s.heap.size) s.heap H locs → lv_has ls 12 [(0, .ref zmo), (2, .int wh), (3, .long (y12 &&& (r16 ^^^ (-1)))), (5, .long r1), (7, .int (y13 + 1)), (8, .int x17)] → W p l e rm_X7_lawns s m args below meth c H locs 0 0 (MQ below (Q_X7_lawns dC dI cI cJ zmo zar zbe zwo zst zah zgd zwq mM fR fB sW wh s.heap.size R) args s 0 0 (A_X7_lawns cI cJ zmo zar zbe zwo zst zah zgd zwq mM fR fB sW wh s.heap.size)) (F0 m 83 ls [.int v18, .int y15]) := by
          intro H locs ls hP hD hS hl
          refine lv_iadd hx hb dX7_lawns_83 ?_
          refine lv_istore (lv' := [(9, .int (y15 + v18)), (0, .ref zmo), (2, .int wh), (3, .long (y12 &&& (r16 ^^^ (-1)))), (5, .long r1), (7, .int (y13 + 1)), (8, .int x17)]) hx hb dX7_lawns_84 hl (by decide) rfl (fun ls hl => ?_)
          refine lv_goto (tgt := 25) hx hb dX7_lawns_86 (by decide) ?_
          exact ih22 _ _ _ _ _ _ _ hf hP hD hS (lv_sub hl [1, 2, 3, 4, 5, 6, 0] rfl)
        clear hf; have hf := hv; clear hv
        refine lv_if_ne (tgt := 82) hx hb dX7_lawns_75 (by decide) (fun hc => ?_) (fun hc => ?_)
        · have hc := fun h9 => hc (lgz.mpr h9)
          rw [if_neg hc] at hf
          refine lv_iconst (v := 0) hx hb dX7_lawns_82 (by decide) ?_
          obtain rfl := hf
          exact K23 _ _ _ hP hD hS (lv_sub hl [4, 5, 2, 6, 1, 0] rfl)
        · have hc := lgz.mp hc
          rw [if_pos hc] at hf
          refine lv_iconst (v := 1) hx hb dX7_lawns_78 (by decide) ?_
          refine lv_goto (tgt := 83) hx hb dX7_lawns_79 (by decide) ?_
          obtain rfl := hf
          exact K23 _ _ _ hP hD hS (lv_sub hl [4, 5, 2, 6, 1, 0] rfl)
  exact lp21 100 _ _ _ _ _ _ _ hv hP hD hS (lv_sub hl [5, 7, 4, 3, 2, 1, 0] rfl)
/-! HedgeGlidersModel.oldest(LHedgeGlidersModel$State;)I -/
def lp_X7_oldest_4 (mM : MoS) (sW : StS) (aW : Nat → Int32) : Nat → Int32 → Int32 → Option (Int32)
  | 0, _, _ => none
  | nf + 1, y6, y7 => if (mM.2.1 * mM.2.2.1) ≤ y7 then (some y6) else (Option.bind (if (f_X6_has sW y7) = 0 then (some y6) else (if y7 < 0 ∨ 64 ≤ y7.toNatClampNeg then none else some (if y6 < (aW y7.toNatClampNeg) then (aW y7.toNatClampNeg) else y6)) : Option (Int32)) fun v8 => lp_X7_oldest_4 mM sW aW nf v8 (y7 + 1))
def f_X7_oldest (mM : MoS) (sW : StS) (aW : Nat → Int32) : Option (Int32) := Option.bind (lp_X7_oldest_4 mM sW aW 100 (-1) 0) fun v9 => some v9
abbrev rm_X7_oldest : Room := ({ frames := 1, cells := 0, slots := 0, locals := 21 } : Room)
abbrev A_X7_oldest (cI cJ : ClassId) (zmo zwo zwq zar zbe zst zah zgd : Nat) (mM : MoS) (sW : StS) (aW : Nat → Int32) (sz : Nat) : Nat → Prop := va_A [(zmo, .inr (6, [.int mM.1, .int mM.2.1, .int mM.2.2.1, .int (bI mM.2.2.2.1), .int mM.2.2.2.2.1, .int mM.2.2.2.2.2, .ref zar, .ref zbe, .ref zst, .ref zah, .ref zgd])), (zwo, .inr (5, [.int sW.1, .int sW.2.1, .int sW.2.2.1, .long sW.2.2.2, .ref zwq])), (zwq, .inl (cI, 64, .inl aW))] sz
abbrev Q_X7_oldest (dC : Nat → ClassId) (dI : Nat → Nat → Nat) (cI cJ : ClassId) (zmo zwo zwq zar zbe zst zah zgd : Nat) (mM : MoS) (sW : StS) (aW : Nat → Int32) (sz : Nat) (R : Int32) : Array Value → State → Outcome → State → Prop := va_Qi (fun (r : Int32) (_ : Unit) => r = R) (fun u_ t => va_P (dC, dI) vwCl [(zmo, .inr (6, [.int mM.1, .int mM.2.1, .int mM.2.2.1, .int (bI mM.2.2.2.1), .int mM.2.2.2.2.1, .int mM.2.2.2.2.2, .ref zar, .ref zbe, .ref zst, .ref zah, .ref zgd])), (zwo, .inr (5, [.int sW.1, .int sW.2.1, .int sW.2.2.1, .long sW.2.2.2, .ref zwq])), (zwq, .inl (cI, 64, .inl aW))] t.heap ∧ va_K (dC, dI) vwCl [(cI, .int), (cJ, .long)] t ∧ va_D (A_X7_oldest cI cJ zmo zwo zwq zar zbe zst zah zgd mM sW aW sz) [(zmo, .inr (6, [.int mM.1, .int mM.2.1, .int mM.2.2.1, .int (bI mM.2.2.2.1), .int mM.2.2.2.2.1, .int mM.2.2.2.2.2, .ref zar, .ref zbe, .ref zst, .ref zah, .ref zgd])), (zwo, .inr (5, [.int sW.1, .int sW.2.1, .int sW.2.2.1, .long sW.2.2.2, .ref zwq])), (zwq, .inl (cI, 64, .inl aW))]) (A_X7_oldest cI cJ zmo zwo zwq zar zbe zst zah zgd mM sW aW sz)
set_option maxHeartbeats 4000000 in
set_option maxRecDepth 100000 in
theorem c_X7_oldest (l : Launch) (dC : Nat → ClassId) (dI : Nat → Nat → Nat) (cI cJ : ClassId) (zmo zwo zwq zar zbe zst zah zgd : Nat) (sz : Nat) (mM : MoS) (sW : StS) (aW : Nat → Int32) (R : Int32) (hR : f_X7_oldest mM sW aW = some R) : Met l yX7_oldest wsX7_oldest rm_X7_oldest (va_Pc [.ref zmo, .ref zwo] (fun U => U.heap.size = sz ∧ va_P (dC, dI) vwCl [(zmo, .inr (6, [.int mM.1, .int mM.2.1, .int mM.2.2.1, .int (bI mM.2.2.2.1), .int mM.2.2.2.2.1, .int mM.2.2.2.2.2, .ref zar, .ref zbe, .ref zst, .ref zah, .ref zgd])), (zwo, .inr (5, [.int sW.1, .int sW.2.1, .int sW.2.2.1, .long sW.2.2.2, .ref zwq])), (zwq, .inl (cI, 64, .inl aW))] U.heap ∧ va_K (dC, dI) vwCl [(cI, .int), (cJ, .long)] U ∧ va_D (fun _ => True) [(zmo, .inr (6, [.int mM.1, .int mM.2.1, .int mM.2.2.1, .int (bI mM.2.2.2.1), .int mM.2.2.2.2.1, .int mM.2.2.2.2.2, .ref zar, .ref zbe, .ref zst, .ref zah, .ref zgd])), (zwo, .inr (5, [.int sW.1, .int sW.2.1, .int sW.2.2.1, .long sW.2.2.2, .ref zwq])), (zwq, .inl (cI, 64, .inl aW))] ∧ nwM U)) (Q_X7_oldest dC dI cI cJ zmo zwo zwq zar zbe zst zah zgd mM sW aW sz R) 0 0 (A_X7_oldest cI cJ zmo zwo zwq zar zbe zst zah zgd mM sW aW sz) := by
  have hf := hR
  refine Met.ofW (cc := cX7_oldest) (maxL := 4) (ret := (some .int)) (by decide) rfl ?_
  intro p e s m args below meth c s₁ B hml hv
  obtain ⟨hargs, hsz, hP, hK, hD0, hnw⟩ := hv
  have hx := B.exec
  have hb := B.bytes
  have hr := B.returns
  have hts := atoms_spec (ws := wsX7_oldest) B.pre
  have hown : s.vm.findClass RX7 = some m.cls := findClass_of_methodNamed B.named
  have hlocks := B.notSynchronized
  subst hsz
  obtain ⟨hnw_hedges, hnw_ages, hnw_born, hnw_dead, hnw_year⟩ := id hnw
  have hD : va_D (A_X7_oldest cI cJ zmo zwo zwq zar zbe zst zah zgd mM sW aW s.heap.size) [(zmo, .inr (6, [.int mM.1, .int mM.2.1, .int mM.2.2.1, .int (bI mM.2.2.2.1), .int mM.2.2.2.2.1, .int mM.2.2.2.2.2, .ref zar, .ref zbe, .ref zst, .ref zah, .ref zgd])), (zwo, .inr (5, [.int sW.1, .int sW.2.1, .int sW.2.2.1, .long sW.2.2.2, .ref zwq])), (zwq, .inl (cI, 64, .inl aW))] := hD0.self (sz := s.heap.size)
  have hA : ∀ q : Nat, s.heap.size ≤ q → (A_X7_oldest cI cJ zmo zwo zwq zar zbe zst zah zgd mM sW aW s.heap.size) q := fun q h => Or.inr h
  have hS : va_S (A_X7_oldest cI cJ zmo zwo zwq zar zbe zst zah zgd mM sW aW s.heap.size) s.heap s.heap [] := va_S.rf
  have hinX6 : ∀ w ∈ wsX60, w ∈ wsX7_oldest := by decide +kernel
  have hinX7 : ∀ w ∈ wsX70, w ∈ wsX7_oldest := by decide +kernel
  have hw0 := hts (.fieldLink RX7 9 "HedgeGlidersModel" "w" "I") (by decide +kernel)
  have hw1 := hts (.fieldLink RX7 13 "HedgeGlidersModel" "h" "I") (by decide +kernel)
  have hw2 := hts (.methodLink RX7 116 Lib.Math.max.name) (by decide +kernel)
  have hw3 := hts (.static Lib.Math.max.name) (by decide +kernel)
  have hw4 := hts (.initialized "java/lang/Math") (by decide +kernel)
  have hw5 := hts (.code Lib.Math.max.name Lib.Math.max.code 2 (some .int)) (by decide +kernel)
  have hl := lv_entry ([.ref zmo, .ref zwo]) (n := 4) (Nat.le_of_ble_eq_true rfl)
  have he0 : entryFrame m args 4 = entryFrame m ([.ref zmo, .ref zwo] : List Value).toArray 4 := by rw [hargs]
  rw [he0, lg_entry_eq]
  generalize (lg_sl ([.ref zmo, .ref zwo]) ++ List.replicate (4 - (lg_sl ([.ref zmo, .ref zwo])).length) Slot.unset).toArray = ls at hl ⊢
  have hl : lv_has ls 4 [(0, .ref zmo), (1, .ref zwo)] := hl
  rw [f_X7_oldest] at hf
  refine lv_iconst (v := (-1)) hx hb dX7_oldest_0 (by decide) ?_
  refine lv_istore_n (lv' := [(2, .int (-1)), (0, .ref zmo), (1, .ref zwo)]) hx hb dX7_oldest_1 rfl hl (by decide) rfl (fun ls hl => ?_)
  refine lv_iconst (v := 0) hx hb dX7_oldest_2 (by decide) ?_
  refine lv_istore_n (lv' := [(3, .int 0), (2, .int (-1)), (0, .ref zmo), (1, .ref zwo)]) hx hb dX7_oldest_3 rfl hl (by decide) rfl (fun ls hl => ?_)
  obtain ⟨v9, hv, hf⟩ := obind hf
  have K10 : ∀ (H : Heap) (locs : List Loc) (ls : Array Slot), va_P (dC, dI) vwCl [(zmo, .inr (6, [.int mM.1, .int mM.2.1, .int mM.2.2.1, .int (bI mM.2.2.2.1), .int mM.2.2.2.2.1, .int mM.2.2.2.2.2, .ref zar, .ref zbe, .ref zst, .ref zah, .ref zgd])), (zwo, .inr (5, [.int sW.1, .int sW.2.1, .int sW.2.2.1, .long sW.2.2.2, .ref zwq])), (zwq, .inl (cI, 64, .inl aW))] H → va_D (A_X7_oldest cI cJ zmo zwo zwq zar zbe zst zah zgd mM sW aW s.heap.size) [(zmo, .inr (6, [.int mM.1, .int mM.2.1, .int mM.2.2.1, .int (bI mM.2.2.2.1), .int mM.2.2.2.2.1, .int mM.2.2.2.2.2, .ref zar, .ref zbe, .ref zst, .ref zah, .ref zgd])), (zwo, .inr (5, [.int sW.1, .int sW.2.1, .int sW.2.2.1, .long sW.2.2.2, .ref zwq])), (zwq, .inl (cI, 64, .inl aW))] → va_S (A_X7_oldest cI cJ zmo zwo zwq zar zbe zst zah zgd mM sW aW s.heap.size) s.heap H locs → lv_has ls 4 [(2, .int v9)] → W p l e rm_X7_oldest s m args below meth c H locs 0 0 (MQ below (Q_X7_oldest dC dI cI cJ zmo zwo zwq zar zbe zst zah zgd mM sW aW s.heap.size R) args s 0 0 (A_X7_oldest cI cJ zmo zwo zwq zar zbe zst zah zgd mM sW aW s.heap.size)) (F0 m 42 ls []) := by
    intro H locs ls hP hD hS hl
    refine lv_iload_n hx hb dX7_oldest_42 rfl (lv_at hl 0 rfl) ?_
    obtain rfl := Option.some.inj hf
    exact W.iret (v := v9) hx hb hr (fun t ht hW => ⟨⟨v9, (), rfl, rfl, by rw [ht]; exact hP, va_K.moved hW.alike hK, hD⟩, hS.F ht⟩) hS.2.2 dX7_oldest_43
  have lp11 : ∀ (nf : Nat) (y6 : Int32) (y7 : Int32) (H : Heap) (locs : List Loc) (ls : Array Slot), lp_X7_oldest_4 mM sW aW nf y6 y7 = some v9 → va_P (dC, dI) vwCl [(zmo, .inr (6, [.int mM.1, .int mM.2.1, .int mM.2.2.1, .int (bI mM.2.2.2.1), .int mM.2.2.2.2.1, .int mM.2.2.2.2.2, .ref zar, .ref zbe, .ref zst, .ref zah, .ref zgd])), (zwo, .inr (5, [.int sW.1, .int sW.2.1, .int sW.2.2.1, .long sW.2.2.2, .ref zwq])), (zwq, .inl (cI, 64, .inl aW))] H → va_D (A_X7_oldest cI cJ zmo zwo zwq zar zbe zst zah zgd mM sW aW s.heap.size) [(zmo, .inr (6, [.int mM.1, .int mM.2.1, .int mM.2.2.1, .int (bI mM.2.2.2.1), .int mM.2.2.2.2.1, .int mM.2.2.2.2.2, .ref zar, .ref zbe, .ref zst, .ref zah, .ref zgd])), (zwo, .inr (5, [.int sW.1, .int sW.2.1, .int sW.2.2.1, .long sW.2.2.2, .ref zwq])), (zwq, .inl (cI, 64, .inl aW))] → va_S (A_X7_oldest cI cJ zmo zwo zwq zar zbe zst zah zgd mM sW aW s.heap.size) s.heap H locs → lv_has ls 4 [(0, .ref zmo), (1, .ref zwo), (2, .int y6), (3, .int y7)] → W p l e rm_X7_oldest s m args below meth c H locs 0 0 (MQ below (Q_X7_oldest dC dI cI cJ zmo zwo zwq zar zbe zst zah zgd mM sW aW s.heap.size R) args s 0 0 (A_X7_oldest cI cJ zmo zwo zwq zar zbe zst zah zgd mM sW aW s.heap.size)) (F0 m 4 ls []) := by
    intro nf
    induction nf with
    | zero => intro y6 y7 H locs ls h9; exact nomatch h9
    | succ nf ih12 =>
      intro y6 y7 H locs ls hf hP hD hS hl
      rw [lp_X7_oldest_4.eq_2] at hf
      refine lv_iload_n hx hb dX7_oldest_4 rfl (lv_at hl 3 rfl) ?_
      refine lv_aload_n hx hb dX7_oldest_5 rfl (lv_at hl 0 rfl) ?_
      refine va_get (D := (dC, dI)) (ci := 6) (v := .int mM.2.1) (C := RX7) (T := TX7) (N := 11) hx hb hts hinX7 hown hK hP 0 rfl rfl 1 (by decide) hw0 (fun _ h9 => h9) rfl dX7_oldest_6 ?_
      refine lv_aload_n hx hb dX7_oldest_9 rfl (lv_at hl 0 rfl) ?_
      refine va_get (D := (dC, dI)) (ci := 6) (v := .int mM.2.2.1) (C := RX7) (T := TX7) (N := 11) hx hb hts hinX7 hown hK hP 0 rfl rfl 2 (by decide) hw1 (fun _ h9 => h9) rfl dX7_oldest_10 ?_
      refine lv_imul hx hb dX7_oldest_13 ?_
      refine lv_icmp_ge (tgt := 42) hx hb dX7_oldest_14 (by decide) (fun hc => ?_) (fun hc => ?_)
      · rw [if_pos hc] at hf
        obtain rfl := Option.some.inj hf
        exact K10 _ _ _ hP hD hS (lv_sub hl [2] rfl)
      · rw [if_neg hc] at hf
        refine lv_aload_n hx hb dX7_oldest_17 rfl (lv_at hl 1 rfl) ?_
        refine lv_iload_n hx hb dX7_oldest_18 rfl (lv_at hl 3 rfl) ?_
        have hPc := hP.sub (ws' := [(zwo, .inr (5, [.int sW.1, .int sW.2.1, .int sW.2.2.1, .long sW.2.2.2, .ref zwq]))]) [1] rfl
        have hDc := hD.sub (ws' := [(zwo, .inr (5, [.int sW.1, .int sW.2.1, .int sW.2.2.1, .long sW.2.2.2, .ref zwq]))]) [1] (by decide) rfl
        have hFc := va_free (wc := [(zwo, .inr (5, [.int sW.1, .int sW.2.1, .int sW.2.2.1, .long sW.2.2.2, .ref zwq]))]) hD hS hA [1] rfl
        refine va_calli (va_runV (As := [.int y7]) (rest := []) ⟨hx, hb, hml, hown, hts⟩ (c_X6_has l dC dI cI cJ zwo zwq H.size sW y7) (cwV 1 hts gX7_oldest_X6_has rfl rfl rfl (by decide +kernel) ⟨Nat.le_of_ble_eq_true rfl, Nat.le_of_ble_eq_true rfl⟩) ⟨fun a U gg mk q => by obtain ⟨q0, q1, qP, qK, qD⟩ := q; exact ⟨q0, q1, qP, va_K.moved (u := U) (U := U.calling gg mk a) (Vm.Alike.refl U.vm) qK, qD⟩, va_recv hK hPc (ci := 5) (q0 := 0) rfl rfl, fun U hU hW => ⟨rfl, by rw [hU], by rw [hU]; exact hPc, va_K.moved hW.alike hK, hDc.weaken (fun _ _ _ _ => trivial)⟩⟩ rfl rfl hl.1 rfl (lv_room (Nat.le_of_ble_eq_true rfl)) dX7_oldest_19 ⟨Nat.zero_le _, Nat.zero_le _⟩) hS (fun q _ h => hFc q h) hFc (fun r_ u_ t H locs ht hvm hw hB hz1 hk1 hS => ?_)
        obtain rfl := hw.symm
        obtain ⟨hP1, -, hD1⟩ := hB
        rw [ht] at hP1
        obtain ⟨hP, hD⟩ := va_join (wr := [(zmo, .inr (6, [.int mM.1, .int mM.2.1, .int mM.2.2.1, .int (bI mM.2.2.2.1), .int mM.2.2.2.2.1, .int mM.2.2.2.2.2, .ref zar, .ref zbe, .ref zst, .ref zah, .ref zgd])), (zwq, .inl (cI, 64, .inl aW))]) (w1 := [(zwo, .inr (5, [.int sW.1, .int sW.2.1, .int sW.2.2.1, .long sW.2.2.2, .ref zwq]))]) hP hD [1] [0, 2] rfl rfl (by decide) (by decide) hk1 hFc hP1 hD1
        have hP := hP.sub (ws' := [(zmo, .inr (6, [.int mM.1, .int mM.2.1, .int mM.2.2.1, .int (bI mM.2.2.2.1), .int mM.2.2.2.2.1, .int mM.2.2.2.2.2, .ref zar, .ref zbe, .ref zst, .ref zah, .ref zgd])), (zwo, .inr (5, [.int sW.1, .int sW.2.1, .int sW.2.2.1, .long sW.2.2.2, .ref zwq])), (zwq, .inl (cI, 64, .inl aW))]) [0, 2, 1] rfl
        have hD := hD.sub (ws' := [(zmo, .inr (6, [.int mM.1, .int mM.2.1, .int mM.2.2.1, .int (bI mM.2.2.2.1), .int mM.2.2.2.2.1, .int mM.2.2.2.2.2, .ref zar, .ref zbe, .ref zst, .ref zah, .ref zgd])), (zwo, .inr (5, [.int sW.1, .int sW.2.1, .int sW.2.2.1, .long sW.2.2.2, .ref zwq])), (zwq, .inl (cI, 64, .inl aW))]) [0, 2, 1] (by decide) rfl
        clear hPc hDc hFc hP1 hD1 hk1
        obtain ⟨v8, hv, hf⟩ := obind hf
        have K13 : ∀ (H : Heap) (locs : List Loc) (ls : Array Slot), va_P (dC, dI) vwCl [(zmo, .inr (6, [.int mM.1, .int mM.2.1, .int mM.2.2.1, .int (bI mM.2.2.2.1), .int mM.2.2.2.2.1, .int mM.2.2.2.2.2, .ref zar, .ref zbe, .ref zst, .ref zah, .ref zgd])), (zwo, .inr (5, [.int sW.1, .int sW.2.1, .int sW.2.2.1, .long sW.2.2.2, .ref zwq])), (zwq, .inl (cI, 64, .inl aW))] H → va_D (A_X7_oldest cI cJ zmo zwo zwq zar zbe zst zah zgd mM sW aW s.heap.size) [(zmo, .inr (6, [.int mM.1, .int mM.2.1, .int mM.2.2.1, .int (bI mM.2.2.2.1), .int mM.2.2.2.2.1, .int mM.2.2.2.2.2, .ref zar, .ref zbe, .ref zst, .ref zah, .ref zgd])), (zwo, .inr (5, [.int sW.1, .int sW.2.1, .int sW.2.2.1, .long sW.2.2.2, .ref zwq])), (zwq, .inl (cI, 64, .inl aW))] → va_S (A_X7_oldest cI cJ zmo zwo zwq zar zbe zst zah zgd mM sW aW s.heap.size) s.heap H locs → lv_has ls 4 [(0, .ref zmo), (1, .ref zwo), (2, .int v8), (3, .int y7)] → W p l e rm_X7_oldest s m args below meth c H locs 0 0 (MQ below (Q_X7_oldest dC dI cI cJ zmo zwo zwq zar zbe zst zah zgd mM sW aW s.heap.size R) args s 0 0 (A_X7_oldest cI cJ zmo zwo zwq zar zbe zst zah zgd mM sW aW s.heap.size)) (F0 m 36 ls []) := by
          intro H locs ls hP hD hS hl
          refine lv_iinc (v := (y7 + 1)) (lv' := [(3, .int (y7 + 1)), (0, .ref zmo), (1, .ref zwo), (2, .int v8)]) hx hb dX7_oldest_36 hl (k := 3) rfl rfl (by decide) rfl (fun ls hl => ?_)
          refine lv_goto (tgt := 4) hx hb dX7_oldest_39 (by decide) ?_
          exact ih12 _ _ _ _ _ hf hP hD hS (lv_sub hl [1, 2, 3, 0] rfl)
        clear hf; have hf := hv; clear hv
        refine lv_if_eq (tgt := 36) hx hb dX7_oldest_22 (by decide) (fun hc => ?_) (fun hc => ?_)
        · rw [if_pos hc] at hf
          obtain rfl := Option.some.inj hf
          exact K13 _ _ _ hP hD hS (lv_sub hl [0, 1, 2, 3] rfl)
        · rw [if_neg hc] at hf
          refine lv_iload_n hx hb dX7_oldest_25 rfl (lv_at hl 2 rfl) ?_
          refine lv_aload_n hx hb dX7_oldest_26 rfl (lv_at hl 1 rfl) ?_
          refine va_getN (D := (dC, dI)) (ci := 5) (v := .ref zwq) (C := RX6) (T := TX6) (N := 5) hx hb hts hinX6 hown hK hP 1 rfl rfl 4 (by decide) (va_Nw.use rfl hnw_ages) (fun _ h9 => h9) rfl dX7_oldest_27 ?_
          refine lv_iload_n hx hb dX7_oldest_30 rfl (lv_at hl 3 rfl) ?_
          have hg0 : ¬ (y7 < 0 ∨ 64 ≤ y7.toNatClampNeg) := fun hq => by rw [if_pos hq] at hf; exact nomatch hf
          rw [if_neg hg0] at hf
          have hg : vp_in y7 64 := hg0
          refine va_iald hx hb hK hP 2 0 rfl rfl hg dX7_oldest_31 ?_
          refine va_mmax hx hb (hml.trans hl.1.symm) hown hw2 hw3 hw4 hw5 (Nat.le_of_ble_eq_true rfl) (Nat.le_of_ble_eq_true rfl) (Nat.zero_le _) (Nat.zero_le _) dX7_oldest_32 ?_
          refine lv_istore_n (lv' := [(2, .int (if y6 < (aW y7.toNatClampNeg) then (aW y7.toNatClampNeg) else y6)), (0, .ref zmo), (1, .ref zwo), (3, .int y7)]) hx hb dX7_oldest_35 rfl hl (by decide) rfl (fun ls hl => ?_)
          obtain rfl := Option.some.inj hf
          exact K13 _ _ _ hP hD hS (lv_sub hl [1, 2, 0, 3] rfl)
  exact lp11 100 _ _ _ _ _ hv hP hD hS (lv_sub hl [2, 3, 1, 0] rfl)
/-! HedgeGlidersModel.counted(LHedgeGlidersModel$State;I)I -/
def f_X7_counted (mM : MoS) (fR : Nat → Int64) (fB : Nat → Int64) (sW : StS) (aW : Nat → Int32) (wh : Int32) : Option (Int32) := if wh = 0 then (some sW.1) else if wh = 1 then (some mM.2.1) else if wh = 2 then (some mM.2.2.1) else if wh = 3 then (some (f_J13_bitCount_95d88 sW.2.2.2)) else if wh = 4 then (some sW.2.1) else if wh = 5 then (some sW.2.2.1) else if wh = 6 then (if (bI mM.2.2.2.1) = 0 then (some 0) else (some 1)) else if wh = 7 then (Option.bind (f_X7_lawns mM fR fB sW (wh - 7)) fun r1 => some r1) else if wh = 8 then (Option.bind (f_X7_lawns mM fR fB sW (wh - 7)) fun r2 => some r2) else if wh = 9 then (Option.bind (f_X7_lawns mM fR fB sW (wh - 7)) fun r3 => some r3) else if wh = 10 then (Option.bind (f_X7_oldest mM sW aW) fun r4 => some r4) else (Option.bind (f_X7_lawns mM fR fB sW (wh - 7)) fun r5 => some r5)
abbrev rm_X7_counted : Room := ({ frames := 4, cells := 0, slots := 0, locals := 102 } : Room)
abbrev A_X7_counted (cI cJ : ClassId) (zmo zar zbe zwo zwq zst zah zgd : Nat) (mM : MoS) (fR : Nat → Int64) (fB : Nat → Int64) (sW : StS) (aW : Nat → Int32) (wh : Int32) (sz : Nat) : Nat → Prop := va_A [(zmo, .inr (6, [.int mM.1, .int mM.2.1, .int mM.2.2.1, .int (bI mM.2.2.2.1), .int mM.2.2.2.2.1, .int mM.2.2.2.2.2, .ref zar, .ref zbe, .ref zst, .ref zah, .ref zgd])), (zar, .inl (cJ, 64, .inr (.inl fR))), (zbe, .inl (cJ, 64, .inr (.inl fB))), (zwo, .inr (5, [.int sW.1, .int sW.2.1, .int sW.2.2.1, .long sW.2.2.2, .ref zwq])), (zwq, .inl (cI, 64, .inl aW))] sz
abbrev Q_X7_counted (dC : Nat → ClassId) (dI : Nat → Nat → Nat) (cI cJ : ClassId) (zmo zar zbe zwo zwq zst zah zgd : Nat) (mM : MoS) (fR : Nat → Int64) (fB : Nat → Int64) (sW : StS) (aW : Nat → Int32) (wh : Int32) (sz : Nat) (R : Int32) : Array Value → State → Outcome → State → Prop := va_Qi (fun (r : Int32) (_ : Unit) => r = R) (fun u_ t => va_P (dC, dI) vwCl [(zmo, .inr (6, [.int mM.1, .int mM.2.1, .int mM.2.2.1, .int (bI mM.2.2.2.1), .int mM.2.2.2.2.1, .int mM.2.2.2.2.2, .ref zar, .ref zbe, .ref zst, .ref zah, .ref zgd])), (zar, .inl (cJ, 64, .inr (.inl fR))), (zbe, .inl (cJ, 64, .inr (.inl fB))), (zwo, .inr (5, [.int sW.1, .int sW.2.1, .int sW.2.2.1, .long sW.2.2.2, .ref zwq])), (zwq, .inl (cI, 64, .inl aW))] t.heap ∧ va_K (dC, dI) vwCl [(cI, .int), (cJ, .long)] t ∧ va_D (A_X7_counted cI cJ zmo zar zbe zwo zwq zst zah zgd mM fR fB sW aW wh sz) [(zmo, .inr (6, [.int mM.1, .int mM.2.1, .int mM.2.2.1, .int (bI mM.2.2.2.1), .int mM.2.2.2.2.1, .int mM.2.2.2.2.2, .ref zar, .ref zbe, .ref zst, .ref zah, .ref zgd])), (zar, .inl (cJ, 64, .inr (.inl fR))), (zbe, .inl (cJ, 64, .inr (.inl fB))), (zwo, .inr (5, [.int sW.1, .int sW.2.1, .int sW.2.2.1, .long sW.2.2.2, .ref zwq])), (zwq, .inl (cI, 64, .inl aW))]) (A_X7_counted cI cJ zmo zar zbe zwo zwq zst zah zgd mM fR fB sW aW wh sz)
set_option maxHeartbeats 4000000 in
set_option maxRecDepth 100000 in
theorem c_X7_counted (l : Launch) (dC : Nat → ClassId) (dI : Nat → Nat → Nat) (cI cJ : ClassId) (zmo zar zbe zwo zwq zst zah zgd : Nat) (sz : Nat) (mM : MoS) (fR : Nat → Int64) (fB : Nat → Int64) (sW : StS) (aW : Nat → Int32) (wh : Int32) (R : Int32) (hR : f_X7_counted mM fR fB sW aW wh = some R) : Met l yX7_counted wsX7_counted rm_X7_counted (va_Pc [.ref zmo, .ref zwo, .int wh] (fun U => U.heap.size = sz ∧ va_P (dC, dI) vwCl [(zmo, .inr (6, [.int mM.1, .int mM.2.1, .int mM.2.2.1, .int (bI mM.2.2.2.1), .int mM.2.2.2.2.1, .int mM.2.2.2.2.2, .ref zar, .ref zbe, .ref zst, .ref zah, .ref zgd])), (zar, .inl (cJ, 64, .inr (.inl fR))), (zbe, .inl (cJ, 64, .inr (.inl fB))), (zwo, .inr (5, [.int sW.1, .int sW.2.1, .int sW.2.2.1, .long sW.2.2.2, .ref zwq])), (zwq, .inl (cI, 64, .inl aW))] U.heap ∧ va_K (dC, dI) vwCl [(cI, .int), (cJ, .long)] U ∧ va_D (fun _ => True) [(zmo, .inr (6, [.int mM.1, .int mM.2.1, .int mM.2.2.1, .int (bI mM.2.2.2.1), .int mM.2.2.2.2.1, .int mM.2.2.2.2.2, .ref zar, .ref zbe, .ref zst, .ref zah, .ref zgd])), (zar, .inl (cJ, 64, .inr (.inl fR))), (zbe, .inl (cJ, 64, .inr (.inl fB))), (zwo, .inr (5, [.int sW.1, .int sW.2.1, .int sW.2.2.1, .long sW.2.2.2, .ref zwq])), (zwq, .inl (cI, 64, .inl aW))] ∧ nwM U)) (Q_X7_counted dC dI cI cJ zmo zar zbe zwo zwq zst zah zgd mM fR fB sW aW wh sz R) 0 0 (A_X7_counted cI cJ zmo zar zbe zwo zwq zst zah zgd mM fR fB sW aW wh sz) := by
  have hf := hR
  refine Met.ofW (cc := cX7_counted) (maxL := 3) (ret := (some .int)) (by decide) rfl ?_
  intro p e s m args below meth c s₁ B hml hv
  obtain ⟨hargs, hsz, hP, hK, hD0, hnw⟩ := hv
  have hx := B.exec
  have hb := B.bytes
  have hr := B.returns
  have hts := atoms_spec (ws := wsX7_counted) B.pre
  have hown : s.vm.findClass RX7 = some m.cls := findClass_of_methodNamed B.named
  have hlocks := B.notSynchronized
  subst hsz
  obtain ⟨hnw_hedges, hnw_ages, hnw_born, hnw_dead, hnw_year⟩ := id hnw
  have hD : va_D (A_X7_counted cI cJ zmo zar zbe zwo zwq zst zah zgd mM fR fB sW aW wh s.heap.size) [(zmo, .inr (6, [.int mM.1, .int mM.2.1, .int mM.2.2.1, .int (bI mM.2.2.2.1), .int mM.2.2.2.2.1, .int mM.2.2.2.2.2, .ref zar, .ref zbe, .ref zst, .ref zah, .ref zgd])), (zar, .inl (cJ, 64, .inr (.inl fR))), (zbe, .inl (cJ, 64, .inr (.inl fB))), (zwo, .inr (5, [.int sW.1, .int sW.2.1, .int sW.2.2.1, .long sW.2.2.2, .ref zwq])), (zwq, .inl (cI, 64, .inl aW))] := hD0.self (sz := s.heap.size)
  have hA : ∀ q : Nat, s.heap.size ≤ q → (A_X7_counted cI cJ zmo zar zbe zwo zwq zst zah zgd mM fR fB sW aW wh s.heap.size) q := fun q h => Or.inr h
  have hS : va_S (A_X7_counted cI cJ zmo zar zbe zwo zwq zst zah zgd mM fR fB sW aW wh s.heap.size) s.heap s.heap [] := va_S.rf
  have hinX6 : ∀ w ∈ wsX60, w ∈ wsX7_counted := by decide +kernel
  have hinX7 : ∀ w ∈ wsX70, w ∈ wsX7_counted := by decide +kernel
  have hw0 := hts (.fieldLink RX7 9 "HedgeGlidersModel" "w" "I") (by decide +kernel)
  have hw1 := hts (.fieldLink RX7 13 "HedgeGlidersModel" "h" "I") (by decide +kernel)
  have hw2 := hts (.fieldLink RX7 56 "HedgeGlidersModel" "isRound" "Z") (by decide +kernel)
  have hl := lv_entry ([.ref zmo, .ref zwo, .int wh]) (n := 3) (Nat.le_of_ble_eq_true rfl)
  have he0 : entryFrame m args 3 = entryFrame m ([.ref zmo, .ref zwo, .int wh] : List Value).toArray 3 := by rw [hargs]
  rw [he0, lg_entry_eq]
  generalize (lg_sl ([.ref zmo, .ref zwo, .int wh]) ++ List.replicate (3 - (lg_sl ([.ref zmo, .ref zwo, .int wh])).length) Slot.unset).toArray = ls at hl ⊢
  have hl : lv_has ls 3 [(0, .ref zmo), (1, .ref zwo), (2, .int wh)] := hl
  rw [f_X7_counted] at hf
  refine lv_iload_n hx hb dX7_counted_0 rfl (lv_at hl 2 rfl) ?_
  by_cases hc0 : wh = 0
  · rw [if_pos hc0] at hf
    refine lv_tableIn (off := 59) (tgt := 60) hx hb dX7_counted_1 (by rw [hc0]; decide) (by rw [hc0]; decide) (by rw [hc0]; rfl) (by decide) ?_
    refine lv_aload_n hx hb dX7_counted_60 rfl (lv_at hl 1 rfl) ?_
    refine va_getN (D := (dC, dI)) (ci := 5) (v := .int sW.1) (C := RX6) (T := TX6) (N := 5) hx hb hts hinX6 hown hK hP 3 rfl rfl 0 (by decide) (va_Nw.use rfl hnw_year) (fun _ h9 => h9) rfl dX7_counted_61 ?_
    obtain rfl := Option.some.inj hf
    exact W.iret (v := sW.1) hx hb hr (fun t ht hW => ⟨⟨sW.1, (), rfl, rfl, by rw [ht]; exact hP, va_K.moved hW.alike hK, hD⟩, hS.F ht⟩) hS.2.2 dX7_counted_64
  · rw [if_neg hc0] at hf
    by_cases hc1 : wh = 1
    · rw [if_pos hc1] at hf
      refine lv_tableIn (off := 64) (tgt := 65) hx hb dX7_counted_1 (by rw [hc1]; decide) (by rw [hc1]; decide) (by rw [hc1]; rfl) (by decide) ?_
      refine lv_aload_n hx hb dX7_counted_65 rfl (lv_at hl 0 rfl) ?_
      refine va_get (D := (dC, dI)) (ci := 6) (v := .int mM.2.1) (C := RX7) (T := TX7) (N := 11) hx hb hts hinX7 hown hK hP 0 rfl rfl 1 (by decide) hw0 (fun _ h9 => h9) rfl dX7_counted_66 ?_
      obtain rfl := Option.some.inj hf
      exact W.iret (v := mM.2.1) hx hb hr (fun t ht hW => ⟨⟨mM.2.1, (), rfl, rfl, by rw [ht]; exact hP, va_K.moved hW.alike hK, hD⟩, hS.F ht⟩) hS.2.2 dX7_counted_69
    · rw [if_neg hc1] at hf
      by_cases hc2 : wh = 2
      · rw [if_pos hc2] at hf
        refine lv_tableIn (off := 69) (tgt := 70) hx hb dX7_counted_1 (by rw [hc2]; decide) (by rw [hc2]; decide) (by rw [hc2]; rfl) (by decide) ?_
        refine lv_aload_n hx hb dX7_counted_70 rfl (lv_at hl 0 rfl) ?_
        refine va_get (D := (dC, dI)) (ci := 6) (v := .int mM.2.2.1) (C := RX7) (T := TX7) (N := 11) hx hb hts hinX7 hown hK hP 0 rfl rfl 2 (by decide) hw1 (fun _ h9 => h9) rfl dX7_counted_71 ?_
        obtain rfl := Option.some.inj hf
        exact W.iret (v := mM.2.2.1) hx hb hr (fun t ht hW => ⟨⟨mM.2.2.1, (), rfl, rfl, by rw [ht]; exact hP, va_K.moved hW.alike hK, hD⟩, hS.F ht⟩) hS.2.2 dX7_counted_74
      · rw [if_neg hc2] at hf
        by_cases hc3 : wh = 3
        · rw [if_pos hc3] at hf
          refine lv_tableIn (off := 74) (tgt := 75) hx hb dX7_counted_1 (by rw [hc3]; decide) (by rw [hc3]; decide) (by rw [hc3]; rfl) (by decide) ?_
          refine lv_aload_n hx hb dX7_counted_75 rfl (lv_at hl 1 rfl) ?_
          refine va_getN (D := (dC, dI)) (ci := 5) (v := .long sW.2.2.2) (C := RX6) (T := TX6) (N := 5) hx hb hts hinX6 hown hK hP 3 rfl rfl 3 (by decide) (va_Nw.use rfl hnw_hedges) (fun _ h9 => h9) rfl dX7_counted_76 ?_
          have hPc := hP.sub (ws' := []) [] rfl
          have hDc := hD.sub (ws' := []) [] (by decide) rfl
          have hFc := va_free (wc := []) hD hS hA [] rfl
          refine va_calli (va_runS (As := [.long sW.2.2.2]) (rest := []) ⟨hx, hb, hml, hown, hts⟩ (c_J13_bitCount_95d88 l dC dI cI cJ  s.heap.size sW.2.2.2) (va_cwS 1 hts gX7_counted_J13_bitCount_95d88 rfl rfl rfl (by decide +kernel) ⟨Nat.le_of_ble_eq_true rfl, Nat.le_of_ble_eq_true rfl⟩) ⟨fun a U gg mk q => by obtain ⟨q0, q1, qP, qK, qD⟩ := q; exact ⟨q0, q1, qP, va_K.moved (u := U) (U := U.calling gg mk a) (Vm.Alike.refl U.vm) qK, qD⟩, fun U hU hW => ⟨rfl, by rw [hU], by rw [hU]; exact hPc, va_K.moved hW.alike hK, hDc.weaken (fun _ _ _ _ => trivial)⟩⟩ rfl rfl hl.1 rfl (lv_room (Nat.le_of_ble_eq_true rfl)) dX7_counted_79 ⟨Nat.zero_le _, Nat.zero_le _⟩) hS (fun q _ h => hFc q h) hFc (fun r_ u_ t H locs ht hvm hw hB hz1 hk1 hS => ?_)
          obtain rfl := hw.symm
          obtain ⟨hP1, -, hD1⟩ := hB
          rw [ht] at hP1
          obtain ⟨hP, hD⟩ := va_join (wr := [(zmo, .inr (6, [.int mM.1, .int mM.2.1, .int mM.2.2.1, .int (bI mM.2.2.2.1), .int mM.2.2.2.2.1, .int mM.2.2.2.2.2, .ref zar, .ref zbe, .ref zst, .ref zah, .ref zgd])), (zar, .inl (cJ, 64, .inr (.inl fR))), (zbe, .inl (cJ, 64, .inr (.inl fB))), (zwo, .inr (5, [.int sW.1, .int sW.2.1, .int sW.2.2.1, .long sW.2.2.2, .ref zwq])), (zwq, .inl (cI, 64, .inl aW))]) (w1 := []) hP hD [] [0, 1, 2, 3, 4] rfl rfl (by decide) (by decide) hk1 hFc hP1 hD1
          have hP := hP.sub (ws' := [(zmo, .inr (6, [.int mM.1, .int mM.2.1, .int mM.2.2.1, .int (bI mM.2.2.2.1), .int mM.2.2.2.2.1, .int mM.2.2.2.2.2, .ref zar, .ref zbe, .ref zst, .ref zah, .ref zgd])), (zar, .inl (cJ, 64, .inr (.inl fR))), (zbe, .inl (cJ, 64, .inr (.inl fB))), (zwo, .inr (5, [.int sW.1, .int sW.2.1, .int sW.2.2.1, .long sW.2.2.2, .ref zwq])), (zwq, .inl (cI, 64, .inl aW))]) [0, 1, 2, 3, 4] rfl
          have hD := hD.sub (ws' := [(zmo, .inr (6, [.int mM.1, .int mM.2.1, .int mM.2.2.1, .int (bI mM.2.2.2.1), .int mM.2.2.2.2.1, .int mM.2.2.2.2.2, .ref zar, .ref zbe, .ref zst, .ref zah, .ref zgd])), (zar, .inl (cJ, 64, .inr (.inl fR))), (zbe, .inl (cJ, 64, .inr (.inl fB))), (zwo, .inr (5, [.int sW.1, .int sW.2.1, .int sW.2.2.1, .long sW.2.2.2, .ref zwq])), (zwq, .inl (cI, 64, .inl aW))]) [0, 1, 2, 3, 4] (by decide) rfl
          clear hPc hDc hFc hP1 hD1 hk1
          obtain rfl := Option.some.inj hf
          exact W.iret (v := (f_J13_bitCount_95d88 sW.2.2.2)) hx hb hr (fun t ht hW => ⟨⟨(f_J13_bitCount_95d88 sW.2.2.2), (), rfl, rfl, by rw [ht]; exact hP, va_K.moved hW.alike hK, hD⟩, hS.F ht⟩) hS.2.2 dX7_counted_82
        · rw [if_neg hc3] at hf
          by_cases hc4 : wh = 4
          · rw [if_pos hc4] at hf
            refine lv_tableIn (off := 82) (tgt := 83) hx hb dX7_counted_1 (by rw [hc4]; decide) (by rw [hc4]; decide) (by rw [hc4]; rfl) (by decide) ?_
            refine lv_aload_n hx hb dX7_counted_83 rfl (lv_at hl 1 rfl) ?_
            refine va_getN (D := (dC, dI)) (ci := 5) (v := .int sW.2.1) (C := RX6) (T := TX6) (N := 5) hx hb hts hinX6 hown hK hP 3 rfl rfl 1 (by decide) (va_Nw.use rfl hnw_born) (fun _ h9 => h9) rfl dX7_counted_84 ?_
            obtain rfl := Option.some.inj hf
            exact W.iret (v := sW.2.1) hx hb hr (fun t ht hW => ⟨⟨sW.2.1, (), rfl, rfl, by rw [ht]; exact hP, va_K.moved hW.alike hK, hD⟩, hS.F ht⟩) hS.2.2 dX7_counted_87
          · rw [if_neg hc4] at hf
            by_cases hc5 : wh = 5
            · rw [if_pos hc5] at hf
              refine lv_tableIn (off := 87) (tgt := 88) hx hb dX7_counted_1 (by rw [hc5]; decide) (by rw [hc5]; decide) (by rw [hc5]; rfl) (by decide) ?_
              refine lv_aload_n hx hb dX7_counted_88 rfl (lv_at hl 1 rfl) ?_
              refine va_getN (D := (dC, dI)) (ci := 5) (v := .int sW.2.2.1) (C := RX6) (T := TX6) (N := 5) hx hb hts hinX6 hown hK hP 3 rfl rfl 2 (by decide) (va_Nw.use rfl hnw_dead) (fun _ h9 => h9) rfl dX7_counted_89 ?_
              obtain rfl := Option.some.inj hf
              exact W.iret (v := sW.2.2.1) hx hb hr (fun t ht hW => ⟨⟨sW.2.2.1, (), rfl, rfl, by rw [ht]; exact hP, va_K.moved hW.alike hK, hD⟩, hS.F ht⟩) hS.2.2 dX7_counted_92
            · rw [if_neg hc5] at hf
              by_cases hc6 : wh = 6
              · rw [if_pos hc6] at hf
                refine lv_tableIn (off := 92) (tgt := 93) hx hb dX7_counted_1 (by rw [hc6]; decide) (by rw [hc6]; decide) (by rw [hc6]; rfl) (by decide) ?_
                refine lv_aload_n hx hb dX7_counted_93 rfl (lv_at hl 0 rfl) ?_
                refine va_get (D := (dC, dI)) (ci := 6) (v := .int (bI mM.2.2.2.1)) (C := RX7) (T := TX7) (N := 11) hx hb hts hinX7 hown hK hP 0 rfl rfl 3 (by decide) hw2 (fun _ h9 => h9) rfl dX7_counted_94 ?_
                refine lv_if_eq (tgt := 104) hx hb dX7_counted_97 (by decide) (fun hc => ?_) (fun hc => ?_)
                · rw [if_pos hc] at hf
                  refine lv_iconst (v := 0) hx hb dX7_counted_104 (by decide) ?_
                  obtain rfl := Option.some.inj hf
                  exact W.iret (v := 0) hx hb hr (fun t ht hW => ⟨⟨0, (), rfl, rfl, by rw [ht]; exact hP, va_K.moved hW.alike hK, hD⟩, hS.F ht⟩) hS.2.2 dX7_counted_105
                · rw [if_neg hc] at hf
                  refine lv_iconst (v := 1) hx hb dX7_counted_100 (by decide) ?_
                  refine lv_goto (tgt := 105) hx hb dX7_counted_101 (by decide) ?_
                  obtain rfl := Option.some.inj hf
                  exact W.iret (v := 1) hx hb hr (fun t ht hW => ⟨⟨1, (), rfl, rfl, by rw [ht]; exact hP, va_K.moved hW.alike hK, hD⟩, hS.F ht⟩) hS.2.2 dX7_counted_105
              · rw [if_neg hc6] at hf
                by_cases hc7 : wh = 7
                · rw [if_pos hc7] at hf
                  refine lv_tableIn (off := 111) (tgt := 112) hx hb dX7_counted_1 (by rw [hc7]; decide) (by rw [hc7]; decide) (by rw [hc7]; rfl) (by decide) ?_
                  refine lv_aload_n hx hb dX7_counted_112 rfl (lv_at hl 0 rfl) ?_
                  refine lv_aload_n hx hb dX7_counted_113 rfl (lv_at hl 1 rfl) ?_
                  refine lv_iload_n hx hb dX7_counted_114 rfl (lv_at hl 2 rfl) ?_
                  refine lv_bipush (v := 7) hx hb dX7_counted_115 (by decide) ?_
                  refine lv_isub hx hb dX7_counted_117 ?_
                  obtain ⟨r1, hr1, hf⟩ := obind hf
                  have hPc := hP.sub (ws' := [(zmo, .inr (6, [.int mM.1, .int mM.2.1, .int mM.2.2.1, .int (bI mM.2.2.2.1), .int mM.2.2.2.2.1, .int mM.2.2.2.2.2, .ref zar, .ref zbe, .ref zst, .ref zah, .ref zgd])), (zar, .inl (cJ, 64, .inr (.inl fR))), (zbe, .inl (cJ, 64, .inr (.inl fB))), (zwo, .inr (5, [.int sW.1, .int sW.2.1, .int sW.2.2.1, .long sW.2.2.2, .ref zwq]))]) [0, 1, 2, 3] rfl
                  have hDc := hD.sub (ws' := [(zmo, .inr (6, [.int mM.1, .int mM.2.1, .int mM.2.2.1, .int (bI mM.2.2.2.1), .int mM.2.2.2.2.1, .int mM.2.2.2.2.2, .ref zar, .ref zbe, .ref zst, .ref zah, .ref zgd])), (zar, .inl (cJ, 64, .inr (.inl fR))), (zbe, .inl (cJ, 64, .inr (.inl fB))), (zwo, .inr (5, [.int sW.1, .int sW.2.1, .int sW.2.2.1, .long sW.2.2.2, .ref zwq]))]) [0, 1, 2, 3] (by decide) rfl
                  have hFc := va_free (wc := [(zmo, .inr (6, [.int mM.1, .int mM.2.1, .int mM.2.2.1, .int (bI mM.2.2.2.1), .int mM.2.2.2.2.1, .int mM.2.2.2.2.2, .ref zar, .ref zbe, .ref zst, .ref zah, .ref zgd])), (zar, .inl (cJ, 64, .inr (.inl fR))), (zbe, .inl (cJ, 64, .inr (.inl fB))), (zwo, .inr (5, [.int sW.1, .int sW.2.1, .int sW.2.2.1, .long sW.2.2.2, .ref zwq]))]) hD hS hA [0, 1, 2, 3] rfl
                  refine va_calli (va_runV (As := [.ref zwo, .int (wh - 7)]) (rest := []) ⟨hx, hb, hml, hown, hts⟩ (c_X7_lawns l dC dI cI cJ zmo zar zbe zwo zst zah zgd zwq s.heap.size mM fR fB sW (wh - 7) _ hr1) (cwV 2 hts gX7_counted_X7_lawns rfl rfl rfl (by decide +kernel) ⟨Nat.le_of_ble_eq_true rfl, Nat.le_of_ble_eq_true rfl⟩) ⟨fun a U gg mk q => by obtain ⟨q0, q1, qP, qK, qD, qn⟩ := q; exact ⟨q0, q1, qP, va_K.moved (u := U) (U := U.calling gg mk a) (Vm.Alike.refl U.vm) qK, qD, nwM.same (u := U) (U := U.calling gg mk a) rfl qn⟩, va_recv hK hPc (ci := 6) (q0 := 0) rfl rfl, fun U hU hW => ⟨rfl, by rw [hU], by rw [hU]; exact hPc, va_K.moved hW.alike hK, hDc.weaken (fun _ _ _ _ => trivial), nwM.moved hW hnw⟩⟩ rfl rfl hl.1 rfl (lv_room (Nat.le_of_ble_eq_true rfl)) dX7_counted_118 ⟨Nat.zero_le _, Nat.zero_le _⟩) hS (fun q _ h => hFc q h) hFc (fun r_ u_ t H locs ht hvm hw hB hz1 hk1 hS => ?_)
                  obtain rfl := hw.symm
                  obtain ⟨hP1, -, hD1⟩ := hB
                  rw [ht] at hP1
                  obtain ⟨hP, hD⟩ := va_join (wr := [(zwq, .inl (cI, 64, .inl aW))]) (w1 := [(zmo, .inr (6, [.int mM.1, .int mM.2.1, .int mM.2.2.1, .int (bI mM.2.2.2.1), .int mM.2.2.2.2.1, .int mM.2.2.2.2.2, .ref zar, .ref zbe, .ref zst, .ref zah, .ref zgd])), (zar, .inl (cJ, 64, .inr (.inl fR))), (zbe, .inl (cJ, 64, .inr (.inl fB))), (zwo, .inr (5, [.int sW.1, .int sW.2.1, .int sW.2.2.1, .long sW.2.2.2, .ref zwq]))]) hP hD [0, 1, 2, 3] [4] rfl rfl (by decide) (by decide) hk1 hFc hP1 hD1
                  have hP := hP.sub (ws' := [(zmo, .inr (6, [.int mM.1, .int mM.2.1, .int mM.2.2.1, .int (bI mM.2.2.2.1), .int mM.2.2.2.2.1, .int mM.2.2.2.2.2, .ref zar, .ref zbe, .ref zst, .ref zah, .ref zgd])), (zar, .inl (cJ, 64, .inr (.inl fR))), (zbe, .inl (cJ, 64, .inr (.inl fB))), (zwo, .inr (5, [.int sW.1, .int sW.2.1, .int sW.2.2.1, .long sW.2.2.2, .ref zwq])), (zwq, .inl (cI, 64, .inl aW))]) [1, 2, 3, 4, 0] rfl
                  have hD := hD.sub (ws' := [(zmo, .inr (6, [.int mM.1, .int mM.2.1, .int mM.2.2.1, .int (bI mM.2.2.2.1), .int mM.2.2.2.2.1, .int mM.2.2.2.2.2, .ref zar, .ref zbe, .ref zst, .ref zah, .ref zgd])), (zar, .inl (cJ, 64, .inr (.inl fR))), (zbe, .inl (cJ, 64, .inr (.inl fB))), (zwo, .inr (5, [.int sW.1, .int sW.2.1, .int sW.2.2.1, .long sW.2.2.2, .ref zwq])), (zwq, .inl (cI, 64, .inl aW))]) [1, 2, 3, 4, 0] (by decide) rfl
                  clear hPc hDc hFc hP1 hD1 hk1
                  obtain rfl := Option.some.inj hf
                  exact W.iret (v := r1) hx hb hr (fun t ht hW => ⟨⟨r1, (), rfl, rfl, by rw [ht]; exact hP, va_K.moved hW.alike hK, hD⟩, hS.F ht⟩) hS.2.2 dX7_counted_121
                · rw [if_neg hc7] at hf
                  by_cases hc8 : wh = 8
                  · rw [if_pos hc8] at hf
                    refine lv_tableIn (off := 111) (tgt := 112) hx hb dX7_counted_1 (by rw [hc8]; decide) (by rw [hc8]; decide) (by rw [hc8]; rfl) (by decide) ?_
                    refine lv_aload_n hx hb dX7_counted_112 rfl (lv_at hl 0 rfl) ?_
                    refine lv_aload_n hx hb dX7_counted_113 rfl (lv_at hl 1 rfl) ?_
                    refine lv_iload_n hx hb dX7_counted_114 rfl (lv_at hl 2 rfl) ?_
                    refine lv_bipush (v := 7) hx hb dX7_counted_115 (by decide) ?_
                    refine lv_isub hx hb dX7_counted_117 ?_
                    obtain ⟨r2, hr2, hf⟩ := obind hf
                    have hPc := hP.sub (ws' := [(zmo, .inr (6, [.int mM.1, .int mM.2.1, .int mM.2.2.1, .int (bI mM.2.2.2.1), .int mM.2.2.2.2.1, .int mM.2.2.2.2.2, .ref zar, .ref zbe, .ref zst, .ref zah, .ref zgd])), (zar, .inl (cJ, 64, .inr (.inl fR))), (zbe, .inl (cJ, 64, .inr (.inl fB))), (zwo, .inr (5, [.int sW.1, .int sW.2.1, .int sW.2.2.1, .long sW.2.2.2, .ref zwq]))]) [0, 1, 2, 3] rfl
                    have hDc := hD.sub (ws' := [(zmo, .inr (6, [.int mM.1, .int mM.2.1, .int mM.2.2.1, .int (bI mM.2.2.2.1), .int mM.2.2.2.2.1, .int mM.2.2.2.2.2, .ref zar, .ref zbe, .ref zst, .ref zah, .ref zgd])), (zar, .inl (cJ, 64, .inr (.inl fR))), (zbe, .inl (cJ, 64, .inr (.inl fB))), (zwo, .inr (5, [.int sW.1, .int sW.2.1, .int sW.2.2.1, .long sW.2.2.2, .ref zwq]))]) [0, 1, 2, 3] (by decide) rfl
                    have hFc := va_free (wc := [(zmo, .inr (6, [.int mM.1, .int mM.2.1, .int mM.2.2.1, .int (bI mM.2.2.2.1), .int mM.2.2.2.2.1, .int mM.2.2.2.2.2, .ref zar, .ref zbe, .ref zst, .ref zah, .ref zgd])), (zar, .inl (cJ, 64, .inr (.inl fR))), (zbe, .inl (cJ, 64, .inr (.inl fB))), (zwo, .inr (5, [.int sW.1, .int sW.2.1, .int sW.2.2.1, .long sW.2.2.2, .ref zwq]))]) hD hS hA [0, 1, 2, 3] rfl
                    refine va_calli (va_runV (As := [.ref zwo, .int (wh - 7)]) (rest := []) ⟨hx, hb, hml, hown, hts⟩ (c_X7_lawns l dC dI cI cJ zmo zar zbe zwo zst zah zgd zwq s.heap.size mM fR fB sW (wh - 7) _ hr2) (cwV 2 hts gX7_counted_X7_lawns rfl rfl rfl (by decide +kernel) ⟨Nat.le_of_ble_eq_true rfl, Nat.le_of_ble_eq_true rfl⟩) ⟨fun a U gg mk q => by obtain ⟨q0, q1, qP, qK, qD, qn⟩ := q; exact ⟨q0, q1, qP, va_K.moved (u := U) (U := U.calling gg mk a) (Vm.Alike.refl U.vm) qK, qD, nwM.same (u := U) (U := U.calling gg mk a) rfl qn⟩, va_recv hK hPc (ci := 6) (q0 := 0) rfl rfl, fun U hU hW => ⟨rfl, by rw [hU], by rw [hU]; exact hPc, va_K.moved hW.alike hK, hDc.weaken (fun _ _ _ _ => trivial), nwM.moved hW hnw⟩⟩ rfl rfl hl.1 rfl (lv_room (Nat.le_of_ble_eq_true rfl)) dX7_counted_118 ⟨Nat.zero_le _, Nat.zero_le _⟩) hS (fun q _ h => hFc q h) hFc (fun r_ u_ t H locs ht hvm hw hB hz1 hk1 hS => ?_)
                    obtain rfl := hw.symm
                    obtain ⟨hP1, -, hD1⟩ := hB
                    rw [ht] at hP1
                    obtain ⟨hP, hD⟩ := va_join (wr := [(zwq, .inl (cI, 64, .inl aW))]) (w1 := [(zmo, .inr (6, [.int mM.1, .int mM.2.1, .int mM.2.2.1, .int (bI mM.2.2.2.1), .int mM.2.2.2.2.1, .int mM.2.2.2.2.2, .ref zar, .ref zbe, .ref zst, .ref zah, .ref zgd])), (zar, .inl (cJ, 64, .inr (.inl fR))), (zbe, .inl (cJ, 64, .inr (.inl fB))), (zwo, .inr (5, [.int sW.1, .int sW.2.1, .int sW.2.2.1, .long sW.2.2.2, .ref zwq]))]) hP hD [0, 1, 2, 3] [4] rfl rfl (by decide) (by decide) hk1 hFc hP1 hD1
                    have hP := hP.sub (ws' := [(zmo, .inr (6, [.int mM.1, .int mM.2.1, .int mM.2.2.1, .int (bI mM.2.2.2.1), .int mM.2.2.2.2.1, .int mM.2.2.2.2.2, .ref zar, .ref zbe, .ref zst, .ref zah, .ref zgd])), (zar, .inl (cJ, 64, .inr (.inl fR))), (zbe, .inl (cJ, 64, .inr (.inl fB))), (zwo, .inr (5, [.int sW.1, .int sW.2.1, .int sW.2.2.1, .long sW.2.2.2, .ref zwq])), (zwq, .inl (cI, 64, .inl aW))]) [1, 2, 3, 4, 0] rfl
                    have hD := hD.sub (ws' := [(zmo, .inr (6, [.int mM.1, .int mM.2.1, .int mM.2.2.1, .int (bI mM.2.2.2.1), .int mM.2.2.2.2.1, .int mM.2.2.2.2.2, .ref zar, .ref zbe, .ref zst, .ref zah, .ref zgd])), (zar, .inl (cJ, 64, .inr (.inl fR))), (zbe, .inl (cJ, 64, .inr (.inl fB))), (zwo, .inr (5, [.int sW.1, .int sW.2.1, .int sW.2.2.1, .long sW.2.2.2, .ref zwq])), (zwq, .inl (cI, 64, .inl aW))]) [1, 2, 3, 4, 0] (by decide) rfl
                    clear hPc hDc hFc hP1 hD1 hk1
                    obtain rfl := Option.some.inj hf
                    exact W.iret (v := r2) hx hb hr (fun t ht hW => ⟨⟨r2, (), rfl, rfl, by rw [ht]; exact hP, va_K.moved hW.alike hK, hD⟩, hS.F ht⟩) hS.2.2 dX7_counted_121
                  · rw [if_neg hc8] at hf
                    by_cases hc9 : wh = 9
                    · rw [if_pos hc9] at hf
                      refine lv_tableIn (off := 111) (tgt := 112) hx hb dX7_counted_1 (by rw [hc9]; decide) (by rw [hc9]; decide) (by rw [hc9]; rfl) (by decide) ?_
                      refine lv_aload_n hx hb dX7_counted_112 rfl (lv_at hl 0 rfl) ?_
                      refine lv_aload_n hx hb dX7_counted_113 rfl (lv_at hl 1 rfl) ?_
                      refine lv_iload_n hx hb dX7_counted_114 rfl (lv_at hl 2 rfl) ?_
                      refine lv_bipush (v := 7) hx hb dX7_counted_115 (by decide) ?_
                      refine lv_isub hx hb dX7_counted_117 ?_
                      obtain ⟨r3, hr3, hf⟩ := obind hf
                      have hPc := hP.sub (ws' := [(zmo, .inr (6, [.int mM.1, .int mM.2.1, .int mM.2.2.1, .int (bI mM.2.2.2.1), .int mM.2.2.2.2.1, .int mM.2.2.2.2.2, .ref zar, .ref zbe, .ref zst, .ref zah, .ref zgd])), (zar, .inl (cJ, 64, .inr (.inl fR))), (zbe, .inl (cJ, 64, .inr (.inl fB))), (zwo, .inr (5, [.int sW.1, .int sW.2.1, .int sW.2.2.1, .long sW.2.2.2, .ref zwq]))]) [0, 1, 2, 3] rfl
                      have hDc := hD.sub (ws' := [(zmo, .inr (6, [.int mM.1, .int mM.2.1, .int mM.2.2.1, .int (bI mM.2.2.2.1), .int mM.2.2.2.2.1, .int mM.2.2.2.2.2, .ref zar, .ref zbe, .ref zst, .ref zah, .ref zgd])), (zar, .inl (cJ, 64, .inr (.inl fR))), (zbe, .inl (cJ, 64, .inr (.inl fB))), (zwo, .inr (5, [.int sW.1, .int sW.2.1, .int sW.2.2.1, .long sW.2.2.2, .ref zwq]))]) [0, 1, 2, 3] (by decide) rfl
                      have hFc := va_free (wc := [(zmo, .inr (6, [.int mM.1, .int mM.2.1, .int mM.2.2.1, .int (bI mM.2.2.2.1), .int mM.2.2.2.2.1, .int mM.2.2.2.2.2, .ref zar, .ref zbe, .ref zst, .ref zah, .ref zgd])), (zar, .inl (cJ, 64, .inr (.inl fR))), (zbe, .inl (cJ, 64, .inr (.inl fB))), (zwo, .inr (5, [.int sW.1, .int sW.2.1, .int sW.2.2.1, .long sW.2.2.2, .ref zwq]))]) hD hS hA [0, 1, 2, 3] rfl
                      refine va_calli (va_runV (As := [.ref zwo, .int (wh - 7)]) (rest := []) ⟨hx, hb, hml, hown, hts⟩ (c_X7_lawns l dC dI cI cJ zmo zar zbe zwo zst zah zgd zwq s.heap.size mM fR fB sW (wh - 7) _ hr3) (cwV 2 hts gX7_counted_X7_lawns rfl rfl rfl (by decide +kernel) ⟨Nat.le_of_ble_eq_true rfl, Nat.le_of_ble_eq_true rfl⟩) ⟨fun a U gg mk q => by obtain ⟨q0, q1, qP, qK, qD, qn⟩ := q; exact ⟨q0, q1, qP, va_K.moved (u := U) (U := U.calling gg mk a) (Vm.Alike.refl U.vm) qK, qD, nwM.same (u := U) (U := U.calling gg mk a) rfl qn⟩, va_recv hK hPc (ci := 6) (q0 := 0) rfl rfl, fun U hU hW => ⟨rfl, by rw [hU], by rw [hU]; exact hPc, va_K.moved hW.alike hK, hDc.weaken (fun _ _ _ _ => trivial), nwM.moved hW hnw⟩⟩ rfl rfl hl.1 rfl (lv_room (Nat.le_of_ble_eq_true rfl)) dX7_counted_118 ⟨Nat.zero_le _, Nat.zero_le _⟩) hS (fun q _ h => hFc q h) hFc (fun r_ u_ t H locs ht hvm hw hB hz1 hk1 hS => ?_)
                      obtain rfl := hw.symm
                      obtain ⟨hP1, -, hD1⟩ := hB
                      rw [ht] at hP1
                      obtain ⟨hP, hD⟩ := va_join (wr := [(zwq, .inl (cI, 64, .inl aW))]) (w1 := [(zmo, .inr (6, [.int mM.1, .int mM.2.1, .int mM.2.2.1, .int (bI mM.2.2.2.1), .int mM.2.2.2.2.1, .int mM.2.2.2.2.2, .ref zar, .ref zbe, .ref zst, .ref zah, .ref zgd])), (zar, .inl (cJ, 64, .inr (.inl fR))), (zbe, .inl (cJ, 64, .inr (.inl fB))), (zwo, .inr (5, [.int sW.1, .int sW.2.1, .int sW.2.2.1, .long sW.2.2.2, .ref zwq]))]) hP hD [0, 1, 2, 3] [4] rfl rfl (by decide) (by decide) hk1 hFc hP1 hD1
                      have hP := hP.sub (ws' := [(zmo, .inr (6, [.int mM.1, .int mM.2.1, .int mM.2.2.1, .int (bI mM.2.2.2.1), .int mM.2.2.2.2.1, .int mM.2.2.2.2.2, .ref zar, .ref zbe, .ref zst, .ref zah, .ref zgd])), (zar, .inl (cJ, 64, .inr (.inl fR))), (zbe, .inl (cJ, 64, .inr (.inl fB))), (zwo, .inr (5, [.int sW.1, .int sW.2.1, .int sW.2.2.1, .long sW.2.2.2, .ref zwq])), (zwq, .inl (cI, 64, .inl aW))]) [1, 2, 3, 4, 0] rfl
                      have hD := hD.sub (ws' := [(zmo, .inr (6, [.int mM.1, .int mM.2.1, .int mM.2.2.1, .int (bI mM.2.2.2.1), .int mM.2.2.2.2.1, .int mM.2.2.2.2.2, .ref zar, .ref zbe, .ref zst, .ref zah, .ref zgd])), (zar, .inl (cJ, 64, .inr (.inl fR))), (zbe, .inl (cJ, 64, .inr (.inl fB))), (zwo, .inr (5, [.int sW.1, .int sW.2.1, .int sW.2.2.1, .long sW.2.2.2, .ref zwq])), (zwq, .inl (cI, 64, .inl aW))]) [1, 2, 3, 4, 0] (by decide) rfl
                      clear hPc hDc hFc hP1 hD1 hk1
                      obtain rfl := Option.some.inj hf
                      exact W.iret (v := r3) hx hb hr (fun t ht hW => ⟨⟨r3, (), rfl, rfl, by rw [ht]; exact hP, va_K.moved hW.alike hK, hD⟩, hS.F ht⟩) hS.2.2 dX7_counted_121
                    · rw [if_neg hc9] at hf
                      by_cases hc10 : wh = 10
                      · rw [if_pos hc10] at hf
                        refine lv_tableIn (off := 105) (tgt := 106) hx hb dX7_counted_1 (by rw [hc10]; decide) (by rw [hc10]; decide) (by rw [hc10]; rfl) (by decide) ?_
                        refine lv_aload_n hx hb dX7_counted_106 rfl (lv_at hl 0 rfl) ?_
                        refine lv_aload_n hx hb dX7_counted_107 rfl (lv_at hl 1 rfl) ?_
                        obtain ⟨r4, hr4, hf⟩ := obind hf
                        have hPc := hP.sub (ws' := [(zmo, .inr (6, [.int mM.1, .int mM.2.1, .int mM.2.2.1, .int (bI mM.2.2.2.1), .int mM.2.2.2.2.1, .int mM.2.2.2.2.2, .ref zar, .ref zbe, .ref zst, .ref zah, .ref zgd])), (zwo, .inr (5, [.int sW.1, .int sW.2.1, .int sW.2.2.1, .long sW.2.2.2, .ref zwq])), (zwq, .inl (cI, 64, .inl aW))]) [0, 3, 4] rfl
                        have hDc := hD.sub (ws' := [(zmo, .inr (6, [.int mM.1, .int mM.2.1, .int mM.2.2.1, .int (bI mM.2.2.2.1), .int mM.2.2.2.2.1, .int mM.2.2.2.2.2, .ref zar, .ref zbe, .ref zst, .ref zah, .ref zgd])), (zwo, .inr (5, [.int sW.1, .int sW.2.1, .int sW.2.2.1, .long sW.2.2.2, .ref zwq])), (zwq, .inl (cI, 64, .inl aW))]) [0, 3, 4] (by decide) rfl
                        have hFc := va_free (wc := [(zmo, .inr (6, [.int mM.1, .int mM.2.1, .int mM.2.2.1, .int (bI mM.2.2.2.1), .int mM.2.2.2.2.1, .int mM.2.2.2.2.2, .ref zar, .ref zbe, .ref zst, .ref zah, .ref zgd])), (zwo, .inr (5, [.int sW.1, .int sW.2.1, .int sW.2.2.1, .long sW.2.2.2, .ref zwq])), (zwq, .inl (cI, 64, .inl aW))]) hD hS hA [0, 3, 4] rfl
                        refine va_calli (va_runV (As := [.ref zwo]) (rest := []) ⟨hx, hb, hml, hown, hts⟩ (c_X7_oldest l dC dI cI cJ zmo zwo zwq zar zbe zst zah zgd s.heap.size mM sW aW _ hr4) (cwV 1 hts gX7_counted_X7_oldest rfl rfl rfl (by decide +kernel) ⟨Nat.le_of_ble_eq_true rfl, Nat.le_of_ble_eq_true rfl⟩) ⟨fun a U gg mk q => by obtain ⟨q0, q1, qP, qK, qD, qn⟩ := q; exact ⟨q0, q1, qP, va_K.moved (u := U) (U := U.calling gg mk a) (Vm.Alike.refl U.vm) qK, qD, nwM.same (u := U) (U := U.calling gg mk a) rfl qn⟩, va_recv hK hPc (ci := 6) (q0 := 0) rfl rfl, fun U hU hW => ⟨rfl, by rw [hU], by rw [hU]; exact hPc, va_K.moved hW.alike hK, hDc.weaken (fun _ _ _ _ => trivial), nwM.moved hW hnw⟩⟩ rfl rfl hl.1 rfl (lv_room (Nat.le_of_ble_eq_true rfl)) dX7_counted_108 ⟨Nat.zero_le _, Nat.zero_le _⟩) hS (fun q _ h => hFc q h) hFc (fun r_ u_ t H locs ht hvm hw hB hz1 hk1 hS => ?_)
                        obtain rfl := hw.symm
                        obtain ⟨hP1, -, hD1⟩ := hB
                        rw [ht] at hP1
                        obtain ⟨hP, hD⟩ := va_join (wr := [(zar, .inl (cJ, 64, .inr (.inl fR))), (zbe, .inl (cJ, 64, .inr (.inl fB)))]) (w1 := [(zmo, .inr (6, [.int mM.1, .int mM.2.1, .int mM.2.2.1, .int (bI mM.2.2.2.1), .int mM.2.2.2.2.1, .int mM.2.2.2.2.2, .ref zar, .ref zbe, .ref zst, .ref zah, .ref zgd])), (zwo, .inr (5, [.int sW.1, .int sW.2.1, .int sW.2.2.1, .long sW.2.2.2, .ref zwq])), (zwq, .inl (cI, 64, .inl aW))]) hP hD [0, 3, 4] [1, 2] rfl rfl (by decide) (by decide) hk1 hFc hP1 hD1
                        have hP := hP.sub (ws' := [(zmo, .inr (6, [.int mM.1, .int mM.2.1, .int mM.2.2.1, .int (bI mM.2.2.2.1), .int mM.2.2.2.2.1, .int mM.2.2.2.2.2, .ref zar, .ref zbe, .ref zst, .ref zah, .ref zgd])), (zar, .inl (cJ, 64, .inr (.inl fR))), (zbe, .inl (cJ, 64, .inr (.inl fB))), (zwo, .inr (5, [.int sW.1, .int sW.2.1, .int sW.2.2.1, .long sW.2.2.2, .ref zwq])), (zwq, .inl (cI, 64, .inl aW))]) [2, 0, 1, 3, 4] rfl
                        have hD := hD.sub (ws' := [(zmo, .inr (6, [.int mM.1, .int mM.2.1, .int mM.2.2.1, .int (bI mM.2.2.2.1), .int mM.2.2.2.2.1, .int mM.2.2.2.2.2, .ref zar, .ref zbe, .ref zst, .ref zah, .ref zgd])), (zar, .inl (cJ, 64, .inr (.inl fR))), (zbe, .inl (cJ, 64, .inr (.inl fB))), (zwo, .inr (5, [.int sW.1, .int sW.2.1, .int sW.2.2.1, .long sW.2.2.2, .ref zwq])), (zwq, .inl (cI, 64, .inl aW))]) [2, 0, 1, 3, 4] (by decide) rfl
                        clear hPc hDc hFc hP1 hD1 hk1
                        obtain rfl := Option.some.inj hf
                        exact W.iret (v := r4) hx hb hr (fun t ht hW => ⟨⟨r4, (), rfl, rfl, by rw [ht]; exact hP, va_K.moved hW.alike hK, hD⟩, hS.F ht⟩) hS.2.2 dX7_counted_111
                      · rw [if_neg hc10] at hf
                        have ht0 : (wh).toInt ≠ 0 := fun h9 => hc0 (Int32.toInt_inj.mp (h9.trans (by decide)))
                        have ht1 : (wh).toInt ≠ 1 := fun h9 => hc1 (Int32.toInt_inj.mp (h9.trans (by decide)))
                        have ht2 : (wh).toInt ≠ 2 := fun h9 => hc2 (Int32.toInt_inj.mp (h9.trans (by decide)))
                        have ht3 : (wh).toInt ≠ 3 := fun h9 => hc3 (Int32.toInt_inj.mp (h9.trans (by decide)))
                        have ht4 : (wh).toInt ≠ 4 := fun h9 => hc4 (Int32.toInt_inj.mp (h9.trans (by decide)))
                        have ht5 : (wh).toInt ≠ 5 := fun h9 => hc5 (Int32.toInt_inj.mp (h9.trans (by decide)))
                        have ht6 : (wh).toInt ≠ 6 := fun h9 => hc6 (Int32.toInt_inj.mp (h9.trans (by decide)))
                        have ht7 : (wh).toInt ≠ 7 := fun h9 => hc7 (Int32.toInt_inj.mp (h9.trans (by decide)))
                        have ht8 : (wh).toInt ≠ 8 := fun h9 => hc8 (Int32.toInt_inj.mp (h9.trans (by decide)))
                        have ht9 : (wh).toInt ≠ 9 := fun h9 => hc9 (Int32.toInt_inj.mp (h9.trans (by decide)))
                        have ht10 : (wh).toInt ≠ 10 := fun h9 => hc10 (Int32.toInt_inj.mp (h9.trans (by decide)))
                        refine lv_tableOut (tgt := 112) hx hb dX7_counted_1 (by omega) (by decide) ?_
                        refine lv_aload_n hx hb dX7_counted_112 rfl (lv_at hl 0 rfl) ?_
                        refine lv_aload_n hx hb dX7_counted_113 rfl (lv_at hl 1 rfl) ?_
                        refine lv_iload_n hx hb dX7_counted_114 rfl (lv_at hl 2 rfl) ?_
                        refine lv_bipush (v := 7) hx hb dX7_counted_115 (by decide) ?_
                        refine lv_isub hx hb dX7_counted_117 ?_
                        obtain ⟨r5, hr5, hf⟩ := obind hf
                        have hPc := hP.sub (ws' := [(zmo, .inr (6, [.int mM.1, .int mM.2.1, .int mM.2.2.1, .int (bI mM.2.2.2.1), .int mM.2.2.2.2.1, .int mM.2.2.2.2.2, .ref zar, .ref zbe, .ref zst, .ref zah, .ref zgd])), (zar, .inl (cJ, 64, .inr (.inl fR))), (zbe, .inl (cJ, 64, .inr (.inl fB))), (zwo, .inr (5, [.int sW.1, .int sW.2.1, .int sW.2.2.1, .long sW.2.2.2, .ref zwq]))]) [0, 1, 2, 3] rfl
                        have hDc := hD.sub (ws' := [(zmo, .inr (6, [.int mM.1, .int mM.2.1, .int mM.2.2.1, .int (bI mM.2.2.2.1), .int mM.2.2.2.2.1, .int mM.2.2.2.2.2, .ref zar, .ref zbe, .ref zst, .ref zah, .ref zgd])), (zar, .inl (cJ, 64, .inr (.inl fR))), (zbe, .inl (cJ, 64, .inr (.inl fB))), (zwo, .inr (5, [.int sW.1, .int sW.2.1, .int sW.2.2.1, .long sW.2.2.2, .ref zwq]))]) [0, 1, 2, 3] (by decide) rfl
                        have hFc := va_free (wc := [(zmo, .inr (6, [.int mM.1, .int mM.2.1, .int mM.2.2.1, .int (bI mM.2.2.2.1), .int mM.2.2.2.2.1, .int mM.2.2.2.2.2, .ref zar, .ref zbe, .ref zst, .ref zah, .ref zgd])), (zar, .inl (cJ, 64, .inr (.inl fR))), (zbe, .inl (cJ, 64, .inr (.inl fB))), (zwo, .inr (5, [.int sW.1, .int sW.2.1, .int sW.2.2.1, .long sW.2.2.2, .ref zwq]))]) hD hS hA [0, 1, 2, 3] rfl
                        refine va_calli (va_runV (As := [.ref zwo, .int (wh - 7)]) (rest := []) ⟨hx, hb, hml, hown, hts⟩ (c_X7_lawns l dC dI cI cJ zmo zar zbe zwo zst zah zgd zwq s.heap.size mM fR fB sW (wh - 7) _ hr5) (cwV 2 hts gX7_counted_X7_lawns rfl rfl rfl (by decide +kernel) ⟨Nat.le_of_ble_eq_true rfl, Nat.le_of_ble_eq_true rfl⟩) ⟨fun a U gg mk q => by obtain ⟨q0, q1, qP, qK, qD, qn⟩ := q; exact ⟨q0, q1, qP, va_K.moved (u := U) (U := U.calling gg mk a) (Vm.Alike.refl U.vm) qK, qD, nwM.same (u := U) (U := U.calling gg mk a) rfl qn⟩, va_recv hK hPc (ci := 6) (q0 := 0) rfl rfl, fun U hU hW => ⟨rfl, by rw [hU], by rw [hU]; exact hPc, va_K.moved hW.alike hK, hDc.weaken (fun _ _ _ _ => trivial), nwM.moved hW hnw⟩⟩ rfl rfl hl.1 rfl (lv_room (Nat.le_of_ble_eq_true rfl)) dX7_counted_118 ⟨Nat.zero_le _, Nat.zero_le _⟩) hS (fun q _ h => hFc q h) hFc (fun r_ u_ t H locs ht hvm hw hB hz1 hk1 hS => ?_)
                        obtain rfl := hw.symm
                        obtain ⟨hP1, -, hD1⟩ := hB
                        rw [ht] at hP1
                        obtain ⟨hP, hD⟩ := va_join (wr := [(zwq, .inl (cI, 64, .inl aW))]) (w1 := [(zmo, .inr (6, [.int mM.1, .int mM.2.1, .int mM.2.2.1, .int (bI mM.2.2.2.1), .int mM.2.2.2.2.1, .int mM.2.2.2.2.2, .ref zar, .ref zbe, .ref zst, .ref zah, .ref zgd])), (zar, .inl (cJ, 64, .inr (.inl fR))), (zbe, .inl (cJ, 64, .inr (.inl fB))), (zwo, .inr (5, [.int sW.1, .int sW.2.1, .int sW.2.2.1, .long sW.2.2.2, .ref zwq]))]) hP hD [0, 1, 2, 3] [4] rfl rfl (by decide) (by decide) hk1 hFc hP1 hD1
                        have hP := hP.sub (ws' := [(zmo, .inr (6, [.int mM.1, .int mM.2.1, .int mM.2.2.1, .int (bI mM.2.2.2.1), .int mM.2.2.2.2.1, .int mM.2.2.2.2.2, .ref zar, .ref zbe, .ref zst, .ref zah, .ref zgd])), (zar, .inl (cJ, 64, .inr (.inl fR))), (zbe, .inl (cJ, 64, .inr (.inl fB))), (zwo, .inr (5, [.int sW.1, .int sW.2.1, .int sW.2.2.1, .long sW.2.2.2, .ref zwq])), (zwq, .inl (cI, 64, .inl aW))]) [1, 2, 3, 4, 0] rfl
                        have hD := hD.sub (ws' := [(zmo, .inr (6, [.int mM.1, .int mM.2.1, .int mM.2.2.1, .int (bI mM.2.2.2.1), .int mM.2.2.2.2.1, .int mM.2.2.2.2.2, .ref zar, .ref zbe, .ref zst, .ref zah, .ref zgd])), (zar, .inl (cJ, 64, .inr (.inl fR))), (zbe, .inl (cJ, 64, .inr (.inl fB))), (zwo, .inr (5, [.int sW.1, .int sW.2.1, .int sW.2.2.1, .long sW.2.2.2, .ref zwq])), (zwq, .inl (cI, 64, .inl aW))]) [1, 2, 3, 4, 0] (by decide) rfl
                        clear hPc hDc hFc hP1 hD1 hk1
                        obtain rfl := Option.some.inj hf
                        exact W.iret (v := r5) hx hb hr (fun t ht hW => ⟨⟨r5, (), rfl, rfl, by rw [ht]; exact hP, va_K.moved hW.alike hK, hD⟩, hS.F ht⟩) hS.2.2 dX7_counted_121
/-! HedgeGlidersModel.lay(II)I -/
def f_X7_lay (mM : MoS) (fR : Nat → Int64) (fB : Nat → Int64) (sS : StS) (wn : Int32) (hn : Int32) : Option (Int32 × MoS × (Nat → Int64) × (Nat → Int64) × StS) := if (f_X7_isIn wn 3 8) = 0 then (some ((f_X7_no (0, mM.2.1, mM.2.2.1, mM.2.2.2.1, mM.2.2.2.2.1, mM.2.2.2.2.2) 1).1, (f_X7_no (0, mM.2.1, mM.2.2.1, mM.2.2.2.1, mM.2.2.2.2.1, mM.2.2.2.2.2) 1).2, fR, fB, sS)) else (if (f_X7_isIn hn 3 8) = 0 then (some ((f_X7_no (0, mM.2.1, mM.2.2.1, mM.2.2.2.1, mM.2.2.2.2.1, mM.2.2.2.2.2) 1).1, (f_X7_no (0, mM.2.1, mM.2.2.1, mM.2.2.2.1, mM.2.2.2.2.1, mM.2.2.2.2.2) 1).2, fR, fB, sS)) else (Option.bind (f_X7_link (0, wn, hn, mM.2.2.2.1, mM.2.2.2.2.1, mM.2.2.2.2.2) fR fB) fun r1 => some ((f_J13_bitCount_95d88 sS.2.2.2), (0, wn, hn, mM.2.2.2.1, mM.2.2.2.2.1, mM.2.2.2.2.2), r1.1, r1.2, (sS.1, sS.2.1, sS.2.2.1, 0))))
abbrev rm_X7_lay : Room := ({ frames := 4, cells := 0, slots := 0, locals := 89 } : Room)
abbrev A_X7_lay (cI cJ : ClassId) (zmo zar zbe zst zah zgd zsa : Nat) (mM : MoS) (fR : Nat → Int64) (fB : Nat → Int64) (sS : StS) (wn : Int32) (hn : Int32) (sz : Nat) : Nat → Prop := va_A [(zmo, .inr (6, [.int mM.1, .int mM.2.1, .int mM.2.2.1, .int (bI mM.2.2.2.1), .int mM.2.2.2.2.1, .int mM.2.2.2.2.2, .ref zar, .ref zbe, .ref zst, .ref zah, .ref zgd])), (zar, .inl (cJ, 64, .inr (.inl fR))), (zbe, .inl (cJ, 64, .inr (.inl fB))), (zst, .inr (5, [.int sS.1, .int sS.2.1, .int sS.2.2.1, .long sS.2.2.2, .ref zsa]))] sz
abbrev Q_X7_lay (dC : Nat → ClassId) (dI : Nat → Nat → Nat) (cI cJ : ClassId) (zmo zar zbe zst zah zgd zsa : Nat) (mM : MoS) (fR : Nat → Int64) (fB : Nat → Int64) (sS : StS) (wn : Int32) (hn : Int32) (sz : Nat) (R : Int32 × MoS × (Nat → Int64) × (Nat → Int64) × StS) : Array Value → State → Outcome → State → Prop := va_Qi (fun (r : Int32) (_ : Unit) => r = R.1) (fun u_ t => va_P (dC, dI) vwCl [(zmo, .inr (6, [.int R.2.1.1, .int R.2.1.2.1, .int R.2.1.2.2.1, .int (bI R.2.1.2.2.2.1), .int R.2.1.2.2.2.2.1, .int R.2.1.2.2.2.2.2, .ref zar, .ref zbe, .ref zst, .ref zah, .ref zgd])), (zar, .inl (cJ, 64, .inr (.inl R.2.2.1))), (zbe, .inl (cJ, 64, .inr (.inl R.2.2.2.1))), (zst, .inr (5, [.int R.2.2.2.2.1, .int R.2.2.2.2.2.1, .int R.2.2.2.2.2.2.1, .long R.2.2.2.2.2.2.2, .ref zsa]))] t.heap ∧ va_K (dC, dI) vwCl [(cI, .int), (cJ, .long)] t ∧ va_D (A_X7_lay cI cJ zmo zar zbe zst zah zgd zsa mM fR fB sS wn hn sz) [(zmo, .inr (6, [.int R.2.1.1, .int R.2.1.2.1, .int R.2.1.2.2.1, .int (bI R.2.1.2.2.2.1), .int R.2.1.2.2.2.2.1, .int R.2.1.2.2.2.2.2, .ref zar, .ref zbe, .ref zst, .ref zah, .ref zgd])), (zar, .inl (cJ, 64, .inr (.inl R.2.2.1))), (zbe, .inl (cJ, 64, .inr (.inl R.2.2.2.1))), (zst, .inr (5, [.int R.2.2.2.2.1, .int R.2.2.2.2.2.1, .int R.2.2.2.2.2.2.1, .long R.2.2.2.2.2.2.2, .ref zsa]))]) (A_X7_lay cI cJ zmo zar zbe zst zah zgd zsa mM fR fB sS wn hn sz)
set_option maxHeartbeats 4000000 in
set_option maxRecDepth 100000 in
theorem c_X7_lay (l : Launch) (dC : Nat → ClassId) (dI : Nat → Nat → Nat) (cI cJ : ClassId) (zmo zar zbe zst zah zgd zsa : Nat) (sz : Nat) (mM : MoS) (fR : Nat → Int64) (fB : Nat → Int64) (sS : StS) (wn : Int32) (hn : Int32) (R : Int32 × MoS × (Nat → Int64) × (Nat → Int64) × StS) (hR : f_X7_lay mM fR fB sS wn hn = some R) : Met l yX7_lay wsX7_lay rm_X7_lay (va_Pc [.ref zmo, .int wn, .int hn] (fun U => U.heap.size = sz ∧ va_P (dC, dI) vwCl [(zmo, .inr (6, [.int mM.1, .int mM.2.1, .int mM.2.2.1, .int (bI mM.2.2.2.1), .int mM.2.2.2.2.1, .int mM.2.2.2.2.2, .ref zar, .ref zbe, .ref zst, .ref zah, .ref zgd])), (zar, .inl (cJ, 64, .inr (.inl fR))), (zbe, .inl (cJ, 64, .inr (.inl fB))), (zst, .inr (5, [.int sS.1, .int sS.2.1, .int sS.2.2.1, .long sS.2.2.2, .ref zsa]))] U.heap ∧ va_K (dC, dI) vwCl [(cI, .int), (cJ, .long)] U ∧ va_D (fun _ => True) [(zmo, .inr (6, [.int mM.1, .int mM.2.1, .int mM.2.2.1, .int (bI mM.2.2.2.1), .int mM.2.2.2.2.1, .int mM.2.2.2.2.2, .ref zar, .ref zbe, .ref zst, .ref zah, .ref zgd])), (zar, .inl (cJ, 64, .inr (.inl fR))), (zbe, .inl (cJ, 64, .inr (.inl fB))), (zst, .inr (5, [.int sS.1, .int sS.2.1, .int sS.2.2.1, .long sS.2.2.2, .ref zsa]))] ∧ nwM U)) (Q_X7_lay dC dI cI cJ zmo zar zbe zst zah zgd zsa mM fR fB sS wn hn sz R) 0 0 (A_X7_lay cI cJ zmo zar zbe zst zah zgd zsa mM fR fB sS wn hn sz) := by
  have hf := hR
  refine Met.ofW (cc := cX7_lay) (maxL := 4) (ret := (some .int)) (by decide) rfl ?_
  intro p e s m args below meth c s₁ B hml hv
  obtain ⟨hargs, hsz, hP, hK, hD0, hnw⟩ := hv
  have hx := B.exec
  have hb := B.bytes
  have hr := B.returns
  have hts := atoms_spec (ws := wsX7_lay) B.pre
  have hown : s.vm.findClass RX7 = some m.cls := findClass_of_methodNamed B.named
  have hlocks := B.notSynchronized
  subst hsz
  obtain ⟨hnw_hedges, hnw_ages, hnw_born, hnw_dead, hnw_year⟩ := id hnw
  have hD : va_D (A_X7_lay cI cJ zmo zar zbe zst zah zgd zsa mM fR fB sS wn hn s.heap.size) [(zmo, .inr (6, [.int mM.1, .int mM.2.1, .int mM.2.2.1, .int (bI mM.2.2.2.1), .int mM.2.2.2.2.1, .int mM.2.2.2.2.2, .ref zar, .ref zbe, .ref zst, .ref zah, .ref zgd])), (zar, .inl (cJ, 64, .inr (.inl fR))), (zbe, .inl (cJ, 64, .inr (.inl fB))), (zst, .inr (5, [.int sS.1, .int sS.2.1, .int sS.2.2.1, .long sS.2.2.2, .ref zsa]))] := hD0.self (sz := s.heap.size)
  have hA : ∀ q : Nat, s.heap.size ≤ q → (A_X7_lay cI cJ zmo zar zbe zst zah zgd zsa mM fR fB sS wn hn s.heap.size) q := fun q h => Or.inr h
  have hS : va_S (A_X7_lay cI cJ zmo zar zbe zst zah zgd zsa mM fR fB sS wn hn s.heap.size) s.heap s.heap [] := va_S.rf
  have hinX6 : ∀ w ∈ wsX60, w ∈ wsX7_lay := by decide +kernel
  have hinX7 : ∀ w ∈ wsX70, w ∈ wsX7_lay := by decide +kernel
  have hw0 := hts (.fieldLink RX7 45 "HedgeGlidersModel" "thrown" "I") (by decide +kernel)
  have hw1 := hts (.fieldLink RX7 32 "HedgeGlidersModel" "s" "LHedgeGlidersModel$State;") (by decide +kernel)
  have hw2 := hts (.fieldLink RX7 9 "HedgeGlidersModel" "w" "I") (by decide +kernel)
  have hw3 := hts (.fieldLink RX7 13 "HedgeGlidersModel" "h" "I") (by decide +kernel)
  have hl := lv_entry ([.ref zmo, .int wn, .int hn]) (n := 4) (Nat.le_of_ble_eq_true rfl)
  have he0 : entryFrame m args 4 = entryFrame m ([.ref zmo, .int wn, .int hn] : List Value).toArray 4 := by rw [hargs]
  rw [he0, lg_entry_eq]
  generalize (lg_sl ([.ref zmo, .int wn, .int hn]) ++ List.replicate (4 - (lg_sl ([.ref zmo, .int wn, .int hn])).length) Slot.unset).toArray = ls at hl ⊢
  have hl : lv_has ls 4 [(0, .ref zmo), (1, .int wn), (2, .int hn)] := hl
  rw [f_X7_lay] at hf
  refine lv_aload_n hx hb dX7_lay_0 rfl (lv_at hl 0 rfl) ?_
  refine lv_iconst (v := 0) hx hb dX7_lay_1 (by decide) ?_
  refine va_put (D := (dC, dI)) (ci := 6) (v := .int 0) (ty := .int) (C := RX7) (T := TX7) (N := 11) hx hb hts hinX7 tyX7 tyX7_ok nmX7 hown hK hP hD hS 0 rfl rfl 0 (by decide) hw0 (fun _ h9 => h9) rfl (by decide +kernel) rfl rfl (Nat.le_of_ble_eq_true rfl) dX7_lay_2 (fun H locs hP hD hS => ?_)
  have hP : va_P (dC, dI) vwCl [(zmo, .inr (6, [.int 0, .int mM.2.1, .int mM.2.2.1, .int (bI mM.2.2.2.1), .int mM.2.2.2.2.1, .int mM.2.2.2.2.2, .ref zar, .ref zbe, .ref zst, .ref zah, .ref zgd])), (zar, .inl (cJ, 64, .inr (.inl fR))), (zbe, .inl (cJ, 64, .inr (.inl fB))), (zst, .inr (5, [.int sS.1, .int sS.2.1, .int sS.2.2.1, .long sS.2.2.2, .ref zsa]))] H := hP
  have hD : va_D (A_X7_lay cI cJ zmo zar zbe zst zah zgd zsa mM fR fB sS wn hn s.heap.size) [(zmo, .inr (6, [.int 0, .int mM.2.1, .int mM.2.2.1, .int (bI mM.2.2.2.1), .int mM.2.2.2.2.1, .int mM.2.2.2.2.2, .ref zar, .ref zbe, .ref zst, .ref zah, .ref zgd])), (zar, .inl (cJ, 64, .inr (.inl fR))), (zbe, .inl (cJ, 64, .inr (.inl fB))), (zst, .inr (5, [.int sS.1, .int sS.2.1, .int sS.2.2.1, .long sS.2.2.2, .ref zsa]))] := hD
  refine lv_iload_n hx hb dX7_lay_5 rfl (lv_at hl 1 rfl) ?_
  refine lv_iconst (v := 3) hx hb dX7_lay_6 (by decide) ?_
  refine lv_bipush (v := 8) hx hb dX7_lay_7 (by decide) ?_
  have hPc := hP.sub (ws' := []) [] rfl
  have hDc := hD.sub (ws' := []) [] (by decide) rfl
  have hFc := va_free (wc := []) hD hS hA [] rfl
  refine va_calli (va_runS (As := [.int wn, .int 3, .int 8]) (rest := []) ⟨hx, hb, hml, hown, hts⟩ (c_X7_isIn l dC dI cI cJ  H.size wn 3 8) (va_cwS 3 hts gX7_lay_X7_isIn rfl rfl rfl (by decide +kernel) ⟨Nat.le_of_ble_eq_true rfl, Nat.le_of_ble_eq_true rfl⟩) ⟨fun a U gg mk q => by obtain ⟨q0, q1, qP, qK, qD⟩ := q; exact ⟨q0, q1, qP, va_K.moved (u := U) (U := U.calling gg mk a) (Vm.Alike.refl U.vm) qK, qD⟩, fun U hU hW => ⟨rfl, by rw [hU], by rw [hU]; exact hPc, va_K.moved hW.alike hK, hDc.weaken (fun _ _ _ _ => trivial)⟩⟩ rfl rfl hl.1 rfl (lv_room (Nat.le_of_ble_eq_true rfl)) dX7_lay_9 ⟨Nat.zero_le _, Nat.zero_le _⟩) hS (fun q _ h => hFc q h) hFc (fun r_ u_ t H locs ht hvm hw hB hz1 hk1 hS => ?_)
  obtain rfl := hw.symm
  obtain ⟨hP1, -, hD1⟩ := hB
  rw [ht] at hP1
  obtain ⟨hP, hD⟩ := va_join (wr := [(zmo, .inr (6, [.int 0, .int mM.2.1, .int mM.2.2.1, .int (bI mM.2.2.2.1), .int mM.2.2.2.2.1, .int mM.2.2.2.2.2, .ref zar, .ref zbe, .ref zst, .ref zah, .ref zgd])), (zar, .inl (cJ, 64, .inr (.inl fR))), (zbe, .inl (cJ, 64, .inr (.inl fB))), (zst, .inr (5, [.int sS.1, .int sS.2.1, .int sS.2.2.1, .long sS.2.2.2, .ref zsa]))]) (w1 := []) hP hD [] [0, 1, 2, 3] rfl rfl (by decide) (by decide) hk1 hFc hP1 hD1
  have hP := hP.sub (ws' := [(zmo, .inr (6, [.int 0, .int mM.2.1, .int mM.2.2.1, .int (bI mM.2.2.2.1), .int mM.2.2.2.2.1, .int mM.2.2.2.2.2, .ref zar, .ref zbe, .ref zst, .ref zah, .ref zgd])), (zar, .inl (cJ, 64, .inr (.inl fR))), (zbe, .inl (cJ, 64, .inr (.inl fB))), (zst, .inr (5, [.int sS.1, .int sS.2.1, .int sS.2.2.1, .long sS.2.2.2, .ref zsa]))]) [0, 1, 2, 3] rfl
  have hD := hD.sub (ws' := [(zmo, .inr (6, [.int 0, .int mM.2.1, .int mM.2.2.1, .int (bI mM.2.2.2.1), .int mM.2.2.2.2.1, .int mM.2.2.2.2.2, .ref zar, .ref zbe, .ref zst, .ref zah, .ref zgd])), (zar, .inl (cJ, 64, .inr (.inl fR))), (zbe, .inl (cJ, 64, .inr (.inl fB))), (zst, .inr (5, [.int sS.1, .int sS.2.1, .int sS.2.2.1, .long sS.2.2.2, .ref zsa]))]) [0, 1, 2, 3] (by decide) rfl
  clear hPc hDc hFc hP1 hD1 hk1
  refine lv_if_eq (tgt := 25) hx hb dX7_lay_12 (by decide) (fun hc => ?_) (fun hc => ?_)
  · rw [if_pos hc] at hf
    refine lv_aload_n hx hb dX7_lay_25 rfl (lv_at hl 0 rfl) ?_
    refine lv_iconst (v := 1) hx hb dX7_lay_26 (by decide) ?_
    have hPc := hP.sub (ws' := [(zmo, .inr (6, [.int 0, .int mM.2.1, .int mM.2.2.1, .int (bI mM.2.2.2.1), .int mM.2.2.2.2.1, .int mM.2.2.2.2.2, .ref zar, .ref zbe, .ref zst, .ref zah, .ref zgd]))]) [0] rfl
    have hDc := hD.sub (ws' := [(zmo, .inr (6, [.int 0, .int mM.2.1, .int mM.2.2.1, .int (bI mM.2.2.2.1), .int mM.2.2.2.2.1, .int mM.2.2.2.2.2, .ref zar, .ref zbe, .ref zst, .ref zah, .ref zgd]))]) [0] (by decide) rfl
    have hFc := va_free (wc := [(zmo, .inr (6, [.int 0, .int mM.2.1, .int mM.2.2.1, .int (bI mM.2.2.2.1), .int mM.2.2.2.2.1, .int mM.2.2.2.2.2, .ref zar, .ref zbe, .ref zst, .ref zah, .ref zgd]))]) hD hS hA [0] rfl
    refine va_calli (va_runV (As := [.int 1]) (rest := []) ⟨hx, hb, hml, hown, hts⟩ (c_X7_no l dC dI cI cJ zmo zar zbe zst zah zgd H.size (0, mM.2.1, mM.2.2.1, mM.2.2.2.1, mM.2.2.2.2.1, mM.2.2.2.2.2) 1) (cwV 1 hts gX7_lay_X7_no rfl rfl rfl (by decide +kernel) ⟨Nat.le_of_ble_eq_true rfl, Nat.le_of_ble_eq_true rfl⟩) ⟨fun a U gg mk q => by obtain ⟨q0, q1, qP, qK, qD⟩ := q; exact ⟨q0, q1, qP, va_K.moved (u := U) (U := U.calling gg mk a) (Vm.Alike.refl U.vm) qK, qD⟩, va_recv hK hPc (ci := 6) (q0 := 0) rfl rfl, fun U hU hW => ⟨rfl, by rw [hU], by rw [hU]; exact hPc, va_K.moved hW.alike hK, hDc.weaken (fun _ _ _ _ => trivial)⟩⟩ rfl rfl hl.1 rfl (lv_room (Nat.le_of_ble_eq_true rfl)) dX7_lay_27 ⟨Nat.zero_le _, Nat.zero_le _⟩) hS (fun q _ h => hFc q h) hFc (fun r_ u_ t H locs ht hvm hw hB hz1 hk1 hS => ?_)
    obtain rfl := hw.symm
    obtain ⟨hP1, -, hD1⟩ := hB
    rw [ht] at hP1
    obtain ⟨hP, hD⟩ := va_join (wr := [(zar, .inl (cJ, 64, .inr (.inl fR))), (zbe, .inl (cJ, 64, .inr (.inl fB))), (zst, .inr (5, [.int sS.1, .int sS.2.1, .int sS.2.2.1, .long sS.2.2.2, .ref zsa]))]) (w1 := [(zmo, .inr (6, [.int (f_X7_no (0, mM.2.1, mM.2.2.1, mM.2.2.2.1, mM.2.2.2.2.1, mM.2.2.2.2.2) 1).2.1, .int (f_X7_no (0, mM.2.1, mM.2.2.1, mM.2.2.2.1, mM.2.2.2.2.1, mM.2.2.2.2.2) 1).2.2.1, .int (f_X7_no (0, mM.2.1, mM.2.2.1, mM.2.2.2.1, mM.2.2.2.2.1, mM.2.2.2.2.2) 1).2.2.2.1, .int (bI (f_X7_no (0, mM.2.1, mM.2.2.1, mM.2.2.2.1, mM.2.2.2.2.1, mM.2.2.2.2.2) 1).2.2.2.2.1), .int (f_X7_no (0, mM.2.1, mM.2.2.1, mM.2.2.2.1, mM.2.2.2.2.1, mM.2.2.2.2.2) 1).2.2.2.2.2.1, .int (f_X7_no (0, mM.2.1, mM.2.2.1, mM.2.2.2.1, mM.2.2.2.2.1, mM.2.2.2.2.2) 1).2.2.2.2.2.2, .ref zar, .ref zbe, .ref zst, .ref zah, .ref zgd]))]) hP hD [0] [1, 2, 3] rfl rfl (by decide) (by decide) hk1 hFc hP1 hD1
    have hP := hP.sub (ws' := [(zmo, .inr (6, [.int (f_X7_no (0, mM.2.1, mM.2.2.1, mM.2.2.2.1, mM.2.2.2.2.1, mM.2.2.2.2.2) 1).2.1, .int (f_X7_no (0, mM.2.1, mM.2.2.1, mM.2.2.2.1, mM.2.2.2.2.1, mM.2.2.2.2.2) 1).2.2.1, .int (f_X7_no (0, mM.2.1, mM.2.2.1, mM.2.2.2.1, mM.2.2.2.2.1, mM.2.2.2.2.2) 1).2.2.2.1, .int (bI (f_X7_no (0, mM.2.1, mM.2.2.1, mM.2.2.2.1, mM.2.2.2.2.1, mM.2.2.2.2.2) 1).2.2.2.2.1), .int (f_X7_no (0, mM.2.1, mM.2.2.1, mM.2.2.2.1, mM.2.2.2.2.1, mM.2.2.2.2.2) 1).2.2.2.2.2.1, .int (f_X7_no (0, mM.2.1, mM.2.2.1, mM.2.2.2.1, mM.2.2.2.2.1, mM.2.2.2.2.2) 1).2.2.2.2.2.2, .ref zar, .ref zbe, .ref zst, .ref zah, .ref zgd])), (zar, .inl (cJ, 64, .inr (.inl fR))), (zbe, .inl (cJ, 64, .inr (.inl fB))), (zst, .inr (5, [.int sS.1, .int sS.2.1, .int sS.2.2.1, .long sS.2.2.2, .ref zsa]))]) [3, 0, 1, 2] rfl
    have hD := hD.sub (ws' := [(zmo, .inr (6, [.int (f_X7_no (0, mM.2.1, mM.2.2.1, mM.2.2.2.1, mM.2.2.2.2.1, mM.2.2.2.2.2) 1).2.1, .int (f_X7_no (0, mM.2.1, mM.2.2.1, mM.2.2.2.1, mM.2.2.2.2.1, mM.2.2.2.2.2) 1).2.2.1, .int (f_X7_no (0, mM.2.1, mM.2.2.1, mM.2.2.2.1, mM.2.2.2.2.1, mM.2.2.2.2.2) 1).2.2.2.1, .int (bI (f_X7_no (0, mM.2.1, mM.2.2.1, mM.2.2.2.1, mM.2.2.2.2.1, mM.2.2.2.2.2) 1).2.2.2.2.1), .int (f_X7_no (0, mM.2.1, mM.2.2.1, mM.2.2.2.1, mM.2.2.2.2.1, mM.2.2.2.2.2) 1).2.2.2.2.2.1, .int (f_X7_no (0, mM.2.1, mM.2.2.1, mM.2.2.2.1, mM.2.2.2.2.1, mM.2.2.2.2.2) 1).2.2.2.2.2.2, .ref zar, .ref zbe, .ref zst, .ref zah, .ref zgd])), (zar, .inl (cJ, 64, .inr (.inl fR))), (zbe, .inl (cJ, 64, .inr (.inl fB))), (zst, .inr (5, [.int sS.1, .int sS.2.1, .int sS.2.2.1, .long sS.2.2.2, .ref zsa]))]) [3, 0, 1, 2] (by decide) rfl
    clear hPc hDc hFc hP1 hD1 hk1
    obtain rfl := Option.some.inj hf
    exact W.iret (v := (f_X7_no (0, mM.2.1, mM.2.2.1, mM.2.2.2.1, mM.2.2.2.2.1, mM.2.2.2.2.2) 1).1) hx hb hr (fun t ht hW => ⟨⟨(f_X7_no (0, mM.2.1, mM.2.2.1, mM.2.2.2.1, mM.2.2.2.2.1, mM.2.2.2.2.2) 1).1, (), rfl, rfl, by rw [ht]; exact hP, va_K.moved hW.alike hK, hD⟩, hS.F ht⟩) hS.2.2 dX7_lay_30
  · rw [if_neg hc] at hf
    refine lv_iload_n hx hb dX7_lay_15 rfl (lv_at hl 2 rfl) ?_
    refine lv_iconst (v := 3) hx hb dX7_lay_16 (by decide) ?_
    refine lv_bipush (v := 8) hx hb dX7_lay_17 (by decide) ?_
    have hPc := hP.sub (ws' := []) [] rfl
    have hDc := hD.sub (ws' := []) [] (by decide) rfl
    have hFc := va_free (wc := []) hD hS hA [] rfl
    refine va_calli (va_runS (As := [.int hn, .int 3, .int 8]) (rest := []) ⟨hx, hb, hml, hown, hts⟩ (c_X7_isIn l dC dI cI cJ  H.size hn 3 8) (va_cwS 3 hts gX7_lay_X7_isIn rfl rfl rfl (by decide +kernel) ⟨Nat.le_of_ble_eq_true rfl, Nat.le_of_ble_eq_true rfl⟩) ⟨fun a U gg mk q => by obtain ⟨q0, q1, qP, qK, qD⟩ := q; exact ⟨q0, q1, qP, va_K.moved (u := U) (U := U.calling gg mk a) (Vm.Alike.refl U.vm) qK, qD⟩, fun U hU hW => ⟨rfl, by rw [hU], by rw [hU]; exact hPc, va_K.moved hW.alike hK, hDc.weaken (fun _ _ _ _ => trivial)⟩⟩ rfl rfl hl.1 rfl (lv_room (Nat.le_of_ble_eq_true rfl)) dX7_lay_19 ⟨Nat.zero_le _, Nat.zero_le _⟩) hS (fun q _ h => hFc q h) hFc (fun r_ u_ t H locs ht hvm hw hB hz1 hk1 hS => ?_)
    obtain rfl := hw.symm
    obtain ⟨hP1, -, hD1⟩ := hB
    rw [ht] at hP1
    obtain ⟨hP, hD⟩ := va_join (wr := [(zmo, .inr (6, [.int 0, .int mM.2.1, .int mM.2.2.1, .int (bI mM.2.2.2.1), .int mM.2.2.2.2.1, .int mM.2.2.2.2.2, .ref zar, .ref zbe, .ref zst, .ref zah, .ref zgd])), (zar, .inl (cJ, 64, .inr (.inl fR))), (zbe, .inl (cJ, 64, .inr (.inl fB))), (zst, .inr (5, [.int sS.1, .int sS.2.1, .int sS.2.2.1, .long sS.2.2.2, .ref zsa]))]) (w1 := []) hP hD [] [0, 1, 2, 3] rfl rfl (by decide) (by decide) hk1 hFc hP1 hD1
    have hP := hP.sub (ws' := [(zmo, .inr (6, [.int 0, .int mM.2.1, .int mM.2.2.1, .int (bI mM.2.2.2.1), .int mM.2.2.2.2.1, .int mM.2.2.2.2.2, .ref zar, .ref zbe, .ref zst, .ref zah, .ref zgd])), (zar, .inl (cJ, 64, .inr (.inl fR))), (zbe, .inl (cJ, 64, .inr (.inl fB))), (zst, .inr (5, [.int sS.1, .int sS.2.1, .int sS.2.2.1, .long sS.2.2.2, .ref zsa]))]) [0, 1, 2, 3] rfl
    have hD := hD.sub (ws' := [(zmo, .inr (6, [.int 0, .int mM.2.1, .int mM.2.2.1, .int (bI mM.2.2.2.1), .int mM.2.2.2.2.1, .int mM.2.2.2.2.2, .ref zar, .ref zbe, .ref zst, .ref zah, .ref zgd])), (zar, .inl (cJ, 64, .inr (.inl fR))), (zbe, .inl (cJ, 64, .inr (.inl fB))), (zst, .inr (5, [.int sS.1, .int sS.2.1, .int sS.2.2.1, .long sS.2.2.2, .ref zsa]))]) [0, 1, 2, 3] (by decide) rfl
    clear hPc hDc hFc hP1 hD1 hk1
    refine lv_if_ne (tgt := 31) hx hb dX7_lay_22 (by decide) (fun hc => ?_) (fun hc => ?_)
    · rw [if_neg hc] at hf
      refine lv_aload_n hx hb dX7_lay_31 rfl (lv_at hl 0 rfl) ?_
      refine va_get (D := (dC, dI)) (ci := 6) (v := .ref zst) (C := RX7) (T := TX7) (N := 11) hx hb hts hinX7 hown hK hP 0 rfl rfl 8 (by decide) hw1 (fun _ h9 => h9) rfl dX7_lay_32 ?_
      refine va_getN (D := (dC, dI)) (ci := 5) (v := .long sS.2.2.2) (C := RX6) (T := TX6) (N := 5) hx hb hts hinX6 hown hK hP 3 rfl rfl 3 (by decide) (va_Nw.use rfl hnw_hedges) (fun _ h9 => h9) rfl dX7_lay_35 ?_
      have hPc := hP.sub (ws' := []) [] rfl
      have hDc := hD.sub (ws' := []) [] (by decide) rfl
      have hFc := va_free (wc := []) hD hS hA [] rfl
      refine va_calli (va_runS (As := [.long sS.2.2.2]) (rest := []) ⟨hx, hb, hml, hown, hts⟩ (c_J13_bitCount_95d88 l dC dI cI cJ  H.size sS.2.2.2) (va_cwS 1 hts gX7_lay_J13_bitCount_95d88 rfl rfl rfl (by decide +kernel) ⟨Nat.le_of_ble_eq_true rfl, Nat.le_of_ble_eq_true rfl⟩) ⟨fun a U gg mk q => by obtain ⟨q0, q1, qP, qK, qD⟩ := q; exact ⟨q0, q1, qP, va_K.moved (u := U) (U := U.calling gg mk a) (Vm.Alike.refl U.vm) qK, qD⟩, fun U hU hW => ⟨rfl, by rw [hU], by rw [hU]; exact hPc, va_K.moved hW.alike hK, hDc.weaken (fun _ _ _ _ => trivial)⟩⟩ rfl rfl hl.1 rfl (lv_room (Nat.le_of_ble_eq_true rfl)) dX7_lay_38 ⟨Nat.zero_le _, Nat.zero_le _⟩) hS (fun q _ h => hFc q h) hFc (fun r_ u_ t H locs ht hvm hw hB hz1 hk1 hS => ?_)
      obtain rfl := hw.symm
      obtain ⟨hP1, -, hD1⟩ := hB
      rw [ht] at hP1
      obtain ⟨hP, hD⟩ := va_join (wr := [(zmo, .inr (6, [.int 0, .int mM.2.1, .int mM.2.2.1, .int (bI mM.2.2.2.1), .int mM.2.2.2.2.1, .int mM.2.2.2.2.2, .ref zar, .ref zbe, .ref zst, .ref zah, .ref zgd])), (zar, .inl (cJ, 64, .inr (.inl fR))), (zbe, .inl (cJ, 64, .inr (.inl fB))), (zst, .inr (5, [.int sS.1, .int sS.2.1, .int sS.2.2.1, .long sS.2.2.2, .ref zsa]))]) (w1 := []) hP hD [] [0, 1, 2, 3] rfl rfl (by decide) (by decide) hk1 hFc hP1 hD1
      have hP := hP.sub (ws' := [(zmo, .inr (6, [.int 0, .int mM.2.1, .int mM.2.2.1, .int (bI mM.2.2.2.1), .int mM.2.2.2.2.1, .int mM.2.2.2.2.2, .ref zar, .ref zbe, .ref zst, .ref zah, .ref zgd])), (zar, .inl (cJ, 64, .inr (.inl fR))), (zbe, .inl (cJ, 64, .inr (.inl fB))), (zst, .inr (5, [.int sS.1, .int sS.2.1, .int sS.2.2.1, .long sS.2.2.2, .ref zsa]))]) [0, 1, 2, 3] rfl
      have hD := hD.sub (ws' := [(zmo, .inr (6, [.int 0, .int mM.2.1, .int mM.2.2.1, .int (bI mM.2.2.2.1), .int mM.2.2.2.2.1, .int mM.2.2.2.2.2, .ref zar, .ref zbe, .ref zst, .ref zah, .ref zgd])), (zar, .inl (cJ, 64, .inr (.inl fR))), (zbe, .inl (cJ, 64, .inr (.inl fB))), (zst, .inr (5, [.int sS.1, .int sS.2.1, .int sS.2.2.1, .long sS.2.2.2, .ref zsa]))]) [0, 1, 2, 3] (by decide) rfl
      clear hPc hDc hFc hP1 hD1 hk1
      refine lv_istore_n (lv' := [(3, .int (f_J13_bitCount_95d88 sS.2.2.2)), (0, .ref zmo), (1, .int wn), (2, .int hn)]) hx hb dX7_lay_41 rfl hl (by decide) rfl (fun ls hl => ?_)
      refine lv_aload_n hx hb dX7_lay_42 rfl (lv_at hl 1 rfl) ?_
      refine lv_iload_n hx hb dX7_lay_43 rfl (lv_at hl 2 rfl) ?_
      refine va_put (D := (dC, dI)) (ci := 6) (v := .int wn) (ty := .int) (C := RX7) (T := TX7) (N := 11) hx hb hts hinX7 tyX7 tyX7_ok nmX7 hown hK hP hD hS 0 rfl rfl 1 (by decide) hw2 (fun _ h9 => h9) rfl (by decide +kernel) rfl rfl (Nat.le_of_ble_eq_true rfl) dX7_lay_44 (fun H locs hP hD hS => ?_)
      have hP : va_P (dC, dI) vwCl [(zmo, .inr (6, [.int 0, .int wn, .int mM.2.2.1, .int (bI mM.2.2.2.1), .int mM.2.2.2.2.1, .int mM.2.2.2.2.2, .ref zar, .ref zbe, .ref zst, .ref zah, .ref zgd])), (zar, .inl (cJ, 64, .inr (.inl fR))), (zbe, .inl (cJ, 64, .inr (.inl fB))), (zst, .inr (5, [.int sS.1, .int sS.2.1, .int sS.2.2.1, .long sS.2.2.2, .ref zsa]))] H := hP
      have hD : va_D (A_X7_lay cI cJ zmo zar zbe zst zah zgd zsa mM fR fB sS wn hn s.heap.size) [(zmo, .inr (6, [.int 0, .int wn, .int mM.2.2.1, .int (bI mM.2.2.2.1), .int mM.2.2.2.2.1, .int mM.2.2.2.2.2, .ref zar, .ref zbe, .ref zst, .ref zah, .ref zgd])), (zar, .inl (cJ, 64, .inr (.inl fR))), (zbe, .inl (cJ, 64, .inr (.inl fB))), (zst, .inr (5, [.int sS.1, .int sS.2.1, .int sS.2.2.1, .long sS.2.2.2, .ref zsa]))] := hD
      refine lv_aload_n hx hb dX7_lay_47 rfl (lv_at hl 1 rfl) ?_
      refine lv_iload_n hx hb dX7_lay_48 rfl (lv_at hl 3 rfl) ?_
      refine va_put (D := (dC, dI)) (ci := 6) (v := .int hn) (ty := .int) (C := RX7) (T := TX7) (N := 11) hx hb hts hinX7 tyX7 tyX7_ok nmX7 hown hK hP hD hS 0 rfl rfl 2 (by decide) hw3 (fun _ h9 => h9) rfl (by decide +kernel) rfl rfl (Nat.le_of_ble_eq_true rfl) dX7_lay_49 (fun H locs hP hD hS => ?_)
      have hP : va_P (dC, dI) vwCl [(zmo, .inr (6, [.int 0, .int wn, .int hn, .int (bI mM.2.2.2.1), .int mM.2.2.2.2.1, .int mM.2.2.2.2.2, .ref zar, .ref zbe, .ref zst, .ref zah, .ref zgd])), (zar, .inl (cJ, 64, .inr (.inl fR))), (zbe, .inl (cJ, 64, .inr (.inl fB))), (zst, .inr (5, [.int sS.1, .int sS.2.1, .int sS.2.2.1, .long sS.2.2.2, .ref zsa]))] H := hP
      have hD : va_D (A_X7_lay cI cJ zmo zar zbe zst zah zgd zsa mM fR fB sS wn hn s.heap.size) [(zmo, .inr (6, [.int 0, .int wn, .int hn, .int (bI mM.2.2.2.1), .int mM.2.2.2.2.1, .int mM.2.2.2.2.2, .ref zar, .ref zbe, .ref zst, .ref zah, .ref zgd])), (zar, .inl (cJ, 64, .inr (.inl fR))), (zbe, .inl (cJ, 64, .inr (.inl fB))), (zst, .inr (5, [.int sS.1, .int sS.2.1, .int sS.2.2.1, .long sS.2.2.2, .ref zsa]))] := hD
      refine lv_aload_n hx hb dX7_lay_52 rfl (lv_at hl 1 rfl) ?_
      refine va_get (D := (dC, dI)) (ci := 6) (v := .ref zst) (C := RX7) (T := TX7) (N := 11) hx hb hts hinX7 hown hK hP 0 rfl rfl 8 (by decide) hw1 (fun _ h9 => h9) rfl dX7_lay_53 ?_
      refine lv_lconst (v := 0) hx hb dX7_lay_56 (by decide) ?_
      refine va_putN (D := (dC, dI)) (ci := 5) (v := .long 0) (ty := .long) (C := RX6) (T := TX6) (N := 5) hx hb hts hinX6 tyX6 tyX6_ok nmX6 hown hK hP hD hS 3 rfl rfl 3 (by decide) (va_Nw.use rfl hnw_hedges) (fun _ h9 => h9) rfl (by decide +kernel) rfl rfl (Nat.le_of_ble_eq_true rfl) dX7_lay_57 (fun H locs hP hD hS => ?_)
      have hP : va_P (dC, dI) vwCl [(zmo, .inr (6, [.int 0, .int wn, .int hn, .int (bI mM.2.2.2.1), .int mM.2.2.2.2.1, .int mM.2.2.2.2.2, .ref zar, .ref zbe, .ref zst, .ref zah, .ref zgd])), (zar, .inl (cJ, 64, .inr (.inl fR))), (zbe, .inl (cJ, 64, .inr (.inl fB))), (zst, .inr (5, [.int sS.1, .int sS.2.1, .int sS.2.2.1, .long 0, .ref zsa]))] H := hP
      have hD : va_D (A_X7_lay cI cJ zmo zar zbe zst zah zgd zsa mM fR fB sS wn hn s.heap.size) [(zmo, .inr (6, [.int 0, .int wn, .int hn, .int (bI mM.2.2.2.1), .int mM.2.2.2.2.1, .int mM.2.2.2.2.2, .ref zar, .ref zbe, .ref zst, .ref zah, .ref zgd])), (zar, .inl (cJ, 64, .inr (.inl fR))), (zbe, .inl (cJ, 64, .inr (.inl fB))), (zst, .inr (5, [.int sS.1, .int sS.2.1, .int sS.2.2.1, .long 0, .ref zsa]))] := hD
      refine lv_aload_n hx hb dX7_lay_60 rfl (lv_at hl 1 rfl) ?_
      obtain ⟨r1, hr1, hf⟩ := obind hf
      have hPc := hP.sub (ws' := [(zmo, .inr (6, [.int 0, .int wn, .int hn, .int (bI mM.2.2.2.1), .int mM.2.2.2.2.1, .int mM.2.2.2.2.2, .ref zar, .ref zbe, .ref zst, .ref zah, .ref zgd])), (zar, .inl (cJ, 64, .inr (.inl fR))), (zbe, .inl (cJ, 64, .inr (.inl fB)))]) [0, 1, 2] rfl
      have hDc := hD.sub (ws' := [(zmo, .inr (6, [.int 0, .int wn, .int hn, .int (bI mM.2.2.2.1), .int mM.2.2.2.2.1, .int mM.2.2.2.2.2, .ref zar, .ref zbe, .ref zst, .ref zah, .ref zgd])), (zar, .inl (cJ, 64, .inr (.inl fR))), (zbe, .inl (cJ, 64, .inr (.inl fB)))]) [0, 1, 2] (by decide) rfl
      have hFc := va_free (wc := [(zmo, .inr (6, [.int 0, .int wn, .int hn, .int (bI mM.2.2.2.1), .int mM.2.2.2.2.1, .int mM.2.2.2.2.2, .ref zar, .ref zbe, .ref zst, .ref zah, .ref zgd])), (zar, .inl (cJ, 64, .inr (.inl fR))), (zbe, .inl (cJ, 64, .inr (.inl fB)))]) hD hS hA [0, 1, 2] rfl
      refine va_callv (va_runV (As := []) (rest := []) ⟨hx, hb, hml, hown, hts⟩ (c_X7_link l dC dI cI cJ zmo zar zbe zst zah zgd H.size (0, wn, hn, mM.2.2.2.1, mM.2.2.2.2.1, mM.2.2.2.2.2) fR fB _ hr1) (cwV 0 hts gX7_lay_X7_link rfl rfl rfl (by decide +kernel) ⟨Nat.le_of_ble_eq_true rfl, Nat.le_of_ble_eq_true rfl⟩) ⟨fun a U gg mk q => by obtain ⟨q0, q1, qP, qK, qD⟩ := q; exact ⟨q0, q1, qP, va_K.moved (u := U) (U := U.calling gg mk a) (Vm.Alike.refl U.vm) qK, qD⟩, va_recv hK hPc (ci := 6) (q0 := 0) rfl rfl, fun U hU hW => ⟨rfl, by rw [hU], by rw [hU]; exact hPc, va_K.moved hW.alike hK, hDc.weaken (fun _ _ _ _ => trivial)⟩⟩ rfl rfl hl.1 rfl (lv_room (Nat.le_of_ble_eq_true rfl)) dX7_lay_61 ⟨Nat.zero_le _, Nat.zero_le _⟩) hS (fun q _ h => hFc q h) hFc (fun u_ t H locs ht hvm hw hB hz1 hk1 hS => ?_)
      obtain ⟨hP1, -, hD1⟩ := hB
      rw [ht] at hP1
      obtain ⟨hP, hD⟩ := va_join (wr := [(zst, .inr (5, [.int sS.1, .int sS.2.1, .int sS.2.2.1, .long 0, .ref zsa]))]) (w1 := [(zmo, .inr (6, [.int 0, .int wn, .int hn, .int (bI mM.2.2.2.1), .int mM.2.2.2.2.1, .int mM.2.2.2.2.2, .ref zar, .ref zbe, .ref zst, .ref zah, .ref zgd])), (zar, .inl (cJ, 64, .inr (.inl r1.1))), (zbe, .inl (cJ, 64, .inr (.inl r1.2)))]) hP hD [0, 1, 2] [3] rfl rfl (by decide) (by decide) hk1 hFc hP1 hD1
      have hP := hP.sub (ws' := [(zmo, .inr (6, [.int 0, .int wn, .int hn, .int (bI mM.2.2.2.1), .int mM.2.2.2.2.1, .int mM.2.2.2.2.2, .ref zar, .ref zbe, .ref zst, .ref zah, .ref zgd])), (zar, .inl (cJ, 64, .inr (.inl r1.1))), (zbe, .inl (cJ, 64, .inr (.inl r1.2))), (zst, .inr (5, [.int sS.1, .int sS.2.1, .int sS.2.2.1, .long 0, .ref zsa]))]) [1, 2, 3, 0] rfl
      have hD := hD.sub (ws' := [(zmo, .inr (6, [.int 0, .int wn, .int hn, .int (bI mM.2.2.2.1), .int mM.2.2.2.2.1, .int mM.2.2.2.2.2, .ref zar, .ref zbe, .ref zst, .ref zah, .ref zgd])), (zar, .inl (cJ, 64, .inr (.inl r1.1))), (zbe, .inl (cJ, 64, .inr (.inl r1.2))), (zst, .inr (5, [.int sS.1, .int sS.2.1, .int sS.2.2.1, .long 0, .ref zsa]))]) [1, 2, 3, 0] (by decide) rfl
      clear hPc hDc hFc hP1 hD1 hk1
      refine lv_iload_n hx hb dX7_lay_64 rfl (lv_at hl 0 rfl) ?_
      obtain rfl := Option.some.inj hf
      exact W.iret (v := (f_J13_bitCount_95d88 sS.2.2.2)) hx hb hr (fun t ht hW => ⟨⟨(f_J13_bitCount_95d88 sS.2.2.2), (), rfl, rfl, by rw [ht]; exact hP, va_K.moved hW.alike hK, hD⟩, hS.F ht⟩) hS.2.2 dX7_lay_65
    · rw [if_pos hc] at hf
      refine lv_aload_n hx hb dX7_lay_25 rfl (lv_at hl 0 rfl) ?_
      refine lv_iconst (v := 1) hx hb dX7_lay_26 (by decide) ?_
      have hPc := hP.sub (ws' := [(zmo, .inr (6, [.int 0, .int mM.2.1, .int mM.2.2.1, .int (bI mM.2.2.2.1), .int mM.2.2.2.2.1, .int mM.2.2.2.2.2, .ref zar, .ref zbe, .ref zst, .ref zah, .ref zgd]))]) [0] rfl
      have hDc := hD.sub (ws' := [(zmo, .inr (6, [.int 0, .int mM.2.1, .int mM.2.2.1, .int (bI mM.2.2.2.1), .int mM.2.2.2.2.1, .int mM.2.2.2.2.2, .ref zar, .ref zbe, .ref zst, .ref zah, .ref zgd]))]) [0] (by decide) rfl
      have hFc := va_free (wc := [(zmo, .inr (6, [.int 0, .int mM.2.1, .int mM.2.2.1, .int (bI mM.2.2.2.1), .int mM.2.2.2.2.1, .int mM.2.2.2.2.2, .ref zar, .ref zbe, .ref zst, .ref zah, .ref zgd]))]) hD hS hA [0] rfl
      refine va_calli (va_runV (As := [.int 1]) (rest := []) ⟨hx, hb, hml, hown, hts⟩ (c_X7_no l dC dI cI cJ zmo zar zbe zst zah zgd H.size (0, mM.2.1, mM.2.2.1, mM.2.2.2.1, mM.2.2.2.2.1, mM.2.2.2.2.2) 1) (cwV 1 hts gX7_lay_X7_no rfl rfl rfl (by decide +kernel) ⟨Nat.le_of_ble_eq_true rfl, Nat.le_of_ble_eq_true rfl⟩) ⟨fun a U gg mk q => by obtain ⟨q0, q1, qP, qK, qD⟩ := q; exact ⟨q0, q1, qP, va_K.moved (u := U) (U := U.calling gg mk a) (Vm.Alike.refl U.vm) qK, qD⟩, va_recv hK hPc (ci := 6) (q0 := 0) rfl rfl, fun U hU hW => ⟨rfl, by rw [hU], by rw [hU]; exact hPc, va_K.moved hW.alike hK, hDc.weaken (fun _ _ _ _ => trivial)⟩⟩ rfl rfl hl.1 rfl (lv_room (Nat.le_of_ble_eq_true rfl)) dX7_lay_27 ⟨Nat.zero_le _, Nat.zero_le _⟩) hS (fun q _ h => hFc q h) hFc (fun r_ u_ t H locs ht hvm hw hB hz1 hk1 hS => ?_)
      obtain rfl := hw.symm
      obtain ⟨hP1, -, hD1⟩ := hB
      rw [ht] at hP1
      obtain ⟨hP, hD⟩ := va_join (wr := [(zar, .inl (cJ, 64, .inr (.inl fR))), (zbe, .inl (cJ, 64, .inr (.inl fB))), (zst, .inr (5, [.int sS.1, .int sS.2.1, .int sS.2.2.1, .long sS.2.2.2, .ref zsa]))]) (w1 := [(zmo, .inr (6, [.int (f_X7_no (0, mM.2.1, mM.2.2.1, mM.2.2.2.1, mM.2.2.2.2.1, mM.2.2.2.2.2) 1).2.1, .int (f_X7_no (0, mM.2.1, mM.2.2.1, mM.2.2.2.1, mM.2.2.2.2.1, mM.2.2.2.2.2) 1).2.2.1, .int (f_X7_no (0, mM.2.1, mM.2.2.1, mM.2.2.2.1, mM.2.2.2.2.1, mM.2.2.2.2.2) 1).2.2.2.1, .int (bI (f_X7_no (0, mM.2.1, mM.2.2.1, mM.2.2.2.1, mM.2.2.2.2.1, mM.2.2.2.2.2) 1).2.2.2.2.1), .int (f_X7_no (0, mM.2.1, mM.2.2.1, mM.2.2.2.1, mM.2.2.2.2.1, mM.2.2.2.2.2) 1).2.2.2.2.2.1, .int (f_X7_no (0, mM.2.1, mM.2.2.1, mM.2.2.2.1, mM.2.2.2.2.1, mM.2.2.2.2.2) 1).2.2.2.2.2.2, .ref zar, .ref zbe, .ref zst, .ref zah, .ref zgd]))]) hP hD [0] [1, 2, 3] rfl rfl (by decide) (by decide) hk1 hFc hP1 hD1
      have hP := hP.sub (ws' := [(zmo, .inr (6, [.int (f_X7_no (0, mM.2.1, mM.2.2.1, mM.2.2.2.1, mM.2.2.2.2.1, mM.2.2.2.2.2) 1).2.1, .int (f_X7_no (0, mM.2.1, mM.2.2.1, mM.2.2.2.1, mM.2.2.2.2.1, mM.2.2.2.2.2) 1).2.2.1, .int (f_X7_no (0, mM.2.1, mM.2.2.1, mM.2.2.2.1, mM.2.2.2.2.1, mM.2.2.2.2.2) 1).2.2.2.1, .int (bI (f_X7_no (0, mM.2.1, mM.2.2.1, mM.2.2.2.1, mM.2.2.2.2.1, mM.2.2.2.2.2) 1).2.2.2.2.1), .int (f_X7_no (0, mM.2.1, mM.2.2.1, mM.2.2.2.1, mM.2.2.2.2.1, mM.2.2.2.2.2) 1).2.2.2.2.2.1, .int (f_X7_no (0, mM.2.1, mM.2.2.1, mM.2.2.2.1, mM.2.2.2.2.1, mM.2.2.2.2.2) 1).2.2.2.2.2.2, .ref zar, .ref zbe, .ref zst, .ref zah, .ref zgd])), (zar, .inl (cJ, 64, .inr (.inl fR))), (zbe, .inl (cJ, 64, .inr (.inl fB))), (zst, .inr (5, [.int sS.1, .int sS.2.1, .int sS.2.2.1, .long sS.2.2.2, .ref zsa]))]) [3, 0, 1, 2] rfl
      have hD := hD.sub (ws' := [(zmo, .inr (6, [.int (f_X7_no (0, mM.2.1, mM.2.2.1, mM.2.2.2.1, mM.2.2.2.2.1, mM.2.2.2.2.2) 1).2.1, .int (f_X7_no (0, mM.2.1, mM.2.2.1, mM.2.2.2.1, mM.2.2.2.2.1, mM.2.2.2.2.2) 1).2.2.1, .int (f_X7_no (0, mM.2.1, mM.2.2.1, mM.2.2.2.1, mM.2.2.2.2.1, mM.2.2.2.2.2) 1).2.2.2.1, .int (bI (f_X7_no (0, mM.2.1, mM.2.2.1, mM.2.2.2.1, mM.2.2.2.2.1, mM.2.2.2.2.2) 1).2.2.2.2.1), .int (f_X7_no (0, mM.2.1, mM.2.2.1, mM.2.2.2.1, mM.2.2.2.2.1, mM.2.2.2.2.2) 1).2.2.2.2.2.1, .int (f_X7_no (0, mM.2.1, mM.2.2.1, mM.2.2.2.1, mM.2.2.2.2.1, mM.2.2.2.2.2) 1).2.2.2.2.2.2, .ref zar, .ref zbe, .ref zst, .ref zah, .ref zgd])), (zar, .inl (cJ, 64, .inr (.inl fR))), (zbe, .inl (cJ, 64, .inr (.inl fB))), (zst, .inr (5, [.int sS.1, .int sS.2.1, .int sS.2.2.1, .long sS.2.2.2, .ref zsa]))]) [3, 0, 1, 2] (by decide) rfl
      clear hPc hDc hFc hP1 hD1 hk1
      obtain rfl := Option.some.inj hf
      exact W.iret (v := (f_X7_no (0, mM.2.1, mM.2.2.1, mM.2.2.2.1, mM.2.2.2.2.1, mM.2.2.2.2.2) 1).1) hx hb hr (fun t ht hW => ⟨⟨(f_X7_no (0, mM.2.1, mM.2.2.1, mM.2.2.2.1, mM.2.2.2.2.1, mM.2.2.2.2.2) 1).1, (), rfl, rfl, by rw [ht]; exact hP, va_K.moved hW.alike hK, hD⟩, hS.F ht⟩) hS.2.2 dX7_lay_30
/-! HedgeGlidersModel.setRules(II)I -/
def f_X7_setRules (mM : MoS) (bn : Int32) (sn : Int32) : Int32 × MoS := if (f_X7_isIn bn 0 511) = 0 then (((f_X7_no (0, mM.2.1, mM.2.2.1, mM.2.2.2.1, mM.2.2.2.2.1, mM.2.2.2.2.2) 1).1, (f_X7_no (0, mM.2.1, mM.2.2.1, mM.2.2.2.1, mM.2.2.2.2.1, mM.2.2.2.2.2) 1).2)) else (if (f_X7_isIn sn 0 511) = 0 then (((f_X7_no (0, mM.2.1, mM.2.2.1, mM.2.2.2.1, mM.2.2.2.2.1, mM.2.2.2.2.2) 1).1, (f_X7_no (0, mM.2.1, mM.2.2.1, mM.2.2.2.1, mM.2.2.2.2.1, mM.2.2.2.2.2) 1).2)) else ((((512 * mM.2.2.2.2.1) + mM.2.2.2.2.2), (0, mM.2.1, mM.2.2.1, mM.2.2.2.1, bn, sn))))
abbrev rm_X7_setRules : Room := ({ frames := 1, cells := 0, slots := 0, locals := 22 } : Room)
abbrev A_X7_setRules (cI cJ : ClassId) (zmo zar zbe zst zah zgd : Nat) (mM : MoS) (bn : Int32) (sn : Int32) (sz : Nat) : Nat → Prop := va_A [(zmo, .inr (6, [.int mM.1, .int mM.2.1, .int mM.2.2.1, .int (bI mM.2.2.2.1), .int mM.2.2.2.2.1, .int mM.2.2.2.2.2, .ref zar, .ref zbe, .ref zst, .ref zah, .ref zgd]))] sz
abbrev Q_X7_setRules (dC : Nat → ClassId) (dI : Nat → Nat → Nat) (cI cJ : ClassId) (zmo zar zbe zst zah zgd : Nat) (mM : MoS) (bn : Int32) (sn : Int32) (sz : Nat) (R : Int32 × MoS) : Array Value → State → Outcome → State → Prop := va_Qi (fun (r : Int32) (_ : Unit) => r = R.1) (fun u_ t => va_P (dC, dI) vwCl [(zmo, .inr (6, [.int R.2.1, .int R.2.2.1, .int R.2.2.2.1, .int (bI R.2.2.2.2.1), .int R.2.2.2.2.2.1, .int R.2.2.2.2.2.2, .ref zar, .ref zbe, .ref zst, .ref zah, .ref zgd]))] t.heap ∧ va_K (dC, dI) vwCl [(cI, .int), (cJ, .long)] t ∧ va_D (A_X7_setRules cI cJ zmo zar zbe zst zah zgd mM bn sn sz) [(zmo, .inr (6, [.int R.2.1, .int R.2.2.1, .int R.2.2.2.1, .int (bI R.2.2.2.2.1), .int R.2.2.2.2.2.1, .int R.2.2.2.2.2.2, .ref zar, .ref zbe, .ref zst, .ref zah, .ref zgd]))]) (A_X7_setRules cI cJ zmo zar zbe zst zah zgd mM bn sn sz)
set_option maxHeartbeats 4000000 in
set_option maxRecDepth 100000 in
theorem c_X7_setRules (l : Launch) (dC : Nat → ClassId) (dI : Nat → Nat → Nat) (cI cJ : ClassId) (zmo zar zbe zst zah zgd : Nat) (sz : Nat) (mM : MoS) (bn : Int32) (sn : Int32) : Met l yX7_setRules wsX7_setRules rm_X7_setRules (va_Pc [.ref zmo, .int bn, .int sn] (fun U => U.heap.size = sz ∧ va_P (dC, dI) vwCl [(zmo, .inr (6, [.int mM.1, .int mM.2.1, .int mM.2.2.1, .int (bI mM.2.2.2.1), .int mM.2.2.2.2.1, .int mM.2.2.2.2.2, .ref zar, .ref zbe, .ref zst, .ref zah, .ref zgd]))] U.heap ∧ va_K (dC, dI) vwCl [(cI, .int), (cJ, .long)] U ∧ va_D (fun _ => True) [(zmo, .inr (6, [.int mM.1, .int mM.2.1, .int mM.2.2.1, .int (bI mM.2.2.2.1), .int mM.2.2.2.2.1, .int mM.2.2.2.2.2, .ref zar, .ref zbe, .ref zst, .ref zah, .ref zgd]))])) (Q_X7_setRules dC dI cI cJ zmo zar zbe zst zah zgd mM bn sn sz (f_X7_setRules mM bn sn)) 0 0 (A_X7_setRules cI cJ zmo zar zbe zst zah zgd mM bn sn sz) := by
  generalize hf : (f_X7_setRules mM bn sn) = R
  refine Met.ofW (cc := cX7_setRules) (maxL := 4) (ret := (some .int)) (by decide) rfl ?_
  intro p e s m args below meth c s₁ B hml hv
  obtain ⟨hargs, hsz, hP, hK, hD0⟩ := hv
  have hx := B.exec
  have hb := B.bytes
  have hr := B.returns
  have hts := atoms_spec (ws := wsX7_setRules) B.pre
  have hown : s.vm.findClass RX7 = some m.cls := findClass_of_methodNamed B.named
  have hlocks := B.notSynchronized
  subst hsz
  have hD : va_D (A_X7_setRules cI cJ zmo zar zbe zst zah zgd mM bn sn s.heap.size) [(zmo, .inr (6, [.int mM.1, .int mM.2.1, .int mM.2.2.1, .int (bI mM.2.2.2.1), .int mM.2.2.2.2.1, .int mM.2.2.2.2.2, .ref zar, .ref zbe, .ref zst, .ref zah, .ref zgd]))] := hD0.self (sz := s.heap.size)
  have hA : ∀ q : Nat, s.heap.size ≤ q → (A_X7_setRules cI cJ zmo zar zbe zst zah zgd mM bn sn s.heap.size) q := fun q h => Or.inr h
  have hS : va_S (A_X7_setRules cI cJ zmo zar zbe zst zah zgd mM bn sn s.heap.size) s.heap s.heap [] := va_S.rf
  have hinX7 : ∀ w ∈ wsX70, w ∈ wsX7_setRules := by decide +kernel
  have hw0 := hts (.fieldLink RX7 45 "HedgeGlidersModel" "thrown" "I") (by decide +kernel)
  have hw1 := hts (.fieldLink RX7 16 "HedgeGlidersModel" "births" "I") (by decide +kernel)
  have hw2 := hts (.fieldLink RX7 19 "HedgeGlidersModel" "stays" "I") (by decide +kernel)
  have hl := lv_entry ([.ref zmo, .int bn, .int sn]) (n := 4) (Nat.le_of_ble_eq_true rfl)
  have he0 : entryFrame m args 4 = entryFrame m ([.ref zmo, .int bn, .int sn] : List Value).toArray 4 := by rw [hargs]
  rw [he0, lg_entry_eq]
  generalize (lg_sl ([.ref zmo, .int bn, .int sn]) ++ List.replicate (4 - (lg_sl ([.ref zmo, .int bn, .int sn])).length) Slot.unset).toArray = ls at hl ⊢
  have hl : lv_has ls 4 [(0, .ref zmo), (1, .int bn), (2, .int sn)] := hl
  rw [f_X7_setRules] at hf
  refine lv_aload_n hx hb dX7_setRules_0 rfl (lv_at hl 0 rfl) ?_
  refine lv_iconst (v := 0) hx hb dX7_setRules_1 (by decide) ?_
  refine va_put (D := (dC, dI)) (ci := 6) (v := .int 0) (ty := .int) (C := RX7) (T := TX7) (N := 11) hx hb hts hinX7 tyX7 tyX7_ok nmX7 hown hK hP hD hS 0 rfl rfl 0 (by decide) hw0 (fun _ h9 => h9) rfl (by decide +kernel) rfl rfl (Nat.le_of_ble_eq_true rfl) dX7_setRules_2 (fun H locs hP hD hS => ?_)
  have hP : va_P (dC, dI) vwCl [(zmo, .inr (6, [.int 0, .int mM.2.1, .int mM.2.2.1, .int (bI mM.2.2.2.1), .int mM.2.2.2.2.1, .int mM.2.2.2.2.2, .ref zar, .ref zbe, .ref zst, .ref zah, .ref zgd]))] H := hP
  have hD : va_D (A_X7_setRules cI cJ zmo zar zbe zst zah zgd mM bn sn s.heap.size) [(zmo, .inr (6, [.int 0, .int mM.2.1, .int mM.2.2.1, .int (bI mM.2.2.2.1), .int mM.2.2.2.2.1, .int mM.2.2.2.2.2, .ref zar, .ref zbe, .ref zst, .ref zah, .ref zgd]))] := hD
  refine lv_iload_n hx hb dX7_setRules_5 rfl (lv_at hl 1 rfl) ?_
  refine lv_iconst (v := 0) hx hb dX7_setRules_6 (by decide) ?_
  refine lv_sipush (v := 511) hx hb dX7_setRules_7 (by decide) ?_
  have hPc := hP.sub (ws' := []) [] rfl
  have hDc := hD.sub (ws' := []) [] (by decide) rfl
  have hFc := va_free (wc := []) hD hS hA [] rfl
  refine va_calli (va_runS (As := [.int bn, .int 0, .int 511]) (rest := []) ⟨hx, hb, hml, hown, hts⟩ (c_X7_isIn l dC dI cI cJ  H.size bn 0 511) (va_cwS 3 hts gX7_setRules_X7_isIn rfl rfl rfl (by decide +kernel) ⟨Nat.le_of_ble_eq_true rfl, Nat.le_of_ble_eq_true rfl⟩) ⟨fun a U gg mk q => by obtain ⟨q0, q1, qP, qK, qD⟩ := q; exact ⟨q0, q1, qP, va_K.moved (u := U) (U := U.calling gg mk a) (Vm.Alike.refl U.vm) qK, qD⟩, fun U hU hW => ⟨rfl, by rw [hU], by rw [hU]; exact hPc, va_K.moved hW.alike hK, hDc.weaken (fun _ _ _ _ => trivial)⟩⟩ rfl rfl hl.1 rfl (lv_room (Nat.le_of_ble_eq_true rfl)) dX7_setRules_10 ⟨Nat.zero_le _, Nat.zero_le _⟩) hS (fun q _ h => hFc q h) hFc (fun r_ u_ t H locs ht hvm hw hB hz1 hk1 hS => ?_)
  obtain rfl := hw.symm
  obtain ⟨hP1, -, hD1⟩ := hB
  rw [ht] at hP1
  obtain ⟨hP, hD⟩ := va_join (wr := [(zmo, .inr (6, [.int 0, .int mM.2.1, .int mM.2.2.1, .int (bI mM.2.2.2.1), .int mM.2.2.2.2.1, .int mM.2.2.2.2.2, .ref zar, .ref zbe, .ref zst, .ref zah, .ref zgd]))]) (w1 := []) hP hD [] [0] rfl rfl (by decide) (by decide) hk1 hFc hP1 hD1
  have hP := hP.sub (ws' := [(zmo, .inr (6, [.int 0, .int mM.2.1, .int mM.2.2.1, .int (bI mM.2.2.2.1), .int mM.2.2.2.2.1, .int mM.2.2.2.2.2, .ref zar, .ref zbe, .ref zst, .ref zah, .ref zgd]))]) [0] rfl
  have hD := hD.sub (ws' := [(zmo, .inr (6, [.int 0, .int mM.2.1, .int mM.2.2.1, .int (bI mM.2.2.2.1), .int mM.2.2.2.2.1, .int mM.2.2.2.2.2, .ref zar, .ref zbe, .ref zst, .ref zah, .ref zgd]))]) [0] (by decide) rfl
  clear hPc hDc hFc hP1 hD1 hk1
  refine lv_if_eq (tgt := 27) hx hb dX7_setRules_13 (by decide) (fun hc => ?_) (fun hc => ?_)
  · rw [if_pos hc] at hf
    refine lv_aload_n hx hb dX7_setRules_27 rfl (lv_at hl 0 rfl) ?_
    refine lv_iconst (v := 1) hx hb dX7_setRules_28 (by decide) ?_
    have hPc := hP.sub (ws' := [(zmo, .inr (6, [.int 0, .int mM.2.1, .int mM.2.2.1, .int (bI mM.2.2.2.1), .int mM.2.2.2.2.1, .int mM.2.2.2.2.2, .ref zar, .ref zbe, .ref zst, .ref zah, .ref zgd]))]) [0] rfl
    have hDc := hD.sub (ws' := [(zmo, .inr (6, [.int 0, .int mM.2.1, .int mM.2.2.1, .int (bI mM.2.2.2.1), .int mM.2.2.2.2.1, .int mM.2.2.2.2.2, .ref zar, .ref zbe, .ref zst, .ref zah, .ref zgd]))]) [0] (by decide) rfl
    have hFc := va_free (wc := [(zmo, .inr (6, [.int 0, .int mM.2.1, .int mM.2.2.1, .int (bI mM.2.2.2.1), .int mM.2.2.2.2.1, .int mM.2.2.2.2.2, .ref zar, .ref zbe, .ref zst, .ref zah, .ref zgd]))]) hD hS hA [0] rfl
    refine va_calli (va_runV (As := [.int 1]) (rest := []) ⟨hx, hb, hml, hown, hts⟩ (c_X7_no l dC dI cI cJ zmo zar zbe zst zah zgd H.size (0, mM.2.1, mM.2.2.1, mM.2.2.2.1, mM.2.2.2.2.1, mM.2.2.2.2.2) 1) (cwV 1 hts gX7_setRules_X7_no rfl rfl rfl (by decide +kernel) ⟨Nat.le_of_ble_eq_true rfl, Nat.le_of_ble_eq_true rfl⟩) ⟨fun a U gg mk q => by obtain ⟨q0, q1, qP, qK, qD⟩ := q; exact ⟨q0, q1, qP, va_K.moved (u := U) (U := U.calling gg mk a) (Vm.Alike.refl U.vm) qK, qD⟩, va_recv hK hPc (ci := 6) (q0 := 0) rfl rfl, fun U hU hW => ⟨rfl, by rw [hU], by rw [hU]; exact hPc, va_K.moved hW.alike hK, hDc.weaken (fun _ _ _ _ => trivial)⟩⟩ rfl rfl hl.1 rfl (lv_room (Nat.le_of_ble_eq_true rfl)) dX7_setRules_29 ⟨Nat.zero_le _, Nat.zero_le _⟩) hS (fun q _ h => hFc q h) hFc (fun r_ u_ t H locs ht hvm hw hB hz1 hk1 hS => ?_)
    obtain rfl := hw.symm
    obtain ⟨hP1, -, hD1⟩ := hB
    rw [ht] at hP1
    obtain ⟨hP, hD⟩ := va_join (wr := []) (w1 := [(zmo, .inr (6, [.int (f_X7_no (0, mM.2.1, mM.2.2.1, mM.2.2.2.1, mM.2.2.2.2.1, mM.2.2.2.2.2) 1).2.1, .int (f_X7_no (0, mM.2.1, mM.2.2.1, mM.2.2.2.1, mM.2.2.2.2.1, mM.2.2.2.2.2) 1).2.2.1, .int (f_X7_no (0, mM.2.1, mM.2.2.1, mM.2.2.2.1, mM.2.2.2.2.1, mM.2.2.2.2.2) 1).2.2.2.1, .int (bI (f_X7_no (0, mM.2.1, mM.2.2.1, mM.2.2.2.1, mM.2.2.2.2.1, mM.2.2.2.2.2) 1).2.2.2.2.1), .int (f_X7_no (0, mM.2.1, mM.2.2.1, mM.2.2.2.1, mM.2.2.2.2.1, mM.2.2.2.2.2) 1).2.2.2.2.2.1, .int (f_X7_no (0, mM.2.1, mM.2.2.1, mM.2.2.2.1, mM.2.2.2.2.1, mM.2.2.2.2.2) 1).2.2.2.2.2.2, .ref zar, .ref zbe, .ref zst, .ref zah, .ref zgd]))]) hP hD [0] [] rfl rfl (by decide) (by decide) hk1 hFc hP1 hD1
    have hP := hP.sub (ws' := [(zmo, .inr (6, [.int (f_X7_no (0, mM.2.1, mM.2.2.1, mM.2.2.2.1, mM.2.2.2.2.1, mM.2.2.2.2.2) 1).2.1, .int (f_X7_no (0, mM.2.1, mM.2.2.1, mM.2.2.2.1, mM.2.2.2.2.1, mM.2.2.2.2.2) 1).2.2.1, .int (f_X7_no (0, mM.2.1, mM.2.2.1, mM.2.2.2.1, mM.2.2.2.2.1, mM.2.2.2.2.2) 1).2.2.2.1, .int (bI (f_X7_no (0, mM.2.1, mM.2.2.1, mM.2.2.2.1, mM.2.2.2.2.1, mM.2.2.2.2.2) 1).2.2.2.2.1), .int (f_X7_no (0, mM.2.1, mM.2.2.1, mM.2.2.2.1, mM.2.2.2.2.1, mM.2.2.2.2.2) 1).2.2.2.2.2.1, .int (f_X7_no (0, mM.2.1, mM.2.2.1, mM.2.2.2.1, mM.2.2.2.2.1, mM.2.2.2.2.2) 1).2.2.2.2.2.2, .ref zar, .ref zbe, .ref zst, .ref zah, .ref zgd]))]) [0] rfl
    have hD := hD.sub (ws' := [(zmo, .inr (6, [.int (f_X7_no (0, mM.2.1, mM.2.2.1, mM.2.2.2.1, mM.2.2.2.2.1, mM.2.2.2.2.2) 1).2.1, .int (f_X7_no (0, mM.2.1, mM.2.2.1, mM.2.2.2.1, mM.2.2.2.2.1, mM.2.2.2.2.2) 1).2.2.1, .int (f_X7_no (0, mM.2.1, mM.2.2.1, mM.2.2.2.1, mM.2.2.2.2.1, mM.2.2.2.2.2) 1).2.2.2.1, .int (bI (f_X7_no (0, mM.2.1, mM.2.2.1, mM.2.2.2.1, mM.2.2.2.2.1, mM.2.2.2.2.2) 1).2.2.2.2.1), .int (f_X7_no (0, mM.2.1, mM.2.2.1, mM.2.2.2.1, mM.2.2.2.2.1, mM.2.2.2.2.2) 1).2.2.2.2.2.1, .int (f_X7_no (0, mM.2.1, mM.2.2.1, mM.2.2.2.1, mM.2.2.2.2.1, mM.2.2.2.2.2) 1).2.2.2.2.2.2, .ref zar, .ref zbe, .ref zst, .ref zah, .ref zgd]))]) [0] (by decide) rfl
    clear hPc hDc hFc hP1 hD1 hk1
    obtain rfl := hf
    exact W.iret (v := (f_X7_no (0, mM.2.1, mM.2.2.1, mM.2.2.2.1, mM.2.2.2.2.1, mM.2.2.2.2.2) 1).1) hx hb hr (fun t ht hW => ⟨⟨(f_X7_no (0, mM.2.1, mM.2.2.1, mM.2.2.2.1, mM.2.2.2.2.1, mM.2.2.2.2.2) 1).1, (), rfl, rfl, by rw [ht]; exact hP, va_K.moved hW.alike hK, hD⟩, hS.F ht⟩) hS.2.2 dX7_setRules_32
  · rw [if_neg hc] at hf
    refine lv_iload_n hx hb dX7_setRules_16 rfl (lv_at hl 2 rfl) ?_
    refine lv_iconst (v := 0) hx hb dX7_setRules_17 (by decide) ?_
    refine lv_sipush (v := 511) hx hb dX7_setRules_18 (by decide) ?_
    have hPc := hP.sub (ws' := []) [] rfl
    have hDc := hD.sub (ws' := []) [] (by decide) rfl
    have hFc := va_free (wc := []) hD hS hA [] rfl
    refine va_calli (va_runS (As := [.int sn, .int 0, .int 511]) (rest := []) ⟨hx, hb, hml, hown, hts⟩ (c_X7_isIn l dC dI cI cJ  H.size sn 0 511) (va_cwS 3 hts gX7_setRules_X7_isIn rfl rfl rfl (by decide +kernel) ⟨Nat.le_of_ble_eq_true rfl, Nat.le_of_ble_eq_true rfl⟩) ⟨fun a U gg mk q => by obtain ⟨q0, q1, qP, qK, qD⟩ := q; exact ⟨q0, q1, qP, va_K.moved (u := U) (U := U.calling gg mk a) (Vm.Alike.refl U.vm) qK, qD⟩, fun U hU hW => ⟨rfl, by rw [hU], by rw [hU]; exact hPc, va_K.moved hW.alike hK, hDc.weaken (fun _ _ _ _ => trivial)⟩⟩ rfl rfl hl.1 rfl (lv_room (Nat.le_of_ble_eq_true rfl)) dX7_setRules_21 ⟨Nat.zero_le _, Nat.zero_le _⟩) hS (fun q _ h => hFc q h) hFc (fun r_ u_ t H locs ht hvm hw hB hz1 hk1 hS => ?_)
    obtain rfl := hw.symm
    obtain ⟨hP1, -, hD1⟩ := hB
    rw [ht] at hP1
    obtain ⟨hP, hD⟩ := va_join (wr := [(zmo, .inr (6, [.int 0, .int mM.2.1, .int mM.2.2.1, .int (bI mM.2.2.2.1), .int mM.2.2.2.2.1, .int mM.2.2.2.2.2, .ref zar, .ref zbe, .ref zst, .ref zah, .ref zgd]))]) (w1 := []) hP hD [] [0] rfl rfl (by decide) (by decide) hk1 hFc hP1 hD1
    have hP := hP.sub (ws' := [(zmo, .inr (6, [.int 0, .int mM.2.1, .int mM.2.2.1, .int (bI mM.2.2.2.1), .int mM.2.2.2.2.1, .int mM.2.2.2.2.2, .ref zar, .ref zbe, .ref zst, .ref zah, .ref zgd]))]) [0] rfl
    have hD := hD.sub (ws' := [(zmo, .inr (6, [.int 0, .int mM.2.1, .int mM.2.2.1, .int (bI mM.2.2.2.1), .int mM.2.2.2.2.1, .int mM.2.2.2.2.2, .ref zar, .ref zbe, .ref zst, .ref zah, .ref zgd]))]) [0] (by decide) rfl
    clear hPc hDc hFc hP1 hD1 hk1
    refine lv_if_ne (tgt := 33) hx hb dX7_setRules_24 (by decide) (fun hc => ?_) (fun hc => ?_)
    · rw [if_neg hc] at hf
      refine lv_sipush (v := 512) hx hb dX7_setRules_33 (by decide) ?_
      refine lv_aload_n hx hb dX7_setRules_36 rfl (lv_at hl 0 rfl) ?_
      refine va_get (D := (dC, dI)) (ci := 6) (v := .int mM.2.2.2.2.1) (C := RX7) (T := TX7) (N := 11) hx hb hts hinX7 hown hK hP 0 rfl rfl 4 (by decide) hw1 (fun _ h9 => h9) rfl dX7_setRules_37 ?_
      refine lv_imul hx hb dX7_setRules_40 ?_
      refine lv_aload_n hx hb dX7_setRules_41 rfl (lv_at hl 0 rfl) ?_
      refine va_get (D := (dC, dI)) (ci := 6) (v := .int mM.2.2.2.2.2) (C := RX7) (T := TX7) (N := 11) hx hb hts hinX7 hown hK hP 0 rfl rfl 5 (by decide) hw2 (fun _ h9 => h9) rfl dX7_setRules_42 ?_
      refine lv_iadd hx hb dX7_setRules_45 ?_
      refine lv_istore_n (lv' := [(3, .int ((512 * mM.2.2.2.2.1) + mM.2.2.2.2.2)), (0, .ref zmo), (1, .int bn), (2, .int sn)]) hx hb dX7_setRules_46 rfl hl (by decide) rfl (fun ls hl => ?_)
      refine lv_aload_n hx hb dX7_setRules_47 rfl (lv_at hl 1 rfl) ?_
      refine lv_iload_n hx hb dX7_setRules_48 rfl (lv_at hl 2 rfl) ?_
      refine va_put (D := (dC, dI)) (ci := 6) (v := .int bn) (ty := .int) (C := RX7) (T := TX7) (N := 11) hx hb hts hinX7 tyX7 tyX7_ok nmX7 hown hK hP hD hS 0 rfl rfl 4 (by decide) hw1 (fun _ h9 => h9) rfl (by decide +kernel) rfl rfl (Nat.le_of_ble_eq_true rfl) dX7_setRules_49 (fun H locs hP hD hS => ?_)
      have hP : va_P (dC, dI) vwCl [(zmo, .inr (6, [.int 0, .int mM.2.1, .int mM.2.2.1, .int (bI mM.2.2.2.1), .int bn, .int mM.2.2.2.2.2, .ref zar, .ref zbe, .ref zst, .ref zah, .ref zgd]))] H := hP
      have hD : va_D (A_X7_setRules cI cJ zmo zar zbe zst zah zgd mM bn sn s.heap.size) [(zmo, .inr (6, [.int 0, .int mM.2.1, .int mM.2.2.1, .int (bI mM.2.2.2.1), .int bn, .int mM.2.2.2.2.2, .ref zar, .ref zbe, .ref zst, .ref zah, .ref zgd]))] := hD
      refine lv_aload_n hx hb dX7_setRules_52 rfl (lv_at hl 1 rfl) ?_
      refine lv_iload_n hx hb dX7_setRules_53 rfl (lv_at hl 3 rfl) ?_
      refine va_put (D := (dC, dI)) (ci := 6) (v := .int sn) (ty := .int) (C := RX7) (T := TX7) (N := 11) hx hb hts hinX7 tyX7 tyX7_ok nmX7 hown hK hP hD hS 0 rfl rfl 5 (by decide) hw2 (fun _ h9 => h9) rfl (by decide +kernel) rfl rfl (Nat.le_of_ble_eq_true rfl) dX7_setRules_54 (fun H locs hP hD hS => ?_)
      have hP : va_P (dC, dI) vwCl [(zmo, .inr (6, [.int 0, .int mM.2.1, .int mM.2.2.1, .int (bI mM.2.2.2.1), .int bn, .int sn, .ref zar, .ref zbe, .ref zst, .ref zah, .ref zgd]))] H := hP
      have hD : va_D (A_X7_setRules cI cJ zmo zar zbe zst zah zgd mM bn sn s.heap.size) [(zmo, .inr (6, [.int 0, .int mM.2.1, .int mM.2.2.1, .int (bI mM.2.2.2.1), .int bn, .int sn, .ref zar, .ref zbe, .ref zst, .ref zah, .ref zgd]))] := hD
      refine lv_iload_n hx hb dX7_setRules_57 rfl (lv_at hl 0 rfl) ?_
      obtain rfl := hf
      exact W.iret (v := ((512 * mM.2.2.2.2.1) + mM.2.2.2.2.2)) hx hb hr (fun t ht hW => ⟨⟨((512 * mM.2.2.2.2.1) + mM.2.2.2.2.2), (), rfl, rfl, by rw [ht]; exact hP, va_K.moved hW.alike hK, hD⟩, hS.F ht⟩) hS.2.2 dX7_setRules_58
    · rw [if_pos hc] at hf
      refine lv_aload_n hx hb dX7_setRules_27 rfl (lv_at hl 0 rfl) ?_
      refine lv_iconst (v := 1) hx hb dX7_setRules_28 (by decide) ?_
      have hPc := hP.sub (ws' := [(zmo, .inr (6, [.int 0, .int mM.2.1, .int mM.2.2.1, .int (bI mM.2.2.2.1), .int mM.2.2.2.2.1, .int mM.2.2.2.2.2, .ref zar, .ref zbe, .ref zst, .ref zah, .ref zgd]))]) [0] rfl
      have hDc := hD.sub (ws' := [(zmo, .inr (6, [.int 0, .int mM.2.1, .int mM.2.2.1, .int (bI mM.2.2.2.1), .int mM.2.2.2.2.1, .int mM.2.2.2.2.2, .ref zar, .ref zbe, .ref zst, .ref zah, .ref zgd]))]) [0] (by decide) rfl
      have hFc := va_free (wc := [(zmo, .inr (6, [.int 0, .int mM.2.1, .int mM.2.2.1, .int (bI mM.2.2.2.1), .int mM.2.2.2.2.1, .int mM.2.2.2.2.2, .ref zar, .ref zbe, .ref zst, .ref zah, .ref zgd]))]) hD hS hA [0] rfl
      refine va_calli (va_runV (As := [.int 1]) (rest := []) ⟨hx, hb, hml, hown, hts⟩ (c_X7_no l dC dI cI cJ zmo zar zbe zst zah zgd H.size (0, mM.2.1, mM.2.2.1, mM.2.2.2.1, mM.2.2.2.2.1, mM.2.2.2.2.2) 1) (cwV 1 hts gX7_setRules_X7_no rfl rfl rfl (by decide +kernel) ⟨Nat.le_of_ble_eq_true rfl, Nat.le_of_ble_eq_true rfl⟩) ⟨fun a U gg mk q => by obtain ⟨q0, q1, qP, qK, qD⟩ := q; exact ⟨q0, q1, qP, va_K.moved (u := U) (U := U.calling gg mk a) (Vm.Alike.refl U.vm) qK, qD⟩, va_recv hK hPc (ci := 6) (q0 := 0) rfl rfl, fun U hU hW => ⟨rfl, by rw [hU], by rw [hU]; exact hPc, va_K.moved hW.alike hK, hDc.weaken (fun _ _ _ _ => trivial)⟩⟩ rfl rfl hl.1 rfl (lv_room (Nat.le_of_ble_eq_true rfl)) dX7_setRules_29 ⟨Nat.zero_le _, Nat.zero_le _⟩) hS (fun q _ h => hFc q h) hFc (fun r_ u_ t H locs ht hvm hw hB hz1 hk1 hS => ?_)
      obtain rfl := hw.symm
      obtain ⟨hP1, -, hD1⟩ := hB
      rw [ht] at hP1
      obtain ⟨hP, hD⟩ := va_join (wr := []) (w1 := [(zmo, .inr (6, [.int (f_X7_no (0, mM.2.1, mM.2.2.1, mM.2.2.2.1, mM.2.2.2.2.1, mM.2.2.2.2.2) 1).2.1, .int (f_X7_no (0, mM.2.1, mM.2.2.1, mM.2.2.2.1, mM.2.2.2.2.1, mM.2.2.2.2.2) 1).2.2.1, .int (f_X7_no (0, mM.2.1, mM.2.2.1, mM.2.2.2.1, mM.2.2.2.2.1, mM.2.2.2.2.2) 1).2.2.2.1, .int (bI (f_X7_no (0, mM.2.1, mM.2.2.1, mM.2.2.2.1, mM.2.2.2.2.1, mM.2.2.2.2.2) 1).2.2.2.2.1), .int (f_X7_no (0, mM.2.1, mM.2.2.1, mM.2.2.2.1, mM.2.2.2.2.1, mM.2.2.2.2.2) 1).2.2.2.2.2.1, .int (f_X7_no (0, mM.2.1, mM.2.2.1, mM.2.2.2.1, mM.2.2.2.2.1, mM.2.2.2.2.2) 1).2.2.2.2.2.2, .ref zar, .ref zbe, .ref zst, .ref zah, .ref zgd]))]) hP hD [0] [] rfl rfl (by decide) (by decide) hk1 hFc hP1 hD1
      have hP := hP.sub (ws' := [(zmo, .inr (6, [.int (f_X7_no (0, mM.2.1, mM.2.2.1, mM.2.2.2.1, mM.2.2.2.2.1, mM.2.2.2.2.2) 1).2.1, .int (f_X7_no (0, mM.2.1, mM.2.2.1, mM.2.2.2.1, mM.2.2.2.2.1, mM.2.2.2.2.2) 1).2.2.1, .int (f_X7_no (0, mM.2.1, mM.2.2.1, mM.2.2.2.1, mM.2.2.2.2.1, mM.2.2.2.2.2) 1).2.2.2.1, .int (bI (f_X7_no (0, mM.2.1, mM.2.2.1, mM.2.2.2.1, mM.2.2.2.2.1, mM.2.2.2.2.2) 1).2.2.2.2.1), .int (f_X7_no (0, mM.2.1, mM.2.2.1, mM.2.2.2.1, mM.2.2.2.2.1, mM.2.2.2.2.2) 1).2.2.2.2.2.1, .int (f_X7_no (0, mM.2.1, mM.2.2.1, mM.2.2.2.1, mM.2.2.2.2.1, mM.2.2.2.2.2) 1).2.2.2.2.2.2, .ref zar, .ref zbe, .ref zst, .ref zah, .ref zgd]))]) [0] rfl
      have hD := hD.sub (ws' := [(zmo, .inr (6, [.int (f_X7_no (0, mM.2.1, mM.2.2.1, mM.2.2.2.1, mM.2.2.2.2.1, mM.2.2.2.2.2) 1).2.1, .int (f_X7_no (0, mM.2.1, mM.2.2.1, mM.2.2.2.1, mM.2.2.2.2.1, mM.2.2.2.2.2) 1).2.2.1, .int (f_X7_no (0, mM.2.1, mM.2.2.1, mM.2.2.2.1, mM.2.2.2.2.1, mM.2.2.2.2.2) 1).2.2.2.1, .int (bI (f_X7_no (0, mM.2.1, mM.2.2.1, mM.2.2.2.1, mM.2.2.2.2.1, mM.2.2.2.2.2) 1).2.2.2.2.1), .int (f_X7_no (0, mM.2.1, mM.2.2.1, mM.2.2.2.1, mM.2.2.2.2.1, mM.2.2.2.2.2) 1).2.2.2.2.2.1, .int (f_X7_no (0, mM.2.1, mM.2.2.1, mM.2.2.2.1, mM.2.2.2.2.1, mM.2.2.2.2.2) 1).2.2.2.2.2.2, .ref zar, .ref zbe, .ref zst, .ref zah, .ref zgd]))]) [0] (by decide) rfl
      clear hPc hDc hFc hP1 hD1 hk1
      obtain rfl := hf
      exact W.iret (v := (f_X7_no (0, mM.2.1, mM.2.2.1, mM.2.2.2.1, mM.2.2.2.2.1, mM.2.2.2.2.2) 1).1) hx hb hr (fun t ht hW => ⟨⟨(f_X7_no (0, mM.2.1, mM.2.2.1, mM.2.2.2.1, mM.2.2.2.2.1, mM.2.2.2.2.2) 1).1, (), rfl, rfl, by rw [ht]; exact hP, va_K.moved hW.alike hK, hD⟩, hS.F ht⟩) hS.2.2 dX7_setRules_32
/-! HedgeGlidersModel.setEdge(Z)Z -/
def f_X7_setEdge (mM : MoS) (fR : Nat → Int64) (fB : Nat → Int64) (rn : Bool) : Option (Int32 × MoS × (Nat → Int64) × (Nat → Int64)) := Option.bind (f_X7_link (0, mM.2.1, mM.2.2.1, rn, mM.2.2.2.2.1, mM.2.2.2.2.2) fR fB) fun r1 => some ((bI mM.2.2.2.1), (0, mM.2.1, mM.2.2.1, rn, mM.2.2.2.2.1, mM.2.2.2.2.2), r1.1, r1.2)
abbrev rm_X7_setEdge : Room := ({ frames := 4, cells := 0, slots := 0, locals := 89 } : Room)
abbrev A_X7_setEdge (cI cJ : ClassId) (zmo zar zbe zst zah zgd : Nat) (mM : MoS) (fR : Nat → Int64) (fB : Nat → Int64) (rn : Bool) (sz : Nat) : Nat → Prop := va_A [(zmo, .inr (6, [.int mM.1, .int mM.2.1, .int mM.2.2.1, .int (bI mM.2.2.2.1), .int mM.2.2.2.2.1, .int mM.2.2.2.2.2, .ref zar, .ref zbe, .ref zst, .ref zah, .ref zgd])), (zar, .inl (cJ, 64, .inr (.inl fR))), (zbe, .inl (cJ, 64, .inr (.inl fB)))] sz
abbrev Q_X7_setEdge (dC : Nat → ClassId) (dI : Nat → Nat → Nat) (cI cJ : ClassId) (zmo zar zbe zst zah zgd : Nat) (mM : MoS) (fR : Nat → Int64) (fB : Nat → Int64) (rn : Bool) (sz : Nat) (R : Int32 × MoS × (Nat → Int64) × (Nat → Int64)) : Array Value → State → Outcome → State → Prop := va_Qi (fun (r : Int32) (_ : Unit) => r = R.1) (fun u_ t => va_P (dC, dI) vwCl [(zmo, .inr (6, [.int R.2.1.1, .int R.2.1.2.1, .int R.2.1.2.2.1, .int (bI R.2.1.2.2.2.1), .int R.2.1.2.2.2.2.1, .int R.2.1.2.2.2.2.2, .ref zar, .ref zbe, .ref zst, .ref zah, .ref zgd])), (zar, .inl (cJ, 64, .inr (.inl R.2.2.1))), (zbe, .inl (cJ, 64, .inr (.inl R.2.2.2)))] t.heap ∧ va_K (dC, dI) vwCl [(cI, .int), (cJ, .long)] t ∧ va_D (A_X7_setEdge cI cJ zmo zar zbe zst zah zgd mM fR fB rn sz) [(zmo, .inr (6, [.int R.2.1.1, .int R.2.1.2.1, .int R.2.1.2.2.1, .int (bI R.2.1.2.2.2.1), .int R.2.1.2.2.2.2.1, .int R.2.1.2.2.2.2.2, .ref zar, .ref zbe, .ref zst, .ref zah, .ref zgd])), (zar, .inl (cJ, 64, .inr (.inl R.2.2.1))), (zbe, .inl (cJ, 64, .inr (.inl R.2.2.2)))]) (A_X7_setEdge cI cJ zmo zar zbe zst zah zgd mM fR fB rn sz)
set_option maxHeartbeats 4000000 in
set_option maxRecDepth 100000 in
theorem c_X7_setEdge (l : Launch) (dC : Nat → ClassId) (dI : Nat → Nat → Nat) (cI cJ : ClassId) (zmo zar zbe zst zah zgd : Nat) (sz : Nat) (mM : MoS) (fR : Nat → Int64) (fB : Nat → Int64) (rn : Bool) (R : Int32 × MoS × (Nat → Int64) × (Nat → Int64)) (hR : f_X7_setEdge mM fR fB rn = some R) : Met l yX7_setEdge wsX7_setEdge rm_X7_setEdge (va_Pc [.ref zmo, .int (bI rn)] (fun U => U.heap.size = sz ∧ va_P (dC, dI) vwCl [(zmo, .inr (6, [.int mM.1, .int mM.2.1, .int mM.2.2.1, .int (bI mM.2.2.2.1), .int mM.2.2.2.2.1, .int mM.2.2.2.2.2, .ref zar, .ref zbe, .ref zst, .ref zah, .ref zgd])), (zar, .inl (cJ, 64, .inr (.inl fR))), (zbe, .inl (cJ, 64, .inr (.inl fB)))] U.heap ∧ va_K (dC, dI) vwCl [(cI, .int), (cJ, .long)] U ∧ va_D (fun _ => True) [(zmo, .inr (6, [.int mM.1, .int mM.2.1, .int mM.2.2.1, .int (bI mM.2.2.2.1), .int mM.2.2.2.2.1, .int mM.2.2.2.2.2, .ref zar, .ref zbe, .ref zst, .ref zah, .ref zgd])), (zar, .inl (cJ, 64, .inr (.inl fR))), (zbe, .inl (cJ, 64, .inr (.inl fB)))])) (Q_X7_setEdge dC dI cI cJ zmo zar zbe zst zah zgd mM fR fB rn sz R) 0 0 (A_X7_setEdge cI cJ zmo zar zbe zst zah zgd mM fR fB rn sz) := by
  have hf := hR
  refine Met.ofW (cc := cX7_setEdge) (maxL := 3) (ret := (some .boolean)) (by decide) rfl ?_
  intro p e s m args below meth c s₁ B hml hv
  obtain ⟨hargs, hsz, hP, hK, hD0⟩ := hv
  have hx := B.exec
  have hb := B.bytes
  have hr := B.returns
  have hts := atoms_spec (ws := wsX7_setEdge) B.pre
  have hown : s.vm.findClass RX7 = some m.cls := findClass_of_methodNamed B.named
  have hlocks := B.notSynchronized
  subst hsz
  have hD : va_D (A_X7_setEdge cI cJ zmo zar zbe zst zah zgd mM fR fB rn s.heap.size) [(zmo, .inr (6, [.int mM.1, .int mM.2.1, .int mM.2.2.1, .int (bI mM.2.2.2.1), .int mM.2.2.2.2.1, .int mM.2.2.2.2.2, .ref zar, .ref zbe, .ref zst, .ref zah, .ref zgd])), (zar, .inl (cJ, 64, .inr (.inl fR))), (zbe, .inl (cJ, 64, .inr (.inl fB)))] := hD0.self (sz := s.heap.size)
  have hA : ∀ q : Nat, s.heap.size ≤ q → (A_X7_setEdge cI cJ zmo zar zbe zst zah zgd mM fR fB rn s.heap.size) q := fun q h => Or.inr h
  have hS : va_S (A_X7_setEdge cI cJ zmo zar zbe zst zah zgd mM fR fB rn s.heap.size) s.heap s.heap [] := va_S.rf
  have hinX7 : ∀ w ∈ wsX70, w ∈ wsX7_setEdge := by decide +kernel
  have hw0 := hts (.fieldLink RX7 45 "HedgeGlidersModel" "thrown" "I") (by decide +kernel)
  have hw1 := hts (.fieldLink RX7 56 "HedgeGlidersModel" "isRound" "Z") (by decide +kernel)
  have hl := lv_entry ([.ref zmo, .int (bI rn)]) (n := 3) (Nat.le_of_ble_eq_true rfl)
  have he0 : entryFrame m args 3 = entryFrame m ([.ref zmo, .int (bI rn)] : List Value).toArray 3 := by rw [hargs]
  rw [he0, lg_entry_eq]
  generalize (lg_sl ([.ref zmo, .int (bI rn)]) ++ List.replicate (3 - (lg_sl ([.ref zmo, .int (bI rn)])).length) Slot.unset).toArray = ls at hl ⊢
  have hl : lv_has ls 3 [(0, .ref zmo), (1, .int (bI rn))] := hl
  rw [f_X7_setEdge] at hf
  refine lv_aload_n hx hb dX7_setEdge_0 rfl (lv_at hl 0 rfl) ?_
  refine lv_iconst (v := 0) hx hb dX7_setEdge_1 (by decide) ?_
  refine va_put (D := (dC, dI)) (ci := 6) (v := .int 0) (ty := .int) (C := RX7) (T := TX7) (N := 11) hx hb hts hinX7 tyX7 tyX7_ok nmX7 hown hK hP hD hS 0 rfl rfl 0 (by decide) hw0 (fun _ h9 => h9) rfl (by decide +kernel) rfl rfl (Nat.le_of_ble_eq_true rfl) dX7_setEdge_2 (fun H locs hP hD hS => ?_)
  have hP : va_P (dC, dI) vwCl [(zmo, .inr (6, [.int 0, .int mM.2.1, .int mM.2.2.1, .int (bI mM.2.2.2.1), .int mM.2.2.2.2.1, .int mM.2.2.2.2.2, .ref zar, .ref zbe, .ref zst, .ref zah, .ref zgd])), (zar, .inl (cJ, 64, .inr (.inl fR))), (zbe, .inl (cJ, 64, .inr (.inl fB)))] H := hP
  have hD : va_D (A_X7_setEdge cI cJ zmo zar zbe zst zah zgd mM fR fB rn s.heap.size) [(zmo, .inr (6, [.int 0, .int mM.2.1, .int mM.2.2.1, .int (bI mM.2.2.2.1), .int mM.2.2.2.2.1, .int mM.2.2.2.2.2, .ref zar, .ref zbe, .ref zst, .ref zah, .ref zgd])), (zar, .inl (cJ, 64, .inr (.inl fR))), (zbe, .inl (cJ, 64, .inr (.inl fB)))] := hD
  refine lv_aload_n hx hb dX7_setEdge_5 rfl (lv_at hl 0 rfl) ?_
  refine va_get (D := (dC, dI)) (ci := 6) (v := .int (bI mM.2.2.2.1)) (C := RX7) (T := TX7) (N := 11) hx hb hts hinX7 hown hK hP 0 rfl rfl 3 (by decide) hw1 (fun _ h9 => h9) rfl dX7_setEdge_6 ?_
  refine lv_istore_n (lv' := [(2, .int (bI mM.2.2.2.1)), (0, .ref zmo), (1, .int (bI rn))]) hx hb dX7_setEdge_9 rfl hl (by decide) rfl (fun ls hl => ?_)
  refine lv_aload_n hx hb dX7_setEdge_10 rfl (lv_at hl 1 rfl) ?_
  refine lv_iload_n hx hb dX7_setEdge_11 rfl (lv_at hl 2 rfl) ?_
  refine va_put (D := (dC, dI)) (ci := 6) (v := .int (bI rn)) (ty := .boolean) (C := RX7) (T := TX7) (N := 11) hx hb hts hinX7 tyX7 tyX7_ok nmX7 hown hK hP hD hS 0 rfl rfl 3 (by decide) hw1 (fun _ h9 => h9) rfl (by decide +kernel) (bI_nar _) (bI_fit _) (Nat.le_of_ble_eq_true rfl) dX7_setEdge_12 (fun H locs hP hD hS => ?_)
  have hP : va_P (dC, dI) vwCl [(zmo, .inr (6, [.int 0, .int mM.2.1, .int mM.2.2.1, .int (bI rn), .int mM.2.2.2.2.1, .int mM.2.2.2.2.2, .ref zar, .ref zbe, .ref zst, .ref zah, .ref zgd])), (zar, .inl (cJ, 64, .inr (.inl fR))), (zbe, .inl (cJ, 64, .inr (.inl fB)))] H := hP
  have hD : va_D (A_X7_setEdge cI cJ zmo zar zbe zst zah zgd mM fR fB rn s.heap.size) [(zmo, .inr (6, [.int 0, .int mM.2.1, .int mM.2.2.1, .int (bI rn), .int mM.2.2.2.2.1, .int mM.2.2.2.2.2, .ref zar, .ref zbe, .ref zst, .ref zah, .ref zgd])), (zar, .inl (cJ, 64, .inr (.inl fR))), (zbe, .inl (cJ, 64, .inr (.inl fB)))] := hD
  refine lv_aload_n hx hb dX7_setEdge_15 rfl (lv_at hl 1 rfl) ?_
  obtain ⟨r1, hr1, hf⟩ := obind hf
  have hPc := hP.sub (ws' := [(zmo, .inr (6, [.int 0, .int mM.2.1, .int mM.2.2.1, .int (bI rn), .int mM.2.2.2.2.1, .int mM.2.2.2.2.2, .ref zar, .ref zbe, .ref zst, .ref zah, .ref zgd])), (zar, .inl (cJ, 64, .inr (.inl fR))), (zbe, .inl (cJ, 64, .inr (.inl fB)))]) [0, 1, 2] rfl
  have hDc := hD.sub (ws' := [(zmo, .inr (6, [.int 0, .int mM.2.1, .int mM.2.2.1, .int (bI rn), .int mM.2.2.2.2.1, .int mM.2.2.2.2.2, .ref zar, .ref zbe, .ref zst, .ref zah, .ref zgd])), (zar, .inl (cJ, 64, .inr (.inl fR))), (zbe, .inl (cJ, 64, .inr (.inl fB)))]) [0, 1, 2] (by decide) rfl
  have hFc := va_free (wc := [(zmo, .inr (6, [.int 0, .int mM.2.1, .int mM.2.2.1, .int (bI rn), .int mM.2.2.2.2.1, .int mM.2.2.2.2.2, .ref zar, .ref zbe, .ref zst, .ref zah, .ref zgd])), (zar, .inl (cJ, 64, .inr (.inl fR))), (zbe, .inl (cJ, 64, .inr (.inl fB)))]) hD hS hA [0, 1, 2] rfl
  refine va_callv (va_runV (As := []) (rest := []) ⟨hx, hb, hml, hown, hts⟩ (c_X7_link l dC dI cI cJ zmo zar zbe zst zah zgd H.size (0, mM.2.1, mM.2.2.1, rn, mM.2.2.2.2.1, mM.2.2.2.2.2) fR fB _ hr1) (cwV 0 hts gX7_setEdge_X7_link rfl rfl rfl (by decide +kernel) ⟨Nat.le_of_ble_eq_true rfl, Nat.le_of_ble_eq_true rfl⟩) ⟨fun a U gg mk q => by obtain ⟨q0, q1, qP, qK, qD⟩ := q; exact ⟨q0, q1, qP, va_K.moved (u := U) (U := U.calling gg mk a) (Vm.Alike.refl U.vm) qK, qD⟩, va_recv hK hPc (ci := 6) (q0 := 0) rfl rfl, fun U hU hW => ⟨rfl, by rw [hU], by rw [hU]; exact hPc, va_K.moved hW.alike hK, hDc.weaken (fun _ _ _ _ => trivial)⟩⟩ rfl rfl hl.1 rfl (lv_room (Nat.le_of_ble_eq_true rfl)) dX7_setEdge_16 ⟨Nat.zero_le _, Nat.zero_le _⟩) hS (fun q _ h => hFc q h) hFc (fun u_ t H locs ht hvm hw hB hz1 hk1 hS => ?_)
  obtain ⟨hP1, -, hD1⟩ := hB
  rw [ht] at hP1
  obtain ⟨hP, hD⟩ := va_join (wr := []) (w1 := [(zmo, .inr (6, [.int 0, .int mM.2.1, .int mM.2.2.1, .int (bI rn), .int mM.2.2.2.2.1, .int mM.2.2.2.2.2, .ref zar, .ref zbe, .ref zst, .ref zah, .ref zgd])), (zar, .inl (cJ, 64, .inr (.inl r1.1))), (zbe, .inl (cJ, 64, .inr (.inl r1.2)))]) hP hD [0, 1, 2] [] rfl rfl (by decide) (by decide) hk1 hFc hP1 hD1
  have hP := hP.sub (ws' := [(zmo, .inr (6, [.int 0, .int mM.2.1, .int mM.2.2.1, .int (bI rn), .int mM.2.2.2.2.1, .int mM.2.2.2.2.2, .ref zar, .ref zbe, .ref zst, .ref zah, .ref zgd])), (zar, .inl (cJ, 64, .inr (.inl r1.1))), (zbe, .inl (cJ, 64, .inr (.inl r1.2)))]) [0, 1, 2] rfl
  have hD := hD.sub (ws' := [(zmo, .inr (6, [.int 0, .int mM.2.1, .int mM.2.2.1, .int (bI rn), .int mM.2.2.2.2.1, .int mM.2.2.2.2.2, .ref zar, .ref zbe, .ref zst, .ref zah, .ref zgd])), (zar, .inl (cJ, 64, .inr (.inl r1.1))), (zbe, .inl (cJ, 64, .inr (.inl r1.2)))]) [0, 1, 2] (by decide) rfl
  clear hPc hDc hFc hP1 hD1 hk1
  refine lv_iload_n hx hb dX7_setEdge_19 rfl (lv_at hl 0 rfl) ?_
  obtain rfl := Option.some.inj hf
  exact W.zret (v := (bI mM.2.2.2.1)) (ty := .boolean) hx hb hr (bI_nar _) (fun t ht hW => ⟨⟨(bI mM.2.2.2.1), (), rfl, rfl, by rw [ht]; exact hP, va_K.moved hW.alike hK, hD⟩, hS.F ht⟩) hS.2.2 dX7_setEdge_20
/-! HedgeGlidersModel.turn(II)I -/
def f_X7_turn (mM : MoS) (sS : StS) (aS : Nat → Int32) (cx : Int32) (cy : Int32) : Option (Int32 × MoS × StS × (Nat → Int32)) := if (f_X7_isCell (0, mM.2.1, mM.2.2.1, mM.2.2.2.1, mM.2.2.2.2.1, mM.2.2.2.2.2) cx cy) = 0 then (some ((f_X7_no (0, mM.2.1, mM.2.2.1, mM.2.2.2.1, mM.2.2.2.2.1, mM.2.2.2.2.2) 1).1, (f_X7_no (0, mM.2.1, mM.2.2.1, mM.2.2.2.1, mM.2.2.2.2.1, mM.2.2.2.2.2) 1).2, sS, aS)) else (Option.bind (if (f_X6_has sS ((mM.2.1 * cy) + cx)) = 0 then (Option.bind (f_X6_plant sS aS ((mM.2.1 * cy) + cx)) fun r1 => some (r1.1.1, r1.1.2.1, r1.1.2.2.1, r1.1.2.2.2, r1.2)) else (some (sS.1, sS.2.1, sS.2.2.1, (sS.2.2.2 &&& ((jshl 1 ((mM.2.1 * cy) + cx)) ^^^ (-1))), aS)) : Option (Int32 × Int32 × Int32 × Int64 × (Nat → Int32))) fun v2 => some ((f_J13_bitCount_95d88 v2.2.2.2.1), (0, mM.2.1, mM.2.2.1, mM.2.2.2.1, mM.2.2.2.2.1, mM.2.2.2.2.2), (v2.1, v2.2.1, v2.2.2.1, v2.2.2.2.1), v2.2.2.2.2))
abbrev rm_X7_turn : Room := ({ frames := 2, cells := 0, slots := 0, locals := 44 } : Room)
abbrev A_X7_turn (cI cJ : ClassId) (zmo zst zsa zar zbe zah zgd : Nat) (mM : MoS) (sS : StS) (aS : Nat → Int32) (cx : Int32) (cy : Int32) (sz : Nat) : Nat → Prop := va_A [(zmo, .inr (6, [.int mM.1, .int mM.2.1, .int mM.2.2.1, .int (bI mM.2.2.2.1), .int mM.2.2.2.2.1, .int mM.2.2.2.2.2, .ref zar, .ref zbe, .ref zst, .ref zah, .ref zgd])), (zst, .inr (5, [.int sS.1, .int sS.2.1, .int sS.2.2.1, .long sS.2.2.2, .ref zsa])), (zsa, .inl (cI, 64, .inl aS))] sz
abbrev Q_X7_turn (dC : Nat → ClassId) (dI : Nat → Nat → Nat) (cI cJ : ClassId) (zmo zst zsa zar zbe zah zgd : Nat) (mM : MoS) (sS : StS) (aS : Nat → Int32) (cx : Int32) (cy : Int32) (sz : Nat) (R : Int32 × MoS × StS × (Nat → Int32)) : Array Value → State → Outcome → State → Prop := va_Qi (fun (r : Int32) (_ : Unit) => r = R.1) (fun u_ t => va_P (dC, dI) vwCl [(zmo, .inr (6, [.int R.2.1.1, .int R.2.1.2.1, .int R.2.1.2.2.1, .int (bI R.2.1.2.2.2.1), .int R.2.1.2.2.2.2.1, .int R.2.1.2.2.2.2.2, .ref zar, .ref zbe, .ref zst, .ref zah, .ref zgd])), (zst, .inr (5, [.int R.2.2.1.1, .int R.2.2.1.2.1, .int R.2.2.1.2.2.1, .long R.2.2.1.2.2.2, .ref zsa])), (zsa, .inl (cI, 64, .inl R.2.2.2))] t.heap ∧ va_K (dC, dI) vwCl [(cI, .int), (cJ, .long)] t ∧ va_D (A_X7_turn cI cJ zmo zst zsa zar zbe zah zgd mM sS aS cx cy sz) [(zmo, .inr (6, [.int R.2.1.1, .int R.2.1.2.1, .int R.2.1.2.2.1, .int (bI R.2.1.2.2.2.1), .int R.2.1.2.2.2.2.1, .int R.2.1.2.2.2.2.2, .ref zar, .ref zbe, .ref zst, .ref zah, .ref zgd])), (zst, .inr (5, [.int R.2.2.1.1, .int R.2.2.1.2.1, .int R.2.2.1.2.2.1, .long R.2.2.1.2.2.2, .ref zsa])), (zsa, .inl (cI, 64, .inl R.2.2.2))]) (A_X7_turn cI cJ zmo zst zsa zar zbe zah zgd mM sS aS cx cy sz)
set_option maxHeartbeats 4000000 in
set_option maxRecDepth 100000 in
theorem c_X7_turn (l : Launch) (dC : Nat → ClassId) (dI : Nat → Nat → Nat) (cI cJ : ClassId) (zmo zst zsa zar zbe zah zgd : Nat) (sz : Nat) (mM : MoS) (sS : StS) (aS : Nat → Int32) (cx : Int32) (cy : Int32) (R : Int32 × MoS × StS × (Nat → Int32)) (hR : f_X7_turn mM sS aS cx cy = some R) : Met l yX7_turn wsX7_turn rm_X7_turn (va_Pc [.ref zmo, .int cx, .int cy] (fun U => U.heap.size = sz ∧ va_P (dC, dI) vwCl [(zmo, .inr (6, [.int mM.1, .int mM.2.1, .int mM.2.2.1, .int (bI mM.2.2.2.1), .int mM.2.2.2.2.1, .int mM.2.2.2.2.2, .ref zar, .ref zbe, .ref zst, .ref zah, .ref zgd])), (zst, .inr (5, [.int sS.1, .int sS.2.1, .int sS.2.2.1, .long sS.2.2.2, .ref zsa])), (zsa, .inl (cI, 64, .inl aS))] U.heap ∧ va_K (dC, dI) vwCl [(cI, .int), (cJ, .long)] U ∧ va_D (fun _ => True) [(zmo, .inr (6, [.int mM.1, .int mM.2.1, .int mM.2.2.1, .int (bI mM.2.2.2.1), .int mM.2.2.2.2.1, .int mM.2.2.2.2.2, .ref zar, .ref zbe, .ref zst, .ref zah, .ref zgd])), (zst, .inr (5, [.int sS.1, .int sS.2.1, .int sS.2.2.1, .long sS.2.2.2, .ref zsa])), (zsa, .inl (cI, 64, .inl aS))] ∧ nwM U)) (Q_X7_turn dC dI cI cJ zmo zst zsa zar zbe zah zgd mM sS aS cx cy sz R) 0 0 (A_X7_turn cI cJ zmo zst zsa zar zbe zah zgd mM sS aS cx cy sz) := by
  have hf := hR
  refine Met.ofW (cc := cX7_turn) (maxL := 4) (ret := (some .int)) (by decide) rfl ?_
  intro p e s m args below meth c s₁ B hml hv
  obtain ⟨hargs, hsz, hP, hK, hD0, hnw⟩ := hv
  have hx := B.exec
  have hb := B.bytes
  have hr := B.returns
  have hts := atoms_spec (ws := wsX7_turn) B.pre
  have hown : s.vm.findClass RX7 = some m.cls := findClass_of_methodNamed B.named
  have hlocks := B.notSynchronized
  subst hsz
  obtain ⟨hnw_hedges, hnw_ages, hnw_born, hnw_dead, hnw_year⟩ := id hnw
  have hD : va_D (A_X7_turn cI cJ zmo zst zsa zar zbe zah zgd mM sS aS cx cy s.heap.size) [(zmo, .inr (6, [.int mM.1, .int mM.2.1, .int mM.2.2.1, .int (bI mM.2.2.2.1), .int mM.2.2.2.2.1, .int mM.2.2.2.2.2, .ref zar, .ref zbe, .ref zst, .ref zah, .ref zgd])), (zst, .inr (5, [.int sS.1, .int sS.2.1, .int sS.2.2.1, .long sS.2.2.2, .ref zsa])), (zsa, .inl (cI, 64, .inl aS))] := hD0.self (sz := s.heap.size)
  have hA : ∀ q : Nat, s.heap.size ≤ q → (A_X7_turn cI cJ zmo zst zsa zar zbe zah zgd mM sS aS cx cy s.heap.size) q := fun q h => Or.inr h
  have hS : va_S (A_X7_turn cI cJ zmo zst zsa zar zbe zah zgd mM sS aS cx cy s.heap.size) s.heap s.heap [] := va_S.rf
  have hinX6 : ∀ w ∈ wsX60, w ∈ wsX7_turn := by decide +kernel
  have hinX7 : ∀ w ∈ wsX70, w ∈ wsX7_turn := by decide +kernel
  have hw0 := hts (.fieldLink RX7 45 "HedgeGlidersModel" "thrown" "I") (by decide +kernel)
  have hw1 := hts (.fieldLink RX7 9 "HedgeGlidersModel" "w" "I") (by decide +kernel)
  have hw2 := hts (.fieldLink RX7 32 "HedgeGlidersModel" "s" "LHedgeGlidersModel$State;") (by decide +kernel)
  have hw3 := hts (.constantLong RX7 97 (-1)) (by decide +kernel)
  have hl := lv_entry ([.ref zmo, .int cx, .int cy]) (n := 4) (Nat.le_of_ble_eq_true rfl)
  have he0 : entryFrame m args 4 = entryFrame m ([.ref zmo, .int cx, .int cy] : List Value).toArray 4 := by rw [hargs]
  rw [he0, lg_entry_eq]
  generalize (lg_sl ([.ref zmo, .int cx, .int cy]) ++ List.replicate (4 - (lg_sl ([.ref zmo, .int cx, .int cy])).length) Slot.unset).toArray = ls at hl ⊢
  have hl : lv_has ls 4 [(0, .ref zmo), (1, .int cx), (2, .int cy)] := hl
  rw [f_X7_turn] at hf
  refine lv_aload_n hx hb dX7_turn_0 rfl (lv_at hl 0 rfl) ?_
  refine lv_iconst (v := 0) hx hb dX7_turn_1 (by decide) ?_
  refine va_put (D := (dC, dI)) (ci := 6) (v := .int 0) (ty := .int) (C := RX7) (T := TX7) (N := 11) hx hb hts hinX7 tyX7 tyX7_ok nmX7 hown hK hP hD hS 0 rfl rfl 0 (by decide) hw0 (fun _ h9 => h9) rfl (by decide +kernel) rfl rfl (Nat.le_of_ble_eq_true rfl) dX7_turn_2 (fun H locs hP hD hS => ?_)
  have hP : va_P (dC, dI) vwCl [(zmo, .inr (6, [.int 0, .int mM.2.1, .int mM.2.2.1, .int (bI mM.2.2.2.1), .int mM.2.2.2.2.1, .int mM.2.2.2.2.2, .ref zar, .ref zbe, .ref zst, .ref zah, .ref zgd])), (zst, .inr (5, [.int sS.1, .int sS.2.1, .int sS.2.2.1, .long sS.2.2.2, .ref zsa])), (zsa, .inl (cI, 64, .inl aS))] H := hP
  have hD : va_D (A_X7_turn cI cJ zmo zst zsa zar zbe zah zgd mM sS aS cx cy s.heap.size) [(zmo, .inr (6, [.int 0, .int mM.2.1, .int mM.2.2.1, .int (bI mM.2.2.2.1), .int mM.2.2.2.2.1, .int mM.2.2.2.2.2, .ref zar, .ref zbe, .ref zst, .ref zah, .ref zgd])), (zst, .inr (5, [.int sS.1, .int sS.2.1, .int sS.2.2.1, .long sS.2.2.2, .ref zsa])), (zsa, .inl (cI, 64, .inl aS))] := hD
  refine lv_aload_n hx hb dX7_turn_5 rfl (lv_at hl 0 rfl) ?_
  refine lv_iload_n hx hb dX7_turn_6 rfl (lv_at hl 1 rfl) ?_
  refine lv_iload_n hx hb dX7_turn_7 rfl (lv_at hl 2 rfl) ?_
  have hPc := hP.sub (ws' := [(zmo, .inr (6, [.int 0, .int mM.2.1, .int mM.2.2.1, .int (bI mM.2.2.2.1), .int mM.2.2.2.2.1, .int mM.2.2.2.2.2, .ref zar, .ref zbe, .ref zst, .ref zah, .ref zgd]))]) [0] rfl
  have hDc := hD.sub (ws' := [(zmo, .inr (6, [.int 0, .int mM.2.1, .int mM.2.2.1, .int (bI mM.2.2.2.1), .int mM.2.2.2.2.1, .int mM.2.2.2.2.2, .ref zar, .ref zbe, .ref zst, .ref zah, .ref zgd]))]) [0] (by decide) rfl
  have hFc := va_free (wc := [(zmo, .inr (6, [.int 0, .int mM.2.1, .int mM.2.2.1, .int (bI mM.2.2.2.1), .int mM.2.2.2.2.1, .int mM.2.2.2.2.2, .ref zar, .ref zbe, .ref zst, .ref zah, .ref zgd]))]) hD hS hA [0] rfl
  refine va_calli (va_runV (As := [.int cx, .int cy]) (rest := []) ⟨hx, hb, hml, hown, hts⟩ (c_X7_isCell l dC dI cI cJ zmo zar zbe zst zah zgd H.size (0, mM.2.1, mM.2.2.1, mM.2.2.2.1, mM.2.2.2.2.1, mM.2.2.2.2.2) cx cy) (cwV 2 hts gX7_turn_X7_isCell rfl rfl rfl (by decide +kernel) ⟨Nat.le_of_ble_eq_true rfl, Nat.le_of_ble_eq_true rfl⟩) ⟨fun a U gg mk q => by obtain ⟨q0, q1, qP, qK, qD⟩ := q; exact ⟨q0, q1, qP, va_K.moved (u := U) (U := U.calling gg mk a) (Vm.Alike.refl U.vm) qK, qD⟩, va_recv hK hPc (ci := 6) (q0 := 0) rfl rfl, fun U hU hW => ⟨rfl, by rw [hU], by rw [hU]; exact hPc, va_K.moved hW.alike hK, hDc.weaken (fun _ _ _ _ => trivial)⟩⟩ rfl rfl hl.1 rfl (lv_room (Nat.le_of_ble_eq_true rfl)) dX7_turn_8 ⟨Nat.zero_le _, Nat.zero_le _⟩) hS (fun q _ h => hFc q h) hFc (fun r_ u_ t H locs ht hvm hw hB hz1 hk1 hS => ?_)
  obtain rfl := hw.symm
  obtain ⟨hP1, -, hD1⟩ := hB
  rw [ht] at hP1
  obtain ⟨hP, hD⟩ := va_join (wr := [(zst, .inr (5, [.int sS.1, .int sS.2.1, .int sS.2.2.1, .long sS.2.2.2, .ref zsa])), (zsa, .inl (cI, 64, .inl aS))]) (w1 := [(zmo, .inr (6, [.int 0, .int mM.2.1, .int mM.2.2.1, .int (bI mM.2.2.2.1), .int mM.2.2.2.2.1, .int mM.2.2.2.2.2, .ref zar, .ref zbe, .ref zst, .ref zah, .ref zgd]))]) hP hD [0] [1, 2] rfl rfl (by decide) (by decide) hk1 hFc hP1 hD1
  have hP := hP.sub (ws' := [(zmo, .inr (6, [.int 0, .int mM.2.1, .int mM.2.2.1, .int (bI mM.2.2.2.1), .int mM.2.2.2.2.1, .int mM.2.2.2.2.2, .ref zar, .ref zbe, .ref zst, .ref zah, .ref zgd])), (zst, .inr (5, [.int sS.1, .int sS.2.1, .int sS.2.2.1, .long sS.2.2.2, .ref zsa])), (zsa, .inl (cI, 64, .inl aS))]) [2, 0, 1] rfl
  have hD := hD.sub (ws' := [(zmo, .inr (6, [.int 0, .int mM.2.1, .int mM.2.2.1, .int (bI mM.2.2.2.1), .int mM.2.2.2.2.1, .int mM.2.2.2.2.2, .ref zar, .ref zbe, .ref zst, .ref zah, .ref zgd])), (zst, .inr (5, [.int sS.1, .int sS.2.1, .int sS.2.2.1, .long sS.2.2.2, .ref zsa])), (zsa, .inl (cI, 64, .inl aS))]) [2, 0, 1] (by decide) rfl
  clear hPc hDc hFc hP1 hD1 hk1
  refine lv_if_ne (tgt := 20) hx hb dX7_turn_11 (by decide) (fun hc => ?_) (fun hc => ?_)
  · rw [if_neg hc] at hf
    refine lv_aload_n hx hb dX7_turn_20 rfl (lv_at hl 0 rfl) ?_
    refine va_get (D := (dC, dI)) (ci := 6) (v := .int mM.2.1) (C := RX7) (T := TX7) (N := 11) hx hb hts hinX7 hown hK hP 0 rfl rfl 1 (by decide) hw1 (fun _ h9 => h9) rfl dX7_turn_21 ?_
    refine lv_iload_n hx hb dX7_turn_24 rfl (lv_at hl 2 rfl) ?_
    refine lv_imul hx hb dX7_turn_25 ?_
    refine lv_iload_n hx hb dX7_turn_26 rfl (lv_at hl 1 rfl) ?_
    refine lv_iadd hx hb dX7_turn_27 ?_
    refine lv_istore_n (lv' := [(3, .int ((mM.2.1 * cy) + cx)), (0, .ref zmo), (1, .int cx), (2, .int cy)]) hx hb dX7_turn_28 rfl hl (by decide) rfl (fun ls hl => ?_)
    refine lv_aload_n hx hb dX7_turn_29 rfl (lv_at hl 1 rfl) ?_
    refine va_get (D := (dC, dI)) (ci := 6) (v := .ref zst) (C := RX7) (T := TX7) (N := 11) hx hb hts hinX7 hown hK hP 0 rfl rfl 8 (by decide) hw2 (fun _ h9 => h9) rfl dX7_turn_30 ?_
    refine lv_iload_n hx hb dX7_turn_33 rfl (lv_at hl 0 rfl) ?_
    have hPc := hP.sub (ws' := [(zst, .inr (5, [.int sS.1, .int sS.2.1, .int sS.2.2.1, .long sS.2.2.2, .ref zsa]))]) [1] rfl
    have hDc := hD.sub (ws' := [(zst, .inr (5, [.int sS.1, .int sS.2.1, .int sS.2.2.1, .long sS.2.2.2, .ref zsa]))]) [1] (by decide) rfl
    have hFc := va_free (wc := [(zst, .inr (5, [.int sS.1, .int sS.2.1, .int sS.2.2.1, .long sS.2.2.2, .ref zsa]))]) hD hS hA [1] rfl
    refine va_calli (va_runV (As := [.int ((mM.2.1 * cy) + cx)]) (rest := []) ⟨hx, hb, hml, hown, hts⟩ (c_X6_has l dC dI cI cJ zst zsa H.size sS ((mM.2.1 * cy) + cx)) (cwV 1 hts gX7_turn_X6_has rfl rfl rfl (by decide +kernel) ⟨Nat.le_of_ble_eq_true rfl, Nat.le_of_ble_eq_true rfl⟩) ⟨fun a U gg mk q => by obtain ⟨q0, q1, qP, qK, qD⟩ := q; exact ⟨q0, q1, qP, va_K.moved (u := U) (U := U.calling gg mk a) (Vm.Alike.refl U.vm) qK, qD⟩, va_recv hK hPc (ci := 5) (q0 := 0) rfl rfl, fun U hU hW => ⟨rfl, by rw [hU], by rw [hU]; exact hPc, va_K.moved hW.alike hK, hDc.weaken (fun _ _ _ _ => trivial)⟩⟩ rfl rfl hl.1 rfl (lv_room (Nat.le_of_ble_eq_true rfl)) dX7_turn_34 ⟨Nat.zero_le _, Nat.zero_le _⟩) hS (fun q _ h => hFc q h) hFc (fun r_ u_ t H locs ht hvm hw hB hz1 hk1 hS => ?_)
    obtain rfl := hw.symm
    obtain ⟨hP1, -, hD1⟩ := hB
    rw [ht] at hP1
    obtain ⟨hP, hD⟩ := va_join (wr := [(zmo, .inr (6, [.int 0, .int mM.2.1, .int mM.2.2.1, .int (bI mM.2.2.2.1), .int mM.2.2.2.2.1, .int mM.2.2.2.2.2, .ref zar, .ref zbe, .ref zst, .ref zah, .ref zgd])), (zsa, .inl (cI, 64, .inl aS))]) (w1 := [(zst, .inr (5, [.int sS.1, .int sS.2.1, .int sS.2.2.1, .long sS.2.2.2, .ref zsa]))]) hP hD [1] [0, 2] rfl rfl (by decide) (by decide) hk1 hFc hP1 hD1
    have hP := hP.sub (ws' := [(zmo, .inr (6, [.int 0, .int mM.2.1, .int mM.2.2.1, .int (bI mM.2.2.2.1), .int mM.2.2.2.2.1, .int mM.2.2.2.2.2, .ref zar, .ref zbe, .ref zst, .ref zah, .ref zgd])), (zst, .inr (5, [.int sS.1, .int sS.2.1, .int sS.2.2.1, .long sS.2.2.2, .ref zsa])), (zsa, .inl (cI, 64, .inl aS))]) [0, 2, 1] rfl
    have hD := hD.sub (ws' := [(zmo, .inr (6, [.int 0, .int mM.2.1, .int mM.2.2.1, .int (bI mM.2.2.2.1), .int mM.2.2.2.2.1, .int mM.2.2.2.2.2, .ref zar, .ref zbe, .ref zst, .ref zah, .ref zgd])), (zst, .inr (5, [.int sS.1, .int sS.2.1, .int sS.2.2.1, .long sS.2.2.2, .ref zsa])), (zsa, .inl (cI, 64, .inl aS))]) [0, 2, 1] (by decide) rfl
    clear hPc hDc hFc hP1 hD1 hk1
    obtain ⟨v2, hv, hf⟩ := obind hf
    have K3 : ∀ (H : Heap) (locs : List Loc) (ls : Array Slot), va_P (dC, dI) vwCl [(zmo, .inr (6, [.int 0, .int mM.2.1, .int mM.2.2.1, .int (bI mM.2.2.2.1), .int mM.2.2.2.2.1, .int mM.2.2.2.2.2, .ref zar, .ref zbe, .ref zst, .ref zah, .ref zgd])), (zst, .inr (5, [.int v2.1, .int v2.2.1, .int v2.2.2.1, .long v2.2.2.2.1, .ref zsa])), (zsa, .inl (cI, 64, .inl v2.2.2.2.2))] H → va_D (A_X7_turn cI cJ zmo zst zsa zar zbe zah zgd mM sS aS cx cy s.heap.size) [(zmo, .inr (6, [.int 0, .int mM.2.1, .int mM.2.2.1, .int (bI mM.2.2.2.1), .int mM.2.2.2.2.1, .int mM.2.2.2.2.2, .ref zar, .ref zbe, .ref zst, .ref zah, .ref zgd])), (zst, .inr (5, [.int v2.1, .int v2.2.1, .int v2.2.2.1, .long v2.2.2.2.1, .ref zsa])), (zsa, .inl (cI, 64, .inl v2.2.2.2.2))] → va_S (A_X7_turn cI cJ zmo zst zsa zar zbe zah zgd mM sS aS cx cy s.heap.size) s.heap H locs → lv_has ls 4 [(0, .ref zmo)] → W p l e rm_X7_turn s m args below meth c H locs 0 0 (MQ below (Q_X7_turn dC dI cI cJ zmo zst zsa zar zbe zah zgd mM sS aS cx cy s.heap.size R) args s 0 0 (A_X7_turn cI cJ zmo zst zsa zar zbe zah zgd mM sS aS cx cy s.heap.size)) (F0 m 70 ls []) := by
      intro H locs ls hP hD hS hl
      refine lv_aload_n hx hb dX7_turn_70 rfl (lv_at hl 0 rfl) ?_
      refine va_get (D := (dC, dI)) (ci := 6) (v := .ref zst) (C := RX7) (T := TX7) (N := 11) hx hb hts hinX7 hown hK hP 0 rfl rfl 8 (by decide) hw2 (fun _ h9 => h9) rfl dX7_turn_71 ?_
      refine va_getN (D := (dC, dI)) (ci := 5) (v := .long v2.2.2.2.1) (C := RX6) (T := TX6) (N := 5) hx hb hts hinX6 hown hK hP 1 rfl rfl 3 (by decide) (va_Nw.use rfl hnw_hedges) (fun _ h9 => h9) rfl dX7_turn_74 ?_
      have hPc := hP.sub (ws' := []) [] rfl
      have hDc := hD.sub (ws' := []) [] (by decide) rfl
      have hFc := va_free (wc := []) hD hS hA [] rfl
      refine va_calli (va_runS (As := [.long v2.2.2.2.1]) (rest := []) ⟨hx, hb, hml, hown, hts⟩ (c_J13_bitCount_95d88 l dC dI cI cJ  H.size v2.2.2.2.1) (va_cwS 1 hts gX7_turn_J13_bitCount_95d88 rfl rfl rfl (by decide +kernel) ⟨Nat.le_of_ble_eq_true rfl, Nat.le_of_ble_eq_true rfl⟩) ⟨fun a U gg mk q => by obtain ⟨q0, q1, qP, qK, qD⟩ := q; exact ⟨q0, q1, qP, va_K.moved (u := U) (U := U.calling gg mk a) (Vm.Alike.refl U.vm) qK, qD⟩, fun U hU hW => ⟨rfl, by rw [hU], by rw [hU]; exact hPc, va_K.moved hW.alike hK, hDc.weaken (fun _ _ _ _ => trivial)⟩⟩ rfl rfl hl.1 rfl (lv_room (Nat.le_of_ble_eq_true rfl)) dX7_turn_77 ⟨Nat.zero_le _, Nat.zero_le _⟩) hS (fun q _ h => hFc q h) hFc (fun r_ u_ t H locs ht hvm hw hB hz1 hk1 hS => ?_)
      obtain rfl := hw.symm
      obtain ⟨hP1, -, hD1⟩ := hB
      rw [ht] at hP1
      obtain ⟨hP, hD⟩ := va_join (wr := [(zmo, .inr (6, [.int 0, .int mM.2.1, .int mM.2.2.1, .int (bI mM.2.2.2.1), .int mM.2.2.2.2.1, .int mM.2.2.2.2.2, .ref zar, .ref zbe, .ref zst, .ref zah, .ref zgd])), (zst, .inr (5, [.int v2.1, .int v2.2.1, .int v2.2.2.1, .long v2.2.2.2.1, .ref zsa])), (zsa, .inl (cI, 64, .inl v2.2.2.2.2))]) (w1 := []) hP hD [] [0, 1, 2] rfl rfl (by decide) (by decide) hk1 hFc hP1 hD1
      have hP := hP.sub (ws' := [(zmo, .inr (6, [.int 0, .int mM.2.1, .int mM.2.2.1, .int (bI mM.2.2.2.1), .int mM.2.2.2.2.1, .int mM.2.2.2.2.2, .ref zar, .ref zbe, .ref zst, .ref zah, .ref zgd])), (zst, .inr (5, [.int v2.1, .int v2.2.1, .int v2.2.2.1, .long v2.2.2.2.1, .ref zsa])), (zsa, .inl (cI, 64, .inl v2.2.2.2.2))]) [0, 1, 2] rfl
      have hD := hD.sub (ws' := [(zmo, .inr (6, [.int 0, .int mM.2.1, .int mM.2.2.1, .int (bI mM.2.2.2.1), .int mM.2.2.2.2.1, .int mM.2.2.2.2.2, .ref zar, .ref zbe, .ref zst, .ref zah, .ref zgd])), (zst, .inr (5, [.int v2.1, .int v2.2.1, .int v2.2.2.1, .long v2.2.2.2.1, .ref zsa])), (zsa, .inl (cI, 64, .inl v2.2.2.2.2))]) [0, 1, 2] (by decide) rfl
      clear hPc hDc hFc hP1 hD1 hk1
      obtain rfl := Option.some.inj hf
      exact W.iret (v := (f_J13_bitCount_95d88 v2.2.2.2.1)) hx hb hr (fun t ht hW => ⟨⟨(f_J13_bitCount_95d88 v2.2.2.2.1), (), rfl, rfl, by rw [ht]; exact hP, va_K.moved hW.alike hK, hD⟩, hS.F ht⟩) hS.2.2 dX7_turn_80
    clear hf; have hf := hv; clear hv
    refine lv_if_eq (tgt := 62) hx hb dX7_turn_37 (by decide) (fun hc => ?_) (fun hc => ?_)
    · rw [if_pos hc] at hf
      refine lv_aload_n hx hb dX7_turn_62 rfl (lv_at hl 1 rfl) ?_
      refine va_get (D := (dC, dI)) (ci := 6) (v := .ref zst) (C := RX7) (T := TX7) (N := 11) hx hb hts hinX7 hown hK hP 0 rfl rfl 8 (by decide) hw2 (fun _ h9 => h9) rfl dX7_turn_63 ?_
      refine lv_iload_n hx hb dX7_turn_66 rfl (lv_at hl 0 rfl) ?_
      obtain ⟨r1, hr1, hf⟩ := obind hf
      have hPc := hP.sub (ws' := [(zst, .inr (5, [.int sS.1, .int sS.2.1, .int sS.2.2.1, .long sS.2.2.2, .ref zsa])), (zsa, .inl (cI, 64, .inl aS))]) [1, 2] rfl
      have hDc := hD.sub (ws' := [(zst, .inr (5, [.int sS.1, .int sS.2.1, .int sS.2.2.1, .long sS.2.2.2, .ref zsa])), (zsa, .inl (cI, 64, .inl aS))]) [1, 2] (by decide) rfl
      have hFc := va_free (wc := [(zst, .inr (5, [.int sS.1, .int sS.2.1, .int sS.2.2.1, .long sS.2.2.2, .ref zsa])), (zsa, .inl (cI, 64, .inl aS))]) hD hS hA [1, 2] rfl
      refine va_callv (va_runV (As := [.int ((mM.2.1 * cy) + cx)]) (rest := []) ⟨hx, hb, hml, hown, hts⟩ (c_X6_plant l dC dI cI cJ zst zsa H.size sS aS ((mM.2.1 * cy) + cx) _ hr1) (cwV 1 hts gX7_turn_X6_plant rfl rfl rfl (by decide +kernel) ⟨Nat.le_of_ble_eq_true rfl, Nat.le_of_ble_eq_true rfl⟩) ⟨fun a U gg mk q => by obtain ⟨q0, q1, qP, qK, qD⟩ := q; exact ⟨q0, q1, qP, va_K.moved (u := U) (U := U.calling gg mk a) (Vm.Alike.refl U.vm) qK, qD⟩, va_recv hK hPc (ci := 5) (q0 := 0) rfl rfl, fun U hU hW => ⟨rfl, by rw [hU], by rw [hU]; exact hPc, va_K.moved hW.alike hK, hDc.weaken (fun _ _ _ _ => trivial)⟩⟩ rfl rfl hl.1 rfl (lv_room (Nat.le_of_ble_eq_true rfl)) dX7_turn_67 ⟨Nat.zero_le _, Nat.zero_le _⟩) hS (fun q _ h => hFc q h) hFc (fun u_ t H locs ht hvm hw hB hz1 hk1 hS => ?_)
      obtain ⟨hP1, -, hD1⟩ := hB
      rw [ht] at hP1
      obtain ⟨hP, hD⟩ := va_join (wr := [(zmo, .inr (6, [.int 0, .int mM.2.1, .int mM.2.2.1, .int (bI mM.2.2.2.1), .int mM.2.2.2.2.1, .int mM.2.2.2.2.2, .ref zar, .ref zbe, .ref zst, .ref zah, .ref zgd]))]) (w1 := [(zst, .inr (5, [.int r1.1.1, .int r1.1.2.1, .int r1.1.2.2.1, .long r1.1.2.2.2, .ref zsa])), (zsa, .inl (cI, 64, .inl r1.2))]) hP hD [1, 2] [0] rfl rfl (by decide) (by decide) hk1 hFc hP1 hD1
      have hP := hP.sub (ws' := [(zmo, .inr (6, [.int 0, .int mM.2.1, .int mM.2.2.1, .int (bI mM.2.2.2.1), .int mM.2.2.2.2.1, .int mM.2.2.2.2.2, .ref zar, .ref zbe, .ref zst, .ref zah, .ref zgd])), (zst, .inr (5, [.int r1.1.1, .int r1.1.2.1, .int r1.1.2.2.1, .long r1.1.2.2.2, .ref zsa])), (zsa, .inl (cI, 64, .inl r1.2))]) [0, 1, 2] rfl
      have hD := hD.sub (ws' := [(zmo, .inr (6, [.int 0, .int mM.2.1, .int mM.2.2.1, .int (bI mM.2.2.2.1), .int mM.2.2.2.2.1, .int mM.2.2.2.2.2, .ref zar, .ref zbe, .ref zst, .ref zah, .ref zgd])), (zst, .inr (5, [.int r1.1.1, .int r1.1.2.1, .int r1.1.2.2.1, .long r1.1.2.2.2, .ref zsa])), (zsa, .inl (cI, 64, .inl r1.2))]) [0, 1, 2] (by decide) rfl
      clear hPc hDc hFc hP1 hD1 hk1
      obtain rfl := Option.some.inj hf
      exact K3 _ _ _ hP hD hS (lv_sub hl [1] rfl)
    · rw [if_neg hc] at hf
      refine lv_aload_n hx hb dX7_turn_40 rfl (lv_at hl 1 rfl) ?_
      refine va_get (D := (dC, dI)) (ci := 6) (v := .ref zst) (C := RX7) (T := TX7) (N := 11) hx hb hts hinX7 hown hK hP 0 rfl rfl 8 (by decide) hw2 (fun _ h9 => h9) rfl dX7_turn_41 ?_
      refine lv_dup hx hb dX7_turn_44 rfl ?_
      refine va_getN (D := (dC, dI)) (ci := 5) (v := .long sS.2.2.2) (C := RX6) (T := TX6) (N := 5) hx hb hts hinX6 hown hK hP 1 rfl rfl 3 (by decide) (va_Nw.use rfl hnw_hedges) (fun _ h9 => h9) rfl dX7_turn_45 ?_
      refine lv_lconst (v := 1) hx hb dX7_turn_48 (by decide) ?_
      refine lv_iload_n hx hb dX7_turn_49 rfl (lv_at hl 0 rfl) ?_
      refine lv_lshl (v := (jshl 1 ((mM.2.1 * cy) + cx))) hx hb dX7_turn_50 rfl ?_
      refine lv_ldc2 (v := (-1)) hx hb hown hw3 dX7_turn_51 ?_
      refine lv_lxor hx hb dX7_turn_54 ?_
      refine lv_land hx hb dX7_turn_55 ?_
      refine va_putN (D := (dC, dI)) (ci := 5) (v := .long (sS.2.2.2 &&& ((jshl 1 ((mM.2.1 * cy) + cx)) ^^^ (-1)))) (ty := .long) (C := RX6) (T := TX6) (N := 5) hx hb hts hinX6 tyX6 tyX6_ok nmX6 hown hK hP hD hS 1 rfl rfl 3 (by decide) (va_Nw.use rfl hnw_hedges) (fun _ h9 => h9) rfl (by decide +kernel) rfl rfl (Nat.le_of_ble_eq_true rfl) dX7_turn_56 (fun H locs hP hD hS => ?_)
      have hP : va_P (dC, dI) vwCl [(zmo, .inr (6, [.int 0, .int mM.2.1, .int mM.2.2.1, .int (bI mM.2.2.2.1), .int mM.2.2.2.2.1, .int mM.2.2.2.2.2, .ref zar, .ref zbe, .ref zst, .ref zah, .ref zgd])), (zst, .inr (5, [.int sS.1, .int sS.2.1, .int sS.2.2.1, .long (sS.2.2.2 &&& ((jshl 1 ((mM.2.1 * cy) + cx)) ^^^ (-1))), .ref zsa])), (zsa, .inl (cI, 64, .inl aS))] H := hP
      have hD : va_D (A_X7_turn cI cJ zmo zst zsa zar zbe zah zgd mM sS aS cx cy s.heap.size) [(zmo, .inr (6, [.int 0, .int mM.2.1, .int mM.2.2.1, .int (bI mM.2.2.2.1), .int mM.2.2.2.2.1, .int mM.2.2.2.2.2, .ref zar, .ref zbe, .ref zst, .ref zah, .ref zgd])), (zst, .inr (5, [.int sS.1, .int sS.2.1, .int sS.2.2.1, .long (sS.2.2.2 &&& ((jshl 1 ((mM.2.1 * cy) + cx)) ^^^ (-1))), .ref zsa])), (zsa, .inl (cI, 64, .inl aS))] := hD
      refine lv_goto (tgt := 70) hx hb dX7_turn_59 (by decide) ?_
      obtain rfl := Option.some.inj hf
      exact K3 _ _ _ hP hD hS (lv_sub hl [1] rfl)
  · rw [if_pos hc] at hf
    refine lv_aload_n hx hb dX7_turn_14 rfl (lv_at hl 0 rfl) ?_
    refine lv_iconst (v := 1) hx hb dX7_turn_15 (by decide) ?_
    have hPc := hP.sub (ws' := [(zmo, .inr (6, [.int 0, .int mM.2.1, .int mM.2.2.1, .int (bI mM.2.2.2.1), .int mM.2.2.2.2.1, .int mM.2.2.2.2.2, .ref zar, .ref zbe, .ref zst, .ref zah, .ref zgd]))]) [0] rfl
    have hDc := hD.sub (ws' := [(zmo, .inr (6, [.int 0, .int mM.2.1, .int mM.2.2.1, .int (bI mM.2.2.2.1), .int mM.2.2.2.2.1, .int mM.2.2.2.2.2, .ref zar, .ref zbe, .ref zst, .ref zah, .ref zgd]))]) [0] (by decide) rfl
    have hFc := va_free (wc := [(zmo, .inr (6, [.int 0, .int mM.2.1, .int mM.2.2.1, .int (bI mM.2.2.2.1), .int mM.2.2.2.2.1, .int mM.2.2.2.2.2, .ref zar, .ref zbe, .ref zst, .ref zah, .ref zgd]))]) hD hS hA [0] rfl
    refine va_calli (va_runV (As := [.int 1]) (rest := []) ⟨hx, hb, hml, hown, hts⟩ (c_X7_no l dC dI cI cJ zmo zar zbe zst zah zgd H.size (0, mM.2.1, mM.2.2.1, mM.2.2.2.1, mM.2.2.2.2.1, mM.2.2.2.2.2) 1) (cwV 1 hts gX7_turn_X7_no rfl rfl rfl (by decide +kernel) ⟨Nat.le_of_ble_eq_true rfl, Nat.le_of_ble_eq_true rfl⟩) ⟨fun a U gg mk q => by obtain ⟨q0, q1, qP, qK, qD⟩ := q; exact ⟨q0, q1, qP, va_K.moved (u := U) (U := U.calling gg mk a) (Vm.Alike.refl U.vm) qK, qD⟩, va_recv hK hPc (ci := 6) (q0 := 0) rfl rfl, fun U hU hW => ⟨rfl, by rw [hU], by rw [hU]; exact hPc, va_K.moved hW.alike hK, hDc.weaken (fun _ _ _ _ => trivial)⟩⟩ rfl rfl hl.1 rfl (lv_room (Nat.le_of_ble_eq_true rfl)) dX7_turn_16 ⟨Nat.zero_le _, Nat.zero_le _⟩) hS (fun q _ h => hFc q h) hFc (fun r_ u_ t H locs ht hvm hw hB hz1 hk1 hS => ?_)
    obtain rfl := hw.symm
    obtain ⟨hP1, -, hD1⟩ := hB
    rw [ht] at hP1
    obtain ⟨hP, hD⟩ := va_join (wr := [(zst, .inr (5, [.int sS.1, .int sS.2.1, .int sS.2.2.1, .long sS.2.2.2, .ref zsa])), (zsa, .inl (cI, 64, .inl aS))]) (w1 := [(zmo, .inr (6, [.int (f_X7_no (0, mM.2.1, mM.2.2.1, mM.2.2.2.1, mM.2.2.2.2.1, mM.2.2.2.2.2) 1).2.1, .int (f_X7_no (0, mM.2.1, mM.2.2.1, mM.2.2.2.1, mM.2.2.2.2.1, mM.2.2.2.2.2) 1).2.2.1, .int (f_X7_no (0, mM.2.1, mM.2.2.1, mM.2.2.2.1, mM.2.2.2.2.1, mM.2.2.2.2.2) 1).2.2.2.1, .int (bI (f_X7_no (0, mM.2.1, mM.2.2.1, mM.2.2.2.1, mM.2.2.2.2.1, mM.2.2.2.2.2) 1).2.2.2.2.1), .int (f_X7_no (0, mM.2.1, mM.2.2.1, mM.2.2.2.1, mM.2.2.2.2.1, mM.2.2.2.2.2) 1).2.2.2.2.2.1, .int (f_X7_no (0, mM.2.1, mM.2.2.1, mM.2.2.2.1, mM.2.2.2.2.1, mM.2.2.2.2.2) 1).2.2.2.2.2.2, .ref zar, .ref zbe, .ref zst, .ref zah, .ref zgd]))]) hP hD [0] [1, 2] rfl rfl (by decide) (by decide) hk1 hFc hP1 hD1
    have hP := hP.sub (ws' := [(zmo, .inr (6, [.int (f_X7_no (0, mM.2.1, mM.2.2.1, mM.2.2.2.1, mM.2.2.2.2.1, mM.2.2.2.2.2) 1).2.1, .int (f_X7_no (0, mM.2.1, mM.2.2.1, mM.2.2.2.1, mM.2.2.2.2.1, mM.2.2.2.2.2) 1).2.2.1, .int (f_X7_no (0, mM.2.1, mM.2.2.1, mM.2.2.2.1, mM.2.2.2.2.1, mM.2.2.2.2.2) 1).2.2.2.1, .int (bI (f_X7_no (0, mM.2.1, mM.2.2.1, mM.2.2.2.1, mM.2.2.2.2.1, mM.2.2.2.2.2) 1).2.2.2.2.1), .int (f_X7_no (0, mM.2.1, mM.2.2.1, mM.2.2.2.1, mM.2.2.2.2.1, mM.2.2.2.2.2) 1).2.2.2.2.2.1, .int (f_X7_no (0, mM.2.1, mM.2.2.1, mM.2.2.2.1, mM.2.2.2.2.1, mM.2.2.2.2.2) 1).2.2.2.2.2.2, .ref zar, .ref zbe, .ref zst, .ref zah, .ref zgd])), (zst, .inr (5, [.int sS.1, .int sS.2.1, .int sS.2.2.1, .long sS.2.2.2, .ref zsa])), (zsa, .inl (cI, 64, .inl aS))]) [2, 0, 1] rfl
    have hD := hD.sub (ws' := [(zmo, .inr (6, [.int (f_X7_no (0, mM.2.1, mM.2.2.1, mM.2.2.2.1, mM.2.2.2.2.1, mM.2.2.2.2.2) 1).2.1, .int (f_X7_no (0, mM.2.1, mM.2.2.1, mM.2.2.2.1, mM.2.2.2.2.1, mM.2.2.2.2.2) 1).2.2.1, .int (f_X7_no (0, mM.2.1, mM.2.2.1, mM.2.2.2.1, mM.2.2.2.2.1, mM.2.2.2.2.2) 1).2.2.2.1, .int (bI (f_X7_no (0, mM.2.1, mM.2.2.1, mM.2.2.2.1, mM.2.2.2.2.1, mM.2.2.2.2.2) 1).2.2.2.2.1), .int (f_X7_no (0, mM.2.1, mM.2.2.1, mM.2.2.2.1, mM.2.2.2.2.1, mM.2.2.2.2.2) 1).2.2.2.2.2.1, .int (f_X7_no (0, mM.2.1, mM.2.2.1, mM.2.2.2.1, mM.2.2.2.2.1, mM.2.2.2.2.2) 1).2.2.2.2.2.2, .ref zar, .ref zbe, .ref zst, .ref zah, .ref zgd])), (zst, .inr (5, [.int sS.1, .int sS.2.1, .int sS.2.2.1, .long sS.2.2.2, .ref zsa])), (zsa, .inl (cI, 64, .inl aS))]) [2, 0, 1] (by decide) rfl
    clear hPc hDc hFc hP1 hD1 hk1
    obtain rfl := Option.some.inj hf
    exact W.iret (v := (f_X7_no (0, mM.2.1, mM.2.2.1, mM.2.2.2.1, mM.2.2.2.2.1, mM.2.2.2.2.2) 1).1) hx hb hr (fun t ht hW => ⟨⟨(f_X7_no (0, mM.2.1, mM.2.2.1, mM.2.2.2.1, mM.2.2.2.2.1, mM.2.2.2.2.2) 1).1, (), rfl, rfl, by rw [ht]; exact hP, va_K.moved hW.alike hK, hD⟩, hS.F ht⟩) hS.2.2 dX7_turn_19
/-! HedgeGlidersModel.isOf(IIII)Z -/
def lp_X7_isOf_9 (tu : Int32) : Nat → Int32 → Int32 → Int32 → Option (Int32 × Int32)
  | 0, _, _, _ => none
  | nf + 1, y4, y5, y6 => if tu ≤ y6 then (some (y4, y5)) else (lp_X7_isOf_9 tu nf y5 (2 - y4) (y6 + 1))
def f_X7_isOf (fg : Int32) (tu : Int32) (cx : Int32) (cy : Int32) : Option (Int32) := Option.bind (lp_X7_isOf_9 tu 100 cx cy 0) fun v7 => if fg < 0 ∨ 4 ≤ fg.toNatClampNeg then none else if (((figT fg.toNatClampNeg) >>> (((3 * v7.2) + v7.1) &&& 31)) &&& 1) = 1 then (some 1) else (some 0)
abbrev rm_X7_isOf : Room := ({ frames := 0, cells := 0, slots := 0, locals := 0 } : Room)
abbrev A_X7_isOf (cI cJ : ClassId) (fg : Int32) (tu : Int32) (cx : Int32) (cy : Int32) (sz : Nat) : Nat → Prop := va_A [] sz
abbrev Q_X7_isOf (dC : Nat → ClassId) (dI : Nat → Nat → Nat) (cI cJ : ClassId) (fg : Int32) (tu : Int32) (cx : Int32) (cy : Int32) (sz : Nat) (R : Int32) : Array Value → State → Outcome → State → Prop := va_Qi (fun (r : Int32) (_ : Unit) => r = R) (fun u_ t => va_P (dC, dI) vwCl [] t.heap ∧ va_K (dC, dI) vwCl [(cI, .int), (cJ, .long)] t ∧ va_D (A_X7_isOf cI cJ fg tu cx cy sz) []) (A_X7_isOf cI cJ fg tu cx cy sz)
set_option maxHeartbeats 4000000 in
set_option maxRecDepth 100000 in
theorem c_X7_isOf (l : Launch) (dC : Nat → ClassId) (dI : Nat → Nat → Nat) (cI cJ : ClassId) (sz : Nat) (fg : Int32) (tu : Int32) (cx : Int32) (cy : Int32) (R : Int32) (hR : f_X7_isOf fg tu cx cy = some R) : Met l yX7_isOf wsX7_isOf rm_X7_isOf (va_Pc [.int fg, .int tu, .int cx, .int cy] (fun U => U.heap.size = sz ∧ va_P (dC, dI) vwCl [] U.heap ∧ va_K (dC, dI) vwCl [(cI, .int), (cJ, .long)] U ∧ va_D (fun _ => True) [] ∧ fgM (A_X7_isOf cI cJ fg tu cx cy sz) U)) (Q_X7_isOf dC dI cI cJ fg tu cx cy sz R) 0 0 (A_X7_isOf cI cJ fg tu cx cy sz) := by
  have hf := hR
  refine Met.ofW (cc := cX7_isOf) (maxL := 8) (ret := (some .boolean)) (by decide) rfl ?_
  intro p e s m args below meth c s₁ B hml hv
  obtain ⟨hargs, hsz, hP, hK, hD0, hfg⟩ := hv
  have hx := B.exec
  have hb := B.bytes
  have hr := B.returns
  have hts := atoms_spec (ws := wsX7_isOf) B.pre
  have hown : s.vm.findClass RX7 = some m.cls := findClass_of_methodNamed B.named
  have hlocks := B.notSynchronized
  subst hsz
  have hD : va_D (A_X7_isOf cI cJ fg tu cx cy s.heap.size) [] := hD0.self (sz := s.heap.size)
  have hA : ∀ q : Nat, s.heap.size ≤ q → (A_X7_isOf cI cJ fg tu cx cy s.heap.size) q := fun q h => Or.inr h
  have hS : va_S (A_X7_isOf cI cJ fg tu cx cy s.heap.size) s.heap s.heap [] := va_S.rf
  obtain ⟨zFIG, hFZ, hFT⟩ := id hfg
  have hw0 := hts (.fieldLink RX7 137 "HedgeGlidersModel" "FIGURES" "[I") (by decide +kernel)
  have hl := lv_entry ([.int fg, .int tu, .int cx, .int cy]) (n := 8) (Nat.le_of_ble_eq_true rfl)
  have he0 : entryFrame m args 8 = entryFrame m ([.int fg, .int tu, .int cx, .int cy] : List Value).toArray 8 := by rw [hargs]
  rw [he0, lg_entry_eq]
  generalize (lg_sl ([.int fg, .int tu, .int cx, .int cy]) ++ List.replicate (8 - (lg_sl ([.int fg, .int tu, .int cx, .int cy])).length) Slot.unset).toArray = ls at hl ⊢
  have hl : lv_has ls 8 [(0, .int fg), (1, .int tu), (2, .int cx), (3, .int cy)] := hl
  rw [f_X7_isOf] at hf
  refine lv_iload_n hx hb dX7_isOf_0 rfl (lv_at hl 2 rfl) ?_
  refine lv_istore (lv' := [(4, .int cx), (0, .int fg), (1, .int tu), (2, .int cx), (3, .int cy)]) hx hb dX7_isOf_1 hl (by decide) rfl (fun ls hl => ?_)
  refine lv_iload_n hx hb dX7_isOf_3 rfl (lv_at hl 4 rfl) ?_
  refine lv_istore (lv' := [(5, .int cy), (4, .int cx), (0, .int fg), (1, .int tu), (2, .int cx), (3, .int cy)]) hx hb dX7_isOf_4 hl (by decide) rfl (fun ls hl => ?_)
  refine lv_iconst (v := 0) hx hb dX7_isOf_6 (by decide) ?_
  refine lv_istore (lv' := [(6, .int 0), (5, .int cy), (4, .int cx), (0, .int fg), (1, .int tu), (2, .int cx), (3, .int cy)]) hx hb dX7_isOf_7 hl (by decide) rfl (fun ls hl => ?_)
  obtain ⟨v7, hv, hf⟩ := obind hf
  have K8 : ∀ (H : Heap) (locs : List Loc) (ls : Array Slot), va_P (dC, dI) vwCl [] H → va_D (A_X7_isOf cI cJ fg tu cx cy s.heap.size) [] → va_S (A_X7_isOf cI cJ fg tu cx cy s.heap.size) s.heap H locs → lv_has ls 8 [(0, .int fg), (4, .int v7.1), (5, .int v7.2)] → W p l e rm_X7_isOf s m args below meth c H locs 0 0 (MQ below (Q_X7_isOf dC dI cI cJ fg tu cx cy s.heap.size R) args s 0 0 (A_X7_isOf cI cJ fg tu cx cy s.heap.size)) (F0 m 35 ls []) := by
    intro H locs ls hP hD hS hl
    refine va_gets hx hb hFZ hS hown hw0 (fun _ h9 => h9) dX7_isOf_35 ?_
    refine lv_iload_n hx hb dX7_isOf_38 rfl (lv_at hl 0 rfl) ?_
    have hg0 : ¬ (fg < 0 ∨ 4 ≤ fg.toNatClampNeg) := fun hq => by rw [if_pos hq] at hf; exact nomatch hf
    rw [if_neg hg0] at hf
    have hg : vp_in fg 4 := hg0
    refine va_ti hx hb hFT hS hg rfl dX7_isOf_39 ?_
    refine lv_iconst (v := 3) hx hb dX7_isOf_40 (by decide) ?_
    refine lv_iload hx hb dX7_isOf_41 (lv_at hl 2 rfl) ?_
    refine lv_imul hx hb dX7_isOf_43 ?_
    refine lv_iload hx hb dX7_isOf_44 (lv_at hl 1 rfl) ?_
    refine lv_iadd hx hb dX7_isOf_46 ?_
    refine lv_ishr hx hb dX7_isOf_47 ?_
    refine lv_iconst (v := 1) hx hb dX7_isOf_48 (by decide) ?_
    refine lv_iand hx hb dX7_isOf_49 ?_
    refine lv_iconst (v := 1) hx hb dX7_isOf_50 (by decide) ?_
    refine lv_icmp_ne (tgt := 58) hx hb dX7_isOf_51 (by decide) (fun hc => ?_) (fun hc => ?_)
    · rw [if_neg hc] at hf
      refine lv_iconst (v := 0) hx hb dX7_isOf_58 (by decide) ?_
      obtain rfl := Option.some.inj hf
      exact W.zret (v := 0) (ty := .boolean) hx hb hr rfl (fun t ht hW => ⟨⟨0, (), rfl, rfl, by rw [ht]; exact hP, va_K.moved hW.alike hK, hD⟩, hS.F ht⟩) hS.2.2 dX7_isOf_59
    · rw [if_pos hc] at hf
      refine lv_iconst (v := 1) hx hb dX7_isOf_54 (by decide) ?_
      refine lv_goto (tgt := 59) hx hb dX7_isOf_55 (by decide) ?_
      obtain rfl := Option.some.inj hf
      exact W.zret (v := 1) (ty := .boolean) hx hb hr rfl (fun t ht hW => ⟨⟨1, (), rfl, rfl, by rw [ht]; exact hP, va_K.moved hW.alike hK, hD⟩, hS.F ht⟩) hS.2.2 dX7_isOf_59
  have lp9 : ∀ (nf : Nat) (y4 : Int32) (y5 : Int32) (y6 : Int32) (H : Heap) (locs : List Loc) (ls : Array Slot), lp_X7_isOf_9 tu nf y4 y5 y6 = some v7 → va_P (dC, dI) vwCl [] H → va_D (A_X7_isOf cI cJ fg tu cx cy s.heap.size) [] → va_S (A_X7_isOf cI cJ fg tu cx cy s.heap.size) s.heap H locs → lv_has ls 8 [(0, .int fg), (1, .int tu), (4, .int y4), (5, .int y5), (6, .int y6)] → W p l e rm_X7_isOf s m args below meth c H locs 0 0 (MQ below (Q_X7_isOf dC dI cI cJ fg tu cx cy s.heap.size R) args s 0 0 (A_X7_isOf cI cJ fg tu cx cy s.heap.size)) (F0 m 9 ls []) := by
    intro nf
    induction nf with
    | zero => intro y4 y5 y6 H locs ls h9; exact nomatch h9
    | succ nf ih10 =>
      intro y4 y5 y6 H locs ls hf hP hD hS hl
      rw [lp_X7_isOf_9.eq_2] at hf
      refine lv_iload hx hb dX7_isOf_9 (lv_at hl 4 rfl) ?_
      refine lv_iload_n hx hb dX7_isOf_11 rfl (lv_at hl 1 rfl) ?_
      refine lv_icmp_ge (tgt := 35) hx hb dX7_isOf_12 (by decide) (fun hc => ?_) (fun hc => ?_)
      · rw [if_pos hc] at hf
        obtain rfl := Option.some.inj hf
        exact K8 _ _ _ hP hD hS (lv_sub hl [0, 2, 3] rfl)
      · rw [if_neg hc] at hf
        refine lv_iload hx hb dX7_isOf_15 (lv_at hl 2 rfl) ?_
        refine lv_istore (lv' := [(7, .int y4), (0, .int fg), (1, .int tu), (4, .int y4), (5, .int y5), (6, .int y6)]) hx hb dX7_isOf_17 hl (by decide) rfl (fun ls hl => ?_)
        refine lv_iload hx hb dX7_isOf_19 (lv_at hl 4 rfl) ?_
        refine lv_istore (lv' := [(4, .int y5), (7, .int y4), (0, .int fg), (1, .int tu), (5, .int y5), (6, .int y6)]) hx hb dX7_isOf_21 hl (by decide) rfl (fun ls hl => ?_)
        refine lv_iconst (v := 2) hx hb dX7_isOf_23 (by decide) ?_
        refine lv_iload hx hb dX7_isOf_24 (lv_at hl 1 rfl) ?_
        refine lv_isub hx hb dX7_isOf_26 ?_
        refine lv_istore (lv' := [(5, .int (2 - y4)), (4, .int y5), (7, .int y4), (0, .int fg), (1, .int tu), (6, .int y6)]) hx hb dX7_isOf_27 hl (by decide) rfl (fun ls hl => ?_)
        refine lv_iinc (v := (y6 + 1)) (lv' := [(6, .int (y6 + 1)), (5, .int (2 - y4)), (4, .int y5), (7, .int y4), (0, .int fg), (1, .int tu)]) hx hb dX7_isOf_29 hl (k := 5) rfl rfl (by decide) rfl (fun ls hl => ?_)
        refine lv_goto (tgt := 9) hx hb dX7_isOf_32 (by decide) ?_
        exact ih10 _ _ _ _ _ _ hf hP hD hS (lv_sub hl [4, 5, 2, 1, 0] rfl)
  exact lp9 100 _ _ _ _ _ _ hv hP hD hS (lv_sub hl [3, 4, 2, 1, 0] rfl)
/-! HedgeGlidersModel.plant(IIII)I -/
def lp_X7_plant_101 (mM : MoS) (fg : Int32) (tu : Int32) (cx : Int32) (cy : Int32) : Nat → Int32 → (Nat → Int32) → Int32 → Int32 → Int32 → Int64 → Option ((Nat → Int32) × Int32 × Int32 × Int32 × Int64)
  | 0, _, _, _, _, _, _ => none
  | nf + 1, y71, y72, y73, y74, y75, y76 => if 9 ≤ y71 then (some (y72, y73, y74, y75, y76)) else (Option.bind (f_X7_isOf fg tu (y71 - y71 / 3 * 3) (y71 / 3)) fun r77 => Option.bind (if r77 = 0 then (some (y73, y74, y75, y76, y72)) else (Option.bind (f_X7_at (0, mM.2.1, mM.2.2.1, mM.2.2.2.1, mM.2.2.2.2.1, mM.2.2.2.2.2) (cx + (y71 - y71 / 3 * 3)) (cy + (y71 / 3))) fun r78 => Option.bind (f_X6_plant (y73, y74, y75, y76) y72 r78) fun r79 => some (r79.1.1, r79.1.2.1, r79.1.2.2.1, r79.1.2.2.2, r79.2)) : Option (Int32 × Int32 × Int32 × Int64 × (Nat → Int32))) fun v80 => lp_X7_plant_101 mM fg tu cx cy nf (y71 + 1) v80.2.2.2.2 v80.1 v80.2.1 v80.2.2.1 v80.2.2.2.1)
def lp_X7_plant_42 (mM : MoS) (sS : StS) (aS : Nat → Int32) (fg : Int32) (tu : Int32) (cx : Int32) (cy : Int32) : Nat → Int32 → Option (Int32 × MoS × StS × (Nat → Int32))
  | 0, _ => none
  | nf + 1, y56 => if 9 ≤ y56 then (Option.bind (lp_X7_plant_101 mM fg tu cx cy 100 0 aS sS.1 sS.2.1 sS.2.2.1 sS.2.2.2) fun v81 => some ((f_J13_bitCount_95d88 v81.2.2.2.2), (0, mM.2.1, mM.2.2.1, mM.2.2.2.1, mM.2.2.2.2.1, mM.2.2.2.2.2), v81.2, v81.1)) else (Option.bind (f_X7_isOf fg tu (y56 - y56 / 3 * 3) (y56 / 3)) fun r82 => if r82 = 0 then (lp_X7_plant_42 mM sS aS fg tu cx cy nf (y56 + 1)) else (Option.bind (f_X7_at (0, mM.2.1, mM.2.2.1, mM.2.2.2.1, mM.2.2.2.2.1, mM.2.2.2.2.2) (cx + (y56 - y56 / 3 * 3)) (cy + (y56 / 3))) fun r83 => if r83 = (-1) then (some ((f_X7_no (0, mM.2.1, mM.2.2.1, mM.2.2.2.1, mM.2.2.2.2.1, mM.2.2.2.2.2) 2).1, (f_X7_no (0, mM.2.1, mM.2.2.1, mM.2.2.2.1, mM.2.2.2.2.1, mM.2.2.2.2.2) 2).2, sS, aS)) else (lp_X7_plant_42 mM sS aS fg tu cx cy nf (y56 + 1))))
def f_X7_plant (mM : MoS) (sS : StS) (aS : Nat → Int32) (fg : Int32) (tu : Int32) (cx : Int32) (cy : Int32) : Option (Int32 × MoS × StS × (Nat → Int32)) := if (f_X7_isIn fg 0 3) = 0 then (some ((f_X7_no (0, mM.2.1, mM.2.2.1, mM.2.2.2.1, mM.2.2.2.2.1, mM.2.2.2.2.2) 1).1, (f_X7_no (0, mM.2.1, mM.2.2.1, mM.2.2.2.1, mM.2.2.2.2.1, mM.2.2.2.2.2) 1).2, sS, aS)) else (if (f_X7_isIn tu 0 3) = 0 then (some ((f_X7_no (0, mM.2.1, mM.2.2.1, mM.2.2.2.1, mM.2.2.2.2.1, mM.2.2.2.2.2) 1).1, (f_X7_no (0, mM.2.1, mM.2.2.1, mM.2.2.2.1, mM.2.2.2.2.1, mM.2.2.2.2.2) 1).2, sS, aS)) else (if (f_X7_isCell (0, mM.2.1, mM.2.2.1, mM.2.2.2.1, mM.2.2.2.2.1, mM.2.2.2.2.2) cx cy) = 0 then (some ((f_X7_no (0, mM.2.1, mM.2.2.1, mM.2.2.2.1, mM.2.2.2.2.1, mM.2.2.2.2.2) 1).1, (f_X7_no (0, mM.2.1, mM.2.2.1, mM.2.2.2.1, mM.2.2.2.2.1, mM.2.2.2.2.2) 1).2, sS, aS)) else ((lp_X7_plant_42 mM sS aS fg tu cx cy 100 0))))
abbrev rm_X7_plant : Room := ({ frames := 3, cells := 0, slots := 0, locals := 66 } : Room)
abbrev A_X7_plant (cI cJ : ClassId) (zmo zst zsa zar zbe zah zgd : Nat) (mM : MoS) (sS : StS) (aS : Nat → Int32) (fg : Int32) (tu : Int32) (cx : Int32) (cy : Int32) (sz : Nat) : Nat → Prop := va_A [(zmo, .inr (6, [.int mM.1, .int mM.2.1, .int mM.2.2.1, .int (bI mM.2.2.2.1), .int mM.2.2.2.2.1, .int mM.2.2.2.2.2, .ref zar, .ref zbe, .ref zst, .ref zah, .ref zgd])), (zst, .inr (5, [.int sS.1, .int sS.2.1, .int sS.2.2.1, .long sS.2.2.2, .ref zsa])), (zsa, .inl (cI, 64, .inl aS))] sz
abbrev Q_X7_plant (dC : Nat → ClassId) (dI : Nat → Nat → Nat) (cI cJ : ClassId) (zmo zst zsa zar zbe zah zgd : Nat) (mM : MoS) (sS : StS) (aS : Nat → Int32) (fg : Int32) (tu : Int32) (cx : Int32) (cy : Int32) (sz : Nat) (R : Int32 × MoS × StS × (Nat → Int32)) : Array Value → State → Outcome → State → Prop := va_Qi (fun (r : Int32) (_ : Unit) => r = R.1) (fun u_ t => va_P (dC, dI) vwCl [(zmo, .inr (6, [.int R.2.1.1, .int R.2.1.2.1, .int R.2.1.2.2.1, .int (bI R.2.1.2.2.2.1), .int R.2.1.2.2.2.2.1, .int R.2.1.2.2.2.2.2, .ref zar, .ref zbe, .ref zst, .ref zah, .ref zgd])), (zst, .inr (5, [.int R.2.2.1.1, .int R.2.2.1.2.1, .int R.2.2.1.2.2.1, .long R.2.2.1.2.2.2, .ref zsa])), (zsa, .inl (cI, 64, .inl R.2.2.2))] t.heap ∧ va_K (dC, dI) vwCl [(cI, .int), (cJ, .long)] t ∧ va_D (A_X7_plant cI cJ zmo zst zsa zar zbe zah zgd mM sS aS fg tu cx cy sz) [(zmo, .inr (6, [.int R.2.1.1, .int R.2.1.2.1, .int R.2.1.2.2.1, .int (bI R.2.1.2.2.2.1), .int R.2.1.2.2.2.2.1, .int R.2.1.2.2.2.2.2, .ref zar, .ref zbe, .ref zst, .ref zah, .ref zgd])), (zst, .inr (5, [.int R.2.2.1.1, .int R.2.2.1.2.1, .int R.2.2.1.2.2.1, .long R.2.2.1.2.2.2, .ref zsa])), (zsa, .inl (cI, 64, .inl R.2.2.2))]) (A_X7_plant cI cJ zmo zst zsa zar zbe zah zgd mM sS aS fg tu cx cy sz)
set_option maxHeartbeats 4000000 in
set_option maxRecDepth 100000 in
theorem c_X7_plant (l : Launch) (dC : Nat → ClassId) (dI : Nat → Nat → Nat) (cI cJ : ClassId) (zmo zst zsa zar zbe zah zgd : Nat) (sz : Nat) (mM : MoS) (sS : StS) (aS : Nat → Int32) (fg : Int32) (tu : Int32) (cx : Int32) (cy : Int32) (R : Int32 × MoS × StS × (Nat → Int32)) (hR : f_X7_plant mM sS aS fg tu cx cy = some R) : Met l yX7_plant wsX7_plant rm_X7_plant (va_Pc [.ref zmo, .int fg, .int tu, .int cx, .int cy] (fun U => U.heap.size = sz ∧ va_P (dC, dI) vwCl [(zmo, .inr (6, [.int mM.1, .int mM.2.1, .int mM.2.2.1, .int (bI mM.2.2.2.1), .int mM.2.2.2.2.1, .int mM.2.2.2.2.2, .ref zar, .ref zbe, .ref zst, .ref zah, .ref zgd])), (zst, .inr (5, [.int sS.1, .int sS.2.1, .int sS.2.2.1, .long sS.2.2.2, .ref zsa])), (zsa, .inl (cI, 64, .inl aS))] U.heap ∧ va_K (dC, dI) vwCl [(cI, .int), (cJ, .long)] U ∧ va_D (fun _ => True) [(zmo, .inr (6, [.int mM.1, .int mM.2.1, .int mM.2.2.1, .int (bI mM.2.2.2.1), .int mM.2.2.2.2.1, .int mM.2.2.2.2.2, .ref zar, .ref zbe, .ref zst, .ref zah, .ref zgd])), (zst, .inr (5, [.int sS.1, .int sS.2.1, .int sS.2.2.1, .long sS.2.2.2, .ref zsa])), (zsa, .inl (cI, 64, .inl aS))] ∧ nwM U ∧ fgM (A_X7_plant cI cJ zmo zst zsa zar zbe zah zgd mM sS aS fg tu cx cy sz) U)) (Q_X7_plant dC dI cI cJ zmo zst zsa zar zbe zah zgd mM sS aS fg tu cx cy sz R) 0 0 (A_X7_plant cI cJ zmo zst zsa zar zbe zah zgd mM sS aS fg tu cx cy sz) := by
  have hf := hR
  refine Met.ofW (cc := cX7_plant) (maxL := 6) (ret := (some .int)) (by decide) rfl ?_
  intro p e s m args below meth c s₁ B hml hv
  obtain ⟨hargs, hsz, hP, hK, hD0, hnw, hfg⟩ := hv
  have hx := B.exec
  have hb := B.bytes
  have hr := B.returns
  have hts := atoms_spec (ws := wsX7_plant) B.pre
  have hown : s.vm.findClass RX7 = some m.cls := findClass_of_methodNamed B.named
  have hlocks := B.notSynchronized
  subst hsz
  obtain ⟨hnw_hedges, hnw_ages, hnw_born, hnw_dead, hnw_year⟩ := id hnw
  have hD : va_D (A_X7_plant cI cJ zmo zst zsa zar zbe zah zgd mM sS aS fg tu cx cy s.heap.size) [(zmo, .inr (6, [.int mM.1, .int mM.2.1, .int mM.2.2.1, .int (bI mM.2.2.2.1), .int mM.2.2.2.2.1, .int mM.2.2.2.2.2, .ref zar, .ref zbe, .ref zst, .ref zah, .ref zgd])), (zst, .inr (5, [.int sS.1, .int sS.2.1, .int sS.2.2.1, .long sS.2.2.2, .ref zsa])), (zsa, .inl (cI, 64, .inl aS))] := hD0.self (sz := s.heap.size)
  have hA : ∀ q : Nat, s.heap.size ≤ q → (A_X7_plant cI cJ zmo zst zsa zar zbe zah zgd mM sS aS fg tu cx cy s.heap.size) q := fun q h => Or.inr h
  have hS : va_S (A_X7_plant cI cJ zmo zst zsa zar zbe zah zgd mM sS aS fg tu cx cy s.heap.size) s.heap s.heap [] := va_S.rf
  obtain ⟨zFIG, hFZ, hFT⟩ := id hfg
  have hinX6 : ∀ w ∈ wsX60, w ∈ wsX7_plant := by decide +kernel
  have hinX7 : ∀ w ∈ wsX70, w ∈ wsX7_plant := by decide +kernel
  have hw0 := hts (.fieldLink RX7 45 "HedgeGlidersModel" "thrown" "I") (by decide +kernel)
  have hw1 := hts (.fieldLink RX7 32 "HedgeGlidersModel" "s" "LHedgeGlidersModel$State;") (by decide +kernel)
  have hl := lv_entry ([.ref zmo, .int fg, .int tu, .int cx, .int cy]) (n := 6) (Nat.le_of_ble_eq_true rfl)
  have he0 : entryFrame m args 6 = entryFrame m ([.ref zmo, .int fg, .int tu, .int cx, .int cy] : List Value).toArray 6 := by rw [hargs]
  rw [he0, lg_entry_eq]
  generalize (lg_sl ([.ref zmo, .int fg, .int tu, .int cx, .int cy]) ++ List.replicate (6 - (lg_sl ([.ref zmo, .int fg, .int tu, .int cx, .int cy])).length) Slot.unset).toArray = ls at hl ⊢
  have hl : lv_has ls 6 [(0, .ref zmo), (1, .int fg), (2, .int tu), (3, .int cx), (4, .int cy)] := hl
  rw [f_X7_plant] at hf
  refine lv_aload_n hx hb dX7_plant_0 rfl (lv_at hl 0 rfl) ?_
  refine lv_iconst (v := 0) hx hb dX7_plant_1 (by decide) ?_
  refine va_put (D := (dC, dI)) (ci := 6) (v := .int 0) (ty := .int) (C := RX7) (T := TX7) (N := 11) hx hb hts hinX7 tyX7 tyX7_ok nmX7 hown hK hP hD hS 0 rfl rfl 0 (by decide) hw0 (fun _ h9 => h9) rfl (by decide +kernel) rfl rfl (Nat.le_of_ble_eq_true rfl) dX7_plant_2 (fun H locs hP hD hS => ?_)
  have hP : va_P (dC, dI) vwCl [(zmo, .inr (6, [.int 0, .int mM.2.1, .int mM.2.2.1, .int (bI mM.2.2.2.1), .int mM.2.2.2.2.1, .int mM.2.2.2.2.2, .ref zar, .ref zbe, .ref zst, .ref zah, .ref zgd])), (zst, .inr (5, [.int sS.1, .int sS.2.1, .int sS.2.2.1, .long sS.2.2.2, .ref zsa])), (zsa, .inl (cI, 64, .inl aS))] H := hP
  have hD : va_D (A_X7_plant cI cJ zmo zst zsa zar zbe zah zgd mM sS aS fg tu cx cy s.heap.size) [(zmo, .inr (6, [.int 0, .int mM.2.1, .int mM.2.2.1, .int (bI mM.2.2.2.1), .int mM.2.2.2.2.1, .int mM.2.2.2.2.2, .ref zar, .ref zbe, .ref zst, .ref zah, .ref zgd])), (zst, .inr (5, [.int sS.1, .int sS.2.1, .int sS.2.2.1, .long sS.2.2.2, .ref zsa])), (zsa, .inl (cI, 64, .inl aS))] := hD
  refine lv_iload_n hx hb dX7_plant_5 rfl (lv_at hl 1 rfl) ?_
  refine lv_iconst (v := 0) hx hb dX7_plant_6 (by decide) ?_
  refine lv_iconst (v := 3) hx hb dX7_plant_7 (by decide) ?_
  have hPc := hP.sub (ws' := []) [] rfl
  have hDc := hD.sub (ws' := []) [] (by decide) rfl
  have hFc := va_free (wc := []) hD hS hA [] rfl
  refine va_calli (va_runS (As := [.int fg, .int 0, .int 3]) (rest := []) ⟨hx, hb, hml, hown, hts⟩ (c_X7_isIn l dC dI cI cJ  H.size fg 0 3) (va_cwS 3 hts gX7_plant_X7_isIn rfl rfl rfl (by decide +kernel) ⟨Nat.le_of_ble_eq_true rfl, Nat.le_of_ble_eq_true rfl⟩) ⟨fun a U gg mk q => by obtain ⟨q0, q1, qP, qK, qD⟩ := q; exact ⟨q0, q1, qP, va_K.moved (u := U) (U := U.calling gg mk a) (Vm.Alike.refl U.vm) qK, qD⟩, fun U hU hW => ⟨rfl, by rw [hU], by rw [hU]; exact hPc, va_K.moved hW.alike hK, hDc.weaken (fun _ _ _ _ => trivial)⟩⟩ rfl rfl hl.1 rfl (lv_room (Nat.le_of_ble_eq_true rfl)) dX7_plant_8 ⟨Nat.zero_le _, Nat.zero_le _⟩) hS (fun q _ h => hFc q h) hFc (fun r_ u_ t H locs ht hvm hw hB hz1 hk1 hS => ?_)
  obtain rfl := hw.symm
  obtain ⟨hP1, -, hD1⟩ := hB
  rw [ht] at hP1
  obtain ⟨hP, hD⟩ := va_join (wr := [(zmo, .inr (6, [.int 0, .int mM.2.1, .int mM.2.2.1, .int (bI mM.2.2.2.1), .int mM.2.2.2.2.1, .int mM.2.2.2.2.2, .ref zar, .ref zbe, .ref zst, .ref zah, .ref zgd])), (zst, .inr (5, [.int sS.1, .int sS.2.1, .int sS.2.2.1, .long sS.2.2.2, .ref zsa])), (zsa, .inl (cI, 64, .inl aS))]) (w1 := []) hP hD [] [0, 1, 2] rfl rfl (by decide) (by decide) hk1 hFc hP1 hD1
  have hP := hP.sub (ws' := [(zmo, .inr (6, [.int 0, .int mM.2.1, .int mM.2.2.1, .int (bI mM.2.2.2.1), .int mM.2.2.2.2.1, .int mM.2.2.2.2.2, .ref zar, .ref zbe, .ref zst, .ref zah, .ref zgd])), (zst, .inr (5, [.int sS.1, .int sS.2.1, .int sS.2.2.1, .long sS.2.2.2, .ref zsa])), (zsa, .inl (cI, 64, .inl aS))]) [0, 1, 2] rfl
  have hD := hD.sub (ws' := [(zmo, .inr (6, [.int 0, .int mM.2.1, .int mM.2.2.1, .int (bI mM.2.2.2.1), .int mM.2.2.2.2.1, .int mM.2.2.2.2.2, .ref zar, .ref zbe, .ref zst, .ref zah, .ref zgd])), (zst, .inr (5, [.int sS.1, .int sS.2.1, .int sS.2.2.1, .long sS.2.2.2, .ref zsa])), (zsa, .inl (cI, 64, .inl aS))]) [0, 1, 2] (by decide) rfl
  clear hPc hDc hFc hP1 hD1 hk1
  refine lv_if_eq (tgt := 33) hx hb dX7_plant_11 (by decide) (fun hc => ?_) (fun hc => ?_)
  · rw [if_pos hc] at hf
    refine lv_aload_n hx hb dX7_plant_33 rfl (lv_at hl 0 rfl) ?_
    refine lv_iconst (v := 1) hx hb dX7_plant_34 (by decide) ?_
    have hPc := hP.sub (ws' := [(zmo, .inr (6, [.int 0, .int mM.2.1, .int mM.2.2.1, .int (bI mM.2.2.2.1), .int mM.2.2.2.2.1, .int mM.2.2.2.2.2, .ref zar, .ref zbe, .ref zst, .ref zah, .ref zgd]))]) [0] rfl
    have hDc := hD.sub (ws' := [(zmo, .inr (6, [.int 0, .int mM.2.1, .int mM.2.2.1, .int (bI mM.2.2.2.1), .int mM.2.2.2.2.1, .int mM.2.2.2.2.2, .ref zar, .ref zbe, .ref zst, .ref zah, .ref zgd]))]) [0] (by decide) rfl
    have hFc := va_free (wc := [(zmo, .inr (6, [.int 0, .int mM.2.1, .int mM.2.2.1, .int (bI mM.2.2.2.1), .int mM.2.2.2.2.1, .int mM.2.2.2.2.2, .ref zar, .ref zbe, .ref zst, .ref zah, .ref zgd]))]) hD hS hA [0] rfl
    refine va_calli (va_runV (As := [.int 1]) (rest := []) ⟨hx, hb, hml, hown, hts⟩ (c_X7_no l dC dI cI cJ zmo zar zbe zst zah zgd H.size (0, mM.2.1, mM.2.2.1, mM.2.2.2.1, mM.2.2.2.2.1, mM.2.2.2.2.2) 1) (cwV 1 hts gX7_plant_X7_no rfl rfl rfl (by decide +kernel) ⟨Nat.le_of_ble_eq_true rfl, Nat.le_of_ble_eq_true rfl⟩) ⟨fun a U gg mk q => by obtain ⟨q0, q1, qP, qK, qD⟩ := q; exact ⟨q0, q1, qP, va_K.moved (u := U) (U := U.calling gg mk a) (Vm.Alike.refl U.vm) qK, qD⟩, va_recv hK hPc (ci := 6) (q0 := 0) rfl rfl, fun U hU hW => ⟨rfl, by rw [hU], by rw [hU]; exact hPc, va_K.moved hW.alike hK, hDc.weaken (fun _ _ _ _ => trivial)⟩⟩ rfl rfl hl.1 rfl (lv_room (Nat.le_of_ble_eq_true rfl)) dX7_plant_35 ⟨Nat.zero_le _, Nat.zero_le _⟩) hS (fun q _ h => hFc q h) hFc (fun r_ u_ t H locs ht hvm hw hB hz1 hk1 hS => ?_)
    obtain rfl := hw.symm
    obtain ⟨hP1, -, hD1⟩ := hB
    rw [ht] at hP1
    obtain ⟨hP, hD⟩ := va_join (wr := [(zst, .inr (5, [.int sS.1, .int sS.2.1, .int sS.2.2.1, .long sS.2.2.2, .ref zsa])), (zsa, .inl (cI, 64, .inl aS))]) (w1 := [(zmo, .inr (6, [.int (f_X7_no (0, mM.2.1, mM.2.2.1, mM.2.2.2.1, mM.2.2.2.2.1, mM.2.2.2.2.2) 1).2.1, .int (f_X7_no (0, mM.2.1, mM.2.2.1, mM.2.2.2.1, mM.2.2.2.2.1, mM.2.2.2.2.2) 1).2.2.1, .int (f_X7_no (0, mM.2.1, mM.2.2.1, mM.2.2.2.1, mM.2.2.2.2.1, mM.2.2.2.2.2) 1).2.2.2.1, .int (bI (f_X7_no (0, mM.2.1, mM.2.2.1, mM.2.2.2.1, mM.2.2.2.2.1, mM.2.2.2.2.2) 1).2.2.2.2.1), .int (f_X7_no (0, mM.2.1, mM.2.2.1, mM.2.2.2.1, mM.2.2.2.2.1, mM.2.2.2.2.2) 1).2.2.2.2.2.1, .int (f_X7_no (0, mM.2.1, mM.2.2.1, mM.2.2.2.1, mM.2.2.2.2.1, mM.2.2.2.2.2) 1).2.2.2.2.2.2, .ref zar, .ref zbe, .ref zst, .ref zah, .ref zgd]))]) hP hD [0] [1, 2] rfl rfl (by decide) (by decide) hk1 hFc hP1 hD1
    have hP := hP.sub (ws' := [(zmo, .inr (6, [.int (f_X7_no (0, mM.2.1, mM.2.2.1, mM.2.2.2.1, mM.2.2.2.2.1, mM.2.2.2.2.2) 1).2.1, .int (f_X7_no (0, mM.2.1, mM.2.2.1, mM.2.2.2.1, mM.2.2.2.2.1, mM.2.2.2.2.2) 1).2.2.1, .int (f_X7_no (0, mM.2.1, mM.2.2.1, mM.2.2.2.1, mM.2.2.2.2.1, mM.2.2.2.2.2) 1).2.2.2.1, .int (bI (f_X7_no (0, mM.2.1, mM.2.2.1, mM.2.2.2.1, mM.2.2.2.2.1, mM.2.2.2.2.2) 1).2.2.2.2.1), .int (f_X7_no (0, mM.2.1, mM.2.2.1, mM.2.2.2.1, mM.2.2.2.2.1, mM.2.2.2.2.2) 1).2.2.2.2.2.1, .int (f_X7_no (0, mM.2.1, mM.2.2.1, mM.2.2.2.1, mM.2.2.2.2.1, mM.2.2.2.2.2) 1).2.2.2.2.2.2, .ref zar, .ref zbe, .ref zst, .ref zah, .ref zgd])), (zst, .inr (5, [.int sS.1, .int sS.2.1, .int sS.2.2.1, .long sS.2.2.2, .ref zsa])), (zsa, .inl (cI, 64, .inl aS))]) [2, 0, 1] rfl
    have hD := hD.sub (ws' := [(zmo, .inr (6, [.int (f_X7_no (0, mM.2.1, mM.2.2.1, mM.2.2.2.1, mM.2.2.2.2.1, mM.2.2.2.2.2) 1).2.1, .int (f_X7_no (0, mM.2.1, mM.2.2.1, mM.2.2.2.1, mM.2.2.2.2.1, mM.2.2.2.2.2) 1).2.2.1, .int (f_X7_no (0, mM.2.1, mM.2.2.1, mM.2.2.2.1, mM.2.2.2.2.1, mM.2.2.2.2.2) 1).2.2.2.1, .int (bI (f_X7_no (0, mM.2.1, mM.2.2.1, mM.2.2.2.1, mM.2.2.2.2.1, mM.2.2.2.2.2) 1).2.2.2.2.1), .int (f_X7_no (0, mM.2.1, mM.2.2.1, mM.2.2.2.1, mM.2.2.2.2.1, mM.2.2.2.2.2) 1).2.2.2.2.2.1, .int (f_X7_no (0, mM.2.1, mM.2.2.1, mM.2.2.2.1, mM.2.2.2.2.1, mM.2.2.2.2.2) 1).2.2.2.2.2.2, .ref zar, .ref zbe, .ref zst, .ref zah, .ref zgd])), (zst, .inr (5, [.int sS.1, .int sS.2.1, .int sS.2.2.1, .long sS.2.2.2, .ref zsa])), (zsa, .inl (cI, 64, .inl aS))]) [2, 0, 1] (by decide) rfl
    clear hPc hDc hFc hP1 hD1 hk1
    obtain rfl := Option.some.inj hf
    exact W.iret (v := (f_X7_no (0, mM.2.1, mM.2.2.1, mM.2.2.2.1, mM.2.2.2.2.1, mM.2.2.2.2.2) 1).1) hx hb hr (fun t ht hW => ⟨⟨(f_X7_no (0, mM.2.1, mM.2.2.1, mM.2.2.2.1, mM.2.2.2.2.1, mM.2.2.2.2.2) 1).1, (), rfl, rfl, by rw [ht]; exact hP, va_K.moved hW.alike hK, hD⟩, hS.F ht⟩) hS.2.2 dX7_plant_38
  · rw [if_neg hc] at hf
    refine lv_iload_n hx hb dX7_plant_14 rfl (lv_at hl 2 rfl) ?_
    refine lv_iconst (v := 0) hx hb dX7_plant_15 (by decide) ?_
    refine lv_iconst (v := 3) hx hb dX7_plant_16 (by decide) ?_
    have hPc := hP.sub (ws' := []) [] rfl
    have hDc := hD.sub (ws' := []) [] (by decide) rfl
    have hFc := va_free (wc := []) hD hS hA [] rfl
    refine va_calli (va_runS (As := [.int tu, .int 0, .int 3]) (rest := []) ⟨hx, hb, hml, hown, hts⟩ (c_X7_isIn l dC dI cI cJ  H.size tu 0 3) (va_cwS 3 hts gX7_plant_X7_isIn rfl rfl rfl (by decide +kernel) ⟨Nat.le_of_ble_eq_true rfl, Nat.le_of_ble_eq_true rfl⟩) ⟨fun a U gg mk q => by obtain ⟨q0, q1, qP, qK, qD⟩ := q; exact ⟨q0, q1, qP, va_K.moved (u := U) (U := U.calling gg mk a) (Vm.Alike.refl U.vm) qK, qD⟩, fun U hU hW => ⟨rfl, by rw [hU], by rw [hU]; exact hPc, va_K.moved hW.alike hK, hDc.weaken (fun _ _ _ _ => trivial)⟩⟩ rfl rfl hl.1 rfl (lv_room (Nat.le_of_ble_eq_true rfl)) dX7_plant_17 ⟨Nat.zero_le _, Nat.zero_le _⟩) hS (fun q _ h => hFc q h) hFc (fun r_ u_ t H locs ht hvm hw hB hz1 hk1 hS => ?_)
    obtain rfl := hw.symm
    obtain ⟨hP1, -, hD1⟩ := hB
    rw [ht] at hP1
    obtain ⟨hP, hD⟩ := va_join (wr := [(zmo, .inr (6, [.int 0, .int mM.2.1, .int mM.2.2.1, .int (bI mM.2.2.2.1), .int mM.2.2.2.2.1, .int mM.2.2.2.2.2, .ref zar, .ref zbe, .ref zst, .ref zah, .ref zgd])), (zst, .inr (5, [.int sS.1, .int sS.2.1, .int sS.2.2.1, .long sS.2.2.2, .ref zsa])), (zsa, .inl (cI, 64, .inl aS))]) (w1 := []) hP hD [] [0, 1, 2] rfl rfl (by decide) (by decide) hk1 hFc hP1 hD1
    have hP := hP.sub (ws' := [(zmo, .inr (6, [.int 0, .int mM.2.1, .int mM.2.2.1, .int (bI mM.2.2.2.1), .int mM.2.2.2.2.1, .int mM.2.2.2.2.2, .ref zar, .ref zbe, .ref zst, .ref zah, .ref zgd])), (zst, .inr (5, [.int sS.1, .int sS.2.1, .int sS.2.2.1, .long sS.2.2.2, .ref zsa])), (zsa, .inl (cI, 64, .inl aS))]) [0, 1, 2] rfl
    have hD := hD.sub (ws' := [(zmo, .inr (6, [.int 0, .int mM.2.1, .int mM.2.2.1, .int (bI mM.2.2.2.1), .int mM.2.2.2.2.1, .int mM.2.2.2.2.2, .ref zar, .ref zbe, .ref zst, .ref zah, .ref zgd])), (zst, .inr (5, [.int sS.1, .int sS.2.1, .int sS.2.2.1, .long sS.2.2.2, .ref zsa])), (zsa, .inl (cI, 64, .inl aS))]) [0, 1, 2] (by decide) rfl
    clear hPc hDc hFc hP1 hD1 hk1
    refine lv_if_eq (tgt := 33) hx hb dX7_plant_20 (by decide) (fun hc => ?_) (fun hc => ?_)
    · rw [if_pos hc] at hf
      refine lv_aload_n hx hb dX7_plant_33 rfl (lv_at hl 0 rfl) ?_
      refine lv_iconst (v := 1) hx hb dX7_plant_34 (by decide) ?_
      have hPc := hP.sub (ws' := [(zmo, .inr (6, [.int 0, .int mM.2.1, .int mM.2.2.1, .int (bI mM.2.2.2.1), .int mM.2.2.2.2.1, .int mM.2.2.2.2.2, .ref zar, .ref zbe, .ref zst, .ref zah, .ref zgd]))]) [0] rfl
      have hDc := hD.sub (ws' := [(zmo, .inr (6, [.int 0, .int mM.2.1, .int mM.2.2.1, .int (bI mM.2.2.2.1), .int mM.2.2.2.2.1, .int mM.2.2.2.2.2, .ref zar, .ref zbe, .ref zst, .ref zah, .ref zgd]))]) [0] (by decide) rfl
      have hFc := va_free (wc := [(zmo, .inr (6, [.int 0, .int mM.2.1, .int mM.2.2.1, .int (bI mM.2.2.2.1), .int mM.2.2.2.2.1, .int mM.2.2.2.2.2, .ref zar, .ref zbe, .ref zst, .ref zah, .ref zgd]))]) hD hS hA [0] rfl
      refine va_calli (va_runV (As := [.int 1]) (rest := []) ⟨hx, hb, hml, hown, hts⟩ (c_X7_no l dC dI cI cJ zmo zar zbe zst zah zgd H.size (0, mM.2.1, mM.2.2.1, mM.2.2.2.1, mM.2.2.2.2.1, mM.2.2.2.2.2) 1) (cwV 1 hts gX7_plant_X7_no rfl rfl rfl (by decide +kernel) ⟨Nat.le_of_ble_eq_true rfl, Nat.le_of_ble_eq_true rfl⟩) ⟨fun a U gg mk q => by obtain ⟨q0, q1, qP, qK, qD⟩ := q; exact ⟨q0, q1, qP, va_K.moved (u := U) (U := U.calling gg mk a) (Vm.Alike.refl U.vm) qK, qD⟩, va_recv hK hPc (ci := 6) (q0 := 0) rfl rfl, fun U hU hW => ⟨rfl, by rw [hU], by rw [hU]; exact hPc, va_K.moved hW.alike hK, hDc.weaken (fun _ _ _ _ => trivial)⟩⟩ rfl rfl hl.1 rfl (lv_room (Nat.le_of_ble_eq_true rfl)) dX7_plant_35 ⟨Nat.zero_le _, Nat.zero_le _⟩) hS (fun q _ h => hFc q h) hFc (fun r_ u_ t H locs ht hvm hw hB hz1 hk1 hS => ?_)
      obtain rfl := hw.symm
      obtain ⟨hP1, -, hD1⟩ := hB
      rw [ht] at hP1
      obtain ⟨hP, hD⟩ := va_join (wr := [(zst, .inr (5, [.int sS.1, .int sS.2.1, .int sS.2.2.1, .long sS.2.2.2, .ref zsa])), (zsa, .inl (cI, 64, .inl aS))]) (w1 := [(zmo, .inr (6, [.int (f_X7_no (0, mM.2.1, mM.2.2.1, mM.2.2.2.1, mM.2.2.2.2.1, mM.2.2.2.2.2) 1).2.1, .int (f_X7_no (0, mM.2.1, mM.2.2.1, mM.2.2.2.1, mM.2.2.2.2.1, mM.2.2.2.2.2) 1).2.2.1, .int (f_X7_no (0, mM.2.1, mM.2.2.1, mM.2.2.2.1, mM.2.2.2.2.1, mM.2.2.2.2.2) 1).2.2.2.1, .int (bI (f_X7_no (0, mM.2.1, mM.2.2.1, mM.2.2.2.1, mM.2.2.2.2.1, mM.2.2.2.2.2) 1).2.2.2.2.1), .int (f_X7_no (0, mM.2.1, mM.2.2.1, mM.2.2.2.1, mM.2.2.2.2.1, mM.2.2.2.2.2) 1).2.2.2.2.2.1, .int (f_X7_no (0, mM.2.1, mM.2.2.1, mM.2.2.2.1, mM.2.2.2.2.1, mM.2.2.2.2.2) 1).2.2.2.2.2.2, .ref zar, .ref zbe, .ref zst, .ref zah, .ref zgd]))]) hP hD [0] [1, 2] rfl rfl (by decide) (by decide) hk1 hFc hP1 hD1
      have hP := hP.sub (ws' := [(zmo, .inr (6, [.int (f_X7_no (0, mM.2.1, mM.2.2.1, mM.2.2.2.1, mM.2.2.2.2.1, mM.2.2.2.2.2) 1).2.1, .int (f_X7_no (0, mM.2.1, mM.2.2.1, mM.2.2.2.1, mM.2.2.2.2.1, mM.2.2.2.2.2) 1).2.2.1, .int (f_X7_no (0, mM.2.1, mM.2.2.1, mM.2.2.2.1, mM.2.2.2.2.1, mM.2.2.2.2.2) 1).2.2.2.1, .int (bI (f_X7_no (0, mM.2.1, mM.2.2.1, mM.2.2.2.1, mM.2.2.2.2.1, mM.2.2.2.2.2) 1).2.2.2.2.1), .int (f_X7_no (0, mM.2.1, mM.2.2.1, mM.2.2.2.1, mM.2.2.2.2.1, mM.2.2.2.2.2) 1).2.2.2.2.2.1, .int (f_X7_no (0, mM.2.1, mM.2.2.1, mM.2.2.2.1, mM.2.2.2.2.1, mM.2.2.2.2.2) 1).2.2.2.2.2.2, .ref zar, .ref zbe, .ref zst, .ref zah, .ref zgd])), (zst, .inr (5, [.int sS.1, .int sS.2.1, .int sS.2.2.1, .long sS.2.2.2, .ref zsa])), (zsa, .inl (cI, 64, .inl aS))]) [2, 0, 1] rfl
      have hD := hD.sub (ws' := [(zmo, .inr (6, [.int (f_X7_no (0, mM.2.1, mM.2.2.1, mM.2.2.2.1, mM.2.2.2.2.1, mM.2.2.2.2.2) 1).2.1, .int (f_X7_no (0, mM.2.1, mM.2.2.1, mM.2.2.2.1, mM.2.2.2.2.1, mM.2.2.2.2.2) 1).2.2.1, .int (f_X7_no (0, mM.2.1, mM.2.2.1, mM.2.2.2.1, mM.2.2.2.2.1, mM.2.2.2.2.2) 1).2.2.2.1, .int (bI (f_X7_no (0, mM.2.1, mM.2.2.1, mM.2.2.2.1, mM.2.2.2.2.1, mM.2.2.2.2.2) 1).2.2.2.2.1), .int (f_X7_no (0, mM.2.1, mM.2.2.1, mM.2.2.2.1, mM.2.2.2.2.1, mM.2.2.2.2.2) 1).2.2.2.2.2.1, .int (f_X7_no (0, mM.2.1, mM.2.2.1, mM.2.2.2.1, mM.2.2.2.2.1, mM.2.2.2.2.2) 1).2.2.2.2.2.2, .ref zar, .ref zbe, .ref zst, .ref zah, .ref zgd])), (zst, .inr (5, [.int sS.1, .int sS.2.1, .int sS.2.2.1, .long sS.2.2.2, .ref zsa])), (zsa, .inl (cI, 64, .inl aS))]) [2, 0, 1] (by decide) rfl
      clear hPc hDc hFc hP1 hD1 hk1
      obtain rfl := Option.some.inj hf
      exact W.iret (v := (f_X7_no (0, mM.2.1, mM.2.2.1, mM.2.2.2.1, mM.2.2.2.2.1, mM.2.2.2.2.2) 1).1) hx hb hr (fun t ht hW => ⟨⟨(f_X7_no (0, mM.2.1, mM.2.2.1, mM.2.2.2.1, mM.2.2.2.2.1, mM.2.2.2.2.2) 1).1, (), rfl, rfl, by rw [ht]; exact hP, va_K.moved hW.alike hK, hD⟩, hS.F ht⟩) hS.2.2 dX7_plant_38
    · rw [if_neg hc] at hf
      refine lv_aload_n hx hb dX7_plant_23 rfl (lv_at hl 0 rfl) ?_
      refine lv_iload_n hx hb dX7_plant_24 rfl (lv_at hl 3 rfl) ?_
      refine lv_iload hx hb dX7_plant_25 (lv_at hl 4 rfl) ?_
      have hPc := hP.sub (ws' := [(zmo, .inr (6, [.int 0, .int mM.2.1, .int mM.2.2.1, .int (bI mM.2.2.2.1), .int mM.2.2.2.2.1, .int mM.2.2.2.2.2, .ref zar, .ref zbe, .ref zst, .ref zah, .ref zgd]))]) [0] rfl
      have hDc := hD.sub (ws' := [(zmo, .inr (6, [.int 0, .int mM.2.1, .int mM.2.2.1, .int (bI mM.2.2.2.1), .int mM.2.2.2.2.1, .int mM.2.2.2.2.2, .ref zar, .ref zbe, .ref zst, .ref zah, .ref zgd]))]) [0] (by decide) rfl
      have hFc := va_free (wc := [(zmo, .inr (6, [.int 0, .int mM.2.1, .int mM.2.2.1, .int (bI mM.2.2.2.1), .int mM.2.2.2.2.1, .int mM.2.2.2.2.2, .ref zar, .ref zbe, .ref zst, .ref zah, .ref zgd]))]) hD hS hA [0] rfl
      refine va_calli (va_runV (As := [.int cx, .int cy]) (rest := []) ⟨hx, hb, hml, hown, hts⟩ (c_X7_isCell l dC dI cI cJ zmo zar zbe zst zah zgd H.size (0, mM.2.1, mM.2.2.1, mM.2.2.2.1, mM.2.2.2.2.1, mM.2.2.2.2.2) cx cy) (cwV 2 hts gX7_plant_X7_isCell rfl rfl rfl (by decide +kernel) ⟨Nat.le_of_ble_eq_true rfl, Nat.le_of_ble_eq_true rfl⟩) ⟨fun a U gg mk q => by obtain ⟨q0, q1, qP, qK, qD⟩ := q; exact ⟨q0, q1, qP, va_K.moved (u := U) (U := U.calling gg mk a) (Vm.Alike.refl U.vm) qK, qD⟩, va_recv hK hPc (ci := 6) (q0 := 0) rfl rfl, fun U hU hW => ⟨rfl, by rw [hU], by rw [hU]; exact hPc, va_K.moved hW.alike hK, hDc.weaken (fun _ _ _ _ => trivial)⟩⟩ rfl rfl hl.1 rfl (lv_room (Nat.le_of_ble_eq_true rfl)) dX7_plant_27 ⟨Nat.zero_le _, Nat.zero_le _⟩) hS (fun q _ h => hFc q h) hFc (fun r_ u_ t H locs ht hvm hw hB hz1 hk1 hS => ?_)
      obtain rfl := hw.symm
      obtain ⟨hP1, -, hD1⟩ := hB
      rw [ht] at hP1
      obtain ⟨hP, hD⟩ := va_join (wr := [(zst, .inr (5, [.int sS.1, .int sS.2.1, .int sS.2.2.1, .long sS.2.2.2, .ref zsa])), (zsa, .inl (cI, 64, .inl aS))]) (w1 := [(zmo, .inr (6, [.int 0, .int mM.2.1, .int mM.2.2.1, .int (bI mM.2.2.2.1), .int mM.2.2.2.2.1, .int mM.2.2.2.2.2, .ref zar, .ref zbe, .ref zst, .ref zah, .ref zgd]))]) hP hD [0] [1, 2] rfl rfl (by decide) (by decide) hk1 hFc hP1 hD1
      have hP := hP.sub (ws' := [(zmo, .inr (6, [.int 0, .int mM.2.1, .int mM.2.2.1, .int (bI mM.2.2.2.1), .int mM.2.2.2.2.1, .int mM.2.2.2.2.2, .ref zar, .ref zbe, .ref zst, .ref zah, .ref zgd])), (zst, .inr (5, [.int sS.1, .int sS.2.1, .int sS.2.2.1, .long sS.2.2.2, .ref zsa])), (zsa, .inl (cI, 64, .inl aS))]) [2, 0, 1] rfl
      have hD := hD.sub (ws' := [(zmo, .inr (6, [.int 0, .int mM.2.1, .int mM.2.2.1, .int (bI mM.2.2.2.1), .int mM.2.2.2.2.1, .int mM.2.2.2.2.2, .ref zar, .ref zbe, .ref zst, .ref zah, .ref zgd])), (zst, .inr (5, [.int sS.1, .int sS.2.1, .int sS.2.2.1, .long sS.2.2.2, .ref zsa])), (zsa, .inl (cI, 64, .inl aS))]) [2, 0, 1] (by decide) rfl
      clear hPc hDc hFc hP1 hD1 hk1
      refine lv_if_ne (tgt := 39) hx hb dX7_plant_30 (by decide) (fun hc => ?_) (fun hc => ?_)
      · rw [if_neg hc] at hf
        refine lv_iconst (v := 0) hx hb dX7_plant_39 (by decide) ?_
        refine lv_istore (lv' := [(5, .int 0), (0, .ref zmo), (1, .int fg), (2, .int tu), (3, .int cx), (4, .int cy)]) hx hb dX7_plant_40 hl (by decide) rfl (fun ls hl => ?_)
        have hv := hf
        have lp85 : ∀ (nf : Nat) (y56 : Int32) (H : Heap) (locs : List Loc) (ls : Array Slot), lp_X7_plant_42 mM sS aS fg tu cx cy nf y56 = some R → va_P (dC, dI) vwCl [(zmo, .inr (6, [.int 0, .int mM.2.1, .int mM.2.2.1, .int (bI mM.2.2.2.1), .int mM.2.2.2.2.1, .int mM.2.2.2.2.2, .ref zar, .ref zbe, .ref zst, .ref zah, .ref zgd])), (zst, .inr (5, [.int sS.1, .int sS.2.1, .int sS.2.2.1, .long sS.2.2.2, .ref zsa])), (zsa, .inl (cI, 64, .inl aS))] H → va_D (A_X7_plant cI cJ zmo zst zsa zar zbe zah zgd mM sS aS fg tu cx cy s.heap.size) [(zmo, .inr (6, [.int 0, .int mM.2.1, .int mM.2.2.1, .int (bI mM.2.2.2.1), .int mM.2.2.2.2.1, .int mM.2.2.2.2.2, .ref zar, .ref zbe, .ref zst, .ref zah, .ref zgd])), (zst, .inr (5, [.int sS.1, .int sS.2.1, .int sS.2.2.1, .long sS.2.2.2, .ref zsa])), (zsa, .inl (cI, 64, .inl aS))] → va_S (A_X7_plant cI cJ zmo zst zsa zar zbe zah zgd mM sS aS fg tu cx cy s.heap.size) s.heap H locs → lv_has ls 6 [(0, .ref zmo), (1, .int fg), (2, .int tu), (3, .int cx), (4, .int cy), (5, .int y56)] → W p l e rm_X7_plant s m args below meth c H locs 0 0 (MQ below (Q_X7_plant dC dI cI cJ zmo zst zsa zar zbe zah zgd mM sS aS fg tu cx cy s.heap.size R) args s 0 0 (A_X7_plant cI cJ zmo zst zsa zar zbe zah zgd mM sS aS fg tu cx cy s.heap.size)) (F0 m 42 ls []) := by
          intro nf
          induction nf with
          | zero => intro y56 H locs ls h9; exact nomatch h9
          | succ nf ih86 =>
            intro y56 H locs ls hf hP hD hS hl
            rw [lp_X7_plant_42.eq_2] at hf
            refine lv_iload hx hb dX7_plant_42 (lv_at hl 5 rfl) ?_
            refine lv_bipush (v := 9) hx hb dX7_plant_44 (by decide) ?_
            refine lv_icmp_ge (tgt := 98) hx hb dX7_plant_46 (by decide) (fun hc => ?_) (fun hc => ?_)
            · rw [if_pos hc] at hf
              refine lv_iconst (v := 0) hx hb dX7_plant_98 (by decide) ?_
              refine lv_istore (lv' := [(5, .int 0), (0, .ref zmo), (1, .int fg), (2, .int tu), (3, .int cx), (4, .int cy)]) hx hb dX7_plant_99 hl (by decide) rfl (fun ls hl => ?_)
              obtain ⟨v81, hv, hf⟩ := obind hf
              have K87 : ∀ (H : Heap) (locs : List Loc) (ls : Array Slot), va_P (dC, dI) vwCl [(zmo, .inr (6, [.int 0, .int mM.2.1, .int mM.2.2.1, .int (bI mM.2.2.2.1), .int mM.2.2.2.2.1, .int mM.2.2.2.2.2, .ref zar, .ref zbe, .ref zst, .ref zah, .ref zgd])), (zst, .inr (5, [.int v81.2.1, .int v81.2.2.1, .int v81.2.2.2.1, .long v81.2.2.2.2, .ref zsa])), (zsa, .inl (cI, 64, .inl v81.1))] H → va_D (A_X7_plant cI cJ zmo zst zsa zar zbe zah zgd mM sS aS fg tu cx cy s.heap.size) [(zmo, .inr (6, [.int 0, .int mM.2.1, .int mM.2.2.1, .int (bI mM.2.2.2.1), .int mM.2.2.2.2.1, .int mM.2.2.2.2.2, .ref zar, .ref zbe, .ref zst, .ref zah, .ref zgd])), (zst, .inr (5, [.int v81.2.1, .int v81.2.2.1, .int v81.2.2.2.1, .long v81.2.2.2.2, .ref zsa])), (zsa, .inl (cI, 64, .inl v81.1))] → va_S (A_X7_plant cI cJ zmo zst zsa zar zbe zah zgd mM sS aS fg tu cx cy s.heap.size) s.heap H locs → lv_has ls 6 [(0, .ref zmo)] → W p l e rm_X7_plant s m args below meth c H locs 0 0 (MQ below (Q_X7_plant dC dI cI cJ zmo zst zsa zar zbe zah zgd mM sS aS fg tu cx cy s.heap.size R) args s 0 0 (A_X7_plant cI cJ zmo zst zsa zar zbe zah zgd mM sS aS fg tu cx cy s.heap.size)) (F0 m 154 ls []) := by
                intro H locs ls hP hD hS hl
                refine lv_aload_n hx hb dX7_plant_154 rfl (lv_at hl 0 rfl) ?_
                refine va_get (D := (dC, dI)) (ci := 6) (v := .ref zst) (C := RX7) (T := TX7) (N := 11) hx hb hts hinX7 hown hK hP 0 rfl rfl 8 (by decide) hw1 (fun _ h9 => h9) rfl dX7_plant_155 ?_
                refine va_getN (D := (dC, dI)) (ci := 5) (v := .long v81.2.2.2.2) (C := RX6) (T := TX6) (N := 5) hx hb hts hinX6 hown hK hP 1 rfl rfl 3 (by decide) (va_Nw.use rfl hnw_hedges) (fun _ h9 => h9) rfl dX7_plant_158 ?_
                have hPc := hP.sub (ws' := []) [] rfl
                have hDc := hD.sub (ws' := []) [] (by decide) rfl
                have hFc := va_free (wc := []) hD hS hA [] rfl
                refine va_calli (va_runS (As := [.long v81.2.2.2.2]) (rest := []) ⟨hx, hb, hml, hown, hts⟩ (c_J13_bitCount_95d88 l dC dI cI cJ  H.size v81.2.2.2.2) (va_cwS 1 hts gX7_plant_J13_bitCount_95d88 rfl rfl rfl (by decide +kernel) ⟨Nat.le_of_ble_eq_true rfl, Nat.le_of_ble_eq_true rfl⟩) ⟨fun a U gg mk q => by obtain ⟨q0, q1, qP, qK, qD⟩ := q; exact ⟨q0, q1, qP, va_K.moved (u := U) (U := U.calling gg mk a) (Vm.Alike.refl U.vm) qK, qD⟩, fun U hU hW => ⟨rfl, by rw [hU], by rw [hU]; exact hPc, va_K.moved hW.alike hK, hDc.weaken (fun _ _ _ _ => trivial)⟩⟩ rfl rfl hl.1 rfl (lv_room (Nat.le_of_ble_eq_true rfl)) dX7_plant_161 ⟨Nat.zero_le _, Nat.zero_le _⟩) hS (fun q _ h => hFc q h) hFc (fun r_ u_ t H locs ht hvm hw hB hz1 hk1 hS => ?_)
                obtain rfl := hw.symm
                obtain ⟨hP1, -, hD1⟩ := hB
                rw [ht] at hP1
                obtain ⟨hP, hD⟩ := va_join (wr := [(zmo, .inr (6, [.int 0, .int mM.2.1, .int mM.2.2.1, .int (bI mM.2.2.2.1), .int mM.2.2.2.2.1, .int mM.2.2.2.2.2, .ref zar, .ref zbe, .ref zst, .ref zah, .ref zgd])), (zst, .inr (5, [.int v81.2.1, .int v81.2.2.1, .int v81.2.2.2.1, .long v81.2.2.2.2, .ref zsa])), (zsa, .inl (cI, 64, .inl v81.1))]) (w1 := []) hP hD [] [0, 1, 2] rfl rfl (by decide) (by decide) hk1 hFc hP1 hD1
                have hP := hP.sub (ws' := [(zmo, .inr (6, [.int 0, .int mM.2.1, .int mM.2.2.1, .int (bI mM.2.2.2.1), .int mM.2.2.2.2.1, .int mM.2.2.2.2.2, .ref zar, .ref zbe, .ref zst, .ref zah, .ref zgd])), (zst, .inr (5, [.int v81.2.1, .int v81.2.2.1, .int v81.2.2.2.1, .long v81.2.2.2.2, .ref zsa])), (zsa, .inl (cI, 64, .inl v81.1))]) [0, 1, 2] rfl
                have hD := hD.sub (ws' := [(zmo, .inr (6, [.int 0, .int mM.2.1, .int mM.2.2.1, .int (bI mM.2.2.2.1), .int mM.2.2.2.2.1, .int mM.2.2.2.2.2, .ref zar, .ref zbe, .ref zst, .ref zah, .ref zgd])), (zst, .inr (5, [.int v81.2.1, .int v81.2.2.1, .int v81.2.2.2.1, .long v81.2.2.2.2, .ref zsa])), (zsa, .inl (cI, 64, .inl v81.1))]) [0, 1, 2] (by decide) rfl
                clear hPc hDc hFc hP1 hD1 hk1
                obtain rfl := Option.some.inj hf
                exact W.iret (v := (f_J13_bitCount_95d88 v81.2.2.2.2)) hx hb hr (fun t ht hW => ⟨⟨(f_J13_bitCount_95d88 v81.2.2.2.2), (), rfl, rfl, by rw [ht]; exact hP, va_K.moved hW.alike hK, hD⟩, hS.F ht⟩) hS.2.2 dX7_plant_164
              have lp88 : ∀ (nf : Nat) (y71 : Int32) (y72 : Nat → Int32) (y73 : Int32) (y74 : Int32) (y75 : Int32) (y76 : Int64) (H : Heap) (locs : List Loc) (ls : Array Slot), lp_X7_plant_101 mM fg tu cx cy nf y71 y72 y73 y74 y75 y76 = some v81 → va_P (dC, dI) vwCl [(zmo, .inr (6, [.int 0, .int mM.2.1, .int mM.2.2.1, .int (bI mM.2.2.2.1), .int mM.2.2.2.2.1, .int mM.2.2.2.2.2, .ref zar, .ref zbe, .ref zst, .ref zah, .ref zgd])), (zst, .inr (5, [.int y73, .int y74, .int y75, .long y76, .ref zsa])), (zsa, .inl (cI, 64, .inl y72))] H → va_D (A_X7_plant cI cJ zmo zst zsa zar zbe zah zgd mM sS aS fg tu cx cy s.heap.size) [(zmo, .inr (6, [.int 0, .int mM.2.1, .int mM.2.2.1, .int (bI mM.2.2.2.1), .int mM.2.2.2.2.1, .int mM.2.2.2.2.2, .ref zar, .ref zbe, .ref zst, .ref zah, .ref zgd])), (zst, .inr (5, [.int y73, .int y74, .int y75, .long y76, .ref zsa])), (zsa, .inl (cI, 64, .inl y72))] → va_S (A_X7_plant cI cJ zmo zst zsa zar zbe zah zgd mM sS aS fg tu cx cy s.heap.size) s.heap H locs → lv_has ls 6 [(0, .ref zmo), (1, .int fg), (2, .int tu), (3, .int cx), (4, .int cy), (5, .int y71)] → W p l e rm_X7_plant s m args below meth c H locs 0 0 (MQ below (Q_X7_plant dC dI cI cJ zmo zst zsa zar zbe zah zgd mM sS aS fg tu cx cy s.heap.size R) args s 0 0 (A_X7_plant cI cJ zmo zst zsa zar zbe zah zgd mM sS aS fg tu cx cy s.heap.size)) (F0 m 101 ls []) := by
                intro nf
                induction nf with
                | zero => intro y71 y72 y73 y74 y75 y76 H locs ls h9; exact nomatch h9
                | succ nf ih89 =>
                  intro y71 y72 y73 y74 y75 y76 H locs ls hf hP hD hS hl
                  rw [lp_X7_plant_101.eq_2] at hf
                  refine lv_iload hx hb dX7_plant_101 (lv_at hl 5 rfl) ?_
                  refine lv_bipush (v := 9) hx hb dX7_plant_103 (by decide) ?_
                  refine lv_icmp_ge (tgt := 154) hx hb dX7_plant_105 (by decide) (fun hc => ?_) (fun hc => ?_)
                  · rw [if_pos hc] at hf
                    obtain rfl := Option.some.inj hf
                    exact K87 _ _ _ hP hD hS (lv_sub hl [0] rfl)
                  · rw [if_neg hc] at hf
                    refine lv_iload_n hx hb dX7_plant_108 rfl (lv_at hl 1 rfl) ?_
                    refine lv_iload_n hx hb dX7_plant_109 rfl (lv_at hl 2 rfl) ?_
                    refine lv_iload hx hb dX7_plant_110 (lv_at hl 5 rfl) ?_
                    refine lv_iconst (v := 3) hx hb dX7_plant_112 (by decide) ?_
                    refine lv_irem hx hb dX7_plant_113 (by decide) ?_
                    refine lv_iload hx hb dX7_plant_114 (lv_at hl 5 rfl) ?_
                    refine lv_iconst (v := 3) hx hb dX7_plant_116 (by decide) ?_
                    refine lv_idiv hx hb dX7_plant_117 (by decide) ?_
                    obtain ⟨r77, hr77, hf⟩ := obind hf
                    have hPc := hP.sub (ws' := []) [] rfl
                    have hDc := hD.sub (ws' := []) [] (by decide) rfl
                    have hFc := va_free (wc := []) hD hS hA [] rfl
                    refine va_calli (va_runS (As := [.int fg, .int tu, .int (y71 - y71 / 3 * 3), .int (y71 / 3)]) (rest := []) ⟨hx, hb, hml, hown, hts⟩ (c_X7_isOf l dC dI cI cJ  H.size fg tu (y71 - y71 / 3 * 3) (y71 / 3) _ hr77) (va_cwS 4 hts gX7_plant_X7_isOf rfl rfl rfl (by decide +kernel) ⟨Nat.le_of_ble_eq_true rfl, Nat.le_of_ble_eq_true rfl⟩) ⟨fun a U gg mk q => by obtain ⟨q0, q1, qP, qK, qD, qf⟩ := q; exact ⟨q0, q1, qP, va_K.moved (u := U) (U := U.calling gg mk a) (Vm.Alike.refl U.vm) qK, qD, fgM_same (u := U) (U := U.calling gg mk a) rfl rfl qf⟩, fun U hU hW => ⟨rfl, by rw [hU], by rw [hU]; exact hPc, va_K.moved hW.alike hK, hDc.weaken (fun _ _ _ _ => trivial), fgM_call hfg hS hFc hU hW⟩⟩ rfl rfl hl.1 rfl (lv_room (Nat.le_of_ble_eq_true rfl)) dX7_plant_118 ⟨Nat.zero_le _, Nat.zero_le _⟩) hS (fun q _ h => hFc q h) hFc (fun r_ u_ t H locs ht hvm hw hB hz1 hk1 hS => ?_)
                    obtain rfl := hw.symm
                    obtain ⟨hP1, -, hD1⟩ := hB
                    rw [ht] at hP1
                    obtain ⟨hP, hD⟩ := va_join (wr := [(zmo, .inr (6, [.int 0, .int mM.2.1, .int mM.2.2.1, .int (bI mM.2.2.2.1), .int mM.2.2.2.2.1, .int mM.2.2.2.2.2, .ref zar, .ref zbe, .ref zst, .ref zah, .ref zgd])), (zst, .inr (5, [.int y73, .int y74, .int y75, .long y76, .ref zsa])), (zsa, .inl (cI, 64, .inl y72))]) (w1 := []) hP hD [] [0, 1, 2] rfl rfl (by decide) (by decide) hk1 hFc hP1 hD1
                    have hP := hP.sub (ws' := [(zmo, .inr (6, [.int 0, .int mM.2.1, .int mM.2.2.1, .int (bI mM.2.2.2.1), .int mM.2.2.2.2.1, .int mM.2.2.2.2.2, .ref zar, .ref zbe, .ref zst, .ref zah, .ref zgd])), (zst, .inr (5, [.int y73, .int y74, .int y75, .long y76, .ref zsa])), (zsa, .inl (cI, 64, .inl y72))]) [0, 1, 2] rfl
                    have hD := hD.sub (ws' := [(zmo, .inr (6, [.int 0, .int mM.2.1, .int mM.2.2.1, .int (bI mM.2.2.2.1), .int mM.2.2.2.2.1, .int mM.2.2.2.2.2, .ref zar, .ref zbe, .ref zst, .ref zah, .ref zgd])), (zst, .inr (5, [.int y73, .int y74, .int y75, .long y76, .ref zsa])), (zsa, .inl (cI, 64, .inl y72))]) [0, 1, 2] (by decide) rfl
                    clear hPc hDc hFc hP1 hD1 hk1
                    obtain ⟨v80, hv, hf⟩ := obind hf
                    have K90 : ∀ (H : Heap) (locs : List Loc) (ls : Array Slot), va_P (dC, dI) vwCl [(zmo, .inr (6, [.int 0, .int mM.2.1, .int mM.2.2.1, .int (bI mM.2.2.2.1), .int mM.2.2.2.2.1, .int mM.2.2.2.2.2, .ref zar, .ref zbe, .ref zst, .ref zah, .ref zgd])), (zst, .inr (5, [.int v80.1, .int v80.2.1, .int v80.2.2.1, .long v80.2.2.2.1, .ref zsa])), (zsa, .inl (cI, 64, .inl v80.2.2.2.2))] H → va_D (A_X7_plant cI cJ zmo zst zsa zar zbe zah zgd mM sS aS fg tu cx cy s.heap.size) [(zmo, .inr (6, [.int 0, .int mM.2.1, .int mM.2.2.1, .int (bI mM.2.2.2.1), .int mM.2.2.2.2.1, .int mM.2.2.2.2.2, .ref zar, .ref zbe, .ref zst, .ref zah, .ref zgd])), (zst, .inr (5, [.int v80.1, .int v80.2.1, .int v80.2.2.1, .long v80.2.2.2.1, .ref zsa])), (zsa, .inl (cI, 64, .inl v80.2.2.2.2))] → va_S (A_X7_plant cI cJ zmo zst zsa zar zbe zah zgd mM sS aS fg tu cx cy s.heap.size) s.heap H locs → lv_has ls 6 [(0, .ref zmo), (1, .int fg), (2, .int tu), (3, .int cx), (4, .int cy), (5, .int y71)] → W p l e rm_X7_plant s m args below meth c H locs 0 0 (MQ below (Q_X7_plant dC dI cI cJ zmo zst zsa zar zbe zah zgd mM sS aS fg tu cx cy s.heap.size R) args s 0 0 (A_X7_plant cI cJ zmo zst zsa zar zbe zah zgd mM sS aS fg tu cx cy s.heap.size)) (F0 m 148 ls []) := by
                      intro H locs ls hP hD hS hl
                      refine lv_iinc (v := (y71 + 1)) (lv' := [(5, .int (y71 + 1)), (0, .ref zmo), (1, .int fg), (2, .int tu), (3, .int cx), (4, .int cy)]) hx hb dX7_plant_148 hl (k := 5) rfl rfl (by decide) rfl (fun ls hl => ?_)
                      refine lv_goto (tgt := 101) hx hb dX7_plant_151 (by decide) ?_
                      exact ih89 _ _ _ _ _ _ _ _ _ hf hP hD hS (lv_sub hl [1, 2, 3, 4, 5, 0] rfl)
                    clear hf; have hf := hv; clear hv
                    refine lv_if_eq (tgt := 148) hx hb dX7_plant_121 (by decide) (fun hc => ?_) (fun hc => ?_)
                    · rw [if_pos hc] at hf
                      obtain rfl := Option.some.inj hf
                      exact K90 _ _ _ hP hD hS (lv_sub hl [0, 1, 2, 3, 4, 5] rfl)
                    · rw [if_neg hc] at hf
                      refine lv_aload_n hx hb dX7_plant_124 rfl (lv_at hl 0 rfl) ?_
                      refine va_get (D := (dC, dI)) (ci := 6) (v := .ref zst) (C := RX7) (T := TX7) (N := 11) hx hb hts hinX7 hown hK hP 0 rfl rfl 8 (by decide) hw1 (fun _ h9 => h9) rfl dX7_plant_125 ?_
                      refine lv_aload_n hx hb dX7_plant_128 rfl (lv_at hl 0 rfl) ?_
                      refine lv_iload_n hx hb dX7_plant_129 rfl (lv_at hl 3 rfl) ?_
                      refine lv_iload hx hb dX7_plant_130 (lv_at hl 5 rfl) ?_
                      refine lv_iconst (v := 3) hx hb dX7_plant_132 (by decide) ?_
                      refine lv_irem hx hb dX7_plant_133 (by decide) ?_
                      refine lv_iadd hx hb dX7_plant_134 ?_
                      refine lv_iload hx hb dX7_plant_135 (lv_at hl 4 rfl) ?_
                      refine lv_iload hx hb dX7_plant_137 (lv_at hl 5 rfl) ?_
                      refine lv_iconst (v := 3) hx hb dX7_plant_139 (by decide) ?_
                      refine lv_idiv hx hb dX7_plant_140 (by decide) ?_
                      refine lv_iadd hx hb dX7_plant_141 ?_
                      obtain ⟨r78, hr78, hf⟩ := obind hf
                      have hPc := hP.sub (ws' := [(zmo, .inr (6, [.int 0, .int mM.2.1, .int mM.2.2.1, .int (bI mM.2.2.2.1), .int mM.2.2.2.2.1, .int mM.2.2.2.2.2, .ref zar, .ref zbe, .ref zst, .ref zah, .ref zgd]))]) [0] rfl
                      have hDc := hD.sub (ws' := [(zmo, .inr (6, [.int 0, .int mM.2.1, .int mM.2.2.1, .int (bI mM.2.2.2.1), .int mM.2.2.2.2.1, .int mM.2.2.2.2.2, .ref zar, .ref zbe, .ref zst, .ref zah, .ref zgd]))]) [0] (by decide) rfl
                      have hFc := va_free (wc := [(zmo, .inr (6, [.int 0, .int mM.2.1, .int mM.2.2.1, .int (bI mM.2.2.2.1), .int mM.2.2.2.2.1, .int mM.2.2.2.2.2, .ref zar, .ref zbe, .ref zst, .ref zah, .ref zgd]))]) hD hS hA [0] rfl
                      refine va_calli (va_runV (As := [.int (cx + (y71 - y71 / 3 * 3)), .int (cy + (y71 / 3))]) (rest := [.ref zst]) ⟨hx, hb, hml, hown, hts⟩ (c_X7_at l dC dI cI cJ zmo zar zbe zst zah zgd H.size (0, mM.2.1, mM.2.2.1, mM.2.2.2.1, mM.2.2.2.2.1, mM.2.2.2.2.2) (cx + (y71 - y71 / 3 * 3)) (cy + (y71 / 3)) _ hr78) (cwV 2 hts gX7_plant_X7_at rfl rfl rfl (by decide +kernel) ⟨Nat.le_of_ble_eq_true rfl, Nat.le_of_ble_eq_true rfl⟩) ⟨fun a U gg mk q => by obtain ⟨q0, q1, qP, qK, qD⟩ := q; exact ⟨q0, q1, qP, va_K.moved (u := U) (U := U.calling gg mk a) (Vm.Alike.refl U.vm) qK, qD⟩, va_recv hK hPc (ci := 6) (q0 := 0) rfl rfl, fun U hU hW => ⟨rfl, by rw [hU], by rw [hU]; exact hPc, va_K.moved hW.alike hK, hDc.weaken (fun _ _ _ _ => trivial)⟩⟩ rfl rfl hl.1 rfl (lv_room (Nat.le_of_ble_eq_true rfl)) dX7_plant_142 ⟨Nat.zero_le _, Nat.zero_le _⟩) hS (fun q _ h => hFc q h) hFc (fun r_ u_ t H locs ht hvm hw hB hz1 hk1 hS => ?_)
                      obtain rfl := hw.symm
                      obtain ⟨hP1, -, hD1⟩ := hB
                      rw [ht] at hP1
                      obtain ⟨hP, hD⟩ := va_join (wr := [(zst, .inr (5, [.int y73, .int y74, .int y75, .long y76, .ref zsa])), (zsa, .inl (cI, 64, .inl y72))]) (w1 := [(zmo, .inr (6, [.int 0, .int mM.2.1, .int mM.2.2.1, .int (bI mM.2.2.2.1), .int mM.2.2.2.2.1, .int mM.2.2.2.2.2, .ref zar, .ref zbe, .ref zst, .ref zah, .ref zgd]))]) hP hD [0] [1, 2] rfl rfl (by decide) (by decide) hk1 hFc hP1 hD1
                      have hP := hP.sub (ws' := [(zmo, .inr (6, [.int 0, .int mM.2.1, .int mM.2.2.1, .int (bI mM.2.2.2.1), .int mM.2.2.2.2.1, .int mM.2.2.2.2.2, .ref zar, .ref zbe, .ref zst, .ref zah, .ref zgd])), (zst, .inr (5, [.int y73, .int y74, .int y75, .long y76, .ref zsa])), (zsa, .inl (cI, 64, .inl y72))]) [2, 0, 1] rfl
                      have hD := hD.sub (ws' := [(zmo, .inr (6, [.int 0, .int mM.2.1, .int mM.2.2.1, .int (bI mM.2.2.2.1), .int mM.2.2.2.2.1, .int mM.2.2.2.2.2, .ref zar, .ref zbe, .ref zst, .ref zah, .ref zgd])), (zst, .inr (5, [.int y73, .int y74, .int y75, .long y76, .ref zsa])), (zsa, .inl (cI, 64, .inl y72))]) [2, 0, 1] (by decide) rfl
                      clear hPc hDc hFc hP1 hD1 hk1
                      obtain ⟨r79, hr79, hf⟩ := obind hf
                      have hPc := hP.sub (ws' := [(zst, .inr (5, [.int y73, .int y74, .int y75, .long y76, .ref zsa])), (zsa, .inl (cI, 64, .inl y72))]) [1, 2] rfl
                      have hDc := hD.sub (ws' := [(zst, .inr (5, [.int y73, .int y74, .int y75, .long y76, .ref zsa])), (zsa, .inl (cI, 64, .inl y72))]) [1, 2] (by decide) rfl
                      have hFc := va_free (wc := [(zst, .inr (5, [.int y73, .int y74, .int y75, .long y76, .ref zsa])), (zsa, .inl (cI, 64, .inl y72))]) hD hS hA [1, 2] rfl
                      refine va_callv (va_runV (As := [.int r78]) (rest := []) ⟨hx, hb, hml, hown, hts⟩ (c_X6_plant l dC dI cI cJ zst zsa H.size (y73, y74, y75, y76) y72 r78 _ hr79) (cwV 1 hts gX7_plant_X6_plant rfl rfl rfl (by decide +kernel) ⟨Nat.le_of_ble_eq_true rfl, Nat.le_of_ble_eq_true rfl⟩) ⟨fun a U gg mk q => by obtain ⟨q0, q1, qP, qK, qD⟩ := q; exact ⟨q0, q1, qP, va_K.moved (u := U) (U := U.calling gg mk a) (Vm.Alike.refl U.vm) qK, qD⟩, va_recv hK hPc (ci := 5) (q0 := 0) rfl rfl, fun U hU hW => ⟨rfl, by rw [hU], by rw [hU]; exact hPc, va_K.moved hW.alike hK, hDc.weaken (fun _ _ _ _ => trivial)⟩⟩ rfl rfl hl.1 rfl (lv_room (Nat.le_of_ble_eq_true rfl)) dX7_plant_145 ⟨Nat.zero_le _, Nat.zero_le _⟩) hS (fun q _ h => hFc q h) hFc (fun u_ t H locs ht hvm hw hB hz1 hk1 hS => ?_)
                      obtain ⟨hP1, -, hD1⟩ := hB
                      rw [ht] at hP1
                      obtain ⟨hP, hD⟩ := va_join (wr := [(zmo, .inr (6, [.int 0, .int mM.2.1, .int mM.2.2.1, .int (bI mM.2.2.2.1), .int mM.2.2.2.2.1, .int mM.2.2.2.2.2, .ref zar, .ref zbe, .ref zst, .ref zah, .ref zgd]))]) (w1 := [(zst, .inr (5, [.int r79.1.1, .int r79.1.2.1, .int r79.1.2.2.1, .long r79.1.2.2.2, .ref zsa])), (zsa, .inl (cI, 64, .inl r79.2))]) hP hD [1, 2] [0] rfl rfl (by decide) (by decide) hk1 hFc hP1 hD1
                      have hP := hP.sub (ws' := [(zmo, .inr (6, [.int 0, .int mM.2.1, .int mM.2.2.1, .int (bI mM.2.2.2.1), .int mM.2.2.2.2.1, .int mM.2.2.2.2.2, .ref zar, .ref zbe, .ref zst, .ref zah, .ref zgd])), (zst, .inr (5, [.int r79.1.1, .int r79.1.2.1, .int r79.1.2.2.1, .long r79.1.2.2.2, .ref zsa])), (zsa, .inl (cI, 64, .inl r79.2))]) [0, 1, 2] rfl
                      have hD := hD.sub (ws' := [(zmo, .inr (6, [.int 0, .int mM.2.1, .int mM.2.2.1, .int (bI mM.2.2.2.1), .int mM.2.2.2.2.1, .int mM.2.2.2.2.2, .ref zar, .ref zbe, .ref zst, .ref zah, .ref zgd])), (zst, .inr (5, [.int r79.1.1, .int r79.1.2.1, .int r79.1.2.2.1, .long r79.1.2.2.2, .ref zsa])), (zsa, .inl (cI, 64, .inl r79.2))]) [0, 1, 2] (by decide) rfl
                      clear hPc hDc hFc hP1 hD1 hk1
                      obtain rfl := Option.some.inj hf
                      exact K90 _ _ _ hP hD hS (lv_sub hl [0, 1, 2, 3, 4, 5] rfl)
              exact lp88 100 _ _ _ _ _ _ _ _ _ hv hP hD hS (lv_sub hl [1, 2, 3, 4, 5, 0] rfl)
            · rw [if_neg hc] at hf
              refine lv_iload_n hx hb dX7_plant_49 rfl (lv_at hl 1 rfl) ?_
              refine lv_iload_n hx hb dX7_plant_50 rfl (lv_at hl 2 rfl) ?_
              refine lv_iload hx hb dX7_plant_51 (lv_at hl 5 rfl) ?_
              refine lv_iconst (v := 3) hx hb dX7_plant_53 (by decide) ?_
              refine lv_irem hx hb dX7_plant_54 (by decide) ?_
              refine lv_iload hx hb dX7_plant_55 (lv_at hl 5 rfl) ?_
              refine lv_iconst (v := 3) hx hb dX7_plant_57 (by decide) ?_
              refine lv_idiv hx hb dX7_plant_58 (by decide) ?_
              obtain ⟨r82, hr82, hf⟩ := obind hf
              have hPc := hP.sub (ws' := []) [] rfl
              have hDc := hD.sub (ws' := []) [] (by decide) rfl
              have hFc := va_free (wc := []) hD hS hA [] rfl
              refine va_calli (va_runS (As := [.int fg, .int tu, .int (y56 - y56 / 3 * 3), .int (y56 / 3)]) (rest := []) ⟨hx, hb, hml, hown, hts⟩ (c_X7_isOf l dC dI cI cJ  H.size fg tu (y56 - y56 / 3 * 3) (y56 / 3) _ hr82) (va_cwS 4 hts gX7_plant_X7_isOf rfl rfl rfl (by decide +kernel) ⟨Nat.le_of_ble_eq_true rfl, Nat.le_of_ble_eq_true rfl⟩) ⟨fun a U gg mk q => by obtain ⟨q0, q1, qP, qK, qD, qf⟩ := q; exact ⟨q0, q1, qP, va_K.moved (u := U) (U := U.calling gg mk a) (Vm.Alike.refl U.vm) qK, qD, fgM_same (u := U) (U := U.calling gg mk a) rfl rfl qf⟩, fun U hU hW => ⟨rfl, by rw [hU], by rw [hU]; exact hPc, va_K.moved hW.alike hK, hDc.weaken (fun _ _ _ _ => trivial), fgM_call hfg hS hFc hU hW⟩⟩ rfl rfl hl.1 rfl (lv_room (Nat.le_of_ble_eq_true rfl)) dX7_plant_59 ⟨Nat.zero_le _, Nat.zero_le _⟩) hS (fun q _ h => hFc q h) hFc (fun r_ u_ t H locs ht hvm hw hB hz1 hk1 hS => ?_)
              obtain rfl := hw.symm
              obtain ⟨hP1, -, hD1⟩ := hB
              rw [ht] at hP1
              obtain ⟨hP, hD⟩ := va_join (wr := [(zmo, .inr (6, [.int 0, .int mM.2.1, .int mM.2.2.1, .int (bI mM.2.2.2.1), .int mM.2.2.2.2.1, .int mM.2.2.2.2.2, .ref zar, .ref zbe, .ref zst, .ref zah, .ref zgd])), (zst, .inr (5, [.int sS.1, .int sS.2.1, .int sS.2.2.1, .long sS.2.2.2, .ref zsa])), (zsa, .inl (cI, 64, .inl aS))]) (w1 := []) hP hD [] [0, 1, 2] rfl rfl (by decide) (by decide) hk1 hFc hP1 hD1
              have hP := hP.sub (ws' := [(zmo, .inr (6, [.int 0, .int mM.2.1, .int mM.2.2.1, .int (bI mM.2.2.2.1), .int mM.2.2.2.2.1, .int mM.2.2.2.2.2, .ref zar, .ref zbe, .ref zst, .ref zah, .ref zgd])), (zst, .inr (5, [.int sS.1, .int sS.2.1, .int sS.2.2.1, .long sS.2.2.2, .ref zsa])), (zsa, .inl (cI, 64, .inl aS))]) [0, 1, 2] rfl
              have hD := hD.sub (ws' := [(zmo, .inr (6, [.int 0, .int mM.2.1, .int mM.2.2.1, .int (bI mM.2.2.2.1), .int mM.2.2.2.2.1, .int mM.2.2.2.2.2, .ref zar, .ref zbe, .ref zst, .ref zah, .ref zgd])), (zst, .inr (5, [.int sS.1, .int sS.2.1, .int sS.2.2.1, .long sS.2.2.2, .ref zsa])), (zsa, .inl (cI, 64, .inl aS))]) [0, 1, 2] (by decide) rfl
              clear hPc hDc hFc hP1 hD1 hk1
              refine lv_if_eq (tgt := 92) hx hb dX7_plant_62 (by decide) (fun hc => ?_) (fun hc => ?_)
              · rw [if_pos hc] at hf
                refine lv_iinc (v := (y56 + 1)) (lv' := [(5, .int (y56 + 1)), (0, .ref zmo), (1, .int fg), (2, .int tu), (3, .int cx), (4, .int cy)]) hx hb dX7_plant_92 hl (k := 5) rfl rfl (by decide) rfl (fun ls hl => ?_)
                refine lv_goto (tgt := 42) hx hb dX7_plant_95 (by decide) ?_
                exact ih86 _ _ _ _ hf hP hD hS (lv_sub hl [1, 2, 3, 4, 5, 0] rfl)
              · rw [if_neg hc] at hf
                refine lv_aload_n hx hb dX7_plant_65 rfl (lv_at hl 0 rfl) ?_
                refine lv_iload_n hx hb dX7_plant_66 rfl (lv_at hl 3 rfl) ?_
                refine lv_iload hx hb dX7_plant_67 (lv_at hl 5 rfl) ?_
                refine lv_iconst (v := 3) hx hb dX7_plant_69 (by decide) ?_
                refine lv_irem hx hb dX7_plant_70 (by decide) ?_
                refine lv_iadd hx hb dX7_plant_71 ?_
                refine lv_iload hx hb dX7_plant_72 (lv_at hl 4 rfl) ?_
                refine lv_iload hx hb dX7_plant_74 (lv_at hl 5 rfl) ?_
                refine lv_iconst (v := 3) hx hb dX7_plant_76 (by decide) ?_
                refine lv_idiv hx hb dX7_plant_77 (by decide) ?_
                refine lv_iadd hx hb dX7_plant_78 ?_
                obtain ⟨r83, hr83, hf⟩ := obind hf
                have hPc := hP.sub (ws' := [(zmo, .inr (6, [.int 0, .int mM.2.1, .int mM.2.2.1, .int (bI mM.2.2.2.1), .int mM.2.2.2.2.1, .int mM.2.2.2.2.2, .ref zar, .ref zbe, .ref zst, .ref zah, .ref zgd]))]) [0] rfl
                have hDc := hD.sub (ws' := [(zmo, .inr (6, [.int 0, .int mM.2.1, .int mM.2.2.1, .int (bI mM.2.2.2.1), .int mM.2.2.2.2.1, .int mM.2.2.2.2.2, .ref zar, .ref zbe, .ref zst, .ref zah, .ref zgd]))]) [0] (by decide) rfl
                have hFc := va_free (wc := [(zmo, .inr (6, [.int 0, .int mM.2.1, .int mM.2.2.1, .int (bI mM.2.2.2.1), .int mM.2.2.2.2.1, .int mM.2.2.2.2.2, .ref zar, .ref zbe, .ref zst, .ref zah, .ref zgd]))]) hD hS hA [0] rfl
                refine va_calli (va_runV (As := [.int (cx + (y56 - y56 / 3 * 3)), .int (cy + (y56 / 3))]) (rest := []) ⟨hx, hb, hml, hown, hts⟩ (c_X7_at l dC dI cI cJ zmo zar zbe zst zah zgd H.size (0, mM.2.1, mM.2.2.1, mM.2.2.2.1, mM.2.2.2.2.1, mM.2.2.2.2.2) (cx + (y56 - y56 / 3 * 3)) (cy + (y56 / 3)) _ hr83) (cwV 2 hts gX7_plant_X7_at rfl rfl rfl (by decide +kernel) ⟨Nat.le_of_ble_eq_true rfl, Nat.le_of_ble_eq_true rfl⟩) ⟨fun a U gg mk q => by obtain ⟨q0, q1, qP, qK, qD⟩ := q; exact ⟨q0, q1, qP, va_K.moved (u := U) (U := U.calling gg mk a) (Vm.Alike.refl U.vm) qK, qD⟩, va_recv hK hPc (ci := 6) (q0 := 0) rfl rfl, fun U hU hW => ⟨rfl, by rw [hU], by rw [hU]; exact hPc, va_K.moved hW.alike hK, hDc.weaken (fun _ _ _ _ => trivial)⟩⟩ rfl rfl hl.1 rfl (lv_room (Nat.le_of_ble_eq_true rfl)) dX7_plant_79 ⟨Nat.zero_le _, Nat.zero_le _⟩) hS (fun q _ h => hFc q h) hFc (fun r_ u_ t H locs ht hvm hw hB hz1 hk1 hS => ?_)
                obtain rfl := hw.symm
                obtain ⟨hP1, -, hD1⟩ := hB
                rw [ht] at hP1
                obtain ⟨hP, hD⟩ := va_join (wr := [(zst, .inr (5, [.int sS.1, .int sS.2.1, .int sS.2.2.1, .long sS.2.2.2, .ref zsa])), (zsa, .inl (cI, 64, .inl aS))]) (w1 := [(zmo, .inr (6, [.int 0, .int mM.2.1, .int mM.2.2.1, .int (bI mM.2.2.2.1), .int mM.2.2.2.2.1, .int mM.2.2.2.2.2, .ref zar, .ref zbe, .ref zst, .ref zah, .ref zgd]))]) hP hD [0] [1, 2] rfl rfl (by decide) (by decide) hk1 hFc hP1 hD1
                have hP := hP.sub (ws' := [(zmo, .inr (6, [.int 0, .int mM.2.1, .int mM.2.2.1, .int (bI mM.2.2.2.1), .int mM.2.2.2.2.1, .int mM.2.2.2.2.2, .ref zar, .ref zbe, .ref zst, .ref zah, .ref zgd])), (zst, .inr (5, [.int sS.1, .int sS.2.1, .int sS.2.2.1, .long sS.2.2.2, .ref zsa])), (zsa, .inl (cI, 64, .inl aS))]) [2, 0, 1] rfl
                have hD := hD.sub (ws' := [(zmo, .inr (6, [.int 0, .int mM.2.1, .int mM.2.2.1, .int (bI mM.2.2.2.1), .int mM.2.2.2.2.1, .int mM.2.2.2.2.2, .ref zar, .ref zbe, .ref zst, .ref zah, .ref zgd])), (zst, .inr (5, [.int sS.1, .int sS.2.1, .int sS.2.2.1, .long sS.2.2.2, .ref zsa])), (zsa, .inl (cI, 64, .inl aS))]) [2, 0, 1] (by decide) rfl
                clear hPc hDc hFc hP1 hD1 hk1
                refine lv_iconst (v := (-1)) hx hb dX7_plant_82 (by decide) ?_
                refine lv_icmp_ne (tgt := 92) hx hb dX7_plant_83 (by decide) (fun hc => ?_) (fun hc => ?_)
                · rw [if_neg hc] at hf
                  refine lv_iinc (v := (y56 + 1)) (lv' := [(5, .int (y56 + 1)), (0, .ref zmo), (1, .int fg), (2, .int tu), (3, .int cx), (4, .int cy)]) hx hb dX7_plant_92 hl (k := 5) rfl rfl (by decide) rfl (fun ls hl => ?_)
                  refine lv_goto (tgt := 42) hx hb dX7_plant_95 (by decide) ?_
                  exact ih86 _ _ _ _ hf hP hD hS (lv_sub hl [1, 2, 3, 4, 5, 0] rfl)
                · rw [if_pos hc] at hf
                  refine lv_aload_n hx hb dX7_plant_86 rfl (lv_at hl 0 rfl) ?_
                  refine lv_iconst (v := 2) hx hb dX7_plant_87 (by decide) ?_
                  have hPc := hP.sub (ws' := [(zmo, .inr (6, [.int 0, .int mM.2.1, .int mM.2.2.1, .int (bI mM.2.2.2.1), .int mM.2.2.2.2.1, .int mM.2.2.2.2.2, .ref zar, .ref zbe, .ref zst, .ref zah, .ref zgd]))]) [0] rfl
                  have hDc := hD.sub (ws' := [(zmo, .inr (6, [.int 0, .int mM.2.1, .int mM.2.2.1, .int (bI mM.2.2.2.1), .int mM.2.2.2.2.1, .int mM.2.2.2.2.2, .ref zar, .ref zbe, .ref zst, .ref zah, .ref zgd]))]) [0] (by decide) rfl
                  have hFc := va_free (wc := [(zmo, .inr (6, [.int 0, .int mM.2.1, .int mM.2.2.1, .int (bI mM.2.2.2.1), .int mM.2.2.2.2.1, .int mM.2.2.2.2.2, .ref zar, .ref zbe, .ref zst, .ref zah, .ref zgd]))]) hD hS hA [0] rfl
                  refine va_calli (va_runV (As := [.int 2]) (rest := []) ⟨hx, hb, hml, hown, hts⟩ (c_X7_no l dC dI cI cJ zmo zar zbe zst zah zgd H.size (0, mM.2.1, mM.2.2.1, mM.2.2.2.1, mM.2.2.2.2.1, mM.2.2.2.2.2) 2) (cwV 1 hts gX7_plant_X7_no rfl rfl rfl (by decide +kernel) ⟨Nat.le_of_ble_eq_true rfl, Nat.le_of_ble_eq_true rfl⟩) ⟨fun a U gg mk q => by obtain ⟨q0, q1, qP, qK, qD⟩ := q; exact ⟨q0, q1, qP, va_K.moved (u := U) (U := U.calling gg mk a) (Vm.Alike.refl U.vm) qK, qD⟩, va_recv hK hPc (ci := 6) (q0 := 0) rfl rfl, fun U hU hW => ⟨rfl, by rw [hU], by rw [hU]; exact hPc, va_K.moved hW.alike hK, hDc.weaken (fun _ _ _ _ => trivial)⟩⟩ rfl rfl hl.1 rfl (lv_room (Nat.le_of_ble_eq_true rfl)) dX7_plant_88 ⟨Nat.zero_le _, Nat.zero_le _⟩) hS (fun q _ h => hFc q h) hFc (fun r_ u_ t H locs ht hvm hw hB hz1 hk1 hS => ?_)
                  obtain rfl := hw.symm
                  obtain ⟨hP1, -, hD1⟩ := hB
                  rw [ht] at hP1
                  obtain ⟨hP, hD⟩ := va_join (wr := [(zst, .inr (5, [.int sS.1, .int sS.2.1, .int sS.2.2.1, .long sS.2.2.2, .ref zsa])), (zsa, .inl (cI, 64, .inl aS))]) (w1 := [(zmo, .inr (6, [.int (f_X7_no (0, mM.2.1, mM.2.2.1, mM.2.2.2.1, mM.2.2.2.2.1, mM.2.2.2.2.2) 2).2.1, .int (f_X7_no (0, mM.2.1, mM.2.2.1, mM.2.2.2.1, mM.2.2.2.2.1, mM.2.2.2.2.2) 2).2.2.1, .int (f_X7_no (0, mM.2.1, mM.2.2.1, mM.2.2.2.1, mM.2.2.2.2.1, mM.2.2.2.2.2) 2).2.2.2.1, .int (bI (f_X7_no (0, mM.2.1, mM.2.2.1, mM.2.2.2.1, mM.2.2.2.2.1, mM.2.2.2.2.2) 2).2.2.2.2.1), .int (f_X7_no (0, mM.2.1, mM.2.2.1, mM.2.2.2.1, mM.2.2.2.2.1, mM.2.2.2.2.2) 2).2.2.2.2.2.1, .int (f_X7_no (0, mM.2.1, mM.2.2.1, mM.2.2.2.1, mM.2.2.2.2.1, mM.2.2.2.2.2) 2).2.2.2.2.2.2, .ref zar, .ref zbe, .ref zst, .ref zah, .ref zgd]))]) hP hD [0] [1, 2] rfl rfl (by decide) (by decide) hk1 hFc hP1 hD1
                  have hP := hP.sub (ws' := [(zmo, .inr (6, [.int (f_X7_no (0, mM.2.1, mM.2.2.1, mM.2.2.2.1, mM.2.2.2.2.1, mM.2.2.2.2.2) 2).2.1, .int (f_X7_no (0, mM.2.1, mM.2.2.1, mM.2.2.2.1, mM.2.2.2.2.1, mM.2.2.2.2.2) 2).2.2.1, .int (f_X7_no (0, mM.2.1, mM.2.2.1, mM.2.2.2.1, mM.2.2.2.2.1, mM.2.2.2.2.2) 2).2.2.2.1, .int (bI (f_X7_no (0, mM.2.1, mM.2.2.1, mM.2.2.2.1, mM.2.2.2.2.1, mM.2.2.2.2.2) 2).2.2.2.2.1), .int (f_X7_no (0, mM.2.1, mM.2.2.1, mM.2.2.2.1, mM.2.2.2.2.1, mM.2.2.2.2.2) 2).2.2.2.2.2.1, .int (f_X7_no (0, mM.2.1, mM.2.2.1, mM.2.2.2.1, mM.2.2.2.2.1, mM.2.2.2.2.2) 2).2.2.2.2.2.2, .ref zar, .ref zbe, .ref zst, .ref zah, .ref zgd])), (zst, .inr (5, [.int sS.1, .int sS.2.1, .int sS.2.2.1, .long sS.2.2.2, .ref zsa])), (zsa, .inl (cI, 64, .inl aS))]) [2, 0, 1] rfl
                  have hD := hD.sub (ws' := [(zmo, .inr (6, [.int (f_X7_no (0, mM.2.1, mM.2.2.1, mM.2.2.2.1, mM.2.2.2.2.1, mM.2.2.2.2.2) 2).2.1, .int (f_X7_no (0, mM.2.1, mM.2.2.1, mM.2.2.2.1, mM.2.2.2.2.1, mM.2.2.2.2.2) 2).2.2.1, .int (f_X7_no (0, mM.2.1, mM.2.2.1, mM.2.2.2.1, mM.2.2.2.2.1, mM.2.2.2.2.2) 2).2.2.2.1, .int (bI (f_X7_no (0, mM.2.1, mM.2.2.1, mM.2.2.2.1, mM.2.2.2.2.1, mM.2.2.2.2.2) 2).2.2.2.2.1), .int (f_X7_no (0, mM.2.1, mM.2.2.1, mM.2.2.2.1, mM.2.2.2.2.1, mM.2.2.2.2.2) 2).2.2.2.2.2.1, .int (f_X7_no (0, mM.2.1, mM.2.2.1, mM.2.2.2.1, mM.2.2.2.2.1, mM.2.2.2.2.2) 2).2.2.2.2.2.2, .ref zar, .ref zbe, .ref zst, .ref zah, .ref zgd])), (zst, .inr (5, [.int sS.1, .int sS.2.1, .int sS.2.2.1, .long sS.2.2.2, .ref zsa])), (zsa, .inl (cI, 64, .inl aS))]) [2, 0, 1] (by decide) rfl
                  clear hPc hDc hFc hP1 hD1 hk1
                  obtain rfl := Option.some.inj hf
                  exact W.iret (v := (f_X7_no (0, mM.2.1, mM.2.2.1, mM.2.2.2.1, mM.2.2.2.2.1, mM.2.2.2.2.2) 2).1) hx hb hr (fun t ht hW => ⟨⟨(f_X7_no (0, mM.2.1, mM.2.2.1, mM.2.2.2.1, mM.2.2.2.2.1, mM.2.2.2.2.2) 2).1, (), rfl, rfl, by rw [ht]; exact hP, va_K.moved hW.alike hK, hD⟩, hS.F ht⟩) hS.2.2 dX7_plant_91
        exact lp85 100 _ _ _ _ hv hP hD hS (lv_sub hl [1, 2, 3, 4, 5, 0] rfl)
      · rw [if_pos hc] at hf
        refine lv_aload_n hx hb dX7_plant_33 rfl (lv_at hl 0 rfl) ?_
        refine lv_iconst (v := 1) hx hb dX7_plant_34 (by decide) ?_
        have hPc := hP.sub (ws' := [(zmo, .inr (6, [.int 0, .int mM.2.1, .int mM.2.2.1, .int (bI mM.2.2.2.1), .int mM.2.2.2.2.1, .int mM.2.2.2.2.2, .ref zar, .ref zbe, .ref zst, .ref zah, .ref zgd]))]) [0] rfl
        have hDc := hD.sub (ws' := [(zmo, .inr (6, [.int 0, .int mM.2.1, .int mM.2.2.1, .int (bI mM.2.2.2.1), .int mM.2.2.2.2.1, .int mM.2.2.2.2.2, .ref zar, .ref zbe, .ref zst, .ref zah, .ref zgd]))]) [0] (by decide) rfl
        have hFc := va_free (wc := [(zmo, .inr (6, [.int 0, .int mM.2.1, .int mM.2.2.1, .int (bI mM.2.2.2.1), .int mM.2.2.2.2.1, .int mM.2.2.2.2.2, .ref zar, .ref zbe, .ref zst, .ref zah, .ref zgd]))]) hD hS hA [0] rfl
        refine va_calli (va_runV (As := [.int 1]) (rest := []) ⟨hx, hb, hml, hown, hts⟩ (c_X7_no l dC dI cI cJ zmo zar zbe zst zah zgd H.size (0, mM.2.1, mM.2.2.1, mM.2.2.2.1, mM.2.2.2.2.1, mM.2.2.2.2.2) 1) (cwV 1 hts gX7_plant_X7_no rfl rfl rfl (by decide +kernel) ⟨Nat.le_of_ble_eq_true rfl, Nat.le_of_ble_eq_true rfl⟩) ⟨fun a U gg mk q => by obtain ⟨q0, q1, qP, qK, qD⟩ := q; exact ⟨q0, q1, qP, va_K.moved (u := U) (U := U.calling gg mk a) (Vm.Alike.refl U.vm) qK, qD⟩, va_recv hK hPc (ci := 6) (q0 := 0) rfl rfl, fun U hU hW => ⟨rfl, by rw [hU], by rw [hU]; exact hPc, va_K.moved hW.alike hK, hDc.weaken (fun _ _ _ _ => trivial)⟩⟩ rfl rfl hl.1 rfl (lv_room (Nat.le_of_ble_eq_true rfl)) dX7_plant_35 ⟨Nat.zero_le _, Nat.zero_le _⟩) hS (fun q _ h => hFc q h) hFc (fun r_ u_ t H locs ht hvm hw hB hz1 hk1 hS => ?_)
        obtain rfl := hw.symm
        obtain ⟨hP1, -, hD1⟩ := hB
        rw [ht] at hP1
        obtain ⟨hP, hD⟩ := va_join (wr := [(zst, .inr (5, [.int sS.1, .int sS.2.1, .int sS.2.2.1, .long sS.2.2.2, .ref zsa])), (zsa, .inl (cI, 64, .inl aS))]) (w1 := [(zmo, .inr (6, [.int (f_X7_no (0, mM.2.1, mM.2.2.1, mM.2.2.2.1, mM.2.2.2.2.1, mM.2.2.2.2.2) 1).2.1, .int (f_X7_no (0, mM.2.1, mM.2.2.1, mM.2.2.2.1, mM.2.2.2.2.1, mM.2.2.2.2.2) 1).2.2.1, .int (f_X7_no (0, mM.2.1, mM.2.2.1, mM.2.2.2.1, mM.2.2.2.2.1, mM.2.2.2.2.2) 1).2.2.2.1, .int (bI (f_X7_no (0, mM.2.1, mM.2.2.1, mM.2.2.2.1, mM.2.2.2.2.1, mM.2.2.2.2.2) 1).2.2.2.2.1), .int (f_X7_no (0, mM.2.1, mM.2.2.1, mM.2.2.2.1, mM.2.2.2.2.1, mM.2.2.2.2.2) 1).2.2.2.2.2.1, .int (f_X7_no (0, mM.2.1, mM.2.2.1, mM.2.2.2.1, mM.2.2.2.2.1, mM.2.2.2.2.2) 1).2.2.2.2.2.2, .ref zar, .ref zbe, .ref zst, .ref zah, .ref zgd]))]) hP hD [0] [1, 2] rfl rfl (by decide) (by decide) hk1 hFc hP1 hD1
        have hP := hP.sub (ws' := [(zmo, .inr (6, [.int (f_X7_no (0, mM.2.1, mM.2.2.1, mM.2.2.2.1, mM.2.2.2.2.1, mM.2.2.2.2.2) 1).2.1, .int (f_X7_no (0, mM.2.1, mM.2.2.1, mM.2.2.2.1, mM.2.2.2.2.1, mM.2.2.2.2.2) 1).2.2.1, .int (f_X7_no (0, mM.2.1, mM.2.2.1, mM.2.2.2.1, mM.2.2.2.2.1, mM.2.2.2.2.2) 1).2.2.2.1, .int (bI (f_X7_no (0, mM.2.1, mM.2.2.1, mM.2.2.2.1, mM.2.2.2.2.1, mM.2.2.2.2.2) 1).2.2.2.2.1), .int (f_X7_no (0, mM.2.1, mM.2.2.1, mM.2.2.2.1, mM.2.2.2.2.1, mM.2.2.2.2.2) 1).2.2.2.2.2.1, .int (f_X7_no (0, mM.2.1, mM.2.2.1, mM.2.2.2.1, mM.2.2.2.2.1, mM.2.2.2.2.2) 1).2.2.2.2.2.2, .ref zar, .ref zbe, .ref zst, .ref zah, .ref zgd])), (zst, .inr (5, [.int sS.1, .int sS.2.1, .int sS.2.2.1, .long sS.2.2.2, .ref zsa])), (zsa, .inl (cI, 64, .inl aS))]) [2, 0, 1] rfl
        have hD := hD.sub (ws' := [(zmo, .inr (6, [.int (f_X7_no (0, mM.2.1, mM.2.2.1, mM.2.2.2.1, mM.2.2.2.2.1, mM.2.2.2.2.2) 1).2.1, .int (f_X7_no (0, mM.2.1, mM.2.2.1, mM.2.2.2.1, mM.2.2.2.2.1, mM.2.2.2.2.2) 1).2.2.1, .int (f_X7_no (0, mM.2.1, mM.2.2.1, mM.2.2.2.1, mM.2.2.2.2.1, mM.2.2.2.2.2) 1).2.2.2.1, .int (bI (f_X7_no (0, mM.2.1, mM.2.2.1, mM.2.2.2.1, mM.2.2.2.2.1, mM.2.2.2.2.2) 1).2.2.2.2.1), .int (f_X7_no (0, mM.2.1, mM.2.2.1, mM.2.2.2.1, mM.2.2.2.2.1, mM.2.2.2.2.2) 1).2.2.2.2.2.1, .int (f_X7_no (0, mM.2.1, mM.2.2.1, mM.2.2.2.1, mM.2.2.2.2.1, mM.2.2.2.2.2) 1).2.2.2.2.2.2, .ref zar, .ref zbe, .ref zst, .ref zah, .ref zgd])), (zst, .inr (5, [.int sS.1, .int sS.2.1, .int sS.2.2.1, .long sS.2.2.2, .ref zsa])), (zsa, .inl (cI, 64, .inl aS))]) [2, 0, 1] (by decide) rfl
        clear hPc hDc hFc hP1 hD1 hk1
        obtain rfl := Option.some.inj hf
        exact W.iret (v := (f_X7_no (0, mM.2.1, mM.2.2.1, mM.2.2.2.1, mM.2.2.2.2.1, mM.2.2.2.2.2) 1).1) hx hb hr (fun t ht hW => ⟨⟨(f_X7_no (0, mM.2.1, mM.2.2.1, mM.2.2.2.1, mM.2.2.2.2.1, mM.2.2.2.2.2) 1).1, (), rfl, rfl, by rw [ht]; exact hP, va_K.moved hW.alike hK, hD⟩, hS.F ht⟩) hS.2.2 dX7_plant_38
/-! HedgeGlidersModel.pass(I)I -/
def f_X7_pass_ (mM : MoS) (fR : Nat → Int64) (sS : StS) (aS : Nat → Int32) (yr : Int32) : Option (Int32 × MoS × StS × (Nat → Int32)) := if (f_X7_isIn yr 1 50) = 0 then (some ((f_X7_no (0, mM.2.1, mM.2.2.1, mM.2.2.2.1, mM.2.2.2.2.1, mM.2.2.2.2.2) 1).1, (f_X7_no (0, mM.2.1, mM.2.2.1, mM.2.2.2.1, mM.2.2.2.2.1, mM.2.2.2.2.2) 1).2, sS, aS)) else (Option.bind (f_X7_pass (0, mM.2.1, mM.2.2.1, mM.2.2.2.1, mM.2.2.2.2.1, mM.2.2.2.2.2) fR sS aS yr) fun r1 => some ((f_J13_bitCount_95d88 r1.1.2.2.2), (0, mM.2.1, mM.2.2.1, mM.2.2.2.1, mM.2.2.2.2.1, mM.2.2.2.2.2), r1.1, r1.2))
abbrev rm_X7_pass_ : Room := ({ frames := 4, cells := 0, slots := 0, locals := 97 } : Room)
abbrev A_X7_pass_ (cI cJ : ClassId) (zmo zar zst zsa zbe zah zgd : Nat) (mM : MoS) (fR : Nat → Int64) (sS : StS) (aS : Nat → Int32) (yr : Int32) (sz : Nat) : Nat → Prop := va_A [(zmo, .inr (6, [.int mM.1, .int mM.2.1, .int mM.2.2.1, .int (bI mM.2.2.2.1), .int mM.2.2.2.2.1, .int mM.2.2.2.2.2, .ref zar, .ref zbe, .ref zst, .ref zah, .ref zgd])), (zar, .inl (cJ, 64, .inr (.inl fR))), (zst, .inr (5, [.int sS.1, .int sS.2.1, .int sS.2.2.1, .long sS.2.2.2, .ref zsa])), (zsa, .inl (cI, 64, .inl aS))] sz
abbrev Q_X7_pass_ (dC : Nat → ClassId) (dI : Nat → Nat → Nat) (cI cJ : ClassId) (zmo zar zst zsa zbe zah zgd : Nat) (mM : MoS) (fR : Nat → Int64) (sS : StS) (aS : Nat → Int32) (yr : Int32) (sz : Nat) (R : Int32 × MoS × StS × (Nat → Int32)) : Array Value → State → Outcome → State → Prop := va_Qi (fun (r : Int32) (_ : Unit) => r = R.1) (fun u_ t => va_P (dC, dI) vwCl [(zmo, .inr (6, [.int R.2.1.1, .int R.2.1.2.1, .int R.2.1.2.2.1, .int (bI R.2.1.2.2.2.1), .int R.2.1.2.2.2.2.1, .int R.2.1.2.2.2.2.2, .ref zar, .ref zbe, .ref zst, .ref zah, .ref zgd])), (zar, .inl (cJ, 64, .inr (.inl fR))), (zst, .inr (5, [.int R.2.2.1.1, .int R.2.2.1.2.1, .int R.2.2.1.2.2.1, .long R.2.2.1.2.2.2, .ref zsa])), (zsa, .inl (cI, 64, .inl R.2.2.2))] t.heap ∧ va_K (dC, dI) vwCl [(cI, .int), (cJ, .long)] t ∧ va_D (A_X7_pass_ cI cJ zmo zar zst zsa zbe zah zgd mM fR sS aS yr sz) [(zmo, .inr (6, [.int R.2.1.1, .int R.2.1.2.1, .int R.2.1.2.2.1, .int (bI R.2.1.2.2.2.1), .int R.2.1.2.2.2.2.1, .int R.2.1.2.2.2.2.2, .ref zar, .ref zbe, .ref zst, .ref zah, .ref zgd])), (zar, .inl (cJ, 64, .inr (.inl fR))), (zst, .inr (5, [.int R.2.2.1.1, .int R.2.2.1.2.1, .int R.2.2.1.2.2.1, .long R.2.2.1.2.2.2, .ref zsa])), (zsa, .inl (cI, 64, .inl R.2.2.2))]) (A_X7_pass_ cI cJ zmo zar zst zsa zbe zah zgd mM fR sS aS yr sz)
set_option maxHeartbeats 4000000 in
set_option maxRecDepth 100000 in
theorem c_X7_pass_ (l : Launch) (dC : Nat → ClassId) (dI : Nat → Nat → Nat) (cI cJ : ClassId) (zmo zar zst zsa zbe zah zgd : Nat) (sz : Nat) (mM : MoS) (fR : Nat → Int64) (sS : StS) (aS : Nat → Int32) (yr : Int32) (R : Int32 × MoS × StS × (Nat → Int32)) (hR : f_X7_pass_ mM fR sS aS yr = some R) : Met l yX7_pass_ wsX7_pass_ rm_X7_pass_ (va_Pc [.ref zmo, .int yr] (fun U => U.heap.size = sz ∧ va_P (dC, dI) vwCl [(zmo, .inr (6, [.int mM.1, .int mM.2.1, .int mM.2.2.1, .int (bI mM.2.2.2.1), .int mM.2.2.2.2.1, .int mM.2.2.2.2.2, .ref zar, .ref zbe, .ref zst, .ref zah, .ref zgd])), (zar, .inl (cJ, 64, .inr (.inl fR))), (zst, .inr (5, [.int sS.1, .int sS.2.1, .int sS.2.2.1, .long sS.2.2.2, .ref zsa])), (zsa, .inl (cI, 64, .inl aS))] U.heap ∧ va_K (dC, dI) vwCl [(cI, .int), (cJ, .long)] U ∧ va_D (fun _ => True) [(zmo, .inr (6, [.int mM.1, .int mM.2.1, .int mM.2.2.1, .int (bI mM.2.2.2.1), .int mM.2.2.2.2.1, .int mM.2.2.2.2.2, .ref zar, .ref zbe, .ref zst, .ref zah, .ref zgd])), (zar, .inl (cJ, 64, .inr (.inl fR))), (zst, .inr (5, [.int sS.1, .int sS.2.1, .int sS.2.2.1, .long sS.2.2.2, .ref zsa])), (zsa, .inl (cI, 64, .inl aS))] ∧ nwM U)) (Q_X7_pass_ dC dI cI cJ zmo zar zst zsa zbe zah zgd mM fR sS aS yr sz R) 0 0 (A_X7_pass_ cI cJ zmo zar zst zsa zbe zah zgd mM fR sS aS yr sz) := by
  have hf := hR
  refine Met.ofW (cc := cX7_pass_) (maxL := 2) (ret := (some .int)) (by decide) rfl ?_
  intro p e s m args below meth c s₁ B hml hv
  obtain ⟨hargs, hsz, hP, hK, hD0, hnw⟩ := hv
  have hx := B.exec
  have hb := B.bytes
  have hr := B.returns
  have hts := atoms_spec (ws := wsX7_pass_) B.pre
  have hown : s.vm.findClass RX7 = some m.cls := findClass_of_methodNamed B.named
  have hlocks := B.notSynchronized
  subst hsz
  obtain ⟨hnw_hedges, hnw_ages, hnw_born, hnw_dead, hnw_year⟩ := id hnw
  have hD : va_D (A_X7_pass_ cI cJ zmo zar zst zsa zbe zah zgd mM fR sS aS yr s.heap.size) [(zmo, .inr (6, [.int mM.1, .int mM.2.1, .int mM.2.2.1, .int (bI mM.2.2.2.1), .int mM.2.2.2.2.1, .int mM.2.2.2.2.2, .ref zar, .ref zbe, .ref zst, .ref zah, .ref zgd])), (zar, .inl (cJ, 64, .inr (.inl fR))), (zst, .inr (5, [.int sS.1, .int sS.2.1, .int sS.2.2.1, .long sS.2.2.2, .ref zsa])), (zsa, .inl (cI, 64, .inl aS))] := hD0.self (sz := s.heap.size)
  have hA : ∀ q : Nat, s.heap.size ≤ q → (A_X7_pass_ cI cJ zmo zar zst zsa zbe zah zgd mM fR sS aS yr s.heap.size) q := fun q h => Or.inr h
  have hS : va_S (A_X7_pass_ cI cJ zmo zar zst zsa zbe zah zgd mM fR sS aS yr s.heap.size) s.heap s.heap [] := va_S.rf
  have hinX6 : ∀ w ∈ wsX60, w ∈ wsX7_pass_ := by decide +kernel
  have hinX7 : ∀ w ∈ wsX70, w ∈ wsX7_pass_ := by decide +kernel
  have hw0 := hts (.fieldLink RX7 45 "HedgeGlidersModel" "thrown" "I") (by decide +kernel)
  have hw1 := hts (.fieldLink RX7 32 "HedgeGlidersModel" "s" "LHedgeGlidersModel$State;") (by decide +kernel)
  have hl := lv_entry ([.ref zmo, .int yr]) (n := 2) (Nat.le_of_ble_eq_true rfl)
  have he0 : entryFrame m args 2 = entryFrame m ([.ref zmo, .int yr] : List Value).toArray 2 := by rw [hargs]
  rw [he0, lg_entry_eq]
  generalize (lg_sl ([.ref zmo, .int yr]) ++ List.replicate (2 - (lg_sl ([.ref zmo, .int yr])).length) Slot.unset).toArray = ls at hl ⊢
  have hl : lv_has ls 2 [(0, .ref zmo), (1, .int yr)] := hl
  rw [f_X7_pass_] at hf
  refine lv_aload_n hx hb dX7_pass__0 rfl (lv_at hl 0 rfl) ?_
  refine lv_iconst (v := 0) hx hb dX7_pass__1 (by decide) ?_
  refine va_put (D := (dC, dI)) (ci := 6) (v := .int 0) (ty := .int) (C := RX7) (T := TX7) (N := 11) hx hb hts hinX7 tyX7 tyX7_ok nmX7 hown hK hP hD hS 0 rfl rfl 0 (by decide) hw0 (fun _ h9 => h9) rfl (by decide +kernel) rfl rfl (Nat.le_of_ble_eq_true rfl) dX7_pass__2 (fun H locs hP hD hS => ?_)
  have hP : va_P (dC, dI) vwCl [(zmo, .inr (6, [.int 0, .int mM.2.1, .int mM.2.2.1, .int (bI mM.2.2.2.1), .int mM.2.2.2.2.1, .int mM.2.2.2.2.2, .ref zar, .ref zbe, .ref zst, .ref zah, .ref zgd])), (zar, .inl (cJ, 64, .inr (.inl fR))), (zst, .inr (5, [.int sS.1, .int sS.2.1, .int sS.2.2.1, .long sS.2.2.2, .ref zsa])), (zsa, .inl (cI, 64, .inl aS))] H := hP
  have hD : va_D (A_X7_pass_ cI cJ zmo zar zst zsa zbe zah zgd mM fR sS aS yr s.heap.size) [(zmo, .inr (6, [.int 0, .int mM.2.1, .int mM.2.2.1, .int (bI mM.2.2.2.1), .int mM.2.2.2.2.1, .int mM.2.2.2.2.2, .ref zar, .ref zbe, .ref zst, .ref zah, .ref zgd])), (zar, .inl (cJ, 64, .inr (.inl fR))), (zst, .inr (5, [.int sS.1, .int sS.2.1, .int sS.2.2.1, .long sS.2.2.2, .ref zsa])), (zsa, .inl (cI, 64, .inl aS))] := hD
  refine lv_iload_n hx hb dX7_pass__5 rfl (lv_at hl 1 rfl) ?_
  refine lv_iconst (v := 1) hx hb dX7_pass__6 (by decide) ?_
  refine lv_bipush (v := 50) hx hb dX7_pass__7 (by decide) ?_
  have hPc := hP.sub (ws' := []) [] rfl
  have hDc := hD.sub (ws' := []) [] (by decide) rfl
  have hFc := va_free (wc := []) hD hS hA [] rfl
  refine va_calli (va_runS (As := [.int yr, .int 1, .int 50]) (rest := []) ⟨hx, hb, hml, hown, hts⟩ (c_X7_isIn l dC dI cI cJ  H.size yr 1 50) (va_cwS 3 hts gX7_pass__X7_isIn rfl rfl rfl (by decide +kernel) ⟨Nat.le_of_ble_eq_true rfl, Nat.le_of_ble_eq_true rfl⟩) ⟨fun a U gg mk q => by obtain ⟨q0, q1, qP, qK, qD⟩ := q; exact ⟨q0, q1, qP, va_K.moved (u := U) (U := U.calling gg mk a) (Vm.Alike.refl U.vm) qK, qD⟩, fun U hU hW => ⟨rfl, by rw [hU], by rw [hU]; exact hPc, va_K.moved hW.alike hK, hDc.weaken (fun _ _ _ _ => trivial)⟩⟩ rfl rfl hl.1 rfl (lv_room (Nat.le_of_ble_eq_true rfl)) dX7_pass__9 ⟨Nat.zero_le _, Nat.zero_le _⟩) hS (fun q _ h => hFc q h) hFc (fun r_ u_ t H locs ht hvm hw hB hz1 hk1 hS => ?_)
  obtain rfl := hw.symm
  obtain ⟨hP1, -, hD1⟩ := hB
  rw [ht] at hP1
  obtain ⟨hP, hD⟩ := va_join (wr := [(zmo, .inr (6, [.int 0, .int mM.2.1, .int mM.2.2.1, .int (bI mM.2.2.2.1), .int mM.2.2.2.2.1, .int mM.2.2.2.2.2, .ref zar, .ref zbe, .ref zst, .ref zah, .ref zgd])), (zar, .inl (cJ, 64, .inr (.inl fR))), (zst, .inr (5, [.int sS.1, .int sS.2.1, .int sS.2.2.1, .long sS.2.2.2, .ref zsa])), (zsa, .inl (cI, 64, .inl aS))]) (w1 := []) hP hD [] [0, 1, 2, 3] rfl rfl (by decide) (by decide) hk1 hFc hP1 hD1
  have hP := hP.sub (ws' := [(zmo, .inr (6, [.int 0, .int mM.2.1, .int mM.2.2.1, .int (bI mM.2.2.2.1), .int mM.2.2.2.2.1, .int mM.2.2.2.2.2, .ref zar, .ref zbe, .ref zst, .ref zah, .ref zgd])), (zar, .inl (cJ, 64, .inr (.inl fR))), (zst, .inr (5, [.int sS.1, .int sS.2.1, .int sS.2.2.1, .long sS.2.2.2, .ref zsa])), (zsa, .inl (cI, 64, .inl aS))]) [0, 1, 2, 3] rfl
  have hD := hD.sub (ws' := [(zmo, .inr (6, [.int 0, .int mM.2.1, .int mM.2.2.1, .int (bI mM.2.2.2.1), .int mM.2.2.2.2.1, .int mM.2.2.2.2.2, .ref zar, .ref zbe, .ref zst, .ref zah, .ref zgd])), (zar, .inl (cJ, 64, .inr (.inl fR))), (zst, .inr (5, [.int sS.1, .int sS.2.1, .int sS.2.2.1, .long sS.2.2.2, .ref zsa])), (zsa, .inl (cI, 64, .inl aS))]) [0, 1, 2, 3] (by decide) rfl
  clear hPc hDc hFc hP1 hD1 hk1
  refine lv_if_eq (tgt := 33) hx hb dX7_pass__12 (by decide) (fun hc => ?_) (fun hc => ?_)
  · rw [if_pos hc] at hf
    refine lv_aload_n hx hb dX7_pass__33 rfl (lv_at hl 0 rfl) ?_
    refine lv_iconst (v := 1) hx hb dX7_pass__34 (by decide) ?_
    have hPc := hP.sub (ws' := [(zmo, .inr (6, [.int 0, .int mM.2.1, .int mM.2.2.1, .int (bI mM.2.2.2.1), .int mM.2.2.2.2.1, .int mM.2.2.2.2.2, .ref zar, .ref zbe, .ref zst, .ref zah, .ref zgd]))]) [0] rfl
    have hDc := hD.sub (ws' := [(zmo, .inr (6, [.int 0, .int mM.2.1, .int mM.2.2.1, .int (bI mM.2.2.2.1), .int mM.2.2.2.2.1, .int mM.2.2.2.2.2, .ref zar, .ref zbe, .ref zst, .ref zah, .ref zgd]))]) [0] (by decide) rfl
    have hFc := va_free (wc := [(zmo, .inr (6, [.int 0, .int mM.2.1, .int mM.2.2.1, .int (bI mM.2.2.2.1), .int mM.2.2.2.2.1, .int mM.2.2.2.2.2, .ref zar, .ref zbe, .ref zst, .ref zah, .ref zgd]))]) hD hS hA [0] rfl
    refine va_calli (va_runV (As := [.int 1]) (rest := []) ⟨hx, hb, hml, hown, hts⟩ (c_X7_no l dC dI cI cJ zmo zar zbe zst zah zgd H.size (0, mM.2.1, mM.2.2.1, mM.2.2.2.1, mM.2.2.2.2.1, mM.2.2.2.2.2) 1) (cwV 1 hts gX7_pass__X7_no rfl rfl rfl (by decide +kernel) ⟨Nat.le_of_ble_eq_true rfl, Nat.le_of_ble_eq_true rfl⟩) ⟨fun a U gg mk q => by obtain ⟨q0, q1, qP, qK, qD⟩ := q; exact ⟨q0, q1, qP, va_K.moved (u := U) (U := U.calling gg mk a) (Vm.Alike.refl U.vm) qK, qD⟩, va_recv hK hPc (ci := 6) (q0 := 0) rfl rfl, fun U hU hW => ⟨rfl, by rw [hU], by rw [hU]; exact hPc, va_K.moved hW.alike hK, hDc.weaken (fun _ _ _ _ => trivial)⟩⟩ rfl rfl hl.1 rfl (lv_room (Nat.le_of_ble_eq_true rfl)) dX7_pass__35 ⟨Nat.zero_le _, Nat.zero_le _⟩) hS (fun q _ h => hFc q h) hFc (fun r_ u_ t H locs ht hvm hw hB hz1 hk1 hS => ?_)
    obtain rfl := hw.symm
    obtain ⟨hP1, -, hD1⟩ := hB
    rw [ht] at hP1
    obtain ⟨hP, hD⟩ := va_join (wr := [(zar, .inl (cJ, 64, .inr (.inl fR))), (zst, .inr (5, [.int sS.1, .int sS.2.1, .int sS.2.2.1, .long sS.2.2.2, .ref zsa])), (zsa, .inl (cI, 64, .inl aS))]) (w1 := [(zmo, .inr (6, [.int (f_X7_no (0, mM.2.1, mM.2.2.1, mM.2.2.2.1, mM.2.2.2.2.1, mM.2.2.2.2.2) 1).2.1, .int (f_X7_no (0, mM.2.1, mM.2.2.1, mM.2.2.2.1, mM.2.2.2.2.1, mM.2.2.2.2.2) 1).2.2.1, .int (f_X7_no (0, mM.2.1, mM.2.2.1, mM.2.2.2.1, mM.2.2.2.2.1, mM.2.2.2.2.2) 1).2.2.2.1, .int (bI (f_X7_no (0, mM.2.1, mM.2.2.1, mM.2.2.2.1, mM.2.2.2.2.1, mM.2.2.2.2.2) 1).2.2.2.2.1), .int (f_X7_no (0, mM.2.1, mM.2.2.1, mM.2.2.2.1, mM.2.2.2.2.1, mM.2.2.2.2.2) 1).2.2.2.2.2.1, .int (f_X7_no (0, mM.2.1, mM.2.2.1, mM.2.2.2.1, mM.2.2.2.2.1, mM.2.2.2.2.2) 1).2.2.2.2.2.2, .ref zar, .ref zbe, .ref zst, .ref zah, .ref zgd]))]) hP hD [0] [1, 2, 3] rfl rfl (by decide) (by decide) hk1 hFc hP1 hD1
    have hP := hP.sub (ws' := [(zmo, .inr (6, [.int (f_X7_no (0, mM.2.1, mM.2.2.1, mM.2.2.2.1, mM.2.2.2.2.1, mM.2.2.2.2.2) 1).2.1, .int (f_X7_no (0, mM.2.1, mM.2.2.1, mM.2.2.2.1, mM.2.2.2.2.1, mM.2.2.2.2.2) 1).2.2.1, .int (f_X7_no (0, mM.2.1, mM.2.2.1, mM.2.2.2.1, mM.2.2.2.2.1, mM.2.2.2.2.2) 1).2.2.2.1, .int (bI (f_X7_no (0, mM.2.1, mM.2.2.1, mM.2.2.2.1, mM.2.2.2.2.1, mM.2.2.2.2.2) 1).2.2.2.2.1), .int (f_X7_no (0, mM.2.1, mM.2.2.1, mM.2.2.2.1, mM.2.2.2.2.1, mM.2.2.2.2.2) 1).2.2.2.2.2.1, .int (f_X7_no (0, mM.2.1, mM.2.2.1, mM.2.2.2.1, mM.2.2.2.2.1, mM.2.2.2.2.2) 1).2.2.2.2.2.2, .ref zar, .ref zbe, .ref zst, .ref zah, .ref zgd])), (zar, .inl (cJ, 64, .inr (.inl fR))), (zst, .inr (5, [.int sS.1, .int sS.2.1, .int sS.2.2.1, .long sS.2.2.2, .ref zsa])), (zsa, .inl (cI, 64, .inl aS))]) [3, 0, 1, 2] rfl
    have hD := hD.sub (ws' := [(zmo, .inr (6, [.int (f_X7_no (0, mM.2.1, mM.2.2.1, mM.2.2.2.1, mM.2.2.2.2.1, mM.2.2.2.2.2) 1).2.1, .int (f_X7_no (0, mM.2.1, mM.2.2.1, mM.2.2.2.1, mM.2.2.2.2.1, mM.2.2.2.2.2) 1).2.2.1, .int (f_X7_no (0, mM.2.1, mM.2.2.1, mM.2.2.2.1, mM.2.2.2.2.1, mM.2.2.2.2.2) 1).2.2.2.1, .int (bI (f_X7_no (0, mM.2.1, mM.2.2.1, mM.2.2.2.1, mM.2.2.2.2.1, mM.2.2.2.2.2) 1).2.2.2.2.1), .int (f_X7_no (0, mM.2.1, mM.2.2.1, mM.2.2.2.1, mM.2.2.2.2.1, mM.2.2.2.2.2) 1).2.2.2.2.2.1, .int (f_X7_no (0, mM.2.1, mM.2.2.1, mM.2.2.2.1, mM.2.2.2.2.1, mM.2.2.2.2.2) 1).2.2.2.2.2.2, .ref zar, .ref zbe, .ref zst, .ref zah, .ref zgd])), (zar, .inl (cJ, 64, .inr (.inl fR))), (zst, .inr (5, [.int sS.1, .int sS.2.1, .int sS.2.2.1, .long sS.2.2.2, .ref zsa])), (zsa, .inl (cI, 64, .inl aS))]) [3, 0, 1, 2] (by decide) rfl
    clear hPc hDc hFc hP1 hD1 hk1
    obtain rfl := Option.some.inj hf
    exact W.iret (v := (f_X7_no (0, mM.2.1, mM.2.2.1, mM.2.2.2.1, mM.2.2.2.2.1, mM.2.2.2.2.2) 1).1) hx hb hr (fun t ht hW => ⟨⟨(f_X7_no (0, mM.2.1, mM.2.2.1, mM.2.2.2.1, mM.2.2.2.2.1, mM.2.2.2.2.2) 1).1, (), rfl, rfl, by rw [ht]; exact hP, va_K.moved hW.alike hK, hD⟩, hS.F ht⟩) hS.2.2 dX7_pass__38
  · rw [if_neg hc] at hf
    refine lv_aload_n hx hb dX7_pass__15 rfl (lv_at hl 0 rfl) ?_
    refine lv_aload_n hx hb dX7_pass__16 rfl (lv_at hl 0 rfl) ?_
    refine va_get (D := (dC, dI)) (ci := 6) (v := .ref zst) (C := RX7) (T := TX7) (N := 11) hx hb hts hinX7 hown hK hP 0 rfl rfl 8 (by decide) hw1 (fun _ h9 => h9) rfl dX7_pass__17 ?_
    refine lv_iload_n hx hb dX7_pass__20 rfl (lv_at hl 1 rfl) ?_
    obtain ⟨r1, hr1, hf⟩ := obind hf
    have hPc := hP.sub (ws' := [(zmo, .inr (6, [.int 0, .int mM.2.1, .int mM.2.2.1, .int (bI mM.2.2.2.1), .int mM.2.2.2.2.1, .int mM.2.2.2.2.2, .ref zar, .ref zbe, .ref zst, .ref zah, .ref zgd])), (zar, .inl (cJ, 64, .inr (.inl fR))), (zst, .inr (5, [.int sS.1, .int sS.2.1, .int sS.2.2.1, .long sS.2.2.2, .ref zsa])), (zsa, .inl (cI, 64, .inl aS))]) [0, 1, 2, 3] rfl
    have hDc := hD.sub (ws' := [(zmo, .inr (6, [.int 0, .int mM.2.1, .int mM.2.2.1, .int (bI mM.2.2.2.1), .int mM.2.2.2.2.1, .int mM.2.2.2.2.2, .ref zar, .ref zbe, .ref zst, .ref zah, .ref zgd])), (zar, .inl (cJ, 64, .inr (.inl fR))), (zst, .inr (5, [.int sS.1, .int sS.2.1, .int sS.2.2.1, .long sS.2.2.2, .ref zsa])), (zsa, .inl (cI, 64, .inl aS))]) [0, 1, 2, 3] (by decide) rfl
    have hFc := va_free (wc := [(zmo, .inr (6, [.int 0, .int mM.2.1, .int mM.2.2.1, .int (bI mM.2.2.2.1), .int mM.2.2.2.2.1, .int mM.2.2.2.2.2, .ref zar, .ref zbe, .ref zst, .ref zah, .ref zgd])), (zar, .inl (cJ, 64, .inr (.inl fR))), (zst, .inr (5, [.int sS.1, .int sS.2.1, .int sS.2.2.1, .long sS.2.2.2, .ref zsa])), (zsa, .inl (cI, 64, .inl aS))]) hD hS hA [0, 1, 2, 3] rfl
    refine va_callr (va_runV (As := [.ref zst, .int yr]) (rest := []) ⟨hx, hb, hml, hown, hts⟩ (c_X7_pass l dC dI cI cJ zmo zar zst zsa zbe zst zah zgd H.size (0, mM.2.1, mM.2.2.1, mM.2.2.2.1, mM.2.2.2.2.1, mM.2.2.2.2.2) fR sS aS yr _ hr1) (cwV 2 hts gX7_pass__X7_pass rfl rfl rfl (by decide +kernel) ⟨Nat.le_of_ble_eq_true rfl, Nat.le_of_ble_eq_true rfl⟩) ⟨fun a U gg mk q => by obtain ⟨q0, q1, qP, qK, qD, qn⟩ := q; exact ⟨q0, q1, qP, va_K.moved (u := U) (U := U.calling gg mk a) (Vm.Alike.refl U.vm) qK, qD, nwM.same (u := U) (U := U.calling gg mk a) rfl qn⟩, va_recv hK hPc (ci := 6) (q0 := 0) rfl rfl, fun U hU hW => ⟨rfl, by rw [hU], by rw [hU]; exact hPc, va_K.moved hW.alike hK, hDc.weaken (fun _ _ _ _ => trivial), nwM.moved hW hnw⟩⟩ rfl rfl hl.1 rfl (lv_room (Nat.le_of_ble_eq_true rfl)) dX7_pass__21 ⟨Nat.zero_le _, Nat.zero_le _⟩) hS (fun q _ h => hFc q h) hFc (fun u_ ra_ t H locs ht hvm hw hB hz1 hk1 hS => ?_)
    obtain ⟨hra, hP1, -, hD1⟩ := hB
    obtain rfl := hra.symm
    rw [ht] at hP1
    obtain ⟨hP, hD⟩ := va_join (wr := []) (w1 := [(zmo, .inr (6, [.int 0, .int mM.2.1, .int mM.2.2.1, .int (bI mM.2.2.2.1), .int mM.2.2.2.2.1, .int mM.2.2.2.2.2, .ref zar, .ref zbe, .ref zst, .ref zah, .ref zgd])), (zar, .inl (cJ, 64, .inr (.inl fR))), (zst, .inr (5, [.int r1.1.1, .int r1.1.2.1, .int r1.1.2.2.1, .long r1.1.2.2.2, .ref zsa])), (zsa, .inl (cI, 64, .inl r1.2))]) hP hD [0, 1, 2, 3] [] rfl rfl (by decide) (by decide) hk1 hFc hP1 hD1
    have hP := hP.sub (ws' := [(zmo, .inr (6, [.int 0, .int mM.2.1, .int mM.2.2.1, .int (bI mM.2.2.2.1), .int mM.2.2.2.2.1, .int mM.2.2.2.2.2, .ref zar, .ref zbe, .ref zst, .ref zah, .ref zgd])), (zar, .inl (cJ, 64, .inr (.inl fR))), (zst, .inr (5, [.int r1.1.1, .int r1.1.2.1, .int r1.1.2.2.1, .long r1.1.2.2.2, .ref zsa])), (zsa, .inl (cI, 64, .inl r1.2))]) [0, 1, 2, 3] rfl
    have hD := hD.sub (ws' := [(zmo, .inr (6, [.int 0, .int mM.2.1, .int mM.2.2.1, .int (bI mM.2.2.2.1), .int mM.2.2.2.2.1, .int mM.2.2.2.2.2, .ref zar, .ref zbe, .ref zst, .ref zah, .ref zgd])), (zar, .inl (cJ, 64, .inr (.inl fR))), (zst, .inr (5, [.int r1.1.1, .int r1.1.2.1, .int r1.1.2.2.1, .long r1.1.2.2.2, .ref zsa])), (zsa, .inl (cI, 64, .inl r1.2))]) [0, 1, 2, 3] (by decide) rfl
    clear hPc hDc hFc hP1 hD1 hk1
    refine va_getN (D := (dC, dI)) (ci := 5) (v := .long r1.1.2.2.2) (C := RX6) (T := TX6) (N := 5) hx hb hts hinX6 hown hK hP 2 rfl rfl 3 (by decide) (va_Nw.use rfl hnw_hedges) (fun _ h9 => h9) rfl dX7_pass__24 ?_
    have hPc := hP.sub (ws' := []) [] rfl
    have hDc := hD.sub (ws' := []) [] (by decide) rfl
    have hFc := va_free (wc := []) hD hS hA [] rfl
    refine va_calli (va_runS (As := [.long r1.1.2.2.2]) (rest := []) ⟨hx, hb, hml, hown, hts⟩ (c_J13_bitCount_95d88 l dC dI cI cJ  H.size r1.1.2.2.2) (va_cwS 1 hts gX7_pass__J13_bitCount_95d88 rfl rfl rfl (by decide +kernel) ⟨Nat.le_of_ble_eq_true rfl, Nat.le_of_ble_eq_true rfl⟩) ⟨fun a U gg mk q => by obtain ⟨q0, q1, qP, qK, qD⟩ := q; exact ⟨q0, q1, qP, va_K.moved (u := U) (U := U.calling gg mk a) (Vm.Alike.refl U.vm) qK, qD⟩, fun U hU hW => ⟨rfl, by rw [hU], by rw [hU]; exact hPc, va_K.moved hW.alike hK, hDc.weaken (fun _ _ _ _ => trivial)⟩⟩ rfl rfl hl.1 rfl (lv_room (Nat.le_of_ble_eq_true rfl)) dX7_pass__27 ⟨Nat.zero_le _, Nat.zero_le _⟩) hS (fun q _ h => hFc q h) hFc (fun r_ u_ t H locs ht hvm hw hB hz1 hk1 hS => ?_)
    obtain rfl := hw.symm
    obtain ⟨hP1, -, hD1⟩ := hB
    rw [ht] at hP1
    obtain ⟨hP, hD⟩ := va_join (wr := [(zmo, .inr (6, [.int 0, .int mM.2.1, .int mM.2.2.1, .int (bI mM.2.2.2.1), .int mM.2.2.2.2.1, .int mM.2.2.2.2.2, .ref zar, .ref zbe, .ref zst, .ref zah, .ref zgd])), (zar, .inl (cJ, 64, .inr (.inl fR))), (zst, .inr (5, [.int r1.1.1, .int r1.1.2.1, .int r1.1.2.2.1, .long r1.1.2.2.2, .ref zsa])), (zsa, .inl (cI, 64, .inl r1.2))]) (w1 := []) hP hD [] [0, 1, 2, 3] rfl rfl (by decide) (by decide) hk1 hFc hP1 hD1
    have hP := hP.sub (ws' := [(zmo, .inr (6, [.int 0, .int mM.2.1, .int mM.2.2.1, .int (bI mM.2.2.2.1), .int mM.2.2.2.2.1, .int mM.2.2.2.2.2, .ref zar, .ref zbe, .ref zst, .ref zah, .ref zgd])), (zar, .inl (cJ, 64, .inr (.inl fR))), (zst, .inr (5, [.int r1.1.1, .int r1.1.2.1, .int r1.1.2.2.1, .long r1.1.2.2.2, .ref zsa])), (zsa, .inl (cI, 64, .inl r1.2))]) [0, 1, 2, 3] rfl
    have hD := hD.sub (ws' := [(zmo, .inr (6, [.int 0, .int mM.2.1, .int mM.2.2.1, .int (bI mM.2.2.2.1), .int mM.2.2.2.2.1, .int mM.2.2.2.2.2, .ref zar, .ref zbe, .ref zst, .ref zah, .ref zgd])), (zar, .inl (cJ, 64, .inr (.inl fR))), (zst, .inr (5, [.int r1.1.1, .int r1.1.2.1, .int r1.1.2.2.1, .long r1.1.2.2.2, .ref zsa])), (zsa, .inl (cI, 64, .inl r1.2))]) [0, 1, 2, 3] (by decide) rfl
    clear hPc hDc hFc hP1 hD1 hk1
    refine lv_goto (tgt := 38) hx hb dX7_pass__30 (by decide) ?_
    obtain rfl := Option.some.inj hf
    exact W.iret (v := (f_J13_bitCount_95d88 r1.1.2.2.2)) hx hb hr (fun t ht hW => ⟨⟨(f_J13_bitCount_95d88 r1.1.2.2.2), (), rfl, rfl, by rw [ht]; exact hP, va_K.moved hW.alike hK, hD⟩, hS.F ht⟩) hS.2.2 dX7_pass__38
