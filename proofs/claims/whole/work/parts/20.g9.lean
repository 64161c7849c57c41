/-! HedgeGlidersModel.toldOf(II)I -/
def f_X7_toldOf (mM : MoS) (fR : Nat → Int64) (fB : Nat → Int64) (sS : StS) (aS : Nat → Int32) (ce : Int32) (wh : Int32) : Option (Int32) := if wh = 0 then (if (f_X6_has sS ce) = 0 then (some 0) else (some 1)) else if wh = 1 then (if ce < 0 ∨ 64 ≤ ce.toNatClampNeg then none else some (f_J13_bitCount_95d88 (sS.2.2.2 &&& (fR ce.toNatClampNeg)))) else if wh = 2 then (if (f_X6_has sS ce) = 0 then (some (-1)) else (if ce < 0 ∨ 64 ≤ ce.toNatClampNeg then none else some (aS ce.toNatClampNeg))) else if wh = 3 then (Option.bind (f_X7_lawn mM fB (f_X7_open mM sS) ce) fun r1 => some (f_J13_bitCount_95d88 r1)) else (Option.bind (f_X7_comes mM fR sS.2.2.2 ce) fun r2 => if r2 = 0 then (some 0) else (some 1))
abbrev rm_X7_toldOf : Room := ({ frames := 2, cells := 0, slots := 0, locals := 46 } : Room)
abbrev A_X7_toldOf (cI cJ : ClassId) (zmo zar zbe zst zsa zah zgd : Nat) (mM : MoS) (fR : Nat → Int64) (fB : Nat → Int64) (sS : StS) (aS : Nat → Int32) (ce : Int32) (wh : Int32) (sz : Nat) : Nat → Prop := va_A [(zmo, .inr (6, [.int mM.1, .int mM.2.1, .int mM.2.2.1, .int (bI mM.2.2.2.1), .int mM.2.2.2.2.1, .int mM.2.2.2.2.2, .ref zar, .ref zbe, .ref zst, .ref zah, .ref zgd])), (zar, .inl (cJ, 64, .inr (.inl fR))), (zbe, .inl (cJ, 64, .inr (.inl fB))), (zst, .inr (5, [.int sS.1, .int sS.2.1, .int sS.2.2.1, .long sS.2.2.2, .ref zsa])), (zsa, .inl (cI, 64, .inl aS))] sz
abbrev Q_X7_toldOf (dC : Nat → ClassId) (dI : Nat → Nat → Nat) (cI cJ : ClassId) (zmo zar zbe zst zsa zah zgd : Nat) (mM : MoS) (fR : Nat → Int64) (fB : Nat → Int64) (sS : StS) (aS : Nat → Int32) (ce : Int32) (wh : Int32) (sz : Nat) (R : Int32) : Array Value → State → Outcome → State → Prop := va_Qi (fun (r : Int32) (_ : Unit) => r = R) (fun u_ t => va_P (dC, dI) vwCl [(zmo, .inr (6, [.int mM.1, .int mM.2.1, .int mM.2.2.1, .int (bI mM.2.2.2.1), .int mM.2.2.2.2.1, .int mM.2.2.2.2.2, .ref zar, .ref zbe, .ref zst, .ref zah, .ref zgd])), (zar, .inl (cJ, 64, .inr (.inl fR))), (zbe, .inl (cJ, 64, .inr (.inl fB))), (zst, .inr (5, [.int sS.1, .int sS.2.1, .int sS.2.2.1, .long sS.2.2.2, .ref zsa])), (zsa, .inl (cI, 64, .inl aS))] t.heap ∧ va_K (dC, dI) vwCl [(cI, .int), (cJ, .long)] t ∧ va_D (A_X7_toldOf cI cJ zmo zar zbe zst zsa zah zgd mM fR fB sS aS ce wh sz) [(zmo, .inr (6, [.int mM.1, .int mM.2.1, .int mM.2.2.1, .int (bI mM.2.2.2.1), .int mM.2.2.2.2.1, .int mM.2.2.2.2.2, .ref zar, .ref zbe, .ref zst, .ref zah, .ref zgd])), (zar, .inl (cJ, 64, .inr (.inl fR))), (zbe, .inl (cJ, 64, .inr (.inl fB))), (zst, .inr (5, [.int sS.1, .int sS.2.1, .int sS.2.2.1, .long sS.2.2.2, .ref zsa])), (zsa, .inl (cI, 64, .inl aS))]) (A_X7_toldOf cI cJ zmo zar zbe zst zsa zah zgd mM fR fB sS aS ce wh sz)
set_option maxHeartbeats 4000000 in
set_option maxRecDepth 100000 in
theorem c_X7_toldOf (l : Launch) (dC : Nat → ClassId) (dI : Nat → Nat → Nat) (cI cJ : ClassId) (zmo zar zbe zst zsa zah zgd : Nat) (sz : Nat) (mM : MoS) (fR : Nat → Int64) (fB : Nat → Int64) (sS : StS) (aS : Nat → Int32) (ce : Int32) (wh : Int32) (R : Int32) (hR : f_X7_toldOf mM fR fB sS aS ce wh = some R) : Met l yX7_toldOf wsX7_toldOf rm_X7_toldOf (va_Pc [.ref zmo, .int ce, .int wh] (fun U => U.heap.size = sz ∧ va_P (dC, dI) vwCl [(zmo, .inr (6, [.int mM.1, .int mM.2.1, .int mM.2.2.1, .int (bI mM.2.2.2.1), .int mM.2.2.2.2.1, .int mM.2.2.2.2.2, .ref zar, .ref zbe, .ref zst, .ref zah, .ref zgd])), (zar, .inl (cJ, 64, .inr (.inl fR))), (zbe, .inl (cJ, 64, .inr (.inl fB))), (zst, .inr (5, [.int sS.1, .int sS.2.1, .int sS.2.2.1, .long sS.2.2.2, .ref zsa])), (zsa, .inl (cI, 64, .inl aS))] U.heap ∧ va_K (dC, dI) vwCl [(cI, .int), (cJ, .long)] U ∧ va_D (fun _ => True) [(zmo, .inr (6, [.int mM.1, .int mM.2.1, .int mM.2.2.1, .int (bI mM.2.2.2.1), .int mM.2.2.2.2.1, .int mM.2.2.2.2.2, .ref zar, .ref zbe, .ref zst, .ref zah, .ref zgd])), (zar, .inl (cJ, 64, .inr (.inl fR))), (zbe, .inl (cJ, 64, .inr (.inl fB))), (zst, .inr (5, [.int sS.1, .int sS.2.1, .int sS.2.2.1, .long sS.2.2.2, .ref zsa])), (zsa, .inl (cI, 64, .inl aS))] ∧ nwM U)) (Q_X7_toldOf dC dI cI cJ zmo zar zbe zst zsa zah zgd mM fR fB sS aS ce wh sz R) 0 0 (A_X7_toldOf cI cJ zmo zar zbe zst zsa zah zgd mM fR fB sS aS ce wh sz) := by
  have hf := hR
  refine Met.ofW (cc := cX7_toldOf) (maxL := 3) (ret := (some .int)) (by decide) rfl ?_
  intro p e s m args below meth c s₁ B hml hv
  obtain ⟨hargs, hsz, hP, hK, hD0, hnw⟩ := hv
  have hx := B.exec
  have hb := B.bytes
  have hr := B.returns
  have hts := atoms_spec (ws := wsX7_toldOf) B.pre
  have hown : s.vm.findClass RX7 = some m.cls := findClass_of_methodNamed B.named
  have hlocks := B.notSynchronized
  subst hsz
  obtain ⟨hnw_hedges, hnw_ages, hnw_born, hnw_dead, hnw_year⟩ := id hnw
  have hD : va_D (A_X7_toldOf cI cJ zmo zar zbe zst zsa zah zgd mM fR fB sS aS ce wh s.heap.size) [(zmo, .inr (6, [.int mM.1, .int mM.2.1, .int mM.2.2.1, .int (bI mM.2.2.2.1), .int mM.2.2.2.2.1, .int mM.2.2.2.2.2, .ref zar, .ref zbe, .ref zst, .ref zah, .ref zgd])), (zar, .inl (cJ, 64, .inr (.inl fR))), (zbe, .inl (cJ, 64, .inr (.inl fB))), (zst, .inr (5, [.int sS.1, .int sS.2.1, .int sS.2.2.1, .long sS.2.2.2, .ref zsa])), (zsa, .inl (cI, 64, .inl aS))] := hD0.self (sz := s.heap.size)
  have hA : ∀ q : Nat, s.heap.size ≤ q → (A_X7_toldOf cI cJ zmo zar zbe zst zsa zah zgd mM fR fB sS aS ce wh s.heap.size) q := fun q h => Or.inr h
  have hS : va_S (A_X7_toldOf cI cJ zmo zar zbe zst zsa zah zgd mM fR fB sS aS ce wh s.heap.size) s.heap s.heap [] := va_S.rf
  have hinX6 : ∀ w ∈ wsX60, w ∈ wsX7_toldOf := by decide +kernel
  have hinX7 : ∀ w ∈ wsX70, w ∈ wsX7_toldOf := by decide +kernel
  have hw0 := hts (.fieldLink RX7 32 "HedgeGlidersModel" "s" "LHedgeGlidersModel$State;") (by decide +kernel)
  have hw1 := hts (.fieldLink RX7 22 "HedgeGlidersModel" "around" "[J") (by decide +kernel)
  have hl := lv_entry ([.ref zmo, .int ce, .int wh]) (n := 3) (Nat.le_of_ble_eq_true rfl)
  have he0 : entryFrame m args 3 = entryFrame m ([.ref zmo, .int ce, .int wh] : List Value).toArray 3 := by rw [hargs]
  rw [he0, lg_entry_eq]
  generalize (lg_sl ([.ref zmo, .int ce, .int wh]) ++ List.replicate (3 - (lg_sl ([.ref zmo, .int ce, .int wh])).length) Slot.unset).toArray = ls at hl ⊢
  have hl : lv_has ls 3 [(0, .ref zmo), (1, .int ce), (2, .int wh)] := hl
  rw [f_X7_toldOf] at hf
  refine lv_iload_n hx hb dX7_toldOf_0 rfl (lv_at hl 2 rfl) ?_
  by_cases hc0 : wh = 0
  · rw [if_pos hc0] at hf
    refine lv_tableIn (off := 31) (tgt := 32) hx hb dX7_toldOf_1 (by rw [hc0]; decide) (by rw [hc0]; decide) (by rw [hc0]; rfl) (by decide) ?_
    refine lv_aload_n hx hb dX7_toldOf_32 rfl (lv_at hl 0 rfl) ?_
    refine va_get (D := (dC, dI)) (ci := 6) (v := .ref zst) (C := RX7) (T := TX7) (N := 11) hx hb hts hinX7 hown hK hP 0 rfl rfl 8 (by decide) hw0 (fun _ h9 => h9) rfl dX7_toldOf_33 ?_
    refine lv_iload_n hx hb dX7_toldOf_36 rfl (lv_at hl 1 rfl) ?_
    have hPc := hP.sub (ws' := [(zst, .inr (5, [.int sS.1, .int sS.2.1, .int sS.2.2.1, .long sS.2.2.2, .ref zsa]))]) [3] rfl
    have hDc := hD.sub (ws' := [(zst, .inr (5, [.int sS.1, .int sS.2.1, .int sS.2.2.1, .long sS.2.2.2, .ref zsa]))]) [3] (by decide) rfl
    have hFc := va_free (wc := [(zst, .inr (5, [.int sS.1, .int sS.2.1, .int sS.2.2.1, .long sS.2.2.2, .ref zsa]))]) hD hS hA [3] rfl
    refine va_calli (va_runV (As := [.int ce]) (rest := []) ⟨hx, hb, hml, hown, hts⟩ (c_X6_has l dC dI cI cJ zst zsa s.heap.size sS ce) (cwV 1 hts gX7_toldOf_X6_has rfl rfl rfl (by decide +kernel) ⟨Nat.le_of_ble_eq_true rfl, Nat.le_of_ble_eq_true rfl⟩) ⟨fun a U gg mk q => by obtain ⟨q0, q1, qP, qK, qD⟩ := q; exact ⟨q0, q1, qP, va_K.moved (u := U) (U := U.calling gg mk a) (Vm.Alike.refl U.vm) qK, qD⟩, va_recv hK hPc (ci := 5) (q0 := 0) rfl rfl, fun U hU hW => ⟨rfl, by rw [hU], by rw [hU]; exact hPc, va_K.moved hW.alike hK, hDc.weaken (fun _ _ _ _ => trivial)⟩⟩ rfl rfl hl.1 rfl (lv_room (Nat.le_of_ble_eq_true rfl)) dX7_toldOf_37 ⟨Nat.zero_le _, Nat.zero_le _⟩) hS (fun q _ h => hFc q h) hFc (fun r_ u_ t H locs ht hvm hw hB hz1 hk1 hS => ?_)
    obtain rfl := hw.symm
    obtain ⟨hP1, -, hD1⟩ := hB
    rw [ht] at hP1
    obtain ⟨hP, hD⟩ := va_join (wr := [(zmo, .inr (6, [.int mM.1, .int mM.2.1, .int mM.2.2.1, .int (bI mM.2.2.2.1), .int mM.2.2.2.2.1, .int mM.2.2.2.2.2, .ref zar, .ref zbe, .ref zst, .ref zah, .ref zgd])), (zar, .inl (cJ, 64, .inr (.inl fR))), (zbe, .inl (cJ, 64, .inr (.inl fB))), (zsa, .inl (cI, 64, .inl aS))]) (w1 := [(zst, .inr (5, [.int sS.1, .int sS.2.1, .int sS.2.2.1, .long sS.2.2.2, .ref zsa]))]) hP hD [3] [0, 1, 2, 4] rfl rfl (by decide) (by decide) hk1 hFc hP1 hD1
    have hP := hP.sub (ws' := [(zmo, .inr (6, [.int mM.1, .int mM.2.1, .int mM.2.2.1, .int (bI mM.2.2.2.1), .int mM.2.2.2.2.1, .int mM.2.2.2.2.2, .ref zar, .ref zbe, .ref zst, .ref zah, .ref zgd])), (zar, .inl (cJ, 64, .inr (.inl fR))), (zbe, .inl (cJ, 64, .inr (.inl fB))), (zst, .inr (5, [.int sS.1, .int sS.2.1, .int sS.2.2.1, .long sS.2.2.2, .ref zsa])), (zsa, .inl (cI, 64, .inl aS))]) [0, 1, 2, 4, 3] rfl
    have hD := hD.sub (ws' := [(zmo, .inr (6, [.int mM.1, .int mM.2.1, .int mM.2.2.1, .int (bI mM.2.2.2.1), .int mM.2.2.2.2.1, .int mM.2.2.2.2.2, .ref zar, .ref zbe, .ref zst, .ref zah, .ref zgd])), (zar, .inl (cJ, 64, .inr (.inl fR))), (zbe, .inl (cJ, 64, .inr (.inl fB))), (zst, .inr (5, [.int sS.1, .int sS.2.1, .int sS.2.2.1, .long sS.2.2.2, .ref zsa])), (zsa, .inl (cI, 64, .inl aS))]) [0, 1, 2, 4, 3] (by decide) rfl
    clear hPc hDc hFc hP1 hD1 hk1
    refine lv_if_eq (tgt := 47) hx hb dX7_toldOf_40 (by decide) (fun hc => ?_) (fun hc => ?_)
    · rw [if_pos hc] at hf
      refine lv_iconst (v := 0) hx hb dX7_toldOf_47 (by decide) ?_
      obtain rfl := Option.some.inj hf
      exact W.iret (v := 0) hx hb hr (fun t ht hW => ⟨⟨0, (), rfl, rfl, by rw [ht]; exact hP, va_K.moved hW.alike hK, hD⟩, hS.F ht⟩) hS.2.2 dX7_toldOf_48
    · rw [if_neg hc] at hf
      refine lv_iconst (v := 1) hx hb dX7_toldOf_43 (by decide) ?_
      refine lv_goto (tgt := 48) hx hb dX7_toldOf_44 (by decide) ?_
      obtain rfl := Option.some.inj hf
      exact W.iret (v := 1) hx hb hr (fun t ht hW => ⟨⟨1, (), rfl, rfl, by rw [ht]; exact hP, va_K.moved hW.alike hK, hD⟩, hS.F ht⟩) hS.2.2 dX7_toldOf_48
  · rw [if_neg hc0] at hf
    by_cases hc1 : wh = 1
    · rw [if_pos hc1] at hf
      refine lv_tableIn (off := 48) (tgt := 49) hx hb dX7_toldOf_1 (by rw [hc1]; decide) (by rw [hc1]; decide) (by rw [hc1]; rfl) (by decide) ?_
      refine lv_aload_n hx hb dX7_toldOf_49 rfl (lv_at hl 0 rfl) ?_
      refine va_get (D := (dC, dI)) (ci := 6) (v := .ref zst) (C := RX7) (T := TX7) (N := 11) hx hb hts hinX7 hown hK hP 0 rfl rfl 8 (by decide) hw0 (fun _ h9 => h9) rfl dX7_toldOf_50 ?_
      refine va_getN (D := (dC, dI)) (ci := 5) (v := .long sS.2.2.2) (C := RX6) (T := TX6) (N := 5) hx hb hts hinX6 hown hK hP 3 rfl rfl 3 (by decide) (va_Nw.use rfl hnw_hedges) (fun _ h9 => h9) rfl dX7_toldOf_53 ?_
      refine lv_aload_n hx hb dX7_toldOf_56 rfl (lv_at hl 0 rfl) ?_
      refine va_get (D := (dC, dI)) (ci := 6) (v := .ref zar) (C := RX7) (T := TX7) (N := 11) hx hb hts hinX7 hown hK hP 0 rfl rfl 6 (by decide) hw1 (fun _ h9 => h9) rfl dX7_toldOf_57 ?_
      refine lv_iload_n hx hb dX7_toldOf_60 rfl (lv_at hl 1 rfl) ?_
      have hg0 : ¬ (ce < 0 ∨ 64 ≤ ce.toNatClampNeg) := fun hq => by rw [if_pos hq] at hf; exact nomatch hf
      rw [if_neg hg0] at hf
      have hg : vp_in ce 64 := hg0
      refine va_lald hx hb hK hP 1 1 rfl rfl hg dX7_toldOf_61 ?_
      refine lv_land hx hb dX7_toldOf_62 ?_
      have hPc := hP.sub (ws' := []) [] rfl
      have hDc := hD.sub (ws' := []) [] (by decide) rfl
      have hFc := va_free (wc := []) hD hS hA [] rfl
      refine va_calli (va_runS (As := [.long (sS.2.2.2 &&& (fR ce.toNatClampNeg))]) (rest := []) ⟨hx, hb, hml, hown, hts⟩ (c_J13_bitCount_95d88 l dC dI cI cJ  s.heap.size (sS.2.2.2 &&& (fR ce.toNatClampNeg))) (va_cwS 1 hts gX7_toldOf_J13_bitCount_95d88 rfl rfl rfl (by decide +kernel) ⟨Nat.le_of_ble_eq_true rfl, Nat.le_of_ble_eq_true rfl⟩) ⟨fun a U gg mk q => by obtain ⟨q0, q1, qP, qK, qD⟩ := q; exact ⟨q0, q1, qP, va_K.moved (u := U) (U := U.calling gg mk a) (Vm.Alike.refl U.vm) qK, qD⟩, fun U hU hW => ⟨rfl, by rw [hU], by rw [hU]; exact hPc, va_K.moved hW.alike hK, hDc.weaken (fun _ _ _ _ => trivial)⟩⟩ rfl rfl hl.1 rfl (lv_room (Nat.le_of_ble_eq_true rfl)) dX7_toldOf_63 ⟨Nat.zero_le _, Nat.zero_le _⟩) hS (fun q _ h => hFc q h) hFc (fun r_ u_ t H locs ht hvm hw hB hz1 hk1 hS => ?_)
      obtain rfl := hw.symm
      obtain ⟨hP1, -, hD1⟩ := hB
      rw [ht] at hP1
      obtain ⟨hP, hD⟩ := va_join (wr := [(zmo, .inr (6, [.int mM.1, .int mM.2.1, .int mM.2.2.1, .int (bI mM.2.2.2.1), .int mM.2.2.2.2.1, .int mM.2.2.2.2.2, .ref zar, .ref zbe, .ref zst, .ref zah, .ref zgd])), (zar, .inl (cJ, 64, .inr (.inl fR))), (zbe, .inl (cJ, 64, .inr (.inl fB))), (zst, .inr (5, [.int sS.1, .int sS.2.1, .int sS.2.2.1, .long sS.2.2.2, .ref zsa])), (zsa, .inl (cI, 64, .inl aS))]) (w1 := []) hP hD [] [0, 1, 2, 3, 4] rfl rfl (by decide) (by decide) hk1 hFc hP1 hD1
      have hP := hP.sub (ws' := [(zmo, .inr (6, [.int mM.1, .int mM.2.1, .int mM.2.2.1, .int (bI mM.2.2.2.1), .int mM.2.2.2.2.1, .int mM.2.2.2.2.2, .ref zar, .ref zbe, .ref zst, .ref zah, .ref zgd])), (zar, .inl (cJ, 64, .inr (.inl fR))), (zbe, .inl (cJ, 64, .inr (.inl fB))), (zst, .inr (5, [.int sS.1, .int sS.2.1, .int sS.2.2.1, .long sS.2.2.2, .ref zsa])), (zsa, .inl (cI, 64, .inl aS))]) [0, 1, 2, 3, 4] rfl
      have hD := hD.sub (ws' := [(zmo, .inr (6, [.int mM.1, .int mM.2.1, .int mM.2.2.1, .int (bI mM.2.2.2.1), .int mM.2.2.2.2.1, .int mM.2.2.2.2.2, .ref zar, .ref zbe, .ref zst, .ref zah, .ref zgd])), (zar, .inl (cJ, 64, .inr (.inl fR))), (zbe, .inl (cJ, 64, .inr (.inl fB))), (zst, .inr (5, [.int sS.1, .int sS.2.1, .int sS.2.2.1, .long sS.2.2.2, .ref zsa])), (zsa, .inl (cI, 64, .inl aS))]) [0, 1, 2, 3, 4] (by decide) rfl
      clear hPc hDc hFc hP1 hD1 hk1
      obtain rfl := Option.some.inj hf
      exact W.iret (v := (f_J13_bitCount_95d88 (sS.2.2.2 &&& (fR ce.toNatClampNeg)))) hx hb hr (fun t ht hW => ⟨⟨(f_J13_bitCount_95d88 (sS.2.2.2 &&& (fR ce.toNatClampNeg))), (), rfl, rfl, by rw [ht]; exact hP, va_K.moved hW.alike hK, hD⟩, hS.F ht⟩) hS.2.2 dX7_toldOf_66
    · rw [if_neg hc1] at hf
      by_cases hc2 : wh = 2
      · rw [if_pos hc2] at hf
        refine lv_tableIn (off := 66) (tgt := 67) hx hb dX7_toldOf_1 (by rw [hc2]; decide) (by rw [hc2]; decide) (by rw [hc2]; rfl) (by decide) ?_
        refine lv_aload_n hx hb dX7_toldOf_67 rfl (lv_at hl 0 rfl) ?_
        refine va_get (D := (dC, dI)) (ci := 6) (v := .ref zst) (C := RX7) (T := TX7) (N := 11) hx hb hts hinX7 hown hK hP 0 rfl rfl 8 (by decide) hw0 (fun _ h9 => h9) rfl dX7_toldOf_68 ?_
        refine lv_iload_n hx hb dX7_toldOf_71 rfl (lv_at hl 1 rfl) ?_
        have hPc := hP.sub (ws' := [(zst, .inr (5, [.int sS.1, .int sS.2.1, .int sS.2.2.1, .long sS.2.2.2, .ref zsa]))]) [3] rfl
        have hDc := hD.sub (ws' := [(zst, .inr (5, [.int sS.1, .int sS.2.1, .int sS.2.2.1, .long sS.2.2.2, .ref zsa]))]) [3] (by decide) rfl
        have hFc := va_free (wc := [(zst, .inr (5, [.int sS.1, .int sS.2.1, .int sS.2.2.1, .long sS.2.2.2, .ref zsa]))]) hD hS hA [3] rfl
        refine va_calli (va_runV (As := [.int ce]) (rest := []) ⟨hx, hb, hml, hown, hts⟩ (c_X6_has l dC dI cI cJ zst zsa s.heap.size sS ce) (cwV 1 hts gX7_toldOf_X6_has rfl rfl rfl (by decide +kernel) ⟨Nat.le_of_ble_eq_true rfl, Nat.le_of_ble_eq_true rfl⟩) ⟨fun a U gg mk q => by obtain ⟨q0, q1, qP, qK, qD⟩ := q; exact ⟨q0, q1, qP, va_K.moved (u := U) (U := U.calling gg mk a) (Vm.Alike.refl U.vm) qK, qD⟩, va_recv hK hPc (ci := 5) (q0 := 0) rfl rfl, fun U hU hW => ⟨rfl, by rw [hU], by rw [hU]; exact hPc, va_K.moved hW.alike hK, hDc.weaken (fun _ _ _ _ => trivial)⟩⟩ rfl rfl hl.1 rfl (lv_room (Nat.le_of_ble_eq_true rfl)) dX7_toldOf_72 ⟨Nat.zero_le _, Nat.zero_le _⟩) hS (fun q _ h => hFc q h) hFc (fun r_ u_ t H locs ht hvm hw hB hz1 hk1 hS => ?_)
        obtain rfl := hw.symm
        obtain ⟨hP1, -, hD1⟩ := hB
        rw [ht] at hP1
        obtain ⟨hP, hD⟩ := va_join (wr := [(zmo, .inr (6, [.int mM.1, .int mM.2.1, .int mM.2.2.1, .int (bI mM.2.2.2.1), .int mM.2.2.2.2.1, .int mM.2.2.2.2.2, .ref zar, .ref zbe, .ref zst, .ref zah, .ref zgd])), (zar, .inl (cJ, 64, .inr (.inl fR))), (zbe, .inl (cJ, 64, .inr (.inl fB))), (zsa, .inl (cI, 64, .inl aS))]) (w1 := [(zst, .inr (5, [.int sS.1, .int sS.2.1, .int sS.2.2.1, .long sS.2.2.2, .ref zsa]))]) hP hD [3] [0, 1, 2, 4] rfl rfl (by decide) (by decide) hk1 hFc hP1 hD1
        have hP := hP.sub (ws' := [(zmo, .inr (6, [.int mM.1, .int mM.2.1, .int mM.2.2.1, .int (bI mM.2.2.2.1), .int mM.2.2.2.2.1, .int mM.2.2.2.2.2, .ref zar, .ref zbe, .ref zst, .ref zah, .ref zgd])), (zar, .inl (cJ, 64, .inr (.inl fR))), (zbe, .inl (cJ, 64, .inr (.inl fB))), (zst, .inr (5, [.int sS.1, .int sS.2.1, .int sS.2.2.1, .long sS.2.2.2, .ref zsa])), (zsa, .inl (cI, 64, .inl aS))]) [0, 1, 2, 4, 3] rfl
        have hD := hD.sub (ws' := [(zmo, .inr (6, [.int mM.1, .int mM.2.1, .int mM.2.2.1, .int (bI mM.2.2.2.1), .int mM.2.2.2.2.1, .int mM.2.2.2.2.2, .ref zar, .ref zbe, .ref zst, .ref zah, .ref zgd])), (zar, .inl (cJ, 64, .inr (.inl fR))), (zbe, .inl (cJ, 64, .inr (.inl fB))), (zst, .inr (5, [.int sS.1, .int sS.2.1, .int sS.2.2.1, .long sS.2.2.2, .ref zsa])), (zsa, .inl (cI, 64, .inl aS))]) [0, 1, 2, 4, 3] (by decide) rfl
        clear hPc hDc hFc hP1 hD1 hk1
        refine lv_if_eq (tgt := 90) hx hb dX7_toldOf_75 (by decide) (fun hc => ?_) (fun hc => ?_)
        · rw [if_pos hc] at hf
          refine lv_iconst (v := (-1)) hx hb dX7_toldOf_90 (by decide) ?_
          obtain rfl := Option.some.inj hf
          exact W.iret (v := (-1)) hx hb hr (fun t ht hW => ⟨⟨(-1), (), rfl, rfl, by rw [ht]; exact hP, va_K.moved hW.alike hK, hD⟩, hS.F ht⟩) hS.2.2 dX7_toldOf_91
        · rw [if_neg hc] at hf
          refine lv_aload_n hx hb dX7_toldOf_78 rfl (lv_at hl 0 rfl) ?_
          refine va_get (D := (dC, dI)) (ci := 6) (v := .ref zst) (C := RX7) (T := TX7) (N := 11) hx hb hts hinX7 hown hK hP 0 rfl rfl 8 (by decide) hw0 (fun _ h9 => h9) rfl dX7_toldOf_79 ?_
          refine va_getN (D := (dC, dI)) (ci := 5) (v := .ref zsa) (C := RX6) (T := TX6) (N := 5) hx hb hts hinX6 hown hK hP 3 rfl rfl 4 (by decide) (va_Nw.use rfl hnw_ages) (fun _ h9 => h9) rfl dX7_toldOf_82 ?_
          refine lv_iload_n hx hb dX7_toldOf_85 rfl (lv_at hl 1 rfl) ?_
          have hg0 : ¬ (ce < 0 ∨ 64 ≤ ce.toNatClampNeg) := fun hq => by rw [if_pos hq] at hf; exact nomatch hf
          rw [if_neg hg0] at hf
          have hg : vp_in ce 64 := hg0
          refine va_iald hx hb hK hP 4 0 rfl rfl hg dX7_toldOf_86 ?_
          refine lv_goto (tgt := 91) hx hb dX7_toldOf_87 (by decide) ?_
          obtain rfl := Option.some.inj hf
          exact W.iret (v := (aS ce.toNatClampNeg)) hx hb hr (fun t ht hW => ⟨⟨(aS ce.toNatClampNeg), (), rfl, rfl, by rw [ht]; exact hP, va_K.moved hW.alike hK, hD⟩, hS.F ht⟩) hS.2.2 dX7_toldOf_91
      · rw [if_neg hc2] at hf
        by_cases hc3 : wh = 3
        · rw [if_pos hc3] at hf
          refine lv_tableIn (off := 91) (tgt := 92) hx hb dX7_toldOf_1 (by rw [hc3]; decide) (by rw [hc3]; decide) (by rw [hc3]; rfl) (by decide) ?_
          refine lv_aload_n hx hb dX7_toldOf_92 rfl (lv_at hl 0 rfl) ?_
          refine lv_aload_n hx hb dX7_toldOf_93 rfl (lv_at hl 0 rfl) ?_
          refine lv_aload_n hx hb dX7_toldOf_94 rfl (lv_at hl 0 rfl) ?_
          refine va_get (D := (dC, dI)) (ci := 6) (v := .ref zst) (C := RX7) (T := TX7) (N := 11) hx hb hts hinX7 hown hK hP 0 rfl rfl 8 (by decide) hw0 (fun _ h9 => h9) rfl dX7_toldOf_95 ?_
          have hPc := hP.sub (ws' := [(zmo, .inr (6, [.int mM.1, .int mM.2.1, .int mM.2.2.1, .int (bI mM.2.2.2.1), .int mM.2.2.2.2.1, .int mM.2.2.2.2.2, .ref zar, .ref zbe, .ref zst, .ref zah, .ref zgd])), (zst, .inr (5, [.int sS.1, .int sS.2.1, .int sS.2.2.1, .long sS.2.2.2, .ref zsa]))]) [0, 3] rfl
          have hDc := hD.sub (ws' := [(zmo, .inr (6, [.int mM.1, .int mM.2.1, .int mM.2.2.1, .int (bI mM.2.2.2.1), .int mM.2.2.2.2.1, .int mM.2.2.2.2.2, .ref zar, .ref zbe, .ref zst, .ref zah, .ref zgd])), (zst, .inr (5, [.int sS.1, .int sS.2.1, .int sS.2.2.1, .long sS.2.2.2, .ref zsa]))]) [0, 3] (by decide) rfl
          have hFc := va_free (wc := [(zmo, .inr (6, [.int mM.1, .int mM.2.1, .int mM.2.2.1, .int (bI mM.2.2.2.1), .int mM.2.2.2.2.1, .int mM.2.2.2.2.2, .ref zar, .ref zbe, .ref zst, .ref zah, .ref zgd])), (zst, .inr (5, [.int sS.1, .int sS.2.1, .int sS.2.2.1, .long sS.2.2.2, .ref zsa]))]) hD hS hA [0, 3] rfl
          refine va_calll (va_runV (As := [.ref zst]) (rest := [.ref zmo]) ⟨hx, hb, hml, hown, hts⟩ (c_X7_open l dC dI cI cJ zmo zst zar zbe zst zah zgd zsa s.heap.size mM sS) (cwV 1 hts gX7_toldOf_X7_open rfl rfl rfl (by decide +kernel) ⟨Nat.le_of_ble_eq_true rfl, Nat.le_of_ble_eq_true rfl⟩) ⟨fun a U gg mk q => by obtain ⟨q0, q1, qP, qK, qD, qn⟩ := q; exact ⟨q0, q1, qP, va_K.moved (u := U) (U := U.calling gg mk a) (Vm.Alike.refl U.vm) qK, qD, nwM.same (u := U) (U := U.calling gg mk a) rfl qn⟩, va_recv hK hPc (ci := 6) (q0 := 0) rfl rfl, fun U hU hW => ⟨rfl, by rw [hU], by rw [hU]; exact hPc, va_K.moved hW.alike hK, hDc.weaken (fun _ _ _ _ => trivial), nwM.moved hW hnw⟩⟩ rfl rfl hl.1 rfl (lv_room (Nat.le_of_ble_eq_true rfl)) dX7_toldOf_98 ⟨Nat.zero_le _, Nat.zero_le _⟩) hS (fun q _ h => hFc q h) hFc (fun r_ u_ t H locs ht hvm hw hB hz1 hk1 hS => ?_)
          obtain rfl := hw.symm
          obtain ⟨hP1, -, hD1⟩ := hB
          rw [ht] at hP1
          obtain ⟨hP, hD⟩ := va_join (wr := [(zar, .inl (cJ, 64, .inr (.inl fR))), (zbe, .inl (cJ, 64, .inr (.inl fB))), (zsa, .inl (cI, 64, .inl aS))]) (w1 := [(zmo, .inr (6, [.int mM.1, .int mM.2.1, .int mM.2.2.1, .int (bI mM.2.2.2.1), .int mM.2.2.2.2.1, .int mM.2.2.2.2.2, .ref zar, .ref zbe, .ref zst, .ref zah, .ref zgd])), (zst, .inr (5, [.int sS.1, .int sS.2.1, .int sS.2.2.1, .long sS.2.2.2, .ref zsa]))]) hP hD [0, 3] [1, 2, 4] rfl rfl (by decide) (by decide) hk1 hFc hP1 hD1
          have hP := hP.sub (ws' := [(zmo, .inr (6, [.int mM.1, .int mM.2.1, .int mM.2.2.1, .int (bI mM.2.2.2.1), .int mM.2.2.2.2.1, .int mM.2.2.2.2.2, .ref zar, .ref zbe, .ref zst, .ref zah, .ref zgd])), (zar, .inl (cJ, 64, .inr (.inl fR))), (zbe, .inl (cJ, 64, .inr (.inl fB))), (zst, .inr (5, [.int sS.1, .int sS.2.1, .int sS.2.2.1, .long sS.2.2.2, .ref zsa])), (zsa, .inl (cI, 64, .inl aS))]) [3, 0, 1, 4, 2] rfl
          have hD := hD.sub (ws' := [(zmo, .inr (6, [.int mM.1, .int mM.2.1, .int mM.2.2.1, .int (bI mM.2.2.2.1), .int mM.2.2.2.2.1, .int mM.2.2.2.2.2, .ref zar, .ref zbe, .ref zst, .ref zah, .ref zgd])), (zar, .inl (cJ, 64, .inr (.inl fR))), (zbe, .inl (cJ, 64, .inr (.inl fB))), (zst, .inr (5, [.int sS.1, .int sS.2.1, .int sS.2.2.1, .long sS.2.2.2, .ref zsa])), (zsa, .inl (cI, 64, .inl aS))]) [3, 0, 1, 4, 2] (by decide) rfl
          clear hPc hDc hFc hP1 hD1 hk1
          refine lv_iload_n hx hb dX7_toldOf_101 rfl (lv_at hl 1 rfl) ?_
          obtain ⟨r1, hr1, hf⟩ := obind hf
          have hPc := hP.sub (ws' := [(zmo, .inr (6, [.int mM.1, .int mM.2.1, .int mM.2.2.1, .int (bI mM.2.2.2.1), .int mM.2.2.2.2.1, .int mM.2.2.2.2.2, .ref zar, .ref zbe, .ref zst, .ref zah, .ref zgd])), (zbe, .inl (cJ, 64, .inr (.inl fB)))]) [0, 2] rfl
          have hDc := hD.sub (ws' := [(zmo, .inr (6, [.int mM.1, .int mM.2.1, .int mM.2.2.1, .int (bI mM.2.2.2.1), .int mM.2.2.2.2.1, .int mM.2.2.2.2.2, .ref zar, .ref zbe, .ref zst, .ref zah, .ref zgd])), (zbe, .inl (cJ, 64, .inr (.inl fB)))]) [0, 2] (by decide) rfl
          have hFc := va_free (wc := [(zmo, .inr (6, [.int mM.1, .int mM.2.1, .int mM.2.2.1, .int (bI mM.2.2.2.1), .int mM.2.2.2.2.1, .int mM.2.2.2.2.2, .ref zar, .ref zbe, .ref zst, .ref zah, .ref zgd])), (zbe, .inl (cJ, 64, .inr (.inl fB)))]) hD hS hA [0, 2] rfl
          refine va_calll (va_runV (As := [.long (f_X7_open mM sS), .int ce]) (rest := []) ⟨hx, hb, hml, hown, hts⟩ (c_X7_lawn l dC dI cI cJ zmo zbe zar zst zah zgd H.size mM fB (f_X7_open mM sS) ce _ hr1) (cwV 2 hts gX7_toldOf_X7_lawn rfl rfl rfl (by decide +kernel) ⟨Nat.le_of_ble_eq_true rfl, Nat.le_of_ble_eq_true rfl⟩) ⟨fun a U gg mk q => by obtain ⟨q0, q1, qP, qK, qD⟩ := q; exact ⟨q0, q1, qP, va_K.moved (u := U) (U := U.calling gg mk a) (Vm.Alike.refl U.vm) qK, qD⟩, va_recv hK hPc (ci := 6) (q0 := 0) rfl rfl, fun U hU hW => ⟨rfl, by rw [hU], by rw [hU]; exact hPc, va_K.moved hW.alike hK, hDc.weaken (fun _ _ _ _ => trivial)⟩⟩ rfl rfl hl.1 rfl (lv_room (Nat.le_of_ble_eq_true rfl)) dX7_toldOf_102 ⟨Nat.zero_le _, Nat.zero_le _⟩) hS (fun q _ h => hFc q h) hFc (fun r_ u_ t H locs ht hvm hw hB hz1 hk1 hS => ?_)
          obtain rfl := hw.symm
          obtain ⟨hP1, -, hD1⟩ := hB
          rw [ht] at hP1
          obtain ⟨hP, hD⟩ := va_join (wr := [(zar, .inl (cJ, 64, .inr (.inl fR))), (zst, .inr (5, [.int sS.1, .int sS.2.1, .int sS.2.2.1, .long sS.2.2.2, .ref zsa])), (zsa, .inl (cI, 64, .inl aS))]) (w1 := [(zmo, .inr (6, [.int mM.1, .int mM.2.1, .int mM.2.2.1, .int (bI mM.2.2.2.1), .int mM.2.2.2.2.1, .int mM.2.2.2.2.2, .ref zar, .ref zbe, .ref zst, .ref zah, .ref zgd])), (zbe, .inl (cJ, 64, .inr (.inl fB)))]) hP hD [0, 2] [1, 3, 4] rfl rfl (by decide) (by decide) hk1 hFc hP1 hD1
          have hP := hP.sub (ws' := [(zmo, .inr (6, [.int mM.1, .int mM.2.1, .int mM.2.2.1, .int (bI mM.2.2.2.1), .int mM.2.2.2.2.1, .int mM.2.2.2.2.2, .ref zar, .ref zbe, .ref zst, .ref zah, .ref zgd])), (zar, .inl (cJ, 64, .inr (.inl fR))), (zbe, .inl (cJ, 64, .inr (.inl fB))), (zst, .inr (5, [.int sS.1, .int sS.2.1, .int sS.2.2.1, .long sS.2.2.2, .ref zsa])), (zsa, .inl (cI, 64, .inl aS))]) [3, 0, 4, 1, 2] rfl
          have hD := hD.sub (ws' := [(zmo, .inr (6, [.int mM.1, .int mM.2.1, .int mM.2.2.1, .int (bI mM.2.2.2.1), .int mM.2.2.2.2.1, .int mM.2.2.2.2.2, .ref zar, .ref zbe, .ref zst, .ref zah, .ref zgd])), (zar, .inl (cJ, 64, .inr (.inl fR))), (zbe, .inl (cJ, 64, .inr (.inl fB))), (zst, .inr (5, [.int sS.1, .int sS.2.1, .int sS.2.2.1, .long sS.2.2.2, .ref zsa])), (zsa, .inl (cI, 64, .inl aS))]) [3, 0, 4, 1, 2] (by decide) rfl
          clear hPc hDc hFc hP1 hD1 hk1
          have hPc := hP.sub (ws' := []) [] rfl
          have hDc := hD.sub (ws' := []) [] (by decide) rfl
          have hFc := va_free (wc := []) hD hS hA [] rfl
          refine va_calli (va_runS (As := [.long r1]) (rest := []) ⟨hx, hb, hml, hown, hts⟩ (c_J13_bitCount_95d88 l dC dI cI cJ  H.size r1) (va_cwS 1 hts gX7_toldOf_J13_bitCount_95d88 rfl rfl rfl (by decide +kernel) ⟨Nat.le_of_ble_eq_true rfl, Nat.le_of_ble_eq_true rfl⟩) ⟨fun a U gg mk q => by obtain ⟨q0, q1, qP, qK, qD⟩ := q; exact ⟨q0, q1, qP, va_K.moved (u := U) (U := U.calling gg mk a) (Vm.Alike.refl U.vm) qK, qD⟩, fun U hU hW => ⟨rfl, by rw [hU], by rw [hU]; exact hPc, va_K.moved hW.alike hK, hDc.weaken (fun _ _ _ _ => trivial)⟩⟩ rfl rfl hl.1 rfl (lv_room (Nat.le_of_ble_eq_true rfl)) dX7_toldOf_105 ⟨Nat.zero_le _, Nat.zero_le _⟩) hS (fun q _ h => hFc q h) hFc (fun r_ u_ t H locs ht hvm hw hB hz1 hk1 hS => ?_)
          obtain rfl := hw.symm
          obtain ⟨hP1, -, hD1⟩ := hB
          rw [ht] at hP1
          obtain ⟨hP, hD⟩ := va_join (wr := [(zmo, .inr (6, [.int mM.1, .int mM.2.1, .int mM.2.2.1, .int (bI mM.2.2.2.1), .int mM.2.2.2.2.1, .int mM.2.2.2.2.2, .ref zar, .ref zbe, .ref zst, .ref zah, .ref zgd])), (zar, .inl (cJ, 64, .inr (.inl fR))), (zbe, .inl (cJ, 64, .inr (.inl fB))), (zst, .inr (5, [.int sS.1, .int sS.2.1, .int sS.2.2.1, .long sS.2.2.2, .ref zsa])), (zsa, .inl (cI, 64, .inl aS))]) (w1 := []) hP hD [] [0, 1, 2, 3, 4] rfl rfl (by decide) (by decide) hk1 hFc hP1 hD1
          have hP := hP.sub (ws' := [(zmo, .inr (6, [.int mM.1, .int mM.2.1, .int mM.2.2.1, .int (bI mM.2.2.2.1), .int mM.2.2.2.2.1, .int mM.2.2.2.2.2, .ref zar, .ref zbe, .ref zst, .ref zah, .ref zgd])), (zar, .inl (cJ, 64, .inr (.inl fR))), (zbe, .inl (cJ, 64, .inr (.inl fB))), (zst, .inr (5, [.int sS.1, .int sS.2.1, .int sS.2.2.1, .long sS.2.2.2, .ref zsa])), (zsa, .inl (cI, 64, .inl aS))]) [0, 1, 2, 3, 4] rfl
          have hD := hD.sub (ws' := [(zmo, .inr (6, [.int mM.1, .int mM.2.1, .int mM.2.2.1, .int (bI mM.2.2.2.1), .int mM.2.2.2.2.1, .int mM.2.2.2.2.2, .ref zar, .ref zbe, .ref zst, .ref zah, .ref zgd])), (zar, .inl (cJ, 64, .inr (.inl fR))), (zbe, .inl (cJ, 64, .inr (.inl fB))), (zst, .inr (5, [.int sS.1, .int sS.2.1, .int sS.2.2.1, .long sS.2.2.2, .ref zsa])), (zsa, .inl (cI, 64, .inl aS))]) [0, 1, 2, 3, 4] (by decide) rfl
          clear hPc hDc hFc hP1 hD1 hk1
          obtain rfl := Option.some.inj hf
          exact W.iret (v := (f_J13_bitCount_95d88 r1)) hx hb hr (fun t ht hW => ⟨⟨(f_J13_bitCount_95d88 r1), (), rfl, rfl, by rw [ht]; exact hP, va_K.moved hW.alike hK, hD⟩, hS.F ht⟩) hS.2.2 dX7_toldOf_108
        · rw [if_neg hc3] at hf
          have ht0 : (wh).toInt ≠ 0 := fun h9 => hc0 (Int32.toInt_inj.mp (h9.trans (by decide)))
          have ht1 : (wh).toInt ≠ 1 := fun h9 => hc1 (Int32.toInt_inj.mp (h9.trans (by decide)))
          have ht2 : (wh).toInt ≠ 2 := fun h9 => hc2 (Int32.toInt_inj.mp (h9.trans (by decide)))
          have ht3 : (wh).toInt ≠ 3 := fun h9 => hc3 (Int32.toInt_inj.mp (h9.trans (by decide)))
          refine lv_tableOut (tgt := 109) hx hb dX7_toldOf_1 (by omega) (by decide) ?_
          refine lv_aload_n hx hb dX7_toldOf_109 rfl (lv_at hl 0 rfl) ?_
          refine lv_aload_n hx hb dX7_toldOf_110 rfl (lv_at hl 0 rfl) ?_
          refine va_get (D := (dC, dI)) (ci := 6) (v := .ref zst) (C := RX7) (T := TX7) (N := 11) hx hb hts hinX7 hown hK hP 0 rfl rfl 8 (by decide) hw0 (fun _ h9 => h9) rfl dX7_toldOf_111 ?_
          refine va_getN (D := (dC, dI)) (ci := 5) (v := .long sS.2.2.2) (C := RX6) (T := TX6) (N := 5) hx hb hts hinX6 hown hK hP 3 rfl rfl 3 (by decide) (va_Nw.use rfl hnw_hedges) (fun _ h9 => h9) rfl dX7_toldOf_114 ?_
          refine lv_iload_n hx hb dX7_toldOf_117 rfl (lv_at hl 1 rfl) ?_
          obtain ⟨r2, hr2, hf⟩ := obind hf
          have hPc := hP.sub (ws' := [(zmo, .inr (6, [.int mM.1, .int mM.2.1, .int mM.2.2.1, .int (bI mM.2.2.2.1), .int mM.2.2.2.2.1, .int mM.2.2.2.2.2, .ref zar, .ref zbe, .ref zst, .ref zah, .ref zgd])), (zar, .inl (cJ, 64, .inr (.inl fR)))]) [0, 1] rfl
          have hDc := hD.sub (ws' := [(zmo, .inr (6, [.int mM.1, .int mM.2.1, .int mM.2.2.1, .int (bI mM.2.2.2.1), .int mM.2.2.2.2.1, .int mM.2.2.2.2.2, .ref zar, .ref zbe, .ref zst, .ref zah, .ref zgd])), (zar, .inl (cJ, 64, .inr (.inl fR)))]) [0, 1] (by decide) rfl
          have hFc := va_free (wc := [(zmo, .inr (6, [.int mM.1, .int mM.2.1, .int mM.2.2.1, .int (bI mM.2.2.2.1), .int mM.2.2.2.2.1, .int mM.2.2.2.2.2, .ref zar, .ref zbe, .ref zst, .ref zah, .ref zgd])), (zar, .inl (cJ, 64, .inr (.inl fR)))]) hD hS hA [0, 1] rfl
          refine va_calli (va_runV (As := [.long sS.2.2.2, .int ce]) (rest := []) ⟨hx, hb, hml, hown, hts⟩ (c_X7_comes l dC dI cI cJ zmo zar zbe zst zah zgd s.heap.size mM fR sS.2.2.2 ce _ hr2) (cwV 2 hts gX7_toldOf_X7_comes rfl rfl rfl (by decide +kernel) ⟨Nat.le_of_ble_eq_true rfl, Nat.le_of_ble_eq_true rfl⟩) ⟨fun a U gg mk q => by obtain ⟨q0, q1, qP, qK, qD⟩ := q; exact ⟨q0, q1, qP, va_K.moved (u := U) (U := U.calling gg mk a) (Vm.Alike.refl U.vm) qK, qD⟩, va_recv hK hPc (ci := 6) (q0 := 0) rfl rfl, fun U hU hW => ⟨rfl, by rw [hU], by rw [hU]; exact hPc, va_K.moved hW.alike hK, hDc.weaken (fun _ _ _ _ => trivial)⟩⟩ rfl rfl hl.1 rfl (lv_room (Nat.le_of_ble_eq_true rfl)) dX7_toldOf_118 ⟨Nat.zero_le _, Nat.zero_le _⟩) hS (fun q _ h => hFc q h) hFc (fun r_ u_ t H locs ht hvm hw hB hz1 hk1 hS => ?_)
          obtain rfl := hw.symm
          obtain ⟨hP1, -, hD1⟩ := hB
          rw [ht] at hP1
          obtain ⟨hP, hD⟩ := va_join (wr := [(zbe, .inl (cJ, 64, .inr (.inl fB))), (zst, .inr (5, [.int sS.1, .int sS.2.1, .int sS.2.2.1, .long sS.2.2.2, .ref zsa])), (zsa, .inl (cI, 64, .inl aS))]) (w1 := [(zmo, .inr (6, [.int mM.1, .int mM.2.1, .int mM.2.2.1, .int (bI mM.2.2.2.1), .int mM.2.2.2.2.1, .int mM.2.2.2.2.2, .ref zar, .ref zbe, .ref zst, .ref zah, .ref zgd])), (zar, .inl (cJ, 64, .inr (.inl fR)))]) hP hD [0, 1] [2, 3, 4] rfl rfl (by decide) (by decide) hk1 hFc hP1 hD1
          have hP := hP.sub (ws' := [(zmo, .inr (6, [.int mM.1, .int mM.2.1, .int mM.2.2.1, .int (bI mM.2.2.2.1), .int mM.2.2.2.2.1, .int mM.2.2.2.2.2, .ref zar, .ref zbe, .ref zst, .ref zah, .ref zgd])), (zar, .inl (cJ, 64, .inr (.inl fR))), (zbe, .inl (cJ, 64, .inr (.inl fB))), (zst, .inr (5, [.int sS.1, .int sS.2.1, .int sS.2.2.1, .long sS.2.2.2, .ref zsa])), (zsa, .inl (cI, 64, .inl aS))]) [3, 4, 0, 1, 2] rfl
          have hD := hD.sub (ws' := [(zmo, .inr (6, [.int mM.1, .int mM.2.1, .int mM.2.2.1, .int (bI mM.2.2.2.1), .int mM.2.2.2.2.1, .int mM.2.2.2.2.2, .ref zar, .ref zbe, .ref zst, .ref zah, .ref zgd])), (zar, .inl (cJ, 64, .inr (.inl fR))), (zbe, .inl (cJ, 64, .inr (.inl fB))), (zst, .inr (5, [.int sS.1, .int sS.2.1, .int sS.2.2.1, .long sS.2.2.2, .ref zsa])), (zsa, .inl (cI, 64, .inl aS))]) [3, 4, 0, 1, 2] (by decide) rfl
          clear hPc hDc hFc hP1 hD1 hk1
          refine lv_if_eq (tgt := 128) hx hb dX7_toldOf_121 (by decide) (fun hc => ?_) (fun hc => ?_)
          · rw [if_pos hc] at hf
            refine lv_iconst (v := 0) hx hb dX7_toldOf_128 (by decide) ?_
            obtain rfl := Option.some.inj hf
            exact W.iret (v := 0) hx hb hr (fun t ht hW => ⟨⟨0, (), rfl, rfl, by rw [ht]; exact hP, va_K.moved hW.alike hK, hD⟩, hS.F ht⟩) hS.2.2 dX7_toldOf_129
          · rw [if_neg hc] at hf
            refine lv_iconst (v := 1) hx hb dX7_toldOf_124 (by decide) ?_
            refine lv_goto (tgt := 129) hx hb dX7_toldOf_125 (by decide) ?_
            obtain rfl := Option.some.inj hf
            exact W.iret (v := 1) hx hb hr (fun t ht hW => ⟨⟨1, (), rfl, rfl, by rw [ht]; exact hP, va_K.moved hW.alike hK, hD⟩, hS.F ht⟩) hS.2.2 dX7_toldOf_129
/-! HedgeGlidersModel.told(III)I -/
def f_X7_told (mM : MoS) (fR : Nat → Int64) (fB : Nat → Int64) (sS : StS) (aS : Nat → Int32) (cx : Int32) (cy : Int32) (wh : Int32) : Option (Int32 × MoS) := if (f_X7_isCell (0, mM.2.1, mM.2.2.1, mM.2.2.2.1, mM.2.2.2.2.1, mM.2.2.2.2.2) cx cy) = 0 then (some ((f_X7_no (0, mM.2.1, mM.2.2.1, mM.2.2.2.1, mM.2.2.2.2.1, mM.2.2.2.2.2) 1).1, (f_X7_no (0, mM.2.1, mM.2.2.1, mM.2.2.2.1, mM.2.2.2.2.1, mM.2.2.2.2.2) 1).2)) else (if (f_X7_isIn wh 0 4) = 0 then (some ((f_X7_no (0, mM.2.1, mM.2.2.1, mM.2.2.2.1, mM.2.2.2.2.1, mM.2.2.2.2.2) 1).1, (f_X7_no (0, mM.2.1, mM.2.2.1, mM.2.2.2.1, mM.2.2.2.2.1, mM.2.2.2.2.2) 1).2)) else (Option.bind (f_X7_toldOf (0, mM.2.1, mM.2.2.1, mM.2.2.2.1, mM.2.2.2.2.1, mM.2.2.2.2.2) fR fB sS aS ((mM.2.1 * cy) + cx) wh) fun r1 => some (r1, (0, mM.2.1, mM.2.2.1, mM.2.2.2.1, mM.2.2.2.2.1, mM.2.2.2.2.2))))
abbrev rm_X7_told : Room := ({ frames := 3, cells := 0, slots := 0, locals := 68 } : Room)
abbrev A_X7_told (cI cJ : ClassId) (zmo zar zbe zst zsa zah zgd : Nat) (mM : MoS) (fR : Nat → Int64) (fB : Nat → Int64) (sS : StS) (aS : Nat → Int32) (cx : Int32) (cy : Int32) (wh : Int32) (sz : Nat) : Nat → Prop := va_A [(zmo, .inr (6, [.int mM.1, .int mM.2.1, .int mM.2.2.1, .int (bI mM.2.2.2.1), .int mM.2.2.2.2.1, .int mM.2.2.2.2.2, .ref zar, .ref zbe, .ref zst, .ref zah, .ref zgd])), (zar, .inl (cJ, 64, .inr (.inl fR))), (zbe, .inl (cJ, 64, .inr (.inl fB))), (zst, .inr (5, [.int sS.1, .int sS.2.1, .int sS.2.2.1, .long sS.2.2.2, .ref zsa])), (zsa, .inl (cI, 64, .inl aS))] sz
abbrev Q_X7_told (dC : Nat → ClassId) (dI : Nat → Nat → Nat) (cI cJ : ClassId) (zmo zar zbe zst zsa zah zgd : Nat) (mM : MoS) (fR : Nat → Int64) (fB : Nat → Int64) (sS : StS) (aS : Nat → Int32) (cx : Int32) (cy : Int32) (wh : Int32) (sz : Nat) (R : Int32 × MoS) : Array Value → State → Outcome → State → Prop := va_Qi (fun (r : Int32) (_ : Unit) => r = R.1) (fun u_ t => va_P (dC, dI) vwCl [(zmo, .inr (6, [.int R.2.1, .int R.2.2.1, .int R.2.2.2.1, .int (bI R.2.2.2.2.1), .int R.2.2.2.2.2.1, .int R.2.2.2.2.2.2, .ref zar, .ref zbe, .ref zst, .ref zah, .ref zgd])), (zar, .inl (cJ, 64, .inr (.inl fR))), (zbe, .inl (cJ, 64, .inr (.inl fB))), (zst, .inr (5, [.int sS.1, .int sS.2.1, .int sS.2.2.1, .long sS.2.2.2, .ref zsa])), (zsa, .inl (cI, 64, .inl aS))] t.heap ∧ va_K (dC, dI) vwCl [(cI, .int), (cJ, .long)] t ∧ va_D (A_X7_told cI cJ zmo zar zbe zst zsa zah zgd mM fR fB sS aS cx cy wh sz) [(zmo, .inr (6, [.int R.2.1, .int R.2.2.1, .int R.2.2.2.1, .int (bI R.2.2.2.2.1), .int R.2.2.2.2.2.1, .int R.2.2.2.2.2.2, .ref zar, .ref zbe, .ref zst, .ref zah, .ref zgd])), (zar, .inl (cJ, 64, .inr (.inl fR))), (zbe, .inl (cJ, 64, .inr (.inl fB))), (zst, .inr (5, [.int sS.1, .int sS.2.1, .int sS.2.2.1, .long sS.2.2.2, .ref zsa])), (zsa, .inl (cI, 64, .inl aS))]) (A_X7_told cI cJ zmo zar zbe zst zsa zah zgd mM fR fB sS aS cx cy wh sz)
set_option maxHeartbeats 4000000 in
set_option maxRecDepth 100000 in
theorem c_X7_told (l : Launch) (dC : Nat → ClassId) (dI : Nat → Nat → Nat) (cI cJ : ClassId) (zmo zar zbe zst zsa zah zgd : Nat) (sz : Nat) (mM : MoS) (fR : Nat → Int64) (fB : Nat → Int64) (sS : StS) (aS : Nat → Int32) (cx : Int32) (cy : Int32) (wh : Int32) (R : Int32 × MoS) (hR : f_X7_told mM fR fB sS aS cx cy wh = some R) : Met l yX7_told wsX7_told rm_X7_told (va_Pc [.ref zmo, .int cx, .int cy, .int wh] (fun U => U.heap.size = sz ∧ va_P (dC, dI) vwCl [(zmo, .inr (6, [.int mM.1, .int mM.2.1, .int mM.2.2.1, .int (bI mM.2.2.2.1), .int mM.2.2.2.2.1, .int mM.2.2.2.2.2, .ref zar, .ref zbe, .ref zst, .ref zah, .ref zgd])), (zar, .inl (cJ, 64, .inr (.inl fR))), (zbe, .inl (cJ, 64, .inr (.inl fB))), (zst, .inr (5, [.int sS.1, .int sS.2.1, .int sS.2.2.1, .long sS.2.2.2, .ref zsa])), (zsa, .inl (cI, 64, .inl aS))] U.heap ∧ va_K (dC, dI) vwCl [(cI, .int), (cJ, .long)] U ∧ va_D (fun _ => True) [(zmo, .inr (6, [.int mM.1, .int mM.2.1, .int mM.2.2.1, .int (bI mM.2.2.2.1), .int mM.2.2.2.2.1, .int mM.2.2.2.2.2, .ref zar, .ref zbe, .ref zst, .ref zah, .ref zgd])), (zar, .inl (cJ, 64, .inr (.inl fR))), (zbe, .inl (cJ, 64, .inr (.inl fB))), (zst, .inr (5, [.int sS.1, .int sS.2.1, .int sS.2.2.1, .long sS.2.2.2, .ref zsa])), (zsa, .inl (cI, 64, .inl aS))] ∧ nwM U)) (Q_X7_told dC dI cI cJ zmo zar zbe zst zsa zah zgd mM fR fB sS aS cx cy wh sz R) 0 0 (A_X7_told cI cJ zmo zar zbe zst zsa zah zgd mM fR fB sS aS cx cy wh sz) := by
  have hf := hR
  refine Met.ofW (cc := cX7_told) (maxL := 4) (ret := (some .int)) (by decide) rfl ?_
  intro p e s m args below meth c s₁ B hml hv
  obtain ⟨hargs, hsz, hP, hK, hD0, hnw⟩ := hv
  have hx := B.exec
  have hb := B.bytes
  have hr := B.returns
  have hts := atoms_spec (ws := wsX7_told) B.pre
  have hown : s.vm.findClass RX7 = some m.cls := findClass_of_methodNamed B.named
  have hlocks := B.notSynchronized
  subst hsz
  obtain ⟨hnw_hedges, hnw_ages, hnw_born, hnw_dead, hnw_year⟩ := id hnw
  have hD : va_D (A_X7_told cI cJ zmo zar zbe zst zsa zah zgd mM fR fB sS aS cx cy wh s.heap.size) [(zmo, .inr (6, [.int mM.1, .int mM.2.1, .int mM.2.2.1, .int (bI mM.2.2.2.1), .int mM.2.2.2.2.1, .int mM.2.2.2.2.2, .ref zar, .ref zbe, .ref zst, .ref zah, .ref zgd])), (zar, .inl (cJ, 64, .inr (.inl fR))), (zbe, .inl (cJ, 64, .inr (.inl fB))), (zst, .inr (5, [.int sS.1, .int sS.2.1, .int sS.2.2.1, .long sS.2.2.2, .ref zsa])), (zsa, .inl (cI, 64, .inl aS))] := hD0.self (sz := s.heap.size)
  have hA : ∀ q : Nat, s.heap.size ≤ q → (A_X7_told cI cJ zmo zar zbe zst zsa zah zgd mM fR fB sS aS cx cy wh s.heap.size) q := fun q h => Or.inr h
  have hS : va_S (A_X7_told cI cJ zmo zar zbe zst zsa zah zgd mM fR fB sS aS cx cy wh s.heap.size) s.heap s.heap [] := va_S.rf
  have hinX7 : ∀ w ∈ wsX70, w ∈ wsX7_told := by decide +kernel
  have hw0 := hts (.fieldLink RX7 45 "HedgeGlidersModel" "thrown" "I") (by decide +kernel)
  have hw1 := hts (.fieldLink RX7 9 "HedgeGlidersModel" "w" "I") (by decide +kernel)
  have hl := lv_entry ([.ref zmo, .int cx, .int cy, .int wh]) (n := 4) (Nat.le_of_ble_eq_true rfl)
  have he0 : entryFrame m args 4 = entryFrame m ([.ref zmo, .int cx, .int cy, .int wh] : List Value).toArray 4 := by rw [hargs]
  rw [he0, lg_entry_eq]
  generalize (lg_sl ([.ref zmo, .int cx, .int cy, .int wh]) ++ List.replicate (4 - (lg_sl ([.ref zmo, .int cx, .int cy, .int wh])).length) Slot.unset).toArray = ls at hl ⊢
  have hl : lv_has ls 4 [(0, .ref zmo), (1, .int cx), (2, .int cy), (3, .int wh)] := hl
  rw [f_X7_told] at hf
  refine lv_aload_n hx hb dX7_told_0 rfl (lv_at hl 0 rfl) ?_
  refine lv_iconst (v := 0) hx hb dX7_told_1 (by decide) ?_
  refine va_put (D := (dC, dI)) (ci := 6) (v := .int 0) (ty := .int) (C := RX7) (T := TX7) (N := 11) hx hb hts hinX7 tyX7 tyX7_ok nmX7 hown hK hP hD hS 0 rfl rfl 0 (by decide) hw0 (fun _ h9 => h9) rfl (by decide +kernel) rfl rfl (Nat.le_of_ble_eq_true rfl) dX7_told_2 (fun H locs hP hD hS => ?_)
  have hP : va_P (dC, dI) vwCl [(zmo, .inr (6, [.int 0, .int mM.2.1, .int mM.2.2.1, .int (bI mM.2.2.2.1), .int mM.2.2.2.2.1, .int mM.2.2.2.2.2, .ref zar, .ref zbe, .ref zst, .ref zah, .ref zgd])), (zar, .inl (cJ, 64, .inr (.inl fR))), (zbe, .inl (cJ, 64, .inr (.inl fB))), (zst, .inr (5, [.int sS.1, .int sS.2.1, .int sS.2.2.1, .long sS.2.2.2, .ref zsa])), (zsa, .inl (cI, 64, .inl aS))] H := hP
  have hD : va_D (A_X7_told cI cJ zmo zar zbe zst zsa zah zgd mM fR fB sS aS cx cy wh s.heap.size) [(zmo, .inr (6, [.int 0, .int mM.2.1, .int mM.2.2.1, .int (bI mM.2.2.2.1), .int mM.2.2.2.2.1, .int mM.2.2.2.2.2, .ref zar, .ref zbe, .ref zst, .ref zah, .ref zgd])), (zar, .inl (cJ, 64, .inr (.inl fR))), (zbe, .inl (cJ, 64, .inr (.inl fB))), (zst, .inr (5, [.int sS.1, .int sS.2.1, .int sS.2.2.1, .long sS.2.2.2, .ref zsa])), (zsa, .inl (cI, 64, .inl aS))] := hD
  refine lv_aload_n hx hb dX7_told_5 rfl (lv_at hl 0 rfl) ?_
  refine lv_iload_n hx hb dX7_told_6 rfl (lv_at hl 1 rfl) ?_
  refine lv_iload_n hx hb dX7_told_7 rfl (lv_at hl 2 rfl) ?_
  have hPc := hP.sub (ws' := [(zmo, .inr (6, [.int 0, .int mM.2.1, .int mM.2.2.1, .int (bI mM.2.2.2.1), .int mM.2.2.2.2.1, .int mM.2.2.2.2.2, .ref zar, .ref zbe, .ref zst, .ref zah, .ref zgd]))]) [0] rfl
  have hDc := hD.sub (ws' := [(zmo, .inr (6, [.int 0, .int mM.2.1, .int mM.2.2.1, .int (bI mM.2.2.2.1), .int mM.2.2.2.2.1, .int mM.2.2.2.2.2, .ref zar, .ref zbe, .ref zst, .ref zah, .ref zgd]))]) [0] (by decide) rfl
  have hFc := va_free (wc := [(zmo, .inr (6, [.int 0, .int mM.2.1, .int mM.2.2.1, .int (bI mM.2.2.2.1), .int mM.2.2.2.2.1, .int mM.2.2.2.2.2, .ref zar, .ref zbe, .ref zst, .ref zah, .ref zgd]))]) hD hS hA [0] rfl
  refine va_calli (va_runV (As := [.int cx, .int cy]) (rest := []) ⟨hx, hb, hml, hown, hts⟩ (c_X7_isCell l dC dI cI cJ zmo zar zbe zst zah zgd H.size (0, mM.2.1, mM.2.2.1, mM.2.2.2.1, mM.2.2.2.2.1, mM.2.2.2.2.2) cx cy) (cwV 2 hts gX7_told_X7_isCell rfl rfl rfl (by decide +kernel) ⟨Nat.le_of_ble_eq_true rfl, Nat.le_of_ble_eq_true rfl⟩) ⟨fun a U gg mk q => by obtain ⟨q0, q1, qP, qK, qD⟩ := q; exact ⟨q0, q1, qP, va_K.moved (u := U) (U := U.calling gg mk a) (Vm.Alike.refl U.vm) qK, qD⟩, va_recv hK hPc (ci := 6) (q0 := 0) rfl rfl, fun U hU hW => ⟨rfl, by rw [hU], by rw [hU]; exact hPc, va_K.moved hW.alike hK, hDc.weaken (fun _ _ _ _ => trivial)⟩⟩ rfl rfl hl.1 rfl (lv_room (Nat.le_of_ble_eq_true rfl)) dX7_told_8 ⟨Nat.zero_le _, Nat.zero_le _⟩) hS (fun q _ h => hFc q h) hFc (fun r_ u_ t H locs ht hvm hw hB hz1 hk1 hS => ?_)
  obtain rfl := hw.symm
  obtain ⟨hP1, -, hD1⟩ := hB
  rw [ht] at hP1
  obtain ⟨hP, hD⟩ := va_join (wr := [(zar, .inl (cJ, 64, .inr (.inl fR))), (zbe, .inl (cJ, 64, .inr (.inl fB))), (zst, .inr (5, [.int sS.1, .int sS.2.1, .int sS.2.2.1, .long sS.2.2.2, .ref zsa])), (zsa, .inl (cI, 64, .inl aS))]) (w1 := [(zmo, .inr (6, [.int 0, .int mM.2.1, .int mM.2.2.1, .int (bI mM.2.2.2.1), .int mM.2.2.2.2.1, .int mM.2.2.2.2.2, .ref zar, .ref zbe, .ref zst, .ref zah, .ref zgd]))]) hP hD [0] [1, 2, 3, 4] rfl rfl (by decide) (by decide) hk1 hFc hP1 hD1
  have hP := hP.sub (ws' := [(zmo, .inr (6, [.int 0, .int mM.2.1, .int mM.2.2.1, .int (bI mM.2.2.2.1), .int mM.2.2.2.2.1, .int mM.2.2.2.2.2, .ref zar, .ref zbe, .ref zst, .ref zah, .ref zgd])), (zar, .inl (cJ, 64, .inr (.inl fR))), (zbe, .inl (cJ, 64, .inr (.inl fB))), (zst, .inr (5, [.int sS.1, .int sS.2.1, .int sS.2.2.1, .long sS.2.2.2, .ref zsa])), (zsa, .inl (cI, 64, .inl aS))]) [4, 0, 1, 2, 3] rfl
  have hD := hD.sub (ws' := [(zmo, .inr (6, [.int 0, .int mM.2.1, .int mM.2.2.1, .int (bI mM.2.2.2.1), .int mM.2.2.2.2.1, .int mM.2.2.2.2.2, .ref zar, .ref zbe, .ref zst, .ref zah, .ref zgd])), (zar, .inl (cJ, 64, .inr (.inl fR))), (zbe, .inl (cJ, 64, .inr (.inl fB))), (zst, .inr (5, [.int sS.1, .int sS.2.1, .int sS.2.2.1, .long sS.2.2.2, .ref zsa])), (zsa, .inl (cI, 64, .inl aS))]) [4, 0, 1, 2, 3] (by decide) rfl
  clear hPc hDc hFc hP1 hD1 hk1
  refine lv_if_eq (tgt := 39) hx hb dX7_told_11 (by decide) (fun hc => ?_) (fun hc => ?_)
  · rw [if_pos hc] at hf
    refine lv_aload_n hx hb dX7_told_39 rfl (lv_at hl 0 rfl) ?_
    refine lv_iconst (v := 1) hx hb dX7_told_40 (by decide) ?_
    have hPc := hP.sub (ws' := [(zmo, .inr (6, [.int 0, .int mM.2.1, .int mM.2.2.1, .int (bI mM.2.2.2.1), .int mM.2.2.2.2.1, .int mM.2.2.2.2.2, .ref zar, .ref zbe, .ref zst, .ref zah, .ref zgd]))]) [0] rfl
    have hDc := hD.sub (ws' := [(zmo, .inr (6, [.int 0, .int mM.2.1, .int mM.2.2.1, .int (bI mM.2.2.2.1), .int mM.2.2.2.2.1, .int mM.2.2.2.2.2, .ref zar, .ref zbe, .ref zst, .ref zah, .ref zgd]))]) [0] (by decide) rfl
    have hFc := va_free (wc := [(zmo, .inr (6, [.int 0, .int mM.2.1, .int mM.2.2.1, .int (bI mM.2.2.2.1), .int mM.2.2.2.2.1, .int mM.2.2.2.2.2, .ref zar, .ref zbe, .ref zst, .ref zah, .ref zgd]))]) hD hS hA [0] rfl
    refine va_calli (va_runV (As := [.int 1]) (rest := []) ⟨hx, hb, hml, hown, hts⟩ (c_X7_no l dC dI cI cJ zmo zar zbe zst zah zgd H.size (0, mM.2.1, mM.2.2.1, mM.2.2.2.1, mM.2.2.2.2.1, mM.2.2.2.2.2) 1) (cwV 1 hts gX7_told_X7_no rfl rfl rfl (by decide +kernel) ⟨Nat.le_of_ble_eq_true rfl, Nat.le_of_ble_eq_true rfl⟩) ⟨fun a U gg mk q => by obtain ⟨q0, q1, qP, qK, qD⟩ := q; exact ⟨q0, q1, qP, va_K.moved (u := U) (U := U.calling gg mk a) (Vm.Alike.refl U.vm) qK, qD⟩, va_recv hK hPc (ci := 6) (q0 := 0) rfl rfl, fun U hU hW => ⟨rfl, by rw [hU], by rw [hU]; exact hPc, va_K.moved hW.alike hK, hDc.weaken (fun _ _ _ _ => trivial)⟩⟩ rfl rfl hl.1 rfl (lv_room (Nat.le_of_ble_eq_true rfl)) dX7_told_41 ⟨Nat.zero_le _, Nat.zero_le _⟩) hS (fun q _ h => hFc q h) hFc (fun r_ u_ t H locs ht hvm hw hB hz1 hk1 hS => ?_)
    obtain rfl := hw.symm
    obtain ⟨hP1, -, hD1⟩ := hB
    rw [ht] at hP1
    obtain ⟨hP, hD⟩ := va_join (wr := [(zar, .inl (cJ, 64, .inr (.inl fR))), (zbe, .inl (cJ, 64, .inr (.inl fB))), (zst, .inr (5, [.int sS.1, .int sS.2.1, .int sS.2.2.1, .long sS.2.2.2, .ref zsa])), (zsa, .inl (cI, 64, .inl aS))]) (w1 := [(zmo, .inr (6, [.int (f_X7_no (0, mM.2.1, mM.2.2.1, mM.2.2.2.1, mM.2.2.2.2.1, mM.2.2.2.2.2) 1).2.1, .int (f_X7_no (0, mM.2.1, mM.2.2.1, mM.2.2.2.1, mM.2.2.2.2.1, mM.2.2.2.2.2) 1).2.2.1, .int (f_X7_no (0, mM.2.1, mM.2.2.1, mM.2.2.2.1, mM.2.2.2.2.1, mM.2.2.2.2.2) 1).2.2.2.1, .int (bI (f_X7_no (0, mM.2.1, mM.2.2.1, mM.2.2.2.1, mM.2.2.2.2.1, mM.2.2.2.2.2) 1).2.2.2.2.1), .int (f_X7_no (0, mM.2.1, mM.2.2.1, mM.2.2.2.1, mM.2.2.2.2.1, mM.2.2.2.2.2) 1).2.2.2.2.2.1, .int (f_X7_no (0, mM.2.1, mM.2.2.1, mM.2.2.2.1, mM.2.2.2.2.1, mM.2.2.2.2.2) 1).2.2.2.2.2.2, .ref zar, .ref zbe, .ref zst, .ref zah, .ref zgd]))]) hP hD [0] [1, 2, 3, 4] rfl rfl (by decide) (by decide) hk1 hFc hP1 hD1
    have hP := hP.sub (ws' := [(zmo, .inr (6, [.int (f_X7_no (0, mM.2.1, mM.2.2.1, mM.2.2.2.1, mM.2.2.2.2.1, mM.2.2.2.2.2) 1).2.1, .int (f_X7_no (0, mM.2.1, mM.2.2.1, mM.2.2.2.1, mM.2.2.2.2.1, mM.2.2.2.2.2) 1).2.2.1, .int (f_X7_no (0, mM.2.1, mM.2.2.1, mM.2.2.2.1, mM.2.2.2.2.1, mM.2.2.2.2.2) 1).2.2.2.1, .int (bI (f_X7_no (0, mM.2.1, mM.2.2.1, mM.2.2.2.1, mM.2.2.2.2.1, mM.2.2.2.2.2) 1).2.2.2.2.1), .int (f_X7_no (0, mM.2.1, mM.2.2.1, mM.2.2.2.1, mM.2.2.2.2.1, mM.2.2.2.2.2) 1).2.2.2.2.2.1, .int (f_X7_no (0, mM.2.1, mM.2.2.1, mM.2.2.2.1, mM.2.2.2.2.1, mM.2.2.2.2.2) 1).2.2.2.2.2.2, .ref zar, .ref zbe, .ref zst, .ref zah, .ref zgd])), (zar, .inl (cJ, 64, .inr (.inl fR))), (zbe, .inl (cJ, 64, .inr (.inl fB))), (zst, .inr (5, [.int sS.1, .int sS.2.1, .int sS.2.2.1, .long sS.2.2.2, .ref zsa])), (zsa, .inl (cI, 64, .inl aS))]) [4, 0, 1, 2, 3] rfl
    have hD := hD.sub (ws' := [(zmo, .inr (6, [.int (f_X7_no (0, mM.2.1, mM.2.2.1, mM.2.2.2.1, mM.2.2.2.2.1, mM.2.2.2.2.2) 1).2.1, .int (f_X7_no (0, mM.2.1, mM.2.2.1, mM.2.2.2.1, mM.2.2.2.2.1, mM.2.2.2.2.2) 1).2.2.1, .int (f_X7_no (0, mM.2.1, mM.2.2.1, mM.2.2.2.1, mM.2.2.2.2.1, mM.2.2.2.2.2) 1).2.2.2.1, .int (bI (f_X7_no (0, mM.2.1, mM.2.2.1, mM.2.2.2.1, mM.2.2.2.2.1, mM.2.2.2.2.2) 1).2.2.2.2.1), .int (f_X7_no (0, mM.2.1, mM.2.2.1, mM.2.2.2.1, mM.2.2.2.2.1, mM.2.2.2.2.2) 1).2.2.2.2.2.1, .int (f_X7_no (0, mM.2.1, mM.2.2.1, mM.2.2.2.1, mM.2.2.2.2.1, mM.2.2.2.2.2) 1).2.2.2.2.2.2, .ref zar, .ref zbe, .ref zst, .ref zah, .ref zgd])), (zar, .inl (cJ, 64, .inr (.inl fR))), (zbe, .inl (cJ, 64, .inr (.inl fB))), (zst, .inr (5, [.int sS.1, .int sS.2.1, .int sS.2.2.1, .long sS.2.2.2, .ref zsa])), (zsa, .inl (cI, 64, .inl aS))]) [4, 0, 1, 2, 3] (by decide) rfl
    clear hPc hDc hFc hP1 hD1 hk1
    obtain rfl := Option.some.inj hf
    exact W.iret (v := (f_X7_no (0, mM.2.1, mM.2.2.1, mM.2.2.2.1, mM.2.2.2.2.1, mM.2.2.2.2.2) 1).1) hx hb hr (fun t ht hW => ⟨⟨(f_X7_no (0, mM.2.1, mM.2.2.1, mM.2.2.2.1, mM.2.2.2.2.1, mM.2.2.2.2.2) 1).1, (), rfl, rfl, by rw [ht]; exact hP, va_K.moved hW.alike hK, hD⟩, hS.F ht⟩) hS.2.2 dX7_told_44
  · rw [if_neg hc] at hf
    refine lv_iload_n hx hb dX7_told_14 rfl (lv_at hl 3 rfl) ?_
    refine lv_iconst (v := 0) hx hb dX7_told_15 (by decide) ?_
    refine lv_iconst (v := 4) hx hb dX7_told_16 (by decide) ?_
    have hPc := hP.sub (ws' := []) [] rfl
    have hDc := hD.sub (ws' := []) [] (by decide) rfl
    have hFc := va_free (wc := []) hD hS hA [] rfl
    refine va_calli (va_runS (As := [.int wh, .int 0, .int 4]) (rest := []) ⟨hx, hb, hml, hown, hts⟩ (c_X7_isIn l dC dI cI cJ  H.size wh 0 4) (va_cwS 3 hts gX7_told_X7_isIn rfl rfl rfl (by decide +kernel) ⟨Nat.le_of_ble_eq_true rfl, Nat.le_of_ble_eq_true rfl⟩) ⟨fun a U gg mk q => by obtain ⟨q0, q1, qP, qK, qD⟩ := q; exact ⟨q0, q1, qP, va_K.moved (u := U) (U := U.calling gg mk a) (Vm.Alike.refl U.vm) qK, qD⟩, fun U hU hW => ⟨rfl, by rw [hU], by rw [hU]; exact hPc, va_K.moved hW.alike hK, hDc.weaken (fun _ _ _ _ => trivial)⟩⟩ rfl rfl hl.1 rfl (lv_room (Nat.le_of_ble_eq_true rfl)) dX7_told_17 ⟨Nat.zero_le _, Nat.zero_le _⟩) hS (fun q _ h => hFc q h) hFc (fun r_ u_ t H locs ht hvm hw hB hz1 hk1 hS => ?_)
    obtain rfl := hw.symm
    obtain ⟨hP1, -, hD1⟩ := hB
    rw [ht] at hP1
    obtain ⟨hP, hD⟩ := va_join (wr := [(zmo, .inr (6, [.int 0, .int mM.2.1, .int mM.2.2.1, .int (bI mM.2.2.2.1), .int mM.2.2.2.2.1, .int mM.2.2.2.2.2, .ref zar, .ref zbe, .ref zst, .ref zah, .ref zgd])), (zar, .inl (cJ, 64, .inr (.inl fR))), (zbe, .inl (cJ, 64, .inr (.inl fB))), (zst, .inr (5, [.int sS.1, .int sS.2.1, .int sS.2.2.1, .long sS.2.2.2, .ref zsa])), (zsa, .inl (cI, 64, .inl aS))]) (w1 := []) hP hD [] [0, 1, 2, 3, 4] rfl rfl (by decide) (by decide) hk1 hFc hP1 hD1
    have hP := hP.sub (ws' := [(zmo, .inr (6, [.int 0, .int mM.2.1, .int mM.2.2.1, .int (bI mM.2.2.2.1), .int mM.2.2.2.2.1, .int mM.2.2.2.2.2, .ref zar, .ref zbe, .ref zst, .ref zah, .ref zgd])), (zar, .inl (cJ, 64, .inr (.inl fR))), (zbe, .inl (cJ, 64, .inr (.inl fB))), (zst, .inr (5, [.int sS.1, .int sS.2.1, .int sS.2.2.1, .long sS.2.2.2, .ref zsa])), (zsa, .inl (cI, 64, .inl aS))]) [0, 1, 2, 3, 4] rfl
    have hD := hD.sub (ws' := [(zmo, .inr (6, [.int 0, .int mM.2.1, .int mM.2.2.1, .int (bI mM.2.2.2.1), .int mM.2.2.2.2.1, .int mM.2.2.2.2.2, .ref zar, .ref zbe, .ref zst, .ref zah, .ref zgd])), (zar, .inl (cJ, 64, .inr (.inl fR))), (zbe, .inl (cJ, 64, .inr (.inl fB))), (zst, .inr (5, [.int sS.1, .int sS.2.1, .int sS.2.2.1, .long sS.2.2.2, .ref zsa])), (zsa, .inl (cI, 64, .inl aS))]) [0, 1, 2, 3, 4] (by decide) rfl
    clear hPc hDc hFc hP1 hD1 hk1
    refine lv_if_eq (tgt := 39) hx hb dX7_told_20 (by decide) (fun hc => ?_) (fun hc => ?_)
    · rw [if_pos hc] at hf
      refine lv_aload_n hx hb dX7_told_39 rfl (lv_at hl 0 rfl) ?_
      refine lv_iconst (v := 1) hx hb dX7_told_40 (by decide) ?_
      have hPc := hP.sub (ws' := [(zmo, .inr (6, [.int 0, .int mM.2.1, .int mM.2.2.1, .int (bI mM.2.2.2.1), .int mM.2.2.2.2.1, .int mM.2.2.2.2.2, .ref zar, .ref zbe, .ref zst, .ref zah, .ref zgd]))]) [0] rfl
      have hDc := hD.sub (ws' := [(zmo, .inr (6, [.int 0, .int mM.2.1, .int mM.2.2.1, .int (bI mM.2.2.2.1), .int mM.2.2.2.2.1, .int mM.2.2.2.2.2, .ref zar, .ref zbe, .ref zst, .ref zah, .ref zgd]))]) [0] (by decide) rfl
      have hFc := va_free (wc := [(zmo, .inr (6, [.int 0, .int mM.2.1, .int mM.2.2.1, .int (bI mM.2.2.2.1), .int mM.2.2.2.2.1, .int mM.2.2.2.2.2, .ref zar, .ref zbe, .ref zst, .ref zah, .ref zgd]))]) hD hS hA [0] rfl
      refine va_calli (va_runV (As := [.int 1]) (rest := []) ⟨hx, hb, hml, hown, hts⟩ (c_X7_no l dC dI cI cJ zmo zar zbe zst zah zgd H.size (0, mM.2.1, mM.2.2.1, mM.2.2.2.1, mM.2.2.2.2.1, mM.2.2.2.2.2) 1) (cwV 1 hts gX7_told_X7_no rfl rfl rfl (by decide +kernel) ⟨Nat.le_of_ble_eq_true rfl, Nat.le_of_ble_eq_true rfl⟩) ⟨fun a U gg mk q => by obtain ⟨q0, q1, qP, qK, qD⟩ := q; exact ⟨q0, q1, qP, va_K.moved (u := U) (U := U.calling gg mk a) (Vm.Alike.refl U.vm) qK, qD⟩, va_recv hK hPc (ci := 6) (q0 := 0) rfl rfl, fun U hU hW => ⟨rfl, by rw [hU], by rw [hU]; exact hPc, va_K.moved hW.alike hK, hDc.weaken (fun _ _ _ _ => trivial)⟩⟩ rfl rfl hl.1 rfl (lv_room (Nat.le_of_ble_eq_true rfl)) dX7_told_41 ⟨Nat.zero_le _, Nat.zero_le _⟩) hS (fun q _ h => hFc q h) hFc (fun r_ u_ t H locs ht hvm hw hB hz1 hk1 hS => ?_)
      obtain rfl := hw.symm
      obtain ⟨hP1, -, hD1⟩ := hB
      rw [ht] at hP1
      obtain ⟨hP, hD⟩ := va_join (wr := [(zar, .inl (cJ, 64, .inr (.inl fR))), (zbe, .inl (cJ, 64, .inr (.inl fB))), (zst, .inr (5, [.int sS.1, .int sS.2.1, .int sS.2.2.1, .long sS.2.2.2, .ref zsa])), (zsa, .inl (cI, 64, .inl aS))]) (w1 := [(zmo, .inr (6, [.int (f_X7_no (0, mM.2.1, mM.2.2.1, mM.2.2.2.1, mM.2.2.2.2.1, mM.2.2.2.2.2) 1).2.1, .int (f_X7_no (0, mM.2.1, mM.2.2.1, mM.2.2.2.1, mM.2.2.2.2.1, mM.2.2.2.2.2) 1).2.2.1, .int (f_X7_no (0, mM.2.1, mM.2.2.1, mM.2.2.2.1, mM.2.2.2.2.1, mM.2.2.2.2.2) 1).2.2.2.1, .int (bI (f_X7_no (0, mM.2.1, mM.2.2.1, mM.2.2.2.1, mM.2.2.2.2.1, mM.2.2.2.2.2) 1).2.2.2.2.1), .int (f_X7_no (0, mM.2.1, mM.2.2.1, mM.2.2.2.1, mM.2.2.2.2.1, mM.2.2.2.2.2) 1).2.2.2.2.2.1, .int (f_X7_no (0, mM.2.1, mM.2.2.1, mM.2.2.2.1, mM.2.2.2.2.1, mM.2.2.2.2.2) 1).2.2.2.2.2.2, .ref zar, .ref zbe, .ref zst, .ref zah, .ref zgd]))]) hP hD [0] [1, 2, 3, 4] rfl rfl (by decide) (by decide) hk1 hFc hP1 hD1
      have hP := hP.sub (ws' := [(zmo, .inr (6, [.int (f_X7_no (0, mM.2.1, mM.2.2.1, mM.2.2.2.1, mM.2.2.2.2.1, mM.2.2.2.2.2) 1).2.1, .int (f_X7_no (0, mM.2.1, mM.2.2.1, mM.2.2.2.1, mM.2.2.2.2.1, mM.2.2.2.2.2) 1).2.2.1, .int (f_X7_no (0, mM.2.1, mM.2.2.1, mM.2.2.2.1, mM.2.2.2.2.1, mM.2.2.2.2.2) 1).2.2.2.1, .int (bI (f_X7_no (0, mM.2.1, mM.2.2.1, mM.2.2.2.1, mM.2.2.2.2.1, mM.2.2.2.2.2) 1).2.2.2.2.1), .int (f_X7_no (0, mM.2.1, mM.2.2.1, mM.2.2.2.1, mM.2.2.2.2.1, mM.2.2.2.2.2) 1).2.2.2.2.2.1, .int (f_X7_no (0, mM.2.1, mM.2.2.1, mM.2.2.2.1, mM.2.2.2.2.1, mM.2.2.2.2.2) 1).2.2.2.2.2.2, .ref zar, .ref zbe, .ref zst, .ref zah, .ref zgd])), (zar, .inl (cJ, 64, .inr (.inl fR))), (zbe, .inl (cJ, 64, .inr (.inl fB))), (zst, .inr (5, [.int sS.1, .int sS.2.1, .int sS.2.2.1, .long sS.2.2.2, .ref zsa])), (zsa, .inl (cI, 64, .inl aS))]) [4, 0, 1, 2, 3] rfl
      have hD := hD.sub (ws' := [(zmo, .inr (6, [.int (f_X7_no (0, mM.2.1, mM.2.2.1, mM.2.2.2.1, mM.2.2.2.2.1, mM.2.2.2.2.2) 1).2.1, .int (f_X7_no (0, mM.2.1, mM.2.2.1, mM.2.2.2.1, mM.2.2.2.2.1, mM.2.2.2.2.2) 1).2.2.1, .int (f_X7_no (0, mM.2.1, mM.2.2.1, mM.2.2.2.1, mM.2.2.2.2.1, mM.2.2.2.2.2) 1).2.2.2.1, .int (bI (f_X7_no (0, mM.2.1, mM.2.2.1, mM.2.2.2.1, mM.2.2.2.2.1, mM.2.2.2.2.2) 1).2.2.2.2.1), .int (f_X7_no (0, mM.2.1, mM.2.2.1, mM.2.2.2.1, mM.2.2.2.2.1, mM.2.2.2.2.2) 1).2.2.2.2.2.1, .int (f_X7_no (0, mM.2.1, mM.2.2.1, mM.2.2.2.1, mM.2.2.2.2.1, mM.2.2.2.2.2) 1).2.2.2.2.2.2, .ref zar, .ref zbe, .ref zst, .ref zah, .ref zgd])), (zar, .inl (cJ, 64, .inr (.inl fR))), (zbe, .inl (cJ, 64, .inr (.inl fB))), (zst, .inr (5, [.int sS.1, .int sS.2.1, .int sS.2.2.1, .long sS.2.2.2, .ref zsa])), (zsa, .inl (cI, 64, .inl aS))]) [4, 0, 1, 2, 3] (by decide) rfl
      clear hPc hDc hFc hP1 hD1 hk1
      obtain rfl := Option.some.inj hf
      exact W.iret (v := (f_X7_no (0, mM.2.1, mM.2.2.1, mM.2.2.2.1, mM.2.2.2.2.1, mM.2.2.2.2.2) 1).1) hx hb hr (fun t ht hW => ⟨⟨(f_X7_no (0, mM.2.1, mM.2.2.1, mM.2.2.2.1, mM.2.2.2.2.1, mM.2.2.2.2.2) 1).1, (), rfl, rfl, by rw [ht]; exact hP, va_K.moved hW.alike hK, hD⟩, hS.F ht⟩) hS.2.2 dX7_told_44
    · rw [if_neg hc] at hf
      refine lv_aload_n hx hb dX7_told_23 rfl (lv_at hl 0 rfl) ?_
      refine lv_aload_n hx hb dX7_told_24 rfl (lv_at hl 0 rfl) ?_
      refine va_get (D := (dC, dI)) (ci := 6) (v := .int mM.2.1) (C := RX7) (T := TX7) (N := 11) hx hb hts hinX7 hown hK hP 0 rfl rfl 1 (by decide) hw1 (fun _ h9 => h9) rfl dX7_told_25 ?_
      refine lv_iload_n hx hb dX7_told_28 rfl (lv_at hl 2 rfl) ?_
      refine lv_imul hx hb dX7_told_29 ?_
      refine lv_iload_n hx hb dX7_told_30 rfl (lv_at hl 1 rfl) ?_
      refine lv_iadd hx hb dX7_told_31 ?_
      refine lv_iload_n hx hb dX7_told_32 rfl (lv_at hl 3 rfl) ?_
      obtain ⟨r1, hr1, hf⟩ := obind hf
      have hPc := hP.sub (ws' := [(zmo, .inr (6, [.int 0, .int mM.2.1, .int mM.2.2.1, .int (bI mM.2.2.2.1), .int mM.2.2.2.2.1, .int mM.2.2.2.2.2, .ref zar, .ref zbe, .ref zst, .ref zah, .ref zgd])), (zar, .inl (cJ, 64, .inr (.inl fR))), (zbe, .inl (cJ, 64, .inr (.inl fB))), (zst, .inr (5, [.int sS.1, .int sS.2.1, .int sS.2.2.1, .long sS.2.2.2, .ref zsa])), (zsa, .inl (cI, 64, .inl aS))]) [0, 1, 2, 3, 4] rfl
      have hDc := hD.sub (ws' := [(zmo, .inr (6, [.int 0, .int mM.2.1, .int mM.2.2.1, .int (bI mM.2.2.2.1), .int mM.2.2.2.2.1, .int mM.2.2.2.2.2, .ref zar, .ref zbe, .ref zst, .ref zah, .ref zgd])), (zar, .inl (cJ, 64, .inr (.inl fR))), (zbe, .inl (cJ, 64, .inr (.inl fB))), (zst, .inr (5, [.int sS.1, .int sS.2.1, .int sS.2.2.1, .long sS.2.2.2, .ref zsa])), (zsa, .inl (cI, 64, .inl aS))]) [0, 1, 2, 3, 4] (by decide) rfl
      have hFc := va_free (wc := [(zmo, .inr (6, [.int 0, .int mM.2.1, .int mM.2.2.1, .int (bI mM.2.2.2.1), .int mM.2.2.2.2.1, .int mM.2.2.2.2.2, .ref zar, .ref zbe, .ref zst, .ref zah, .ref zgd])), (zar, .inl (cJ, 64, .inr (.inl fR))), (zbe, .inl (cJ, 64, .inr (.inl fB))), (zst, .inr (5, [.int sS.1, .int sS.2.1, .int sS.2.2.1, .long sS.2.2.2, .ref zsa])), (zsa, .inl (cI, 64, .inl aS))]) hD hS hA [0, 1, 2, 3, 4] rfl
      refine va_calli (va_runV (As := [.int ((mM.2.1 * cy) + cx), .int wh]) (rest := []) ⟨hx, hb, hml, hown, hts⟩ (c_X7_toldOf l dC dI cI cJ zmo zar zbe zst zsa zah zgd H.size (0, mM.2.1, mM.2.2.1, mM.2.2.2.1, mM.2.2.2.2.1, mM.2.2.2.2.2) fR fB sS aS ((mM.2.1 * cy) + cx) wh _ hr1) (cwV 2 hts gX7_told_X7_toldOf rfl rfl rfl (by decide +kernel) ⟨Nat.le_of_ble_eq_true rfl, Nat.le_of_ble_eq_true rfl⟩) ⟨fun a U gg mk q => by obtain ⟨q0, q1, qP, qK, qD, qn⟩ := q; exact ⟨q0, q1, qP, va_K.moved (u := U) (U := U.calling gg mk a) (Vm.Alike.refl U.vm) qK, qD, nwM.same (u := U) (U := U.calling gg mk a) rfl qn⟩, va_recv hK hPc (ci := 6) (q0 := 0) rfl rfl, fun U hU hW => ⟨rfl, by rw [hU], by rw [hU]; exact hPc, va_K.moved hW.alike hK, hDc.weaken (fun _ _ _ _ => trivial), nwM.moved hW hnw⟩⟩ rfl rfl hl.1 rfl (lv_room (Nat.le_of_ble_eq_true rfl)) dX7_told_33 ⟨Nat.zero_le _, Nat.zero_le _⟩) hS (fun q _ h => hFc q h) hFc (fun r_ u_ t H locs ht hvm hw hB hz1 hk1 hS => ?_)
      obtain rfl := hw.symm
      obtain ⟨hP1, -, hD1⟩ := hB
      rw [ht] at hP1
      obtain ⟨hP, hD⟩ := va_join (wr := []) (w1 := [(zmo, .inr (6, [.int 0, .int mM.2.1, .int mM.2.2.1, .int (bI mM.2.2.2.1), .int mM.2.2.2.2.1, .int mM.2.2.2.2.2, .ref zar, .ref zbe, .ref zst, .ref zah, .ref zgd])), (zar, .inl (cJ, 64, .inr (.inl fR))), (zbe, .inl (cJ, 64, .inr (.inl fB))), (zst, .inr (5, [.int sS.1, .int sS.2.1, .int sS.2.2.1, .long sS.2.2.2, .ref zsa])), (zsa, .inl (cI, 64, .inl aS))]) hP hD [0, 1, 2, 3, 4] [] rfl rfl (by decide) (by decide) hk1 hFc hP1 hD1
      have hP := hP.sub (ws' := [(zmo, .inr (6, [.int 0, .int mM.2.1, .int mM.2.2.1, .int (bI mM.2.2.2.1), .int mM.2.2.2.2.1, .int mM.2.2.2.2.2, .ref zar, .ref zbe, .ref zst, .ref zah, .ref zgd])), (zar, .inl (cJ, 64, .inr (.inl fR))), (zbe, .inl (cJ, 64, .inr (.inl fB))), (zst, .inr (5, [.int sS.1, .int sS.2.1, .int sS.2.2.1, .long sS.2.2.2, .ref zsa])), (zsa, .inl (cI, 64, .inl aS))]) [0, 1, 2, 3, 4] rfl
      have hD := hD.sub (ws' := [(zmo, .inr (6, [.int 0, .int mM.2.1, .int mM.2.2.1, .int (bI mM.2.2.2.1), .int mM.2.2.2.2.1, .int mM.2.2.2.2.2, .ref zar, .ref zbe, .ref zst, .ref zah, .ref zgd])), (zar, .inl (cJ, 64, .inr (.inl fR))), (zbe, .inl (cJ, 64, .inr (.inl fB))), (zst, .inr (5, [.int sS.1, .int sS.2.1, .int sS.2.2.1, .long sS.2.2.2, .ref zsa])), (zsa, .inl (cI, 64, .inl aS))]) [0, 1, 2, 3, 4] (by decide) rfl
      clear hPc hDc hFc hP1 hD1 hk1
      refine lv_goto (tgt := 44) hx hb dX7_told_36 (by decide) ?_
      obtain rfl := Option.some.inj hf
      exact W.iret (v := r1) hx hb hr (fun t ht hW => ⟨⟨r1, (), rfl, rfl, by rw [ht]; exact hP, va_K.moved hW.alike hK, hD⟩, hS.F ht⟩) hS.2.2 dX7_told_44
/-! HedgeGlidersModel.count(I)I -/
def f_X7_count (mM : MoS) (fR : Nat → Int64) (fB : Nat → Int64) (sS : StS) (aS : Nat → Int32) (wh : Int32) : Option (Int32 × MoS) := if (f_X7_isIn wh 0 10) = 0 then (some ((f_X7_no (0, mM.2.1, mM.2.2.1, mM.2.2.2.1, mM.2.2.2.2.1, mM.2.2.2.2.2) 1).1, (f_X7_no (0, mM.2.1, mM.2.2.1, mM.2.2.2.1, mM.2.2.2.2.1, mM.2.2.2.2.2) 1).2)) else (Option.bind (f_X7_counted (0, mM.2.1, mM.2.2.1, mM.2.2.2.1, mM.2.2.2.2.1, mM.2.2.2.2.2) fR fB sS aS wh) fun r1 => some (r1, (0, mM.2.1, mM.2.2.1, mM.2.2.2.1, mM.2.2.2.2.1, mM.2.2.2.2.2)))
abbrev rm_X7_count : Room := ({ frames := 5, cells := 0, slots := 0, locals := 124 } : Room)
abbrev A_X7_count (cI cJ : ClassId) (zmo zar zbe zst zsa zah zgd : Nat) (mM : MoS) (fR : Nat → Int64) (fB : Nat → Int64) (sS : StS) (aS : Nat → Int32) (wh : Int32) (sz : Nat) : Nat → Prop := va_A [(zmo, .inr (6, [.int mM.1, .int mM.2.1, .int mM.2.2.1, .int (bI mM.2.2.2.1), .int mM.2.2.2.2.1, .int mM.2.2.2.2.2, .ref zar, .ref zbe, .ref zst, .ref zah, .ref zgd])), (zar, .inl (cJ, 64, .inr (.inl fR))), (zbe, .inl (cJ, 64, .inr (.inl fB))), (zst, .inr (5, [.int sS.1, .int sS.2.1, .int sS.2.2.1, .long sS.2.2.2, .ref zsa])), (zsa, .inl (cI, 64, .inl aS))] sz
abbrev Q_X7_count (dC : Nat → ClassId) (dI : Nat → Nat → Nat) (cI cJ : ClassId) (zmo zar zbe zst zsa zah zgd : Nat) (mM : MoS) (fR : Nat → Int64) (fB : Nat → Int64) (sS : StS) (aS : Nat → Int32) (wh : Int32) (sz : Nat) (R : Int32 × MoS) : Array Value → State → Outcome → State → Prop := va_Qi (fun (r : Int32) (_ : Unit) => r = R.1) (fun u_ t => va_P (dC, dI) vwCl [(zmo, .inr (6, [.int R.2.1, .int R.2.2.1, .int R.2.2.2.1, .int (bI R.2.2.2.2.1), .int R.2.2.2.2.2.1, .int R.2.2.2.2.2.2, .ref zar, .ref zbe, .ref zst, .ref zah, .ref zgd])), (zar, .inl (cJ, 64, .inr (.inl fR))), (zbe, .inl (cJ, 64, .inr (.inl fB))), (zst, .inr (5, [.int sS.1, .int sS.2.1, .int sS.2.2.1, .long sS.2.2.2, .ref zsa])), (zsa, .inl (cI, 64, .inl aS))] t.heap ∧ va_K (dC, dI) vwCl [(cI, .int), (cJ, .long)] t ∧ va_D (A_X7_count cI cJ zmo zar zbe zst zsa zah zgd mM fR fB sS aS wh sz) [(zmo, .inr (6, [.int R.2.1, .int R.2.2.1, .int R.2.2.2.1, .int (bI R.2.2.2.2.1), .int R.2.2.2.2.2.1, .int R.2.2.2.2.2.2, .ref zar, .ref zbe, .ref zst, .ref zah, .ref zgd])), (zar, .inl (cJ, 64, .inr (.inl fR))), (zbe, .inl (cJ, 64, .inr (.inl fB))), (zst, .inr (5, [.int sS.1, .int sS.2.1, .int sS.2.2.1, .long sS.2.2.2, .ref zsa])), (zsa, .inl (cI, 64, .inl aS))]) (A_X7_count cI cJ zmo zar zbe zst zsa zah zgd mM fR fB sS aS wh sz)
set_option maxHeartbeats 4000000 in
set_option maxRecDepth 100000 in
theorem c_X7_count (l : Launch) (dC : Nat → ClassId) (dI : Nat → Nat → Nat) (cI cJ : ClassId) (zmo zar zbe zst zsa zah zgd : Nat) (sz : Nat) (mM : MoS) (fR : Nat → Int64) (fB : Nat → Int64) (sS : StS) (aS : Nat → Int32) (wh : Int32) (R : Int32 × MoS) (hR : f_X7_count mM fR fB sS aS wh = some R) : Met l yX7_count wsX7_count rm_X7_count (va_Pc [.ref zmo, .int wh] (fun U => U.heap.size = sz ∧ va_P (dC, dI) vwCl [(zmo, .inr (6, [.int mM.1, .int mM.2.1, .int mM.2.2.1, .int (bI mM.2.2.2.1), .int mM.2.2.2.2.1, .int mM.2.2.2.2.2, .ref zar, .ref zbe, .ref zst, .ref zah, .ref zgd])), (zar, .inl (cJ, 64, .inr (.inl fR))), (zbe, .inl (cJ, 64, .inr (.inl fB))), (zst, .inr (5, [.int sS.1, .int sS.2.1, .int sS.2.2.1, .long sS.2.2.2, .ref zsa])), (zsa, .inl (cI, 64, .inl aS))] U.heap ∧ va_K (dC, dI) vwCl [(cI, .int), (cJ, .long)] U ∧ va_D (fun _ => True) [(zmo, .inr (6, [.int mM.1, .int mM.2.1, .int mM.2.2.1, .int (bI mM.2.2.2.1), .int mM.2.2.2.2.1, .int mM.2.2.2.2.2, .ref zar, .ref zbe, .ref zst, .ref zah, .ref zgd])), (zar, .inl (cJ, 64, .inr (.inl fR))), (zbe, .inl (cJ, 64, .inr (.inl fB))), (zst, .inr (5, [.int sS.1, .int sS.2.1, .int sS.2.2.1, .long sS.2.2.2, .ref zsa])), (zsa, .inl (cI, 64, .inl aS))] ∧ nwM U)) (Q_X7_count dC dI cI cJ zmo zar zbe zst zsa zah zgd mM fR fB sS aS wh sz R) 0 0 (A_X7_count cI cJ zmo zar zbe zst zsa zah zgd mM fR fB sS aS wh sz) := by
  have hf := hR
  refine Met.ofW (cc := cX7_count) (maxL := 2) (ret := (some .int)) (by decide) rfl ?_
  intro p e s m args below meth c s₁ B hml hv
  obtain ⟨hargs, hsz, hP, hK, hD0, hnw⟩ := hv
  have hx := B.exec
  have hb := B.bytes
  have hr := B.returns
  have hts := atoms_spec (ws := wsX7_count) B.pre
  have hown : s.vm.findClass RX7 = some m.cls := findClass_of_methodNamed B.named
  have hlocks := B.notSynchronized
  subst hsz
  obtain ⟨hnw_hedges, hnw_ages, hnw_born, hnw_dead, hnw_year⟩ := id hnw
  have hD : va_D (A_X7_count cI cJ zmo zar zbe zst zsa zah zgd mM fR fB sS aS wh s.heap.size) [(zmo, .inr (6, [.int mM.1, .int mM.2.1, .int mM.2.2.1, .int (bI mM.2.2.2.1), .int mM.2.2.2.2.1, .int mM.2.2.2.2.2, .ref zar, .ref zbe, .ref zst, .ref zah, .ref zgd])), (zar, .inl (cJ, 64, .inr (.inl fR))), (zbe, .inl (cJ, 64, .inr (.inl fB))), (zst, .inr (5, [.int sS.1, .int sS.2.1, .int sS.2.2.1, .long sS.2.2.2, .ref zsa])), (zsa, .inl (cI, 64, .inl aS))] := hD0.self (sz := s.heap.size)
  have hA : ∀ q : Nat, s.heap.size ≤ q → (A_X7_count cI cJ zmo zar zbe zst zsa zah zgd mM fR fB sS aS wh s.heap.size) q := fun q h => Or.inr h
  have hS : va_S (A_X7_count cI cJ zmo zar zbe zst zsa zah zgd mM fR fB sS aS wh s.heap.size) s.heap s.heap [] := va_S.rf
  have hinX7 : ∀ w ∈ wsX70, w ∈ wsX7_count := by decide +kernel
  have hw0 := hts (.fieldLink RX7 45 "HedgeGlidersModel" "thrown" "I") (by decide +kernel)
  have hw1 := hts (.fieldLink RX7 32 "HedgeGlidersModel" "s" "LHedgeGlidersModel$State;") (by decide +kernel)
  have hl := lv_entry ([.ref zmo, .int wh]) (n := 2) (Nat.le_of_ble_eq_true rfl)
  have he0 : entryFrame m args 2 = entryFrame m ([.ref zmo, .int wh] : List Value).toArray 2 := by rw [hargs]
  rw [he0, lg_entry_eq]
  generalize (lg_sl ([.ref zmo, .int wh]) ++ List.replicate (2 - (lg_sl ([.ref zmo, .int wh])).length) Slot.unset).toArray = ls at hl ⊢
  have hl : lv_has ls 2 [(0, .ref zmo), (1, .int wh)] := hl
  rw [f_X7_count] at hf
  refine lv_aload_n hx hb dX7_count_0 rfl (lv_at hl 0 rfl) ?_
  refine lv_iconst (v := 0) hx hb dX7_count_1 (by decide) ?_
  refine va_put (D := (dC, dI)) (ci := 6) (v := .int 0) (ty := .int) (C := RX7) (T := TX7) (N := 11) hx hb hts hinX7 tyX7 tyX7_ok nmX7 hown hK hP hD hS 0 rfl rfl 0 (by decide) hw0 (fun _ h9 => h9) rfl (by decide +kernel) rfl rfl (Nat.le_of_ble_eq_true rfl) dX7_count_2 (fun H locs hP hD hS => ?_)
  have hP : va_P (dC, dI) vwCl [(zmo, .inr (6, [.int 0, .int mM.2.1, .int mM.2.2.1, .int (bI mM.2.2.2.1), .int mM.2.2.2.2.1, .int mM.2.2.2.2.2, .ref zar, .ref zbe, .ref zst, .ref zah, .ref zgd])), (zar, .inl (cJ, 64, .inr (.inl fR))), (zbe, .inl (cJ, 64, .inr (.inl fB))), (zst, .inr (5, [.int sS.1, .int sS.2.1, .int sS.2.2.1, .long sS.2.2.2, .ref zsa])), (zsa, .inl (cI, 64, .inl aS))] H := hP
  have hD : va_D (A_X7_count cI cJ zmo zar zbe zst zsa zah zgd mM fR fB sS aS wh s.heap.size) [(zmo, .inr (6, [.int 0, .int mM.2.1, .int mM.2.2.1, .int (bI mM.2.2.2.1), .int mM.2.2.2.2.1, .int mM.2.2.2.2.2, .ref zar, .ref zbe, .ref zst, .ref zah, .ref zgd])), (zar, .inl (cJ, 64, .inr (.inl fR))), (zbe, .inl (cJ, 64, .inr (.inl fB))), (zst, .inr (5, [.int sS.1, .int sS.2.1, .int sS.2.2.1, .long sS.2.2.2, .ref zsa])), (zsa, .inl (cI, 64, .inl aS))] := hD
  refine lv_iload_n hx hb dX7_count_5 rfl (lv_at hl 1 rfl) ?_
  refine lv_iconst (v := 0) hx hb dX7_count_6 (by decide) ?_
  refine lv_bipush (v := 10) hx hb dX7_count_7 (by decide) ?_
  have hPc := hP.sub (ws' := []) [] rfl
  have hDc := hD.sub (ws' := []) [] (by decide) rfl
  have hFc := va_free (wc := []) hD hS hA [] rfl
  refine va_calli (va_runS (As := [.int wh, .int 0, .int 10]) (rest := []) ⟨hx, hb, hml, hown, hts⟩ (c_X7_isIn l dC dI cI cJ  H.size wh 0 10) (va_cwS 3 hts gX7_count_X7_isIn rfl rfl rfl (by decide +kernel) ⟨Nat.le_of_ble_eq_true rfl, Nat.le_of_ble_eq_true rfl⟩) ⟨fun a U gg mk q => by obtain ⟨q0, q1, qP, qK, qD⟩ := q; exact ⟨q0, q1, qP, va_K.moved (u := U) (U := U.calling gg mk a) (Vm.Alike.refl U.vm) qK, qD⟩, fun U hU hW => ⟨rfl, by rw [hU], by rw [hU]; exact hPc, va_K.moved hW.alike hK, hDc.weaken (fun _ _ _ _ => trivial)⟩⟩ rfl rfl hl.1 rfl (lv_room (Nat.le_of_ble_eq_true rfl)) dX7_count_9 ⟨Nat.zero_le _, Nat.zero_le _⟩) hS (fun q _ h => hFc q h) hFc (fun r_ u_ t H locs ht hvm hw hB hz1 hk1 hS => ?_)
  obtain rfl := hw.symm
  obtain ⟨hP1, -, hD1⟩ := hB
  rw [ht] at hP1
  obtain ⟨hP, hD⟩ := va_join (wr := [(zmo, .inr (6, [.int 0, .int mM.2.1, .int mM.2.2.1, .int (bI mM.2.2.2.1), .int mM.2.2.2.2.1, .int mM.2.2.2.2.2, .ref zar, .ref zbe, .ref zst, .ref zah, .ref zgd])), (zar, .inl (cJ, 64, .inr (.inl fR))), (zbe, .inl (cJ, 64, .inr (.inl fB))), (zst, .inr (5, [.int sS.1, .int sS.2.1, .int sS.2.2.1, .long sS.2.2.2, .ref zsa])), (zsa, .inl (cI, 64, .inl aS))]) (w1 := []) hP hD [] [0, 1, 2, 3, 4] rfl rfl (by decide) (by decide) hk1 hFc hP1 hD1
  have hP := hP.sub (ws' := [(zmo, .inr (6, [.int 0, .int mM.2.1, .int mM.2.2.1, .int (bI mM.2.2.2.1), .int mM.2.2.2.2.1, .int mM.2.2.2.2.2, .ref zar, .ref zbe, .ref zst, .ref zah, .ref zgd])), (zar, .inl (cJ, 64, .inr (.inl fR))), (zbe, .inl (cJ, 64, .inr (.inl fB))), (zst, .inr (5, [.int sS.1, .int sS.2.1, .int sS.2.2.1, .long sS.2.2.2, .ref zsa])), (zsa, .inl (cI, 64, .inl aS))]) [0, 1, 2, 3, 4] rfl
  have hD := hD.sub (ws' := [(zmo, .inr (6, [.int 0, .int mM.2.1, .int mM.2.2.1, .int (bI mM.2.2.2.1), .int mM.2.2.2.2.1, .int mM.2.2.2.2.2, .ref zar, .ref zbe, .ref zst, .ref zah, .ref zgd])), (zar, .inl (cJ, 64, .inr (.inl fR))), (zbe, .inl (cJ, 64, .inr (.inl fB))), (zst, .inr (5, [.int sS.1, .int sS.2.1, .int sS.2.2.1, .long sS.2.2.2, .ref zsa])), (zsa, .inl (cI, 64, .inl aS))]) [0, 1, 2, 3, 4] (by decide) rfl
  clear hPc hDc hFc hP1 hD1 hk1
  refine lv_if_eq (tgt := 27) hx hb dX7_count_12 (by decide) (fun hc => ?_) (fun hc => ?_)
  · rw [if_pos hc] at hf
    refine lv_aload_n hx hb dX7_count_27 rfl (lv_at hl 0 rfl) ?_
    refine lv_iconst (v := 1) hx hb dX7_count_28 (by decide) ?_
    have hPc := hP.sub (ws' := [(zmo, .inr (6, [.int 0, .int mM.2.1, .int mM.2.2.1, .int (bI mM.2.2.2.1), .int mM.2.2.2.2.1, .int mM.2.2.2.2.2, .ref zar, .ref zbe, .ref zst, .ref zah, .ref zgd]))]) [0] rfl
    have hDc := hD.sub (ws' := [(zmo, .inr (6, [.int 0, .int mM.2.1, .int mM.2.2.1, .int (bI mM.2.2.2.1), .int mM.2.2.2.2.1, .int mM.2.2.2.2.2, .ref zar, .ref zbe, .ref zst, .ref zah, .ref zgd]))]) [0] (by decide) rfl
    have hFc := va_free (wc := [(zmo, .inr (6, [.int 0, .int mM.2.1, .int mM.2.2.1, .int (bI mM.2.2.2.1), .int mM.2.2.2.2.1, .int mM.2.2.2.2.2, .ref zar, .ref zbe, .ref zst, .ref zah, .ref zgd]))]) hD hS hA [0] rfl
    refine va_calli (va_runV (As := [.int 1]) (rest := []) ⟨hx, hb, hml, hown, hts⟩ (c_X7_no l dC dI cI cJ zmo zar zbe zst zah zgd H.size (0, mM.2.1, mM.2.2.1, mM.2.2.2.1, mM.2.2.2.2.1, mM.2.2.2.2.2) 1) (cwV 1 hts gX7_count_X7_no rfl rfl rfl (by decide +kernel) ⟨Nat.le_of_ble_eq_true rfl, Nat.le_of_ble_eq_true rfl⟩) ⟨fun a U gg mk q => by obtain ⟨q0, q1, qP, qK, qD⟩ := q; exact ⟨q0, q1, qP, va_K.moved (u := U) (U := U.calling gg mk a) (Vm.Alike.refl U.vm) qK, qD⟩, va_recv hK hPc (ci := 6) (q0 := 0) rfl rfl, fun U hU hW => ⟨rfl, by rw [hU], by rw [hU]; exact hPc, va_K.moved hW.alike hK, hDc.weaken (fun _ _ _ _ => trivial)⟩⟩ rfl rfl hl.1 rfl (lv_room (Nat.le_of_ble_eq_true rfl)) dX7_count_29 ⟨Nat.zero_le _, Nat.zero_le _⟩) hS (fun q _ h => hFc q h) hFc (fun r_ u_ t H locs ht hvm hw hB hz1 hk1 hS => ?_)
    obtain rfl := hw.symm
    obtain ⟨hP1, -, hD1⟩ := hB
    rw [ht] at hP1
    obtain ⟨hP, hD⟩ := va_join (wr := [(zar, .inl (cJ, 64, .inr (.inl fR))), (zbe, .inl (cJ, 64, .inr (.inl fB))), (zst, .inr (5, [.int sS.1, .int sS.2.1, .int sS.2.2.1, .long sS.2.2.2, .ref zsa])), (zsa, .inl (cI, 64, .inl aS))]) (w1 := [(zmo, .inr (6, [.int (f_X7_no (0, mM.2.1, mM.2.2.1, mM.2.2.2.1, mM.2.2.2.2.1, mM.2.2.2.2.2) 1).2.1, .int (f_X7_no (0, mM.2.1, mM.2.2.1, mM.2.2.2.1, mM.2.2.2.2.1, mM.2.2.2.2.2) 1).2.2.1, .int (f_X7_no (0, mM.2.1, mM.2.2.1, mM.2.2.2.1, mM.2.2.2.2.1, mM.2.2.2.2.2) 1).2.2.2.1, .int (bI (f_X7_no (0, mM.2.1, mM.2.2.1, mM.2.2.2.1, mM.2.2.2.2.1, mM.2.2.2.2.2) 1).2.2.2.2.1), .int (f_X7_no (0, mM.2.1, mM.2.2.1, mM.2.2.2.1, mM.2.2.2.2.1, mM.2.2.2.2.2) 1).2.2.2.2.2.1, .int (f_X7_no (0, mM.2.1, mM.2.2.1, mM.2.2.2.1, mM.2.2.2.2.1, mM.2.2.2.2.2) 1).2.2.2.2.2.2, .ref zar, .ref zbe, .ref zst, .ref zah, .ref zgd]))]) hP hD [0] [1, 2, 3, 4] rfl rfl (by decide) (by decide) hk1 hFc hP1 hD1
    have hP := hP.sub (ws' := [(zmo, .inr (6, [.int (f_X7_no (0, mM.2.1, mM.2.2.1, mM.2.2.2.1, mM.2.2.2.2.1, mM.2.2.2.2.2) 1).2.1, .int (f_X7_no (0, mM.2.1, mM.2.2.1, mM.2.2.2.1, mM.2.2.2.2.1, mM.2.2.2.2.2) 1).2.2.1, .int (f_X7_no (0, mM.2.1, mM.2.2.1, mM.2.2.2.1, mM.2.2.2.2.1, mM.2.2.2.2.2) 1).2.2.2.1, .int (bI (f_X7_no (0, mM.2.1, mM.2.2.1, mM.2.2.2.1, mM.2.2.2.2.1, mM.2.2.2.2.2) 1).2.2.2.2.1), .int (f_X7_no (0, mM.2.1, mM.2.2.1, mM.2.2.2.1, mM.2.2.2.2.1, mM.2.2.2.2.2) 1).2.2.2.2.2.1, .int (f_X7_no (0, mM.2.1, mM.2.2.1, mM.2.2.2.1, mM.2.2.2.2.1, mM.2.2.2.2.2) 1).2.2.2.2.2.2, .ref zar, .ref zbe, .ref zst, .ref zah, .ref zgd])), (zar, .inl (cJ, 64, .inr (.inl fR))), (zbe, .inl (cJ, 64, .inr (.inl fB))), (zst, .inr (5, [.int sS.1, .int sS.2.1, .int sS.2.2.1, .long sS.2.2.2, .ref zsa])), (zsa, .inl (cI, 64, .inl aS))]) [4, 0, 1, 2, 3] rfl
    have hD := hD.sub (ws' := [(zmo, .inr (6, [.int (f_X7_no (0, mM.2.1, mM.2.2.1, mM.2.2.2.1, mM.2.2.2.2.1, mM.2.2.2.2.2) 1).2.1, .int (f_X7_no (0, mM.2.1, mM.2.2.1, mM.2.2.2.1, mM.2.2.2.2.1, mM.2.2.2.2.2) 1).2.2.1, .int (f_X7_no (0, mM.2.1, mM.2.2.1, mM.2.2.2.1, mM.2.2.2.2.1, mM.2.2.2.2.2) 1).2.2.2.1, .int (bI (f_X7_no (0, mM.2.1, mM.2.2.1, mM.2.2.2.1, mM.2.2.2.2.1, mM.2.2.2.2.2) 1).2.2.2.2.1), .int (f_X7_no (0, mM.2.1, mM.2.2.1, mM.2.2.2.1, mM.2.2.2.2.1, mM.2.2.2.2.2) 1).2.2.2.2.2.1, .int (f_X7_no (0, mM.2.1, mM.2.2.1, mM.2.2.2.1, mM.2.2.2.2.1, mM.2.2.2.2.2) 1).2.2.2.2.2.2, .ref zar, .ref zbe, .ref zst, .ref zah, .ref zgd])), (zar, .inl (cJ, 64, .inr (.inl fR))), (zbe, .inl (cJ, 64, .inr (.inl fB))), (zst, .inr (5, [.int sS.1, .int sS.2.1, .int sS.2.2.1, .long sS.2.2.2, .ref zsa])), (zsa, .inl (cI, 64, .inl aS))]) [4, 0, 1, 2, 3] (by decide) rfl
    clear hPc hDc hFc hP1 hD1 hk1
    obtain rfl := Option.some.inj hf
    exact W.iret (v := (f_X7_no (0, mM.2.1, mM.2.2.1, mM.2.2.2.1, mM.2.2.2.2.1, mM.2.2.2.2.2) 1).1) hx hb hr (fun t ht hW => ⟨⟨(f_X7_no (0, mM.2.1, mM.2.2.1, mM.2.2.2.1, mM.2.2.2.2.1, mM.2.2.2.2.2) 1).1, (), rfl, rfl, by rw [ht]; exact hP, va_K.moved hW.alike hK, hD⟩, hS.F ht⟩) hS.2.2 dX7_count_32
  · rw [if_neg hc] at hf
    refine lv_aload_n hx hb dX7_count_15 rfl (lv_at hl 0 rfl) ?_
    refine lv_aload_n hx hb dX7_count_16 rfl (lv_at hl 0 rfl) ?_
    refine va_get (D := (dC, dI)) (ci := 6) (v := .ref zst) (C := RX7) (T := TX7) (N := 11) hx hb hts hinX7 hown hK hP 0 rfl rfl 8 (by decide) hw1 (fun _ h9 => h9) rfl dX7_count_17 ?_
    refine lv_iload_n hx hb dX7_count_20 rfl (lv_at hl 1 rfl) ?_
    obtain ⟨r1, hr1, hf⟩ := obind hf
    have hPc := hP.sub (ws' := [(zmo, .inr (6, [.int 0, .int mM.2.1, .int mM.2.2.1, .int (bI mM.2.2.2.1), .int mM.2.2.2.2.1, .int mM.2.2.2.2.2, .ref zar, .ref zbe, .ref zst, .ref zah, .ref zgd])), (zar, .inl (cJ, 64, .inr (.inl fR))), (zbe, .inl (cJ, 64, .inr (.inl fB))), (zst, .inr (5, [.int sS.1, .int sS.2.1, .int sS.2.2.1, .long sS.2.2.2, .ref zsa])), (zsa, .inl (cI, 64, .inl aS))]) [0, 1, 2, 3, 4] rfl
    have hDc := hD.sub (ws' := [(zmo, .inr (6, [.int 0, .int mM.2.1, .int mM.2.2.1, .int (bI mM.2.2.2.1), .int mM.2.2.2.2.1, .int mM.2.2.2.2.2, .ref zar, .ref zbe, .ref zst, .ref zah, .ref zgd])), (zar, .inl (cJ, 64, .inr (.inl fR))), (zbe, .inl (cJ, 64, .inr (.inl fB))), (zst, .inr (5, [.int sS.1, .int sS.2.1, .int sS.2.2.1, .long sS.2.2.2, .ref zsa])), (zsa, .inl (cI, 64, .inl aS))]) [0, 1, 2, 3, 4] (by decide) rfl
    have hFc := va_free (wc := [(zmo, .inr (6, [.int 0, .int mM.2.1, .int mM.2.2.1, .int (bI mM.2.2.2.1), .int mM.2.2.2.2.1, .int mM.2.2.2.2.2, .ref zar, .ref zbe, .ref zst, .ref zah, .ref zgd])), (zar, .inl (cJ, 64, .inr (.inl fR))), (zbe, .inl (cJ, 64, .inr (.inl fB))), (zst, .inr (5, [.int sS.1, .int sS.2.1, .int sS.2.2.1, .long sS.2.2.2, .ref zsa])), (zsa, .inl (cI, 64, .inl aS))]) hD hS hA [0, 1, 2, 3, 4] rfl
    refine va_calli (va_runV (As := [.ref zst, .int wh]) (rest := []) ⟨hx, hb, hml, hown, hts⟩ (c_X7_counted l dC dI cI cJ zmo zar zbe zst zsa zst zah zgd H.size (0, mM.2.1, mM.2.2.1, mM.2.2.2.1, mM.2.2.2.2.1, mM.2.2.2.2.2) fR fB sS aS wh _ hr1) (cwV 2 hts gX7_count_X7_counted rfl rfl rfl (by decide +kernel) ⟨Nat.le_of_ble_eq_true rfl, Nat.le_of_ble_eq_true rfl⟩) ⟨fun a U gg mk q => by obtain ⟨q0, q1, qP, qK, qD, qn⟩ := q; exact ⟨q0, q1, qP, va_K.moved (u := U) (U := U.calling gg mk a) (Vm.Alike.refl U.vm) qK, qD, nwM.same (u := U) (U := U.calling gg mk a) rfl qn⟩, va_recv hK hPc (ci := 6) (q0 := 0) rfl rfl, fun U hU hW => ⟨rfl, by rw [hU], by rw [hU]; exact hPc, va_K.moved hW.alike hK, hDc.weaken (fun _ _ _ _ => trivial), nwM.moved hW hnw⟩⟩ rfl rfl hl.1 rfl (lv_room (Nat.le_of_ble_eq_true rfl)) dX7_count_21 ⟨Nat.zero_le _, Nat.zero_le _⟩) hS (fun q _ h => hFc q h) hFc (fun r_ u_ t H locs ht hvm hw hB hz1 hk1 hS => ?_)
    obtain rfl := hw.symm
    obtain ⟨hP1, -, hD1⟩ := hB
    rw [ht] at hP1
    obtain ⟨hP, hD⟩ := va_join (wr := []) (w1 := [(zmo, .inr (6, [.int 0, .int mM.2.1, .int mM.2.2.1, .int (bI mM.2.2.2.1), .int mM.2.2.2.2.1, .int mM.2.2.2.2.2, .ref zar, .ref zbe, .ref zst, .ref zah, .ref zgd])), (zar, .inl (cJ, 64, .inr (.inl fR))), (zbe, .inl (cJ, 64, .inr (.inl fB))), (zst, .inr (5, [.int sS.1, .int sS.2.1, .int sS.2.2.1, .long sS.2.2.2, .ref zsa])), (zsa, .inl (cI, 64, .inl aS))]) hP hD [0, 1, 2, 3, 4] [] rfl rfl (by decide) (by decide) hk1 hFc hP1 hD1
    have hP := hP.sub (ws' := [(zmo, .inr (6, [.int 0, .int mM.2.1, .int mM.2.2.1, .int (bI mM.2.2.2.1), .int mM.2.2.2.2.1, .int mM.2.2.2.2.2, .ref zar, .ref zbe, .ref zst, .ref zah, .ref zgd])), (zar, .inl (cJ, 64, .inr (.inl fR))), (zbe, .inl (cJ, 64, .inr (.inl fB))), (zst, .inr (5, [.int sS.1, .int sS.2.1, .int sS.2.2.1, .long sS.2.2.2, .ref zsa])), (zsa, .inl (cI, 64, .inl aS))]) [0, 1, 2, 3, 4] rfl
    have hD := hD.sub (ws' := [(zmo, .inr (6, [.int 0, .int mM.2.1, .int mM.2.2.1, .int (bI mM.2.2.2.1), .int mM.2.2.2.2.1, .int mM.2.2.2.2.2, .ref zar, .ref zbe, .ref zst, .ref zah, .ref zgd])), (zar, .inl (cJ, 64, .inr (.inl fR))), (zbe, .inl (cJ, 64, .inr (.inl fB))), (zst, .inr (5, [.int sS.1, .int sS.2.1, .int sS.2.2.1, .long sS.2.2.2, .ref zsa])), (zsa, .inl (cI, 64, .inl aS))]) [0, 1, 2, 3, 4] (by decide) rfl
    clear hPc hDc hFc hP1 hD1 hk1
    refine lv_goto (tgt := 32) hx hb dX7_count_24 (by decide) ?_
    obtain rfl := Option.some.inj hf
    exact W.iret (v := r1) hx hb hr (fun t ht hW => ⟨⟨r1, (), rfl, rfl, by rw [ht]; exact hP, va_K.moved hW.alike hK, hD⟩, hS.F ht⟩) hS.2.2 dX7_count_32
/-! HedgeGlidersModel.way(IIII)I -/
def lp_X7_way_108 (mM : MoS) (fB : Nat → Int64) (sS : StS) (y21 : Int64) : Nat → Int64 → Int32 → Option (Int64)
  | 0, _, _ => none
  | nf + 1, y28, y29 => if (mM.2.1 * mM.2.2.1) ≤ y29 then (some y28) else (Option.bind (if ((jshr y21 y29) &&& 1) = 1 then (if y29 < 0 ∨ 64 ≤ y29.toNatClampNeg then none else some (y28 ||| ((fB y29.toNatClampNeg) &&& (sS.2.2.2 ^^^ (-1))))) else (some y28) : Option (Int64)) fun v30 => lp_X7_way_108 mM fB sS y21 nf v30 (y29 + 1))
def lp_X7_way_81 (mM : MoS) (fB : Nat → Int64) (sS : StS) (tx : Int32) (ty : Int32) : Nat → Int64 → Int32 → Int64 → Option (Int32 × MoS)
  | 0, _, _, _ => none
  | nf + 1, y21, y22, y23 => if (y21 &&& (jshl 1 ((mM.2.1 * ty) + tx))) = 0 then (if y21 = y23 then (some ((-1), (0, mM.2.1, mM.2.2.1, mM.2.2.2.1, mM.2.2.2.2.1, mM.2.2.2.2.2))) else (Option.bind (lp_X7_way_108 mM fB sS y21 100 y21 0) fun v31 => lp_X7_way_81 mM fB sS tx ty nf v31 (y22 + 1) y21)) else (some (y22, (0, mM.2.1, mM.2.2.1, mM.2.2.2.1, mM.2.2.2.2.1, mM.2.2.2.2.2)))
def f_X7_way (mM : MoS) (fB : Nat → Int64) (sS : StS) (cx : Int32) (cy : Int32) (tx : Int32) (ty : Int32) : Option (Int32 × MoS) := if (f_X7_isCell (0, mM.2.1, mM.2.2.1, mM.2.2.2.1, mM.2.2.2.2.1, mM.2.2.2.2.2) cx cy) = 0 then (some ((f_X7_no (0, mM.2.1, mM.2.2.1, mM.2.2.2.1, mM.2.2.2.2.1, mM.2.2.2.2.2) 1).1, (f_X7_no (0, mM.2.1, mM.2.2.1, mM.2.2.2.1, mM.2.2.2.2.1, mM.2.2.2.2.2) 1).2)) else (if (f_X7_isCell (0, mM.2.1, mM.2.2.1, mM.2.2.2.1, mM.2.2.2.2.1, mM.2.2.2.2.2) tx ty) = 0 then (some ((f_X7_no (0, mM.2.1, mM.2.2.1, mM.2.2.2.1, mM.2.2.2.2.1, mM.2.2.2.2.2) 1).1, (f_X7_no (0, mM.2.1, mM.2.2.1, mM.2.2.2.1, mM.2.2.2.2.1, mM.2.2.2.2.2) 1).2)) else (if (sS.2.2.2 &&& ((jshl 1 ((mM.2.1 * cy) + cx)) ||| (jshl 1 ((mM.2.1 * ty) + tx)))) = 0 then ((lp_X7_way_81 mM fB sS tx ty 100 (jshl 1 ((mM.2.1 * cy) + cx)) 0 0)) else (some ((-1), (0, mM.2.1, mM.2.2.1, mM.2.2.2.1, mM.2.2.2.2.1, mM.2.2.2.2.2)))))
abbrev rm_X7_way : Room := ({ frames := 2, cells := 0, slots := 0, locals := 44 } : Room)
abbrev A_X7_way (cI cJ : ClassId) (zmo zbe zst zar zah zgd zsa : Nat) (mM : MoS) (fB : Nat → Int64) (sS : StS) (cx : Int32) (cy : Int32) (tx : Int32) (ty : Int32) (sz : Nat) : Nat → Prop := va_A [(zmo, .inr (6, [.int mM.1, .int mM.2.1, .int mM.2.2.1, .int (bI mM.2.2.2.1), .int mM.2.2.2.2.1, .int mM.2.2.2.2.2, .ref zar, .ref zbe, .ref zst, .ref zah, .ref zgd])), (zbe, .inl (cJ, 64, .inr (.inl fB))), (zst, .inr (5, [.int sS.1, .int sS.2.1, .int sS.2.2.1, .long sS.2.2.2, .ref zsa]))] sz
abbrev Q_X7_way (dC : Nat → ClassId) (dI : Nat → Nat → Nat) (cI cJ : ClassId) (zmo zbe zst zar zah zgd zsa : Nat) (mM : MoS) (fB : Nat → Int64) (sS : StS) (cx : Int32) (cy : Int32) (tx : Int32) (ty : Int32) (sz : Nat) (R : Int32 × MoS) : Array Value → State → Outcome → State → Prop := va_Qi (fun (r : Int32) (_ : Unit) => r = R.1) (fun u_ t => va_P (dC, dI) vwCl [(zmo, .inr (6, [.int R.2.1, .int R.2.2.1, .int R.2.2.2.1, .int (bI R.2.2.2.2.1), .int R.2.2.2.2.2.1, .int R.2.2.2.2.2.2, .ref zar, .ref zbe, .ref zst, .ref zah, .ref zgd])), (zbe, .inl (cJ, 64, .inr (.inl fB))), (zst, .inr (5, [.int sS.1, .int sS.2.1, .int sS.2.2.1, .long sS.2.2.2, .ref zsa]))] t.heap ∧ va_K (dC, dI) vwCl [(cI, .int), (cJ, .long)] t ∧ va_D (A_X7_way cI cJ zmo zbe zst zar zah zgd zsa mM fB sS cx cy tx ty sz) [(zmo, .inr (6, [.int R.2.1, .int R.2.2.1, .int R.2.2.2.1, .int (bI R.2.2.2.2.1), .int R.2.2.2.2.2.1, .int R.2.2.2.2.2.2, .ref zar, .ref zbe, .ref zst, .ref zah, .ref zgd])), (zbe, .inl (cJ, 64, .inr (.inl fB))), (zst, .inr (5, [.int sS.1, .int sS.2.1, .int sS.2.2.1, .long sS.2.2.2, .ref zsa]))]) (A_X7_way cI cJ zmo zbe zst zar zah zgd zsa mM fB sS cx cy tx ty sz)
set_option maxHeartbeats 4000000 in
set_option maxRecDepth 100000 in
theorem c_X7_way (l : Launch) (dC : Nat → ClassId) (dI : Nat → Nat → Nat) (cI cJ : ClassId) (zmo zbe zst zar zah zgd zsa : Nat) (sz : Nat) (mM : MoS) (fB : Nat → Int64) (sS : StS) (cx : Int32) (cy : Int32) (tx : Int32) (ty : Int32) (R : Int32 × MoS) (hR : f_X7_way mM fB sS cx cy tx ty = some R) : Met l yX7_way wsX7_way rm_X7_way (va_Pc [.ref zmo, .int cx, .int cy, .int tx, .int ty] (fun U => U.heap.size = sz ∧ va_P (dC, dI) vwCl [(zmo, .inr (6, [.int mM.1, .int mM.2.1, .int mM.2.2.1, .int (bI mM.2.2.2.1), .int mM.2.2.2.2.1, .int mM.2.2.2.2.2, .ref zar, .ref zbe, .ref zst, .ref zah, .ref zgd])), (zbe, .inl (cJ, 64, .inr (.inl fB))), (zst, .inr (5, [.int sS.1, .int sS.2.1, .int sS.2.2.1, .long sS.2.2.2, .ref zsa]))] U.heap ∧ va_K (dC, dI) vwCl [(cI, .int), (cJ, .long)] U ∧ va_D (fun _ => True) [(zmo, .inr (6, [.int mM.1, .int mM.2.1, .int mM.2.2.1, .int (bI mM.2.2.2.1), .int mM.2.2.2.2.1, .int mM.2.2.2.2.2, .ref zar, .ref zbe, .ref zst, .ref zah, .ref zgd])), (zbe, .inl (cJ, 64, .inr (.inl fB))), (zst, .inr (5, [.int sS.1, .int sS.2.1, .int sS.2.2.1, .long sS.2.2.2, .ref zsa]))] ∧ nwM U)) (Q_X7_way dC dI cI cJ zmo zbe zst zar zah zgd zsa mM fB sS cx cy tx ty sz R) 0 0 (A_X7_way cI cJ zmo zbe zst zar zah zgd zsa mM fB sS cx cy tx ty sz) := by
  have hf := hR
  refine Met.ofW (cc := cX7_way) (maxL := 13) (ret := (some .int)) (by decide) rfl ?_
  intro p e s m args below meth c s₁ B hml hv
  obtain ⟨hargs, hsz, hP, hK, hD0, hnw⟩ := hv
  have hx := B.exec
  have hb := B.bytes
  have hr := B.returns
  have hts := atoms_spec (ws := wsX7_way) B.pre
  have hown : s.vm.findClass RX7 = some m.cls := findClass_of_methodNamed B.named
  have hlocks := B.notSynchronized
  subst hsz
  obtain ⟨hnw_hedges, hnw_ages, hnw_born, hnw_dead, hnw_year⟩ := id hnw
  have hD : va_D (A_X7_way cI cJ zmo zbe zst zar zah zgd zsa mM fB sS cx cy tx ty s.heap.size) [(zmo, .inr (6, [.int mM.1, .int mM.2.1, .int mM.2.2.1, .int (bI mM.2.2.2.1), .int mM.2.2.2.2.1, .int mM.2.2.2.2.2, .ref zar, .ref zbe, .ref zst, .ref zah, .ref zgd])), (zbe, .inl (cJ, 64, .inr (.inl fB))), (zst, .inr (5, [.int sS.1, .int sS.2.1, .int sS.2.2.1, .long sS.2.2.2, .ref zsa]))] := hD0.self (sz := s.heap.size)
  have hA : ∀ q : Nat, s.heap.size ≤ q → (A_X7_way cI cJ zmo zbe zst zar zah zgd zsa mM fB sS cx cy tx ty s.heap.size) q := fun q h => Or.inr h
  have hS : va_S (A_X7_way cI cJ zmo zbe zst zar zah zgd zsa mM fB sS cx cy tx ty s.heap.size) s.heap s.heap [] := va_S.rf
  have hinX6 : ∀ w ∈ wsX60, w ∈ wsX7_way := by decide +kernel
  have hinX7 : ∀ w ∈ wsX70, w ∈ wsX7_way := by decide +kernel
  have hw0 := hts (.fieldLink RX7 45 "HedgeGlidersModel" "thrown" "I") (by decide +kernel)
  have hw1 := hts (.fieldLink RX7 9 "HedgeGlidersModel" "w" "I") (by decide +kernel)
  have hw2 := hts (.fieldLink RX7 32 "HedgeGlidersModel" "s" "LHedgeGlidersModel$State;") (by decide +kernel)
  have hw3 := hts (.fieldLink RX7 13 "HedgeGlidersModel" "h" "I") (by decide +kernel)
  have hw4 := hts (.fieldLink RX7 26 "HedgeGlidersModel" "beside" "[J") (by decide +kernel)
  have hw5 := hts (.constantLong RX7 97 (-1)) (by decide +kernel)
  have hl := lv_entry ([.ref zmo, .int cx, .int cy, .int tx, .int ty]) (n := 13) (Nat.le_of_ble_eq_true rfl)
  have he0 : entryFrame m args 13 = entryFrame m ([.ref zmo, .int cx, .int cy, .int tx, .int ty] : List Value).toArray 13 := by rw [hargs]
  rw [he0, lg_entry_eq]
  generalize (lg_sl ([.ref zmo, .int cx, .int cy, .int tx, .int ty]) ++ List.replicate (13 - (lg_sl ([.ref zmo, .int cx, .int cy, .int tx, .int ty])).length) Slot.unset).toArray = ls at hl ⊢
  have hl : lv_has ls 13 [(0, .ref zmo), (1, .int cx), (2, .int cy), (3, .int tx), (4, .int ty)] := hl
  rw [f_X7_way] at hf
  refine lv_aload_n hx hb dX7_way_0 rfl (lv_at hl 0 rfl) ?_
  refine lv_iconst (v := 0) hx hb dX7_way_1 (by decide) ?_
  refine va_put (D := (dC, dI)) (ci := 6) (v := .int 0) (ty := .int) (C := RX7) (T := TX7) (N := 11) hx hb hts hinX7 tyX7 tyX7_ok nmX7 hown hK hP hD hS 0 rfl rfl 0 (by decide) hw0 (fun _ h9 => h9) rfl (by decide +kernel) rfl rfl (Nat.le_of_ble_eq_true rfl) dX7_way_2 (fun H locs hP hD hS => ?_)
  have hP : va_P (dC, dI) vwCl [(zmo, .inr (6, [.int 0, .int mM.2.1, .int mM.2.2.1, .int (bI mM.2.2.2.1), .int mM.2.2.2.2.1, .int mM.2.2.2.2.2, .ref zar, .ref zbe, .ref zst, .ref zah, .ref zgd])), (zbe, .inl (cJ, 64, .inr (.inl fB))), (zst, .inr (5, [.int sS.1, .int sS.2.1, .int sS.2.2.1, .long sS.2.2.2, .ref zsa]))] H := hP
  have hD : va_D (A_X7_way cI cJ zmo zbe zst zar zah zgd zsa mM fB sS cx cy tx ty s.heap.size) [(zmo, .inr (6, [.int 0, .int mM.2.1, .int mM.2.2.1, .int (bI mM.2.2.2.1), .int mM.2.2.2.2.1, .int mM.2.2.2.2.2, .ref zar, .ref zbe, .ref zst, .ref zah, .ref zgd])), (zbe, .inl (cJ, 64, .inr (.inl fB))), (zst, .inr (5, [.int sS.1, .int sS.2.1, .int sS.2.2.1, .long sS.2.2.2, .ref zsa]))] := hD
  refine lv_aload_n hx hb dX7_way_5 rfl (lv_at hl 0 rfl) ?_
  refine lv_iload_n hx hb dX7_way_6 rfl (lv_at hl 1 rfl) ?_
  refine lv_iload_n hx hb dX7_way_7 rfl (lv_at hl 2 rfl) ?_
  have hPc := hP.sub (ws' := [(zmo, .inr (6, [.int 0, .int mM.2.1, .int mM.2.2.1, .int (bI mM.2.2.2.1), .int mM.2.2.2.2.1, .int mM.2.2.2.2.2, .ref zar, .ref zbe, .ref zst, .ref zah, .ref zgd]))]) [0] rfl
  have hDc := hD.sub (ws' := [(zmo, .inr (6, [.int 0, .int mM.2.1, .int mM.2.2.1, .int (bI mM.2.2.2.1), .int mM.2.2.2.2.1, .int mM.2.2.2.2.2, .ref zar, .ref zbe, .ref zst, .ref zah, .ref zgd]))]) [0] (by decide) rfl
  have hFc := va_free (wc := [(zmo, .inr (6, [.int 0, .int mM.2.1, .int mM.2.2.1, .int (bI mM.2.2.2.1), .int mM.2.2.2.2.1, .int mM.2.2.2.2.2, .ref zar, .ref zbe, .ref zst, .ref zah, .ref zgd]))]) hD hS hA [0] rfl
  refine va_calli (va_runV (As := [.int cx, .int cy]) (rest := []) ⟨hx, hb, hml, hown, hts⟩ (c_X7_isCell l dC dI cI cJ zmo zar zbe zst zah zgd H.size (0, mM.2.1, mM.2.2.1, mM.2.2.2.1, mM.2.2.2.2.1, mM.2.2.2.2.2) cx cy) (cwV 2 hts gX7_way_X7_isCell rfl rfl rfl (by decide +kernel) ⟨Nat.le_of_ble_eq_true rfl, Nat.le_of_ble_eq_true rfl⟩) ⟨fun a U gg mk q => by obtain ⟨q0, q1, qP, qK, qD⟩ := q; exact ⟨q0, q1, qP, va_K.moved (u := U) (U := U.calling gg mk a) (Vm.Alike.refl U.vm) qK, qD⟩, va_recv hK hPc (ci := 6) (q0 := 0) rfl rfl, fun U hU hW => ⟨rfl, by rw [hU], by rw [hU]; exact hPc, va_K.moved hW.alike hK, hDc.weaken (fun _ _ _ _ => trivial)⟩⟩ rfl rfl hl.1 rfl (lv_room (Nat.le_of_ble_eq_true rfl)) dX7_way_8 ⟨Nat.zero_le _, Nat.zero_le _⟩) hS (fun q _ h => hFc q h) hFc (fun r_ u_ t H locs ht hvm hw hB hz1 hk1 hS => ?_)
  obtain rfl := hw.symm
  obtain ⟨hP1, -, hD1⟩ := hB
  rw [ht] at hP1
  obtain ⟨hP, hD⟩ := va_join (wr := [(zbe, .inl (cJ, 64, .inr (.inl fB))), (zst, .inr (5, [.int sS.1, .int sS.2.1, .int sS.2.2.1, .long sS.2.2.2, .ref zsa]))]) (w1 := [(zmo, .inr (6, [.int 0, .int mM.2.1, .int mM.2.2.1, .int (bI mM.2.2.2.1), .int mM.2.2.2.2.1, .int mM.2.2.2.2.2, .ref zar, .ref zbe, .ref zst, .ref zah, .ref zgd]))]) hP hD [0] [1, 2] rfl rfl (by decide) (by decide) hk1 hFc hP1 hD1
  have hP := hP.sub (ws' := [(zmo, .inr (6, [.int 0, .int mM.2.1, .int mM.2.2.1, .int (bI mM.2.2.2.1), .int mM.2.2.2.2.1, .int mM.2.2.2.2.2, .ref zar, .ref zbe, .ref zst, .ref zah, .ref zgd])), (zbe, .inl (cJ, 64, .inr (.inl fB))), (zst, .inr (5, [.int sS.1, .int sS.2.1, .int sS.2.2.1, .long sS.2.2.2, .ref zsa]))]) [2, 0, 1] rfl
  have hD := hD.sub (ws' := [(zmo, .inr (6, [.int 0, .int mM.2.1, .int mM.2.2.1, .int (bI mM.2.2.2.1), .int mM.2.2.2.2.1, .int mM.2.2.2.2.2, .ref zar, .ref zbe, .ref zst, .ref zah, .ref zgd])), (zbe, .inl (cJ, 64, .inr (.inl fB))), (zst, .inr (5, [.int sS.1, .int sS.2.1, .int sS.2.2.1, .long sS.2.2.2, .ref zsa]))]) [2, 0, 1] (by decide) rfl
  clear hPc hDc hFc hP1 hD1 hk1
  refine lv_if_eq (tgt := 24) hx hb dX7_way_11 (by decide) (fun hc => ?_) (fun hc => ?_)
  · rw [if_pos hc] at hf
    refine lv_aload_n hx hb dX7_way_24 rfl (lv_at hl 0 rfl) ?_
    refine lv_iconst (v := 1) hx hb dX7_way_25 (by decide) ?_
    have hPc := hP.sub (ws' := [(zmo, .inr (6, [.int 0, .int mM.2.1, .int mM.2.2.1, .int (bI mM.2.2.2.1), .int mM.2.2.2.2.1, .int mM.2.2.2.2.2, .ref zar, .ref zbe, .ref zst, .ref zah, .ref zgd]))]) [0] rfl
    have hDc := hD.sub (ws' := [(zmo, .inr (6, [.int 0, .int mM.2.1, .int mM.2.2.1, .int (bI mM.2.2.2.1), .int mM.2.2.2.2.1, .int mM.2.2.2.2.2, .ref zar, .ref zbe, .ref zst, .ref zah, .ref zgd]))]) [0] (by decide) rfl
    have hFc := va_free (wc := [(zmo, .inr (6, [.int 0, .int mM.2.1, .int mM.2.2.1, .int (bI mM.2.2.2.1), .int mM.2.2.2.2.1, .int mM.2.2.2.2.2, .ref zar, .ref zbe, .ref zst, .ref zah, .ref zgd]))]) hD hS hA [0] rfl
    refine va_calli (va_runV (As := [.int 1]) (rest := []) ⟨hx, hb, hml, hown, hts⟩ (c_X7_no l dC dI cI cJ zmo zar zbe zst zah zgd H.size (0, mM.2.1, mM.2.2.1, mM.2.2.2.1, mM.2.2.2.2.1, mM.2.2.2.2.2) 1) (cwV 1 hts gX7_way_X7_no rfl rfl rfl (by decide +kernel) ⟨Nat.le_of_ble_eq_true rfl, Nat.le_of_ble_eq_true rfl⟩) ⟨fun a U gg mk q => by obtain ⟨q0, q1, qP, qK, qD⟩ := q; exact ⟨q0, q1, qP, va_K.moved (u := U) (U := U.calling gg mk a) (Vm.Alike.refl U.vm) qK, qD⟩, va_recv hK hPc (ci := 6) (q0 := 0) rfl rfl, fun U hU hW => ⟨rfl, by rw [hU], by rw [hU]; exact hPc, va_K.moved hW.alike hK, hDc.weaken (fun _ _ _ _ => trivial)⟩⟩ rfl rfl hl.1 rfl (lv_room (Nat.le_of_ble_eq_true rfl)) dX7_way_26 ⟨Nat.zero_le _, Nat.zero_le _⟩) hS (fun q _ h => hFc q h) hFc (fun r_ u_ t H locs ht hvm hw hB hz1 hk1 hS => ?_)
    obtain rfl := hw.symm
    obtain ⟨hP1, -, hD1⟩ := hB
    rw [ht] at hP1
    obtain ⟨hP, hD⟩ := va_join (wr := [(zbe, .inl (cJ, 64, .inr (.inl fB))), (zst, .inr (5, [.int sS.1, .int sS.2.1, .int sS.2.2.1, .long sS.2.2.2, .ref zsa]))]) (w1 := [(zmo, .inr (6, [.int (f_X7_no (0, mM.2.1, mM.2.2.1, mM.2.2.2.1, mM.2.2.2.2.1, mM.2.2.2.2.2) 1).2.1, .int (f_X7_no (0, mM.2.1, mM.2.2.1, mM.2.2.2.1, mM.2.2.2.2.1, mM.2.2.2.2.2) 1).2.2.1, .int (f_X7_no (0, mM.2.1, mM.2.2.1, mM.2.2.2.1, mM.2.2.2.2.1, mM.2.2.2.2.2) 1).2.2.2.1, .int (bI (f_X7_no (0, mM.2.1, mM.2.2.1, mM.2.2.2.1, mM.2.2.2.2.1, mM.2.2.2.2.2) 1).2.2.2.2.1), .int (f_X7_no (0, mM.2.1, mM.2.2.1, mM.2.2.2.1, mM.2.2.2.2.1, mM.2.2.2.2.2) 1).2.2.2.2.2.1, .int (f_X7_no (0, mM.2.1, mM.2.2.1, mM.2.2.2.1, mM.2.2.2.2.1, mM.2.2.2.2.2) 1).2.2.2.2.2.2, .ref zar, .ref zbe, .ref zst, .ref zah, .ref zgd]))]) hP hD [0] [1, 2] rfl rfl (by decide) (by decide) hk1 hFc hP1 hD1
    have hP := hP.sub (ws' := [(zmo, .inr (6, [.int (f_X7_no (0, mM.2.1, mM.2.2.1, mM.2.2.2.1, mM.2.2.2.2.1, mM.2.2.2.2.2) 1).2.1, .int (f_X7_no (0, mM.2.1, mM.2.2.1, mM.2.2.2.1, mM.2.2.2.2.1, mM.2.2.2.2.2) 1).2.2.1, .int (f_X7_no (0, mM.2.1, mM.2.2.1, mM.2.2.2.1, mM.2.2.2.2.1, mM.2.2.2.2.2) 1).2.2.2.1, .int (bI (f_X7_no (0, mM.2.1, mM.2.2.1, mM.2.2.2.1, mM.2.2.2.2.1, mM.2.2.2.2.2) 1).2.2.2.2.1), .int (f_X7_no (0, mM.2.1, mM.2.2.1, mM.2.2.2.1, mM.2.2.2.2.1, mM.2.2.2.2.2) 1).2.2.2.2.2.1, .int (f_X7_no (0, mM.2.1, mM.2.2.1, mM.2.2.2.1, mM.2.2.2.2.1, mM.2.2.2.2.2) 1).2.2.2.2.2.2, .ref zar, .ref zbe, .ref zst, .ref zah, .ref zgd])), (zbe, .inl (cJ, 64, .inr (.inl fB))), (zst, .inr (5, [.int sS.1, .int sS.2.1, .int sS.2.2.1, .long sS.2.2.2, .ref zsa]))]) [2, 0, 1] rfl
    have hD := hD.sub (ws' := [(zmo, .inr (6, [.int (f_X7_no (0, mM.2.1, mM.2.2.1, mM.2.2.2.1, mM.2.2.2.2.1, mM.2.2.2.2.2) 1).2.1, .int (f_X7_no (0, mM.2.1, mM.2.2.1, mM.2.2.2.1, mM.2.2.2.2.1, mM.2.2.2.2.2) 1).2.2.1, .int (f_X7_no (0, mM.2.1, mM.2.2.1, mM.2.2.2.1, mM.2.2.2.2.1, mM.2.2.2.2.2) 1).2.2.2.1, .int (bI (f_X7_no (0, mM.2.1, mM.2.2.1, mM.2.2.2.1, mM.2.2.2.2.1, mM.2.2.2.2.2) 1).2.2.2.2.1), .int (f_X7_no (0, mM.2.1, mM.2.2.1, mM.2.2.2.1, mM.2.2.2.2.1, mM.2.2.2.2.2) 1).2.2.2.2.2.1, .int (f_X7_no (0, mM.2.1, mM.2.2.1, mM.2.2.2.1, mM.2.2.2.2.1, mM.2.2.2.2.2) 1).2.2.2.2.2.2, .ref zar, .ref zbe, .ref zst, .ref zah, .ref zgd])), (zbe, .inl (cJ, 64, .inr (.inl fB))), (zst, .inr (5, [.int sS.1, .int sS.2.1, .int sS.2.2.1, .long sS.2.2.2, .ref zsa]))]) [2, 0, 1] (by decide) rfl
    clear hPc hDc hFc hP1 hD1 hk1
    obtain rfl := Option.some.inj hf
    exact W.iret (v := (f_X7_no (0, mM.2.1, mM.2.2.1, mM.2.2.2.1, mM.2.2.2.2.1, mM.2.2.2.2.2) 1).1) hx hb hr (fun t ht hW => ⟨⟨(f_X7_no (0, mM.2.1, mM.2.2.1, mM.2.2.2.1, mM.2.2.2.2.1, mM.2.2.2.2.2) 1).1, (), rfl, rfl, by rw [ht]; exact hP, va_K.moved hW.alike hK, hD⟩, hS.F ht⟩) hS.2.2 dX7_way_29
  · rw [if_neg hc] at hf
    refine lv_aload_n hx hb dX7_way_14 rfl (lv_at hl 0 rfl) ?_
    refine lv_iload_n hx hb dX7_way_15 rfl (lv_at hl 3 rfl) ?_
    refine lv_iload hx hb dX7_way_16 (lv_at hl 4 rfl) ?_
    have hPc := hP.sub (ws' := [(zmo, .inr (6, [.int 0, .int mM.2.1, .int mM.2.2.1, .int (bI mM.2.2.2.1), .int mM.2.2.2.2.1, .int mM.2.2.2.2.2, .ref zar, .ref zbe, .ref zst, .ref zah, .ref zgd]))]) [0] rfl
    have hDc := hD.sub (ws' := [(zmo, .inr (6, [.int 0, .int mM.2.1, .int mM.2.2.1, .int (bI mM.2.2.2.1), .int mM.2.2.2.2.1, .int mM.2.2.2.2.2, .ref zar, .ref zbe, .ref zst, .ref zah, .ref zgd]))]) [0] (by decide) rfl
    have hFc := va_free (wc := [(zmo, .inr (6, [.int 0, .int mM.2.1, .int mM.2.2.1, .int (bI mM.2.2.2.1), .int mM.2.2.2.2.1, .int mM.2.2.2.2.2, .ref zar, .ref zbe, .ref zst, .ref zah, .ref zgd]))]) hD hS hA [0] rfl
    refine va_calli (va_runV (As := [.int tx, .int ty]) (rest := []) ⟨hx, hb, hml, hown, hts⟩ (c_X7_isCell l dC dI cI cJ zmo zar zbe zst zah zgd H.size (0, mM.2.1, mM.2.2.1, mM.2.2.2.1, mM.2.2.2.2.1, mM.2.2.2.2.2) tx ty) (cwV 2 hts gX7_way_X7_isCell rfl rfl rfl (by decide +kernel) ⟨Nat.le_of_ble_eq_true rfl, Nat.le_of_ble_eq_true rfl⟩) ⟨fun a U gg mk q => by obtain ⟨q0, q1, qP, qK, qD⟩ := q; exact ⟨q0, q1, qP, va_K.moved (u := U) (U := U.calling gg mk a) (Vm.Alike.refl U.vm) qK, qD⟩, va_recv hK hPc (ci := 6) (q0 := 0) rfl rfl, fun U hU hW => ⟨rfl, by rw [hU], by rw [hU]; exact hPc, va_K.moved hW.alike hK, hDc.weaken (fun _ _ _ _ => trivial)⟩⟩ rfl rfl hl.1 rfl (lv_room (Nat.le_of_ble_eq_true rfl)) dX7_way_18 ⟨Nat.zero_le _, Nat.zero_le _⟩) hS (fun q _ h => hFc q h) hFc (fun r_ u_ t H locs ht hvm hw hB hz1 hk1 hS => ?_)
    obtain rfl := hw.symm
    obtain ⟨hP1, -, hD1⟩ := hB
    rw [ht] at hP1
    obtain ⟨hP, hD⟩ := va_join (wr := [(zbe, .inl (cJ, 64, .inr (.inl fB))), (zst, .inr (5, [.int sS.1, .int sS.2.1, .int sS.2.2.1, .long sS.2.2.2, .ref zsa]))]) (w1 := [(zmo, .inr (6, [.int 0, .int mM.2.1, .int mM.2.2.1, .int (bI mM.2.2.2.1), .int mM.2.2.2.2.1, .int mM.2.2.2.2.2, .ref zar, .ref zbe, .ref zst, .ref zah, .ref zgd]))]) hP hD [0] [1, 2] rfl rfl (by decide) (by decide) hk1 hFc hP1 hD1
    have hP := hP.sub (ws' := [(zmo, .inr (6, [.int 0, .int mM.2.1, .int mM.2.2.1, .int (bI mM.2.2.2.1), .int mM.2.2.2.2.1, .int mM.2.2.2.2.2, .ref zar, .ref zbe, .ref zst, .ref zah, .ref zgd])), (zbe, .inl (cJ, 64, .inr (.inl fB))), (zst, .inr (5, [.int sS.1, .int sS.2.1, .int sS.2.2.1, .long sS.2.2.2, .ref zsa]))]) [2, 0, 1] rfl
    have hD := hD.sub (ws' := [(zmo, .inr (6, [.int 0, .int mM.2.1, .int mM.2.2.1, .int (bI mM.2.2.2.1), .int mM.2.2.2.2.1, .int mM.2.2.2.2.2, .ref zar, .ref zbe, .ref zst, .ref zah, .ref zgd])), (zbe, .inl (cJ, 64, .inr (.inl fB))), (zst, .inr (5, [.int sS.1, .int sS.2.1, .int sS.2.2.1, .long sS.2.2.2, .ref zsa]))]) [2, 0, 1] (by decide) rfl
    clear hPc hDc hFc hP1 hD1 hk1
    refine lv_if_ne (tgt := 30) hx hb dX7_way_21 (by decide) (fun hc => ?_) (fun hc => ?_)
    · rw [if_neg hc] at hf
      refine lv_lconst (v := 1) hx hb dX7_way_30 (by decide) ?_
      refine lv_aload_n hx hb dX7_way_31 rfl (lv_at hl 0 rfl) ?_
      refine va_get (D := (dC, dI)) (ci := 6) (v := .int mM.2.1) (C := RX7) (T := TX7) (N := 11) hx hb hts hinX7 hown hK hP 0 rfl rfl 1 (by decide) hw1 (fun _ h9 => h9) rfl dX7_way_32 ?_
      refine lv_iload hx hb dX7_way_35 (lv_at hl 4 rfl) ?_
      refine lv_imul hx hb dX7_way_37 ?_
      refine lv_iload_n hx hb dX7_way_38 rfl (lv_at hl 3 rfl) ?_
      refine lv_iadd hx hb dX7_way_39 ?_
      refine lv_lshl (v := (jshl 1 ((mM.2.1 * ty) + tx))) hx hb dX7_way_40 rfl ?_
      refine lv_lstore (lv' := [(5, .long (jshl 1 ((mM.2.1 * ty) + tx))), (0, .ref zmo), (1, .int cx), (2, .int cy), (3, .int tx), (4, .int ty)]) hx hb dX7_way_41 hl (by decide) rfl (fun ls hl => ?_)
      refine lv_lconst (v := 1) hx hb dX7_way_43 (by decide) ?_
      refine lv_aload_n hx hb dX7_way_44 rfl (lv_at hl 1 rfl) ?_
      refine va_get (D := (dC, dI)) (ci := 6) (v := .int mM.2.1) (C := RX7) (T := TX7) (N := 11) hx hb hts hinX7 hown hK hP 0 rfl rfl 1 (by decide) hw1 (fun _ h9 => h9) rfl dX7_way_45 ?_
      refine lv_iload_n hx hb dX7_way_48 rfl (lv_at hl 3 rfl) ?_
      refine lv_imul hx hb dX7_way_49 ?_
      refine lv_iload_n hx hb dX7_way_50 rfl (lv_at hl 2 rfl) ?_
      refine lv_iadd hx hb dX7_way_51 ?_
      refine lv_lshl (v := (jshl 1 ((mM.2.1 * cy) + cx))) hx hb dX7_way_52 rfl ?_
      refine lv_lstore (lv' := [(7, .long (jshl 1 ((mM.2.1 * cy) + cx))), (5, .long (jshl 1 ((mM.2.1 * ty) + tx))), (0, .ref zmo), (1, .int cx), (2, .int cy), (3, .int tx), (4, .int ty)]) hx hb dX7_way_53 hl (by decide) rfl (fun ls hl => ?_)
      refine lv_aload_n hx hb dX7_way_55 rfl (lv_at hl 2 rfl) ?_
      refine va_get (D := (dC, dI)) (ci := 6) (v := .ref zst) (C := RX7) (T := TX7) (N := 11) hx hb hts hinX7 hown hK hP 0 rfl rfl 8 (by decide) hw2 (fun _ h9 => h9) rfl dX7_way_56 ?_
      refine va_getN (D := (dC, dI)) (ci := 5) (v := .long sS.2.2.2) (C := RX6) (T := TX6) (N := 5) hx hb hts hinX6 hown hK hP 2 rfl rfl 3 (by decide) (va_Nw.use rfl hnw_hedges) (fun _ h9 => h9) rfl dX7_way_59 ?_
      refine lv_lload hx hb dX7_way_62 (lv_at hl 0 rfl) ?_
      refine lv_lload hx hb dX7_way_64 (lv_at hl 1 rfl) ?_
      refine lv_lor hx hb dX7_way_66 ?_
      refine lv_land hx hb dX7_way_67 ?_
      refine lv_lconst (v := 0) hx hb dX7_way_68 (by decide) ?_
      refine W.lcmp hx hb dX7_way_69 ?_
      refine lv_if_eq (tgt := 75) hx hb dX7_way_70 (by decide) (fun hc => ?_) (fun hc => ?_)
      · have hc := lgz.mp hc
        rw [if_pos hc] at hf
        refine lv_iconst (v := 0) hx hb dX7_way_75 (by decide) ?_
        refine lv_istore (lv' := [(9, .int 0), (7, .long (jshl 1 ((mM.2.1 * cy) + cx))), (5, .long (jshl 1 ((mM.2.1 * ty) + tx))), (0, .ref zmo), (1, .int cx), (2, .int cy), (3, .int tx), (4, .int ty)]) hx hb dX7_way_76 hl (by decide) rfl (fun ls hl => ?_)
        refine lv_lconst (v := 0) hx hb dX7_way_78 (by decide) ?_
        refine lv_lstore (lv' := [(10, .long 0), (9, .int 0), (7, .long (jshl 1 ((mM.2.1 * cy) + cx))), (5, .long (jshl 1 ((mM.2.1 * ty) + tx))), (0, .ref zmo), (1, .int cx), (2, .int cy), (3, .int tx), (4, .int ty)]) hx hb dX7_way_79 hl (by decide) rfl (fun ls hl => ?_)
        have hv := hf
        have lp33 : ∀ (nf : Nat) (y21 : Int64) (y22 : Int32) (y23 : Int64) (H : Heap) (locs : List Loc) (ls : Array Slot), lp_X7_way_81 mM fB sS tx ty nf y21 y22 y23 = some R → va_P (dC, dI) vwCl [(zmo, .inr (6, [.int 0, .int mM.2.1, .int mM.2.2.1, .int (bI mM.2.2.2.1), .int mM.2.2.2.2.1, .int mM.2.2.2.2.2, .ref zar, .ref zbe, .ref zst, .ref zah, .ref zgd])), (zbe, .inl (cJ, 64, .inr (.inl fB))), (zst, .inr (5, [.int sS.1, .int sS.2.1, .int sS.2.2.1, .long sS.2.2.2, .ref zsa]))] H → va_D (A_X7_way cI cJ zmo zbe zst zar zah zgd zsa mM fB sS cx cy tx ty s.heap.size) [(zmo, .inr (6, [.int 0, .int mM.2.1, .int mM.2.2.1, .int (bI mM.2.2.2.1), .int mM.2.2.2.2.1, .int mM.2.2.2.2.2, .ref zar, .ref zbe, .ref zst, .ref zah, .ref zgd])), (zbe, .inl (cJ, 64, .inr (.inl fB))), (zst, .inr (5, [.int sS.1, .int sS.2.1, .int sS.2.2.1, .long sS.2.2.2, .ref zsa]))] → va_S (A_X7_way cI cJ zmo zbe zst zar zah zgd zsa mM fB sS cx cy tx ty s.heap.size) s.heap H locs → lv_has ls 13 [(0, .ref zmo), (5, .long (jshl 1 ((mM.2.1 * ty) + tx))), (7, .long y21), (9, .int y22), (10, .long y23)] → W p l e rm_X7_way s m args below meth c H locs 0 0 (MQ below (Q_X7_way dC dI cI cJ zmo zbe zst zar zah zgd zsa mM fB sS cx cy tx ty s.heap.size R) args s 0 0 (A_X7_way cI cJ zmo zbe zst zar zah zgd zsa mM fB sS cx cy tx ty s.heap.size)) (F0 m 81 ls []) := by
          intro nf
          induction nf with
          | zero => intro y21 y22 y23 H locs ls h9; exact nomatch h9
          | succ nf ih34 =>
            intro y21 y22 y23 H locs ls hf hP hD hS hl
            rw [lp_X7_way_81.eq_2] at hf
            refine lv_lload hx hb dX7_way_81 (lv_at hl 2 rfl) ?_
            refine lv_lload hx hb dX7_way_83 (lv_at hl 1 rfl) ?_
            refine lv_land hx hb dX7_way_85 ?_
            refine lv_lconst (v := 0) hx hb dX7_way_86 (by decide) ?_
            refine W.lcmp hx hb dX7_way_87 ?_
            refine lv_if_ne (tgt := 170) hx hb dX7_way_88 (by decide) (fun hc => ?_) (fun hc => ?_)
            · have hc := fun h9 => hc (lgz.mpr h9)
              rw [if_neg hc] at hf
              refine lv_iload hx hb dX7_way_170 (lv_at hl 3 rfl) ?_
              obtain rfl := Option.some.inj hf
              exact W.iret (v := y22) hx hb hr (fun t ht hW => ⟨⟨y22, (), rfl, rfl, by rw [ht]; exact hP, va_K.moved hW.alike hK, hD⟩, hS.F ht⟩) hS.2.2 dX7_way_172
            · have hc := lgz.mp hc
              rw [if_pos hc] at hf
              refine lv_lload hx hb dX7_way_91 (lv_at hl 2 rfl) ?_
              refine lv_lload hx hb dX7_way_93 (lv_at hl 4 rfl) ?_
              refine W.lcmp hx hb dX7_way_95 ?_
              refine lv_if_ne (tgt := 101) hx hb dX7_way_96 (by decide) (fun hc => ?_) (fun hc => ?_)
              · have hc := fun h9 => hc (lgz.mpr h9)
                rw [if_neg hc] at hf
                refine lv_lload hx hb dX7_way_101 (lv_at hl 2 rfl) ?_
                refine lv_lstore (lv' := [(10, .long y21), (0, .ref zmo), (5, .long (jshl 1 ((mM.2.1 * ty) + tx))), (7, .long y21), (9, .int y22)]) hx hb dX7_way_103 hl (by decide) rfl (fun ls hl => ?_)
                refine lv_iconst (v := 0) hx hb dX7_way_105 (by decide) ?_
                refine lv_istore (lv' := [(12, .int 0), (10, .long y21), (0, .ref zmo), (5, .long (jshl 1 ((mM.2.1 * ty) + tx))), (7, .long y21), (9, .int y22)]) hx hb dX7_way_106 hl (by decide) rfl (fun ls hl => ?_)
                obtain ⟨v31, hv, hf⟩ := obind hf
                have K35 : ∀ (H : Heap) (locs : List Loc) (ls : Array Slot), va_P (dC, dI) vwCl [(zmo, .inr (6, [.int 0, .int mM.2.1, .int mM.2.2.1, .int (bI mM.2.2.2.1), .int mM.2.2.2.2.1, .int mM.2.2.2.2.2, .ref zar, .ref zbe, .ref zst, .ref zah, .ref zgd])), (zbe, .inl (cJ, 64, .inr (.inl fB))), (zst, .inr (5, [.int sS.1, .int sS.2.1, .int sS.2.2.1, .long sS.2.2.2, .ref zsa]))] H → va_D (A_X7_way cI cJ zmo zbe zst zar zah zgd zsa mM fB sS cx cy tx ty s.heap.size) [(zmo, .inr (6, [.int 0, .int mM.2.1, .int mM.2.2.1, .int (bI mM.2.2.2.1), .int mM.2.2.2.2.1, .int mM.2.2.2.2.2, .ref zar, .ref zbe, .ref zst, .ref zah, .ref zgd])), (zbe, .inl (cJ, 64, .inr (.inl fB))), (zst, .inr (5, [.int sS.1, .int sS.2.1, .int sS.2.2.1, .long sS.2.2.2, .ref zsa]))] → va_S (A_X7_way cI cJ zmo zbe zst zar zah zgd zsa mM fB sS cx cy tx ty s.heap.size) s.heap H locs → lv_has ls 13 [(0, .ref zmo), (5, .long (jshl 1 ((mM.2.1 * ty) + tx))), (7, .long v31), (9, .int y22), (10, .long y21)] → W p l e rm_X7_way s m args below meth c H locs 0 0 (MQ below (Q_X7_way dC dI cI cJ zmo zbe zst zar zah zgd zsa mM fB sS cx cy tx ty s.heap.size R) args s 0 0 (A_X7_way cI cJ zmo zbe zst zar zah zgd zsa mM fB sS cx cy tx ty s.heap.size)) (F0 m 164 ls []) := by
                  intro H locs ls hP hD hS hl
                  refine lv_iinc (v := (y22 + 1)) (lv' := [(9, .int (y22 + 1)), (0, .ref zmo), (5, .long (jshl 1 ((mM.2.1 * ty) + tx))), (7, .long v31), (10, .long y21)]) hx hb dX7_way_164 hl (k := 3) rfl rfl (by decide) rfl (fun ls hl => ?_)
                  refine lv_goto (tgt := 81) hx hb dX7_way_167 (by decide) ?_
                  exact ih34 _ _ _ _ _ _ hf hP hD hS (lv_sub hl [1, 2, 3, 0, 4] rfl)
                have lp36 : ∀ (nf : Nat) (y28 : Int64) (y29 : Int32) (H : Heap) (locs : List Loc) (ls : Array Slot), lp_X7_way_108 mM fB sS y21 nf y28 y29 = some v31 → va_P (dC, dI) vwCl [(zmo, .inr (6, [.int 0, .int mM.2.1, .int mM.2.2.1, .int (bI mM.2.2.2.1), .int mM.2.2.2.2.1, .int mM.2.2.2.2.2, .ref zar, .ref zbe, .ref zst, .ref zah, .ref zgd])), (zbe, .inl (cJ, 64, .inr (.inl fB))), (zst, .inr (5, [.int sS.1, .int sS.2.1, .int sS.2.2.1, .long sS.2.2.2, .ref zsa]))] H → va_D (A_X7_way cI cJ zmo zbe zst zar zah zgd zsa mM fB sS cx cy tx ty s.heap.size) [(zmo, .inr (6, [.int 0, .int mM.2.1, .int mM.2.2.1, .int (bI mM.2.2.2.1), .int mM.2.2.2.2.1, .int mM.2.2.2.2.2, .ref zar, .ref zbe, .ref zst, .ref zah, .ref zgd])), (zbe, .inl (cJ, 64, .inr (.inl fB))), (zst, .inr (5, [.int sS.1, .int sS.2.1, .int sS.2.2.1, .long sS.2.2.2, .ref zsa]))] → va_S (A_X7_way cI cJ zmo zbe zst zar zah zgd zsa mM fB sS cx cy tx ty s.heap.size) s.heap H locs → lv_has ls 13 [(0, .ref zmo), (5, .long (jshl 1 ((mM.2.1 * ty) + tx))), (7, .long y28), (9, .int y22), (10, .long y21), (12, .int y29)] → W p l e rm_X7_way s m args below meth c H locs 0 0 (MQ below (Q_X7_way dC dI cI cJ zmo zbe zst zar zah zgd zsa mM fB sS cx cy tx ty s.heap.size R) args s 0 0 (A_X7_way cI cJ zmo zbe zst zar zah zgd zsa mM fB sS cx cy tx ty s.heap.size)) (F0 m 108 ls []) := by
                  intro nf
                  induction nf with
                  | zero => intro y28 y29 H locs ls h9; exact nomatch h9
                  | succ nf ih37 =>
                    intro y28 y29 H locs ls hf hP hD hS hl
                    rw [lp_X7_way_108.eq_2] at hf
                    refine lv_iload hx hb dX7_way_108 (lv_at hl 5 rfl) ?_
                    refine lv_aload_n hx hb dX7_way_110 rfl (lv_at hl 0 rfl) ?_
                    refine va_get (D := (dC, dI)) (ci := 6) (v := .int mM.2.1) (C := RX7) (T := TX7) (N := 11) hx hb hts hinX7 hown hK hP 0 rfl rfl 1 (by decide) hw1 (fun _ h9 => h9) rfl dX7_way_111 ?_
                    refine lv_aload_n hx hb dX7_way_114 rfl (lv_at hl 0 rfl) ?_
                    refine va_get (D := (dC, dI)) (ci := 6) (v := .int mM.2.2.1) (C := RX7) (T := TX7) (N := 11) hx hb hts hinX7 hown hK hP 0 rfl rfl 2 (by decide) hw3 (fun _ h9 => h9) rfl dX7_way_115 ?_
                    refine lv_imul hx hb dX7_way_118 ?_
                    refine lv_icmp_ge (tgt := 164) hx hb dX7_way_119 (by decide) (fun hc => ?_) (fun hc => ?_)
                    · rw [if_pos hc] at hf
                      obtain rfl := Option.some.inj hf
                      exact K35 _ _ _ hP hD hS (lv_sub hl [0, 1, 2, 3, 4] rfl)
                    · rw [if_neg hc] at hf
                      refine lv_lload hx hb dX7_way_122 (lv_at hl 4 rfl) ?_
                      refine lv_iload hx hb dX7_way_124 (lv_at hl 5 rfl) ?_
                      refine lv_lshr (v := (jshr y21 y29)) hx hb dX7_way_126 rfl ?_
                      refine lv_lconst (v := 1) hx hb dX7_way_127 (by decide) ?_
                      refine lv_land hx hb dX7_way_128 ?_
                      refine lv_lconst (v := 1) hx hb dX7_way_129 (by decide) ?_
                      refine W.lcmp hx hb dX7_way_130 ?_
                      obtain ⟨v30, hv, hf⟩ := obind hf
                      have K38 : ∀ (H : Heap) (locs : List Loc) (ls : Array Slot), va_P (dC, dI) vwCl [(zmo, .inr (6, [.int 0, .int mM.2.1, .int mM.2.2.1, .int (bI mM.2.2.2.1), .int mM.2.2.2.2.1, .int mM.2.2.2.2.2, .ref zar, .ref zbe, .ref zst, .ref zah, .ref zgd])), (zbe, .inl (cJ, 64, .inr (.inl fB))), (zst, .inr (5, [.int sS.1, .int sS.2.1, .int sS.2.2.1, .long sS.2.2.2, .ref zsa]))] H → va_D (A_X7_way cI cJ zmo zbe zst zar zah zgd zsa mM fB sS cx cy tx ty s.heap.size) [(zmo, .inr (6, [.int 0, .int mM.2.1, .int mM.2.2.1, .int (bI mM.2.2.2.1), .int mM.2.2.2.2.1, .int mM.2.2.2.2.2, .ref zar, .ref zbe, .ref zst, .ref zah, .ref zgd])), (zbe, .inl (cJ, 64, .inr (.inl fB))), (zst, .inr (5, [.int sS.1, .int sS.2.1, .int sS.2.2.1, .long sS.2.2.2, .ref zsa]))] → va_S (A_X7_way cI cJ zmo zbe zst zar zah zgd zsa mM fB sS cx cy tx ty s.heap.size) s.heap H locs → lv_has ls 13 [(0, .ref zmo), (5, .long (jshl 1 ((mM.2.1 * ty) + tx))), (7, .long v30), (9, .int y22), (10, .long y21), (12, .int y29)] → W p l e rm_X7_way s m args below meth c H locs 0 0 (MQ below (Q_X7_way dC dI cI cJ zmo zbe zst zar zah zgd zsa mM fB sS cx cy tx ty s.heap.size R) args s 0 0 (A_X7_way cI cJ zmo zbe zst zar zah zgd zsa mM fB sS cx cy tx ty s.heap.size)) (F0 m 158 ls []) := by
                        intro H locs ls hP hD hS hl
                        refine lv_iinc (v := (y29 + 1)) (lv' := [(12, .int (y29 + 1)), (0, .ref zmo), (5, .long (jshl 1 ((mM.2.1 * ty) + tx))), (7, .long v30), (9, .int y22), (10, .long y21)]) hx hb dX7_way_158 hl (k := 5) rfl rfl (by decide) rfl (fun ls hl => ?_)
                        refine lv_goto (tgt := 108) hx hb dX7_way_161 (by decide) ?_
                        exact ih37 _ _ _ _ _ hf hP hD hS (lv_sub hl [1, 2, 3, 4, 5, 0] rfl)
                      clear hf; have hf := hv; clear hv
                      refine lv_if_ne (tgt := 158) hx hb dX7_way_131 (by decide) (fun hc => ?_) (fun hc => ?_)
                      · have hc := fun h9 => hc (lgz.mpr h9)
                        rw [if_neg hc] at hf
                        obtain rfl := Option.some.inj hf
                        exact K38 _ _ _ hP hD hS (lv_sub hl [0, 1, 2, 3, 4, 5] rfl)
                      · have hc := lgz.mp hc
                        rw [if_pos hc] at hf
                        refine lv_lload hx hb dX7_way_134 (lv_at hl 2 rfl) ?_
                        refine lv_aload_n hx hb dX7_way_136 rfl (lv_at hl 0 rfl) ?_
                        refine va_get (D := (dC, dI)) (ci := 6) (v := .ref zbe) (C := RX7) (T := TX7) (N := 11) hx hb hts hinX7 hown hK hP 0 rfl rfl 7 (by decide) hw4 (fun _ h9 => h9) rfl dX7_way_137 ?_
                        refine lv_iload hx hb dX7_way_140 (lv_at hl 5 rfl) ?_
                        have hg0 : ¬ (y29 < 0 ∨ 64 ≤ y29.toNatClampNeg) := fun hq => by rw [if_pos hq] at hf; exact nomatch hf
                        rw [if_neg hg0] at hf
                        have hg : vp_in y29 64 := hg0
                        refine va_lald hx hb hK hP 1 1 rfl rfl hg dX7_way_142 ?_
                        refine lv_aload_n hx hb dX7_way_143 rfl (lv_at hl 0 rfl) ?_
                        refine va_get (D := (dC, dI)) (ci := 6) (v := .ref zst) (C := RX7) (T := TX7) (N := 11) hx hb hts hinX7 hown hK hP 0 rfl rfl 8 (by decide) hw2 (fun _ h9 => h9) rfl dX7_way_144 ?_
                        refine va_getN (D := (dC, dI)) (ci := 5) (v := .long sS.2.2.2) (C := RX6) (T := TX6) (N := 5) hx hb hts hinX6 hown hK hP 2 rfl rfl 3 (by decide) (va_Nw.use rfl hnw_hedges) (fun _ h9 => h9) rfl dX7_way_147 ?_
                        refine lv_ldc2 (v := (-1)) hx hb hown hw5 dX7_way_150 ?_
                        refine lv_lxor hx hb dX7_way_153 ?_
                        refine lv_land hx hb dX7_way_154 ?_
                        refine lv_lor hx hb dX7_way_155 ?_
                        refine lv_lstore (lv' := [(7, .long (y28 ||| ((fB y29.toNatClampNeg) &&& (sS.2.2.2 ^^^ (-1))))), (0, .ref zmo), (5, .long (jshl 1 ((mM.2.1 * ty) + tx))), (9, .int y22), (10, .long y21), (12, .int y29)]) hx hb dX7_way_156 hl (by decide) rfl (fun ls hl => ?_)
                        obtain rfl := Option.some.inj hf
                        exact K38 _ _ _ hP hD hS (lv_sub hl [1, 2, 0, 3, 4, 5] rfl)
                exact lp36 100 _ _ _ _ _ hv hP hD hS (lv_sub hl [2, 3, 4, 5, 1, 0] rfl)
              · have hc := lgz.mp hc
                rw [if_pos hc] at hf
                refine lv_iconst (v := (-1)) hx hb dX7_way_99 (by decide) ?_
                obtain rfl := Option.some.inj hf
                exact W.iret (v := (-1)) hx hb hr (fun t ht hW => ⟨⟨(-1), (), rfl, rfl, by rw [ht]; exact hP, va_K.moved hW.alike hK, hD⟩, hS.F ht⟩) hS.2.2 dX7_way_100
        exact lp33 100 _ _ _ _ _ _ hv hP hD hS (lv_sub hl [4, 3, 2, 1, 0] rfl)
      · have hc := fun h9 => hc (lgz.mpr h9)
        rw [if_neg hc] at hf
        refine lv_iconst (v := (-1)) hx hb dX7_way_73 (by decide) ?_
        obtain rfl := Option.some.inj hf
        exact W.iret (v := (-1)) hx hb hr (fun t ht hW => ⟨⟨(-1), (), rfl, rfl, by rw [ht]; exact hP, va_K.moved hW.alike hK, hD⟩, hS.F ht⟩) hS.2.2 dX7_way_74
    · rw [if_pos hc] at hf
      refine lv_aload_n hx hb dX7_way_24 rfl (lv_at hl 0 rfl) ?_
      refine lv_iconst (v := 1) hx hb dX7_way_25 (by decide) ?_
      have hPc := hP.sub (ws' := [(zmo, .inr (6, [.int 0, .int mM.2.1, .int mM.2.2.1, .int (bI mM.2.2.2.1), .int mM.2.2.2.2.1, .int mM.2.2.2.2.2, .ref zar, .ref zbe, .ref zst, .ref zah, .ref zgd]))]) [0] rfl
      have hDc := hD.sub (ws' := [(zmo, .inr (6, [.int 0, .int mM.2.1, .int mM.2.2.1, .int (bI mM.2.2.2.1), .int mM.2.2.2.2.1, .int mM.2.2.2.2.2, .ref zar, .ref zbe, .ref zst, .ref zah, .ref zgd]))]) [0] (by decide) rfl
      have hFc := va_free (wc := [(zmo, .inr (6, [.int 0, .int mM.2.1, .int mM.2.2.1, .int (bI mM.2.2.2.1), .int mM.2.2.2.2.1, .int mM.2.2.2.2.2, .ref zar, .ref zbe, .ref zst, .ref zah, .ref zgd]))]) hD hS hA [0] rfl
      refine va_calli (va_runV (As := [.int 1]) (rest := []) ⟨hx, hb, hml, hown, hts⟩ (c_X7_no l dC dI cI cJ zmo zar zbe zst zah zgd H.size (0, mM.2.1, mM.2.2.1, mM.2.2.2.1, mM.2.2.2.2.1, mM.2.2.2.2.2) 1) (cwV 1 hts gX7_way_X7_no rfl rfl rfl (by decide +kernel) ⟨Nat.le_of_ble_eq_true rfl, Nat.le_of_ble_eq_true rfl⟩) ⟨fun a U gg mk q => by obtain ⟨q0, q1, qP, qK, qD⟩ := q; exact ⟨q0, q1, qP, va_K.moved (u := U) (U := U.calling gg mk a) (Vm.Alike.refl U.vm) qK, qD⟩, va_recv hK hPc (ci := 6) (q0 := 0) rfl rfl, fun U hU hW => ⟨rfl, by rw [hU], by rw [hU]; exact hPc, va_K.moved hW.alike hK, hDc.weaken (fun _ _ _ _ => trivial)⟩⟩ rfl rfl hl.1 rfl (lv_room (Nat.le_of_ble_eq_true rfl)) dX7_way_26 ⟨Nat.zero_le _, Nat.zero_le _⟩) hS (fun q _ h => hFc q h) hFc (fun r_ u_ t H locs ht hvm hw hB hz1 hk1 hS => ?_)
      obtain rfl := hw.symm
      obtain ⟨hP1, -, hD1⟩ := hB
      rw [ht] at hP1
      obtain ⟨hP, hD⟩ := va_join (wr := [(zbe, .inl (cJ, 64, .inr (.inl fB))), (zst, .inr (5, [.int sS.1, .int sS.2.1, .int sS.2.2.1, .long sS.2.2.2, .ref zsa]))]) (w1 := [(zmo, .inr (6, [.int (f_X7_no (0, mM.2.1, mM.2.2.1, mM.2.2.2.1, mM.2.2.2.2.1, mM.2.2.2.2.2) 1).2.1, .int (f_X7_no (0, mM.2.1, mM.2.2.1, mM.2.2.2.1, mM.2.2.2.2.1, mM.2.2.2.2.2) 1).2.2.1, .int (f_X7_no (0, mM.2.1, mM.2.2.1, mM.2.2.2.1, mM.2.2.2.2.1, mM.2.2.2.2.2) 1).2.2.2.1, .int (bI (f_X7_no (0, mM.2.1, mM.2.2.1, mM.2.2.2.1, mM.2.2.2.2.1, mM.2.2.2.2.2) 1).2.2.2.2.1), .int (f_X7_no (0, mM.2.1, mM.2.2.1, mM.2.2.2.1, mM.2.2.2.2.1, mM.2.2.2.2.2) 1).2.2.2.2.2.1, .int (f_X7_no (0, mM.2.1, mM.2.2.1, mM.2.2.2.1, mM.2.2.2.2.1, mM.2.2.2.2.2) 1).2.2.2.2.2.2, .ref zar, .ref zbe, .ref zst, .ref zah, .ref zgd]))]) hP hD [0] [1, 2] rfl rfl (by decide) (by decide) hk1 hFc hP1 hD1
      have hP := hP.sub (ws' := [(zmo, .inr (6, [.int (f_X7_no (0, mM.2.1, mM.2.2.1, mM.2.2.2.1, mM.2.2.2.2.1, mM.2.2.2.2.2) 1).2.1, .int (f_X7_no (0, mM.2.1, mM.2.2.1, mM.2.2.2.1, mM.2.2.2.2.1, mM.2.2.2.2.2) 1).2.2.1, .int (f_X7_no (0, mM.2.1, mM.2.2.1, mM.2.2.2.1, mM.2.2.2.2.1, mM.2.2.2.2.2) 1).2.2.2.1, .int (bI (f_X7_no (0, mM.2.1, mM.2.2.1, mM.2.2.2.1, mM.2.2.2.2.1, mM.2.2.2.2.2) 1).2.2.2.2.1), .int (f_X7_no (0, mM.2.1, mM.2.2.1, mM.2.2.2.1, mM.2.2.2.2.1, mM.2.2.2.2.2) 1).2.2.2.2.2.1, .int (f_X7_no (0, mM.2.1, mM.2.2.1, mM.2.2.2.1, mM.2.2.2.2.1, mM.2.2.2.2.2) 1).2.2.2.2.2.2, .ref zar, .ref zbe, .ref zst, .ref zah, .ref zgd])), (zbe, .inl (cJ, 64, .inr (.inl fB))), (zst, .inr (5, [.int sS.1, .int sS.2.1, .int sS.2.2.1, .long sS.2.2.2, .ref zsa]))]) [2, 0, 1] rfl
      have hD := hD.sub (ws' := [(zmo, .inr (6, [.int (f_X7_no (0, mM.2.1, mM.2.2.1, mM.2.2.2.1, mM.2.2.2.2.1, mM.2.2.2.2.2) 1).2.1, .int (f_X7_no (0, mM.2.1, mM.2.2.1, mM.2.2.2.1, mM.2.2.2.2.1, mM.2.2.2.2.2) 1).2.2.1, .int (f_X7_no (0, mM.2.1, mM.2.2.1, mM.2.2.2.1, mM.2.2.2.2.1, mM.2.2.2.2.2) 1).2.2.2.1, .int (bI (f_X7_no (0, mM.2.1, mM.2.2.1, mM.2.2.2.1, mM.2.2.2.2.1, mM.2.2.2.2.2) 1).2.2.2.2.1), .int (f_X7_no (0, mM.2.1, mM.2.2.1, mM.2.2.2.1, mM.2.2.2.2.1, mM.2.2.2.2.2) 1).2.2.2.2.2.1, .int (f_X7_no (0, mM.2.1, mM.2.2.1, mM.2.2.2.1, mM.2.2.2.2.1, mM.2.2.2.2.2) 1).2.2.2.2.2.2, .ref zar, .ref zbe, .ref zst, .ref zah, .ref zgd])), (zbe, .inl (cJ, 64, .inr (.inl fB))), (zst, .inr (5, [.int sS.1, .int sS.2.1, .int sS.2.2.1, .long sS.2.2.2, .ref zsa]))]) [2, 0, 1] (by decide) rfl
      clear hPc hDc hFc hP1 hD1 hk1
      obtain rfl := Option.some.inj hf
      exact W.iret (v := (f_X7_no (0, mM.2.1, mM.2.2.1, mM.2.2.2.1, mM.2.2.2.2.1, mM.2.2.2.2.2) 1).1) hx hb hr (fun t ht hW => ⟨⟨(f_X7_no (0, mM.2.1, mM.2.2.1, mM.2.2.2.1, mM.2.2.2.2.1, mM.2.2.2.2.2) 1).1, (), rfl, rfl, by rw [ht]; exact hP, va_K.moved hW.alike hK, hD⟩, hS.F ht⟩) hS.2.2 dX7_way_29
/-! HedgeGlidersModel.look(I)V -/
def lp_X7_look_15 (mM : MoS) (fR : Nat → Int64) (yr : Int32) : Nat → Int32 → (Nat → Int64) → Option ((Nat → Int64))
  | 0, _, _ => none
  | nf + 1, y5, y6 => if yr < y5 then (some y6) else (if ((y5 - 1) : Int32) < 0 ∨ 61 ≤ ((y5 - 1) : Int32).toNatClampNeg then none else Option.bind (f_X7_next mM fR (y6 ((y5 - 1) : Int32).toNatClampNeg)) fun r7 => if y5 < 0 ∨ 61 ≤ y5.toNatClampNeg then none else lp_X7_look_15 mM fR yr nf (y5 + 1) (vp_updL y6 y5.toNatClampNeg r7))
def f_X7_look (mM : MoS) (fR : Nat → Int64) (sS : StS) (fD : Nat → Int64) (yr : Int32) : Option ((Nat → Int64)) := if (0 : Int32) < 0 ∨ 61 ≤ (0 : Int32).toNatClampNeg then none else Option.bind (lp_X7_look_15 mM fR yr 100 1 (vp_updL fD (0 : Int32).toNatClampNeg sS.2.2.2)) fun v8 => some v8
abbrev rm_X7_look : Room := ({ frames := 3, cells := 0, slots := 0, locals := 71 } : Room)
abbrev A_X7_look (cI cJ : ClassId) (zmo zar zst zgd zbe zah zsa : Nat) (mM : MoS) (fR : Nat → Int64) (sS : StS) (fD : Nat → Int64) (yr : Int32) (sz : Nat) : Nat → Prop := va_A [(zmo, .inr (6, [.int mM.1, .int mM.2.1, .int mM.2.2.1, .int (bI mM.2.2.2.1), .int mM.2.2.2.2.1, .int mM.2.2.2.2.2, .ref zar, .ref zbe, .ref zst, .ref zah, .ref zgd])), (zar, .inl (cJ, 64, .inr (.inl fR))), (zst, .inr (5, [.int sS.1, .int sS.2.1, .int sS.2.2.1, .long sS.2.2.2, .ref zsa])), (zgd, .inl (cJ, 61, .inr (.inl fD)))] sz
abbrev Q_X7_look (dC : Nat → ClassId) (dI : Nat → Nat → Nat) (cI cJ : ClassId) (zmo zar zst zgd zbe zah zsa : Nat) (mM : MoS) (fR : Nat → Int64) (sS : StS) (fD : Nat → Int64) (yr : Int32) (sz : Nat) (R : (Nat → Int64)) : Array Value → State → Outcome → State → Prop := va_Qv (fun _ : Unit => True) (fun u_ t => va_P (dC, dI) vwCl [(zmo, .inr (6, [.int mM.1, .int mM.2.1, .int mM.2.2.1, .int (bI mM.2.2.2.1), .int mM.2.2.2.2.1, .int mM.2.2.2.2.2, .ref zar, .ref zbe, .ref zst, .ref zah, .ref zgd])), (zar, .inl (cJ, 64, .inr (.inl fR))), (zst, .inr (5, [.int sS.1, .int sS.2.1, .int sS.2.2.1, .long sS.2.2.2, .ref zsa])), (zgd, .inl (cJ, 61, .inr (.inl R)))] t.heap ∧ va_K (dC, dI) vwCl [(cI, .int), (cJ, .long)] t ∧ va_D (A_X7_look cI cJ zmo zar zst zgd zbe zah zsa mM fR sS fD yr sz) [(zmo, .inr (6, [.int mM.1, .int mM.2.1, .int mM.2.2.1, .int (bI mM.2.2.2.1), .int mM.2.2.2.2.1, .int mM.2.2.2.2.2, .ref zar, .ref zbe, .ref zst, .ref zah, .ref zgd])), (zar, .inl (cJ, 64, .inr (.inl fR))), (zst, .inr (5, [.int sS.1, .int sS.2.1, .int sS.2.2.1, .long sS.2.2.2, .ref zsa])), (zgd, .inl (cJ, 61, .inr (.inl R)))]) (A_X7_look cI cJ zmo zar zst zgd zbe zah zsa mM fR sS fD yr sz)
set_option maxHeartbeats 4000000 in
set_option maxRecDepth 100000 in
theorem c_X7_look (l : Launch) (dC : Nat → ClassId) (dI : Nat → Nat → Nat) (cI cJ : ClassId) (zmo zar zst zgd zbe zah zsa : Nat) (sz : Nat) (mM : MoS) (fR : Nat → Int64) (sS : StS) (fD : Nat → Int64) (yr : Int32) (R : (Nat → Int64)) (hR : f_X7_look mM fR sS fD yr = some R) : Met l yX7_look wsX7_look rm_X7_look (va_Pc [.ref zmo, .int yr] (fun U => U.heap.size = sz ∧ va_P (dC, dI) vwCl [(zmo, .inr (6, [.int mM.1, .int mM.2.1, .int mM.2.2.1, .int (bI mM.2.2.2.1), .int mM.2.2.2.2.1, .int mM.2.2.2.2.2, .ref zar, .ref zbe, .ref zst, .ref zah, .ref zgd])), (zar, .inl (cJ, 64, .inr (.inl fR))), (zst, .inr (5, [.int sS.1, .int sS.2.1, .int sS.2.2.1, .long sS.2.2.2, .ref zsa])), (zgd, .inl (cJ, 61, .inr (.inl fD)))] U.heap ∧ va_K (dC, dI) vwCl [(cI, .int), (cJ, .long)] U ∧ va_D (fun _ => True) [(zmo, .inr (6, [.int mM.1, .int mM.2.1, .int mM.2.2.1, .int (bI mM.2.2.2.1), .int mM.2.2.2.2.1, .int mM.2.2.2.2.2, .ref zar, .ref zbe, .ref zst, .ref zah, .ref zgd])), (zar, .inl (cJ, 64, .inr (.inl fR))), (zst, .inr (5, [.int sS.1, .int sS.2.1, .int sS.2.2.1, .long sS.2.2.2, .ref zsa])), (zgd, .inl (cJ, 61, .inr (.inl fD)))] ∧ nwM U)) (Q_X7_look dC dI cI cJ zmo zar zst zgd zbe zah zsa mM fR sS fD yr sz R) 0 0 (A_X7_look cI cJ zmo zar zst zgd zbe zah zsa mM fR sS fD yr sz) := by
  have hf := hR
  refine Met.ofW (cc := cX7_look) (maxL := 3) (ret := none) (by decide) rfl ?_
  intro p e s m args below meth c s₁ B hml hv
  obtain ⟨hargs, hsz, hP, hK, hD0, hnw⟩ := hv
  have hx := B.exec
  have hb := B.bytes
  have hr := B.returns
  have hts := atoms_spec (ws := wsX7_look) B.pre
  have hown : s.vm.findClass RX7 = some m.cls := findClass_of_methodNamed B.named
  have hlocks := B.notSynchronized
  subst hsz
  obtain ⟨hnw_hedges, hnw_ages, hnw_born, hnw_dead, hnw_year⟩ := id hnw
  have hD : va_D (A_X7_look cI cJ zmo zar zst zgd zbe zah zsa mM fR sS fD yr s.heap.size) [(zmo, .inr (6, [.int mM.1, .int mM.2.1, .int mM.2.2.1, .int (bI mM.2.2.2.1), .int mM.2.2.2.2.1, .int mM.2.2.2.2.2, .ref zar, .ref zbe, .ref zst, .ref zah, .ref zgd])), (zar, .inl (cJ, 64, .inr (.inl fR))), (zst, .inr (5, [.int sS.1, .int sS.2.1, .int sS.2.2.1, .long sS.2.2.2, .ref zsa])), (zgd, .inl (cJ, 61, .inr (.inl fD)))] := hD0.self (sz := s.heap.size)
  have hA : ∀ q : Nat, s.heap.size ≤ q → (A_X7_look cI cJ zmo zar zst zgd zbe zah zsa mM fR sS fD yr s.heap.size) q := fun q h => Or.inr h
  have hS : va_S (A_X7_look cI cJ zmo zar zst zgd zbe zah zsa mM fR sS fD yr s.heap.size) s.heap s.heap [] := va_S.rf
  have hinX6 : ∀ w ∈ wsX60, w ∈ wsX7_look := by decide +kernel
  have hinX7 : ∀ w ∈ wsX70, w ∈ wsX7_look := by decide +kernel
  have hw0 := hts (.fieldLink RX7 39 "HedgeGlidersModel" "gardens" "[J") (by decide +kernel)
  have hw1 := hts (.fieldLink RX7 32 "HedgeGlidersModel" "s" "LHedgeGlidersModel$State;") (by decide +kernel)
  have hl := lv_entry ([.ref zmo, .int yr]) (n := 3) (Nat.le_of_ble_eq_true rfl)
  have he0 : entryFrame m args 3 = entryFrame m ([.ref zmo, .int yr] : List Value).toArray 3 := by rw [hargs]
  rw [he0, lg_entry_eq]
  generalize (lg_sl ([.ref zmo, .int yr]) ++ List.replicate (3 - (lg_sl ([.ref zmo, .int yr])).length) Slot.unset).toArray = ls at hl ⊢
  have hl : lv_has ls 3 [(0, .ref zmo), (1, .int yr)] := hl
  rw [f_X7_look] at hf
  refine lv_aload_n hx hb dX7_look_0 rfl (lv_at hl 0 rfl) ?_
  refine va_get (D := (dC, dI)) (ci := 6) (v := .ref zgd) (C := RX7) (T := TX7) (N := 11) hx hb hts hinX7 hown hK hP 0 rfl rfl 10 (by decide) hw0 (fun _ h9 => h9) rfl dX7_look_1 ?_
  refine lv_iconst (v := 0) hx hb dX7_look_4 (by decide) ?_
  refine lv_aload_n hx hb dX7_look_5 rfl (lv_at hl 0 rfl) ?_
  refine va_get (D := (dC, dI)) (ci := 6) (v := .ref zst) (C := RX7) (T := TX7) (N := 11) hx hb hts hinX7 hown hK hP 0 rfl rfl 8 (by decide) hw1 (fun _ h9 => h9) rfl dX7_look_6 ?_
  refine va_getN (D := (dC, dI)) (ci := 5) (v := .long sS.2.2.2) (C := RX6) (T := TX6) (N := 5) hx hb hts hinX6 hown hK hP 2 rfl rfl 3 (by decide) (va_Nw.use rfl hnw_hedges) (fun _ h9 => h9) rfl dX7_look_9 ?_
  have hg0 : ¬ ((0 : Int32) < 0 ∨ 61 ≤ (0 : Int32).toNatClampNeg) := fun hq => by rw [if_pos hq] at hf; exact nomatch hf
  rw [if_neg hg0] at hf
  have hg : vp_in (0 : Int32) 61 := hg0
  refine va_last hx hb hK hP hD hS 3 1 rfl rfl hg dX7_look_12 (fun H locs hP hD hS => ?_)
  have hP : va_P (dC, dI) vwCl [(zmo, .inr (6, [.int mM.1, .int mM.2.1, .int mM.2.2.1, .int (bI mM.2.2.2.1), .int mM.2.2.2.2.1, .int mM.2.2.2.2.2, .ref zar, .ref zbe, .ref zst, .ref zah, .ref zgd])), (zar, .inl (cJ, 64, .inr (.inl fR))), (zst, .inr (5, [.int sS.1, .int sS.2.1, .int sS.2.2.1, .long sS.2.2.2, .ref zsa])), (zgd, .inl (cJ, 61, .inr (.inl (vp_updL fD (0 : Int32).toNatClampNeg sS.2.2.2))))] H := hP
  have hD : va_D (A_X7_look cI cJ zmo zar zst zgd zbe zah zsa mM fR sS fD yr s.heap.size) [(zmo, .inr (6, [.int mM.1, .int mM.2.1, .int mM.2.2.1, .int (bI mM.2.2.2.1), .int mM.2.2.2.2.1, .int mM.2.2.2.2.2, .ref zar, .ref zbe, .ref zst, .ref zah, .ref zgd])), (zar, .inl (cJ, 64, .inr (.inl fR))), (zst, .inr (5, [.int sS.1, .int sS.2.1, .int sS.2.2.1, .long sS.2.2.2, .ref zsa])), (zgd, .inl (cJ, 61, .inr (.inl (vp_updL fD (0 : Int32).toNatClampNeg sS.2.2.2))))] := hD
  refine lv_iconst (v := 1) hx hb dX7_look_13 (by decide) ?_
  refine lv_istore_n (lv' := [(2, .int 1), (0, .ref zmo), (1, .int yr)]) hx hb dX7_look_14 rfl hl (by decide) rfl (fun ls hl => ?_)
  obtain ⟨v8, hv, hf⟩ := obind hf
  have K9 : ∀ (H : Heap) (locs : List Loc) (ls : Array Slot), va_P (dC, dI) vwCl [(zmo, .inr (6, [.int mM.1, .int mM.2.1, .int mM.2.2.1, .int (bI mM.2.2.2.1), .int mM.2.2.2.2.1, .int mM.2.2.2.2.2, .ref zar, .ref zbe, .ref zst, .ref zah, .ref zgd])), (zar, .inl (cJ, 64, .inr (.inl fR))), (zst, .inr (5, [.int sS.1, .int sS.2.1, .int sS.2.2.1, .long sS.2.2.2, .ref zsa])), (zgd, .inl (cJ, 61, .inr (.inl v8)))] H → va_D (A_X7_look cI cJ zmo zar zst zgd zbe zah zsa mM fR sS fD yr s.heap.size) [(zmo, .inr (6, [.int mM.1, .int mM.2.1, .int mM.2.2.1, .int (bI mM.2.2.2.1), .int mM.2.2.2.2.1, .int mM.2.2.2.2.2, .ref zar, .ref zbe, .ref zst, .ref zah, .ref zgd])), (zar, .inl (cJ, 64, .inr (.inl fR))), (zst, .inr (5, [.int sS.1, .int sS.2.1, .int sS.2.2.1, .long sS.2.2.2, .ref zsa])), (zgd, .inl (cJ, 61, .inr (.inl v8)))] → va_S (A_X7_look cI cJ zmo zar zst zgd zbe zah zsa mM fR sS fD yr s.heap.size) s.heap H locs → lv_has ls 3 [] → W p l e rm_X7_look s m args below meth c H locs 0 0 (MQ below (Q_X7_look dC dI cI cJ zmo zar zst zgd zbe zah zsa mM fR sS fD yr s.heap.size R) args s 0 0 (A_X7_look cI cJ zmo zar zst zgd zbe zah zsa mM fR sS fD yr s.heap.size)) (F0 m 44 ls []) := by
    intro H locs ls hP hD hS hl
    obtain rfl := Option.some.inj hf
    exact W.vret hx hb hr (fun t ht hW => ⟨⟨(), rfl, trivial, by rw [ht]; exact hP, va_K.moved hW.alike hK, hD⟩, hS.F ht⟩) hS.2.2 dX7_look_44
  have lp10 : ∀ (nf : Nat) (y5 : Int32) (y6 : Nat → Int64) (H : Heap) (locs : List Loc) (ls : Array Slot), lp_X7_look_15 mM fR yr nf y5 y6 = some v8 → va_P (dC, dI) vwCl [(zmo, .inr (6, [.int mM.1, .int mM.2.1, .int mM.2.2.1, .int (bI mM.2.2.2.1), .int mM.2.2.2.2.1, .int mM.2.2.2.2.2, .ref zar, .ref zbe, .ref zst, .ref zah, .ref zgd])), (zar, .inl (cJ, 64, .inr (.inl fR))), (zst, .inr (5, [.int sS.1, .int sS.2.1, .int sS.2.2.1, .long sS.2.2.2, .ref zsa])), (zgd, .inl (cJ, 61, .inr (.inl y6)))] H → va_D (A_X7_look cI cJ zmo zar zst zgd zbe zah zsa mM fR sS fD yr s.heap.size) [(zmo, .inr (6, [.int mM.1, .int mM.2.1, .int mM.2.2.1, .int (bI mM.2.2.2.1), .int mM.2.2.2.2.1, .int mM.2.2.2.2.2, .ref zar, .ref zbe, .ref zst, .ref zah, .ref zgd])), (zar, .inl (cJ, 64, .inr (.inl fR))), (zst, .inr (5, [.int sS.1, .int sS.2.1, .int sS.2.2.1, .long sS.2.2.2, .ref zsa])), (zgd, .inl (cJ, 61, .inr (.inl y6)))] → va_S (A_X7_look cI cJ zmo zar zst zgd zbe zah zsa mM fR sS fD yr s.heap.size) s.heap H locs → lv_has ls 3 [(0, .ref zmo), (1, .int yr), (2, .int y5)] → W p l e rm_X7_look s m args below meth c H locs 0 0 (MQ below (Q_X7_look dC dI cI cJ zmo zar zst zgd zbe zah zsa mM fR sS fD yr s.heap.size R) args s 0 0 (A_X7_look cI cJ zmo zar zst zgd zbe zah zsa mM fR sS fD yr s.heap.size)) (F0 m 15 ls []) := by
    intro nf
    induction nf with
    | zero => intro y5 y6 H locs ls h9; exact nomatch h9
    | succ nf ih11 =>
      intro y5 y6 H locs ls hf hP hD hS hl
      rw [lp_X7_look_15.eq_2] at hf
      refine lv_iload_n hx hb dX7_look_15 rfl (lv_at hl 2 rfl) ?_
      refine lv_iload_n hx hb dX7_look_16 rfl (lv_at hl 1 rfl) ?_
      refine lv_icmp_gt (tgt := 44) hx hb dX7_look_17 (by decide) (fun hc => ?_) (fun hc => ?_)
      · rw [if_pos hc] at hf
        obtain rfl := Option.some.inj hf
        exact K9 _ _ _ hP hD hS (lv_sub hl [] rfl)
      · rw [if_neg hc] at hf
        refine lv_aload_n hx hb dX7_look_20 rfl (lv_at hl 0 rfl) ?_
        refine va_get (D := (dC, dI)) (ci := 6) (v := .ref zgd) (C := RX7) (T := TX7) (N := 11) hx hb hts hinX7 hown hK hP 0 rfl rfl 10 (by decide) hw0 (fun _ h9 => h9) rfl dX7_look_21 ?_
        refine lv_iload_n hx hb dX7_look_24 rfl (lv_at hl 2 rfl) ?_
        refine lv_aload_n hx hb dX7_look_25 rfl (lv_at hl 0 rfl) ?_
        refine lv_aload_n hx hb dX7_look_26 rfl (lv_at hl 0 rfl) ?_
        refine va_get (D := (dC, dI)) (ci := 6) (v := .ref zgd) (C := RX7) (T := TX7) (N := 11) hx hb hts hinX7 hown hK hP 0 rfl rfl 10 (by decide) hw0 (fun _ h9 => h9) rfl dX7_look_27 ?_
        refine lv_iload_n hx hb dX7_look_30 rfl (lv_at hl 2 rfl) ?_
        refine lv_iconst (v := 1) hx hb dX7_look_31 (by decide) ?_
        refine lv_isub hx hb dX7_look_32 ?_
        have hg0 : ¬ (((y5 - 1) : Int32) < 0 ∨ 61 ≤ ((y5 - 1) : Int32).toNatClampNeg) := fun hq => by rw [if_pos hq] at hf; exact nomatch hf
        rw [if_neg hg0] at hf
        have hg : vp_in ((y5 - 1) : Int32) 61 := hg0
        refine va_lald hx hb hK hP 3 1 rfl rfl hg dX7_look_33 ?_
        obtain ⟨r7, hr7, hf⟩ := obind hf
        have hPc := hP.sub (ws' := [(zmo, .inr (6, [.int mM.1, .int mM.2.1, .int mM.2.2.1, .int (bI mM.2.2.2.1), .int mM.2.2.2.2.1, .int mM.2.2.2.2.2, .ref zar, .ref zbe, .ref zst, .ref zah, .ref zgd])), (zar, .inl (cJ, 64, .inr (.inl fR)))]) [0, 1] rfl
        have hDc := hD.sub (ws' := [(zmo, .inr (6, [.int mM.1, .int mM.2.1, .int mM.2.2.1, .int (bI mM.2.2.2.1), .int mM.2.2.2.2.1, .int mM.2.2.2.2.2, .ref zar, .ref zbe, .ref zst, .ref zah, .ref zgd])), (zar, .inl (cJ, 64, .inr (.inl fR)))]) [0, 1] (by decide) rfl
        have hFc := va_free (wc := [(zmo, .inr (6, [.int mM.1, .int mM.2.1, .int mM.2.2.1, .int (bI mM.2.2.2.1), .int mM.2.2.2.2.1, .int mM.2.2.2.2.2, .ref zar, .ref zbe, .ref zst, .ref zah, .ref zgd])), (zar, .inl (cJ, 64, .inr (.inl fR)))]) hD hS hA [0, 1] rfl
        refine va_calll (va_runV (As := [.long (y6 ((y5 - 1) : Int32).toNatClampNeg)]) (rest := [.int y5, .ref zgd]) ⟨hx, hb, hml, hown, hts⟩ (c_X7_next l dC dI cI cJ zmo zar zbe zst zah zgd H.size mM fR (y6 ((y5 - 1) : Int32).toNatClampNeg) _ hr7) (cwV 1 hts gX7_look_X7_next rfl rfl rfl (by decide +kernel) ⟨Nat.le_of_ble_eq_true rfl, Nat.le_of_ble_eq_true rfl⟩) ⟨fun a U gg mk q => by obtain ⟨q0, q1, qP, qK, qD⟩ := q; exact ⟨q0, q1, qP, va_K.moved (u := U) (U := U.calling gg mk a) (Vm.Alike.refl U.vm) qK, qD⟩, va_recv hK hPc (ci := 6) (q0 := 0) rfl rfl, fun U hU hW => ⟨rfl, by rw [hU], by rw [hU]; exact hPc, va_K.moved hW.alike hK, hDc.weaken (fun _ _ _ _ => trivial)⟩⟩ rfl rfl hl.1 rfl (lv_room (Nat.le_of_ble_eq_true rfl)) dX7_look_34 ⟨Nat.zero_le _, Nat.zero_le _⟩) hS (fun q _ h => hFc q h) hFc (fun r_ u_ t H locs ht hvm hw hB hz1 hk1 hS => ?_)
        obtain rfl := hw.symm
        obtain ⟨hP1, -, hD1⟩ := hB
        rw [ht] at hP1
        obtain ⟨hP, hD⟩ := va_join (wr := [(zst, .inr (5, [.int sS.1, .int sS.2.1, .int sS.2.2.1, .long sS.2.2.2, .ref zsa])), (zgd, .inl (cJ, 61, .inr (.inl y6)))]) (w1 := [(zmo, .inr (6, [.int mM.1, .int mM.2.1, .int mM.2.2.1, .int (bI mM.2.2.2.1), .int mM.2.2.2.2.1, .int mM.2.2.2.2.2, .ref zar, .ref zbe, .ref zst, .ref zah, .ref zgd])), (zar, .inl (cJ, 64, .inr (.inl fR)))]) hP hD [0, 1] [2, 3] rfl rfl (by decide) (by decide) hk1 hFc hP1 hD1
        have hP := hP.sub (ws' := [(zmo, .inr (6, [.int mM.1, .int mM.2.1, .int mM.2.2.1, .int (bI mM.2.2.2.1), .int mM.2.2.2.2.1, .int mM.2.2.2.2.2, .ref zar, .ref zbe, .ref zst, .ref zah, .ref zgd])), (zar, .inl (cJ, 64, .inr (.inl fR))), (zst, .inr (5, [.int sS.1, .int sS.2.1, .int sS.2.2.1, .long sS.2.2.2, .ref zsa])), (zgd, .inl (cJ, 61, .inr (.inl y6)))]) [2, 3, 0, 1] rfl
        have hD := hD.sub (ws' := [(zmo, .inr (6, [.int mM.1, .int mM.2.1, .int mM.2.2.1, .int (bI mM.2.2.2.1), .int mM.2.2.2.2.1, .int mM.2.2.2.2.2, .ref zar, .ref zbe, .ref zst, .ref zah, .ref zgd])), (zar, .inl (cJ, 64, .inr (.inl fR))), (zst, .inr (5, [.int sS.1, .int sS.2.1, .int sS.2.2.1, .long sS.2.2.2, .ref zsa])), (zgd, .inl (cJ, 61, .inr (.inl y6)))]) [2, 3, 0, 1] (by decide) rfl
        clear hPc hDc hFc hP1 hD1 hk1
        have hg0 : ¬ (y5 < 0 ∨ 61 ≤ y5.toNatClampNeg) := fun hq => by rw [if_pos hq] at hf; exact nomatch hf
        rw [if_neg hg0] at hf
        have hg : vp_in y5 61 := hg0
        refine va_last hx hb hK hP hD hS 3 1 rfl rfl hg dX7_look_37 (fun H locs hP hD hS => ?_)
        have hP : va_P (dC, dI) vwCl [(zmo, .inr (6, [.int mM.1, .int mM.2.1, .int mM.2.2.1, .int (bI mM.2.2.2.1), .int mM.2.2.2.2.1, .int mM.2.2.2.2.2, .ref zar, .ref zbe, .ref zst, .ref zah, .ref zgd])), (zar, .inl (cJ, 64, .inr (.inl fR))), (zst, .inr (5, [.int sS.1, .int sS.2.1, .int sS.2.2.1, .long sS.2.2.2, .ref zsa])), (zgd, .inl (cJ, 61, .inr (.inl (vp_updL y6 y5.toNatClampNeg r7))))] H := hP
        have hD : va_D (A_X7_look cI cJ zmo zar zst zgd zbe zah zsa mM fR sS fD yr s.heap.size) [(zmo, .inr (6, [.int mM.1, .int mM.2.1, .int mM.2.2.1, .int (bI mM.2.2.2.1), .int mM.2.2.2.2.1, .int mM.2.2.2.2.2, .ref zar, .ref zbe, .ref zst, .ref zah, .ref zgd])), (zar, .inl (cJ, 64, .inr (.inl fR))), (zst, .inr (5, [.int sS.1, .int sS.2.1, .int sS.2.2.1, .long sS.2.2.2, .ref zsa])), (zgd, .inl (cJ, 61, .inr (.inl (vp_updL y6 y5.toNatClampNeg r7))))] := hD
        refine lv_iinc (v := (y5 + 1)) (lv' := [(2, .int (y5 + 1)), (0, .ref zmo), (1, .int yr)]) hx hb dX7_look_38 hl (k := 2) rfl rfl (by decide) rfl (fun ls hl => ?_)
        refine lv_goto (tgt := 15) hx hb dX7_look_41 (by decide) ?_
        exact ih11 _ _ _ _ _ hf hP hD hS (lv_sub hl [1, 2, 0] rfl)
  exact lp10 100 _ _ _ _ _ hv hP hD hS (lv_sub hl [1, 2, 0] rfl)
/-! HedgeGlidersModel.period(I)I -/
def lp_X7_period_38 (mM : MoS) (wh : Int32) (r1 : (Nat → Int64)) (y9 : Int32) : Nat → Int32 → Option ((Unit) ⊕ (Int32 × MoS × (Nat → Int64)))
  | 0, _ => none
  | nf + 1, y11 => if 60 < y11 then (some (.inl ())) else (if y9 < 0 ∨ 61 ≤ y9.toNatClampNeg then none else if y11 < 0 ∨ 61 ≤ y11.toNatClampNeg then none else if (r1 y9.toNatClampNeg) = (r1 y11.toNatClampNeg) then (if wh = 0 then (some (.inr (y9, (0, mM.2.1, mM.2.2.1, mM.2.2.2.1, mM.2.2.2.2.1, mM.2.2.2.2.2), r1))) else (some (.inr ((y11 - y9), (0, mM.2.1, mM.2.2.1, mM.2.2.2.1, mM.2.2.2.2.1, mM.2.2.2.2.2), r1)))) else (lp_X7_period_38 mM wh r1 y9 nf (y11 + 1)))
def lp_X7_period_28 (mM : MoS) (wh : Int32) (r1 : (Nat → Int64)) : Nat → Int32 → Option (Int32 × MoS × (Nat → Int64))
  | 0, _ => none
  | nf + 1, y9 => if 60 ≤ y9 then (some ((-1), (0, mM.2.1, mM.2.2.1, mM.2.2.2.1, mM.2.2.2.2.1, mM.2.2.2.2.2), r1)) else (osum (lp_X7_period_38 mM wh r1 y9 100 (y9 + 1)) fun v12 => lp_X7_period_28 mM wh r1 nf (y9 + 1))
def f_X7_period (mM : MoS) (fR : Nat → Int64) (sS : StS) (fD : Nat → Int64) (wh : Int32) : Option (Int32 × MoS × (Nat → Int64)) := if (f_X7_isIn wh 0 1) = 0 then (some ((f_X7_no (0, mM.2.1, mM.2.2.1, mM.2.2.2.1, mM.2.2.2.2.1, mM.2.2.2.2.2) 1).1, (f_X7_no (0, mM.2.1, mM.2.2.1, mM.2.2.2.1, mM.2.2.2.2.1, mM.2.2.2.2.2) 1).2, fD)) else (Option.bind (f_X7_look (0, mM.2.1, mM.2.2.1, mM.2.2.2.1, mM.2.2.2.2.1, mM.2.2.2.2.2) fR sS fD 60) fun r1 => (lp_X7_period_28 mM wh r1 100 0))
abbrev rm_X7_period : Room := ({ frames := 4, cells := 0, slots := 0, locals := 93 } : Room)
abbrev A_X7_period (cI cJ : ClassId) (zmo zar zst zgd zbe zah zsa : Nat) (mM : MoS) (fR : Nat → Int64) (sS : StS) (fD : Nat → Int64) (wh : Int32) (sz : Nat) : Nat → Prop := va_A [(zmo, .inr (6, [.int mM.1, .int mM.2.1, .int mM.2.2.1, .int (bI mM.2.2.2.1), .int mM.2.2.2.2.1, .int mM.2.2.2.2.2, .ref zar, .ref zbe, .ref zst, .ref zah, .ref zgd])), (zar, .inl (cJ, 64, .inr (.inl fR))), (zst, .inr (5, [.int sS.1, .int sS.2.1, .int sS.2.2.1, .long sS.2.2.2, .ref zsa])), (zgd, .inl (cJ, 61, .inr (.inl fD)))] sz
abbrev Q_X7_period (dC : Nat → ClassId) (dI : Nat → Nat → Nat) (cI cJ : ClassId) (zmo zar zst zgd zbe zah zsa : Nat) (mM : MoS) (fR : Nat → Int64) (sS : StS) (fD : Nat → Int64) (wh : Int32) (sz : Nat) (R : Int32 × MoS × (Nat → Int64)) : Array Value → State → Outcome → State → Prop := va_Qi (fun (r : Int32) (_ : Unit) => r = R.1) (fun u_ t => va_P (dC, dI) vwCl [(zmo, .inr (6, [.int R.2.1.1, .int R.2.1.2.1, .int R.2.1.2.2.1, .int (bI R.2.1.2.2.2.1), .int R.2.1.2.2.2.2.1, .int R.2.1.2.2.2.2.2, .ref zar, .ref zbe, .ref zst, .ref zah, .ref zgd])), (zar, .inl (cJ, 64, .inr (.inl fR))), (zst, .inr (5, [.int sS.1, .int sS.2.1, .int sS.2.2.1, .long sS.2.2.2, .ref zsa])), (zgd, .inl (cJ, 61, .inr (.inl R.2.2)))] t.heap ∧ va_K (dC, dI) vwCl [(cI, .int), (cJ, .long)] t ∧ va_D (A_X7_period cI cJ zmo zar zst zgd zbe zah zsa mM fR sS fD wh sz) [(zmo, .inr (6, [.int R.2.1.1, .int R.2.1.2.1, .int R.2.1.2.2.1, .int (bI R.2.1.2.2.2.1), .int R.2.1.2.2.2.2.1, .int R.2.1.2.2.2.2.2, .ref zar, .ref zbe, .ref zst, .ref zah, .ref zgd])), (zar, .inl (cJ, 64, .inr (.inl fR))), (zst, .inr (5, [.int sS.1, .int sS.2.1, .int sS.2.2.1, .long sS.2.2.2, .ref zsa])), (zgd, .inl (cJ, 61, .inr (.inl R.2.2)))]) (A_X7_period cI cJ zmo zar zst zgd zbe zah zsa mM fR sS fD wh sz)
set_option maxHeartbeats 4000000 in
set_option maxRecDepth 100000 in
theorem c_X7_period (l : Launch) (dC : Nat → ClassId) (dI : Nat → Nat → Nat) (cI cJ : ClassId) (zmo zar zst zgd zbe zah zsa : Nat) (sz : Nat) (mM : MoS) (fR : Nat → Int64) (sS : StS) (fD : Nat → Int64) (wh : Int32) (R : Int32 × MoS × (Nat → Int64)) (hR : f_X7_period mM fR sS fD wh = some R) : Met l yX7_period wsX7_period rm_X7_period (va_Pc [.ref zmo, .int wh] (fun U => U.heap.size = sz ∧ va_P (dC, dI) vwCl [(zmo, .inr (6, [.int mM.1, .int mM.2.1, .int mM.2.2.1, .int (bI mM.2.2.2.1), .int mM.2.2.2.2.1, .int mM.2.2.2.2.2, .ref zar, .ref zbe, .ref zst, .ref zah, .ref zgd])), (zar, .inl (cJ, 64, .inr (.inl fR))), (zst, .inr (5, [.int sS.1, .int sS.2.1, .int sS.2.2.1, .long sS.2.2.2, .ref zsa])), (zgd, .inl (cJ, 61, .inr (.inl fD)))] U.heap ∧ va_K (dC, dI) vwCl [(cI, .int), (cJ, .long)] U ∧ va_D (fun _ => True) [(zmo, .inr (6, [.int mM.1, .int mM.2.1, .int mM.2.2.1, .int (bI mM.2.2.2.1), .int mM.2.2.2.2.1, .int mM.2.2.2.2.2, .ref zar, .ref zbe, .ref zst, .ref zah, .ref zgd])), (zar, .inl (cJ, 64, .inr (.inl fR))), (zst, .inr (5, [.int sS.1, .int sS.2.1, .int sS.2.2.1, .long sS.2.2.2, .ref zsa])), (zgd, .inl (cJ, 61, .inr (.inl fD)))] ∧ nwM U)) (Q_X7_period dC dI cI cJ zmo zar zst zgd zbe zah zsa mM fR sS fD wh sz R) 0 0 (A_X7_period cI cJ zmo zar zst zgd zbe zah zsa mM fR sS fD wh sz) := by
  have hf := hR
  refine Met.ofW (cc := cX7_period) (maxL := 4) (ret := (some .int)) (by decide) rfl ?_
  intro p e s m args below meth c s₁ B hml hv
  obtain ⟨hargs, hsz, hP, hK, hD0, hnw⟩ := hv
  have hx := B.exec
  have hb := B.bytes
  have hr := B.returns
  have hts := atoms_spec (ws := wsX7_period) B.pre
  have hown : s.vm.findClass RX7 = some m.cls := findClass_of_methodNamed B.named
  have hlocks := B.notSynchronized
  subst hsz
  obtain ⟨hnw_hedges, hnw_ages, hnw_born, hnw_dead, hnw_year⟩ := id hnw
  have hD : va_D (A_X7_period cI cJ zmo zar zst zgd zbe zah zsa mM fR sS fD wh s.heap.size) [(zmo, .inr (6, [.int mM.1, .int mM.2.1, .int mM.2.2.1, .int (bI mM.2.2.2.1), .int mM.2.2.2.2.1, .int mM.2.2.2.2.2, .ref zar, .ref zbe, .ref zst, .ref zah, .ref zgd])), (zar, .inl (cJ, 64, .inr (.inl fR))), (zst, .inr (5, [.int sS.1, .int sS.2.1, .int sS.2.2.1, .long sS.2.2.2, .ref zsa])), (zgd, .inl (cJ, 61, .inr (.inl fD)))] := hD0.self (sz := s.heap.size)
  have hA : ∀ q : Nat, s.heap.size ≤ q → (A_X7_period cI cJ zmo zar zst zgd zbe zah zsa mM fR sS fD wh s.heap.size) q := fun q h => Or.inr h
  have hS : va_S (A_X7_period cI cJ zmo zar zst zgd zbe zah zsa mM fR sS fD wh s.heap.size) s.heap s.heap [] := va_S.rf
  have hinX7 : ∀ w ∈ wsX70, w ∈ wsX7_period := by decide +kernel
  have hw0 := hts (.fieldLink RX7 45 "HedgeGlidersModel" "thrown" "I") (by decide +kernel)
  have hw1 := hts (.fieldLink RX7 39 "HedgeGlidersModel" "gardens" "[J") (by decide +kernel)
  have hl := lv_entry ([.ref zmo, .int wh]) (n := 4) (Nat.le_of_ble_eq_true rfl)
  have he0 : entryFrame m args 4 = entryFrame m ([.ref zmo, .int wh] : List Value).toArray 4 := by rw [hargs]
  rw [he0, lg_entry_eq]
  generalize (lg_sl ([.ref zmo, .int wh]) ++ List.replicate (4 - (lg_sl ([.ref zmo, .int wh])).length) Slot.unset).toArray = ls at hl ⊢
  have hl : lv_has ls 4 [(0, .ref zmo), (1, .int wh)] := hl
  rw [f_X7_period] at hf
  refine lv_aload_n hx hb dX7_period_0 rfl (lv_at hl 0 rfl) ?_
  refine lv_iconst (v := 0) hx hb dX7_period_1 (by decide) ?_
  refine va_put (D := (dC, dI)) (ci := 6) (v := .int 0) (ty := .int) (C := RX7) (T := TX7) (N := 11) hx hb hts hinX7 tyX7 tyX7_ok nmX7 hown hK hP hD hS 0 rfl rfl 0 (by decide) hw0 (fun _ h9 => h9) rfl (by decide +kernel) rfl rfl (Nat.le_of_ble_eq_true rfl) dX7_period_2 (fun H locs hP hD hS => ?_)
  have hP : va_P (dC, dI) vwCl [(zmo, .inr (6, [.int 0, .int mM.2.1, .int mM.2.2.1, .int (bI mM.2.2.2.1), .int mM.2.2.2.2.1, .int mM.2.2.2.2.2, .ref zar, .ref zbe, .ref zst, .ref zah, .ref zgd])), (zar, .inl (cJ, 64, .inr (.inl fR))), (zst, .inr (5, [.int sS.1, .int sS.2.1, .int sS.2.2.1, .long sS.2.2.2, .ref zsa])), (zgd, .inl (cJ, 61, .inr (.inl fD)))] H := hP
  have hD : va_D (A_X7_period cI cJ zmo zar zst zgd zbe zah zsa mM fR sS fD wh s.heap.size) [(zmo, .inr (6, [.int 0, .int mM.2.1, .int mM.2.2.1, .int (bI mM.2.2.2.1), .int mM.2.2.2.2.1, .int mM.2.2.2.2.2, .ref zar, .ref zbe, .ref zst, .ref zah, .ref zgd])), (zar, .inl (cJ, 64, .inr (.inl fR))), (zst, .inr (5, [.int sS.1, .int sS.2.1, .int sS.2.2.1, .long sS.2.2.2, .ref zsa])), (zgd, .inl (cJ, 61, .inr (.inl fD)))] := hD
  refine lv_iload_n hx hb dX7_period_5 rfl (lv_at hl 1 rfl) ?_
  refine lv_iconst (v := 0) hx hb dX7_period_6 (by decide) ?_
  refine lv_iconst (v := 1) hx hb dX7_period_7 (by decide) ?_
  have hPc := hP.sub (ws' := []) [] rfl
  have hDc := hD.sub (ws' := []) [] (by decide) rfl
  have hFc := va_free (wc := []) hD hS hA [] rfl
  refine va_calli (va_runS (As := [.int wh, .int 0, .int 1]) (rest := []) ⟨hx, hb, hml, hown, hts⟩ (c_X7_isIn l dC dI cI cJ  H.size wh 0 1) (va_cwS 3 hts gX7_period_X7_isIn rfl rfl rfl (by decide +kernel) ⟨Nat.le_of_ble_eq_true rfl, Nat.le_of_ble_eq_true rfl⟩) ⟨fun a U gg mk q => by obtain ⟨q0, q1, qP, qK, qD⟩ := q; exact ⟨q0, q1, qP, va_K.moved (u := U) (U := U.calling gg mk a) (Vm.Alike.refl U.vm) qK, qD⟩, fun U hU hW => ⟨rfl, by rw [hU], by rw [hU]; exact hPc, va_K.moved hW.alike hK, hDc.weaken (fun _ _ _ _ => trivial)⟩⟩ rfl rfl hl.1 rfl (lv_room (Nat.le_of_ble_eq_true rfl)) dX7_period_8 ⟨Nat.zero_le _, Nat.zero_le _⟩) hS (fun q _ h => hFc q h) hFc (fun r_ u_ t H locs ht hvm hw hB hz1 hk1 hS => ?_)
  obtain rfl := hw.symm
  obtain ⟨hP1, -, hD1⟩ := hB
  rw [ht] at hP1
  obtain ⟨hP, hD⟩ := va_join (wr := [(zmo, .inr (6, [.int 0, .int mM.2.1, .int mM.2.2.1, .int (bI mM.2.2.2.1), .int mM.2.2.2.2.1, .int mM.2.2.2.2.2, .ref zar, .ref zbe, .ref zst, .ref zah, .ref zgd])), (zar, .inl (cJ, 64, .inr (.inl fR))), (zst, .inr (5, [.int sS.1, .int sS.2.1, .int sS.2.2.1, .long sS.2.2.2, .ref zsa])), (zgd, .inl (cJ, 61, .inr (.inl fD)))]) (w1 := []) hP hD [] [0, 1, 2, 3] rfl rfl (by decide) (by decide) hk1 hFc hP1 hD1
  have hP := hP.sub (ws' := [(zmo, .inr (6, [.int 0, .int mM.2.1, .int mM.2.2.1, .int (bI mM.2.2.2.1), .int mM.2.2.2.2.1, .int mM.2.2.2.2.2, .ref zar, .ref zbe, .ref zst, .ref zah, .ref zgd])), (zar, .inl (cJ, 64, .inr (.inl fR))), (zst, .inr (5, [.int sS.1, .int sS.2.1, .int sS.2.2.1, .long sS.2.2.2, .ref zsa])), (zgd, .inl (cJ, 61, .inr (.inl fD)))]) [0, 1, 2, 3] rfl
  have hD := hD.sub (ws' := [(zmo, .inr (6, [.int 0, .int mM.2.1, .int mM.2.2.1, .int (bI mM.2.2.2.1), .int mM.2.2.2.2.1, .int mM.2.2.2.2.2, .ref zar, .ref zbe, .ref zst, .ref zah, .ref zgd])), (zar, .inl (cJ, 64, .inr (.inl fR))), (zst, .inr (5, [.int sS.1, .int sS.2.1, .int sS.2.2.1, .long sS.2.2.2, .ref zsa])), (zgd, .inl (cJ, 61, .inr (.inl fD)))]) [0, 1, 2, 3] (by decide) rfl
  clear hPc hDc hFc hP1 hD1 hk1
  refine lv_if_ne (tgt := 20) hx hb dX7_period_11 (by decide) (fun hc => ?_) (fun hc => ?_)
  · rw [if_neg hc] at hf
    refine lv_aload_n hx hb dX7_period_20 rfl (lv_at hl 0 rfl) ?_
    refine lv_bipush (v := 60) hx hb dX7_period_21 (by decide) ?_
    obtain ⟨r1, hr1, hf⟩ := obind hf
    have hPc := hP.sub (ws' := [(zmo, .inr (6, [.int 0, .int mM.2.1, .int mM.2.2.1, .int (bI mM.2.2.2.1), .int mM.2.2.2.2.1, .int mM.2.2.2.2.2, .ref zar, .ref zbe, .ref zst, .ref zah, .ref zgd])), (zar, .inl (cJ, 64, .inr (.inl fR))), (zst, .inr (5, [.int sS.1, .int sS.2.1, .int sS.2.2.1, .long sS.2.2.2, .ref zsa])), (zgd, .inl (cJ, 61, .inr (.inl fD)))]) [0, 1, 2, 3] rfl
    have hDc := hD.sub (ws' := [(zmo, .inr (6, [.int 0, .int mM.2.1, .int mM.2.2.1, .int (bI mM.2.2.2.1), .int mM.2.2.2.2.1, .int mM.2.2.2.2.2, .ref zar, .ref zbe, .ref zst, .ref zah, .ref zgd])), (zar, .inl (cJ, 64, .inr (.inl fR))), (zst, .inr (5, [.int sS.1, .int sS.2.1, .int sS.2.2.1, .long sS.2.2.2, .ref zsa])), (zgd, .inl (cJ, 61, .inr (.inl fD)))]) [0, 1, 2, 3] (by decide) rfl
    have hFc := va_free (wc := [(zmo, .inr (6, [.int 0, .int mM.2.1, .int mM.2.2.1, .int (bI mM.2.2.2.1), .int mM.2.2.2.2.1, .int mM.2.2.2.2.2, .ref zar, .ref zbe, .ref zst, .ref zah, .ref zgd])), (zar, .inl (cJ, 64, .inr (.inl fR))), (zst, .inr (5, [.int sS.1, .int sS.2.1, .int sS.2.2.1, .long sS.2.2.2, .ref zsa])), (zgd, .inl (cJ, 61, .inr (.inl fD)))]) hD hS hA [0, 1, 2, 3] rfl
    refine va_callv (va_runV (As := [.int 60]) (rest := []) ⟨hx, hb, hml, hown, hts⟩ (c_X7_look l dC dI cI cJ zmo zar zst zgd zbe zah zsa H.size (0, mM.2.1, mM.2.2.1, mM.2.2.2.1, mM.2.2.2.2.1, mM.2.2.2.2.2) fR sS fD 60 _ hr1) (cwV 1 hts gX7_period_X7_look rfl rfl rfl (by decide +kernel) ⟨Nat.le_of_ble_eq_true rfl, Nat.le_of_ble_eq_true rfl⟩) ⟨fun a U gg mk q => by obtain ⟨q0, q1, qP, qK, qD, qn⟩ := q; exact ⟨q0, q1, qP, va_K.moved (u := U) (U := U.calling gg mk a) (Vm.Alike.refl U.vm) qK, qD, nwM.same (u := U) (U := U.calling gg mk a) rfl qn⟩, va_recv hK hPc (ci := 6) (q0 := 0) rfl rfl, fun U hU hW => ⟨rfl, by rw [hU], by rw [hU]; exact hPc, va_K.moved hW.alike hK, hDc.weaken (fun _ _ _ _ => trivial), nwM.moved hW hnw⟩⟩ rfl rfl hl.1 rfl (lv_room (Nat.le_of_ble_eq_true rfl)) dX7_period_23 ⟨Nat.zero_le _, Nat.zero_le _⟩) hS (fun q _ h => hFc q h) hFc (fun u_ t H locs ht hvm hw hB hz1 hk1 hS => ?_)
    obtain ⟨hP1, -, hD1⟩ := hB
    rw [ht] at hP1
    obtain ⟨hP, hD⟩ := va_join (wr := []) (w1 := [(zmo, .inr (6, [.int 0, .int mM.2.1, .int mM.2.2.1, .int (bI mM.2.2.2.1), .int mM.2.2.2.2.1, .int mM.2.2.2.2.2, .ref zar, .ref zbe, .ref zst, .ref zah, .ref zgd])), (zar, .inl (cJ, 64, .inr (.inl fR))), (zst, .inr (5, [.int sS.1, .int sS.2.1, .int sS.2.2.1, .long sS.2.2.2, .ref zsa])), (zgd, .inl (cJ, 61, .inr (.inl r1)))]) hP hD [0, 1, 2, 3] [] rfl rfl (by decide) (by decide) hk1 hFc hP1 hD1
    have hP := hP.sub (ws' := [(zmo, .inr (6, [.int 0, .int mM.2.1, .int mM.2.2.1, .int (bI mM.2.2.2.1), .int mM.2.2.2.2.1, .int mM.2.2.2.2.2, .ref zar, .ref zbe, .ref zst, .ref zah, .ref zgd])), (zar, .inl (cJ, 64, .inr (.inl fR))), (zst, .inr (5, [.int sS.1, .int sS.2.1, .int sS.2.2.1, .long sS.2.2.2, .ref zsa])), (zgd, .inl (cJ, 61, .inr (.inl r1)))]) [0, 1, 2, 3] rfl
    have hD := hD.sub (ws' := [(zmo, .inr (6, [.int 0, .int mM.2.1, .int mM.2.2.1, .int (bI mM.2.2.2.1), .int mM.2.2.2.2.1, .int mM.2.2.2.2.2, .ref zar, .ref zbe, .ref zst, .ref zah, .ref zgd])), (zar, .inl (cJ, 64, .inr (.inl fR))), (zst, .inr (5, [.int sS.1, .int sS.2.1, .int sS.2.2.1, .long sS.2.2.2, .ref zsa])), (zgd, .inl (cJ, 61, .inr (.inl r1)))]) [0, 1, 2, 3] (by decide) rfl
    clear hPc hDc hFc hP1 hD1 hk1
    refine lv_iconst (v := 0) hx hb dX7_period_26 (by decide) ?_
    refine lv_istore_n (lv' := [(2, .int 0), (0, .ref zmo), (1, .int wh)]) hx hb dX7_period_27 rfl hl (by decide) rfl (fun ls hl => ?_)
    have hv := hf
    have lp14 : ∀ (nf : Nat) (y9 : Int32) (H : Heap) (locs : List Loc) (ls : Array Slot), lp_X7_period_28 mM wh r1 nf y9 = some R → va_P (dC, dI) vwCl [(zmo, .inr (6, [.int 0, .int mM.2.1, .int mM.2.2.1, .int (bI mM.2.2.2.1), .int mM.2.2.2.2.1, .int mM.2.2.2.2.2, .ref zar, .ref zbe, .ref zst, .ref zah, .ref zgd])), (zar, .inl (cJ, 64, .inr (.inl fR))), (zst, .inr (5, [.int sS.1, .int sS.2.1, .int sS.2.2.1, .long sS.2.2.2, .ref zsa])), (zgd, .inl (cJ, 61, .inr (.inl r1)))] H → va_D (A_X7_period cI cJ zmo zar zst zgd zbe zah zsa mM fR sS fD wh s.heap.size) [(zmo, .inr (6, [.int 0, .int mM.2.1, .int mM.2.2.1, .int (bI mM.2.2.2.1), .int mM.2.2.2.2.1, .int mM.2.2.2.2.2, .ref zar, .ref zbe, .ref zst, .ref zah, .ref zgd])), (zar, .inl (cJ, 64, .inr (.inl fR))), (zst, .inr (5, [.int sS.1, .int sS.2.1, .int sS.2.2.1, .long sS.2.2.2, .ref zsa])), (zgd, .inl (cJ, 61, .inr (.inl r1)))] → va_S (A_X7_period cI cJ zmo zar zst zgd zbe zah zsa mM fR sS fD wh s.heap.size) s.heap H locs → lv_has ls 4 [(0, .ref zmo), (1, .int wh), (2, .int y9)] → W p l e rm_X7_period s m args below meth c H locs 0 0 (MQ below (Q_X7_period dC dI cI cJ zmo zar zst zgd zbe zah zsa mM fR sS fD wh s.heap.size R) args s 0 0 (A_X7_period cI cJ zmo zar zst zgd zbe zah zsa mM fR sS fD wh s.heap.size)) (F0 m 28 ls []) := by
      intro nf
      induction nf with
      | zero => intro y9 H locs ls h9; exact nomatch h9
      | succ nf ih15 =>
        intro y9 H locs ls hf hP hD hS hl
        rw [lp_X7_period_28.eq_2] at hf
        refine lv_iload_n hx hb dX7_period_28 rfl (lv_at hl 2 rfl) ?_
        refine lv_bipush (v := 60) hx hb dX7_period_29 (by decide) ?_
        refine lv_icmp_ge (tgt := 84) hx hb dX7_period_31 (by decide) (fun hc => ?_) (fun hc => ?_)
        · rw [if_pos hc] at hf
          refine lv_iconst (v := (-1)) hx hb dX7_period_84 (by decide) ?_
          obtain rfl := Option.some.inj hf
          exact W.iret (v := (-1)) hx hb hr (fun t ht hW => ⟨⟨(-1), (), rfl, rfl, by rw [ht]; exact hP, va_K.moved hW.alike hK, hD⟩, hS.F ht⟩) hS.2.2 dX7_period_85
        · rw [if_neg hc] at hf
          refine lv_iload_n hx hb dX7_period_34 rfl (lv_at hl 2 rfl) ?_
          refine lv_iconst (v := 1) hx hb dX7_period_35 (by decide) ?_
          refine lv_iadd hx hb dX7_period_36 ?_
          refine lv_istore_n (lv' := [(3, .int (y9 + 1)), (0, .ref zmo), (1, .int wh), (2, .int y9)]) hx hb dX7_period_37 rfl hl (by decide) rfl (fun ls hl => ?_)
          obtain ⟨w16, hv, hfi, hfr⟩ := osum_e hf
          have K17 : ∀ (v12 : Unit) (H : Heap) (locs : List Loc) (ls : Array Slot) (he : w16 = .inl v12), va_P (dC, dI) vwCl [(zmo, .inr (6, [.int 0, .int mM.2.1, .int mM.2.2.1, .int (bI mM.2.2.2.1), .int mM.2.2.2.2.1, .int mM.2.2.2.2.2, .ref zar, .ref zbe, .ref zst, .ref zah, .ref zgd])), (zar, .inl (cJ, 64, .inr (.inl fR))), (zst, .inr (5, [.int sS.1, .int sS.2.1, .int sS.2.2.1, .long sS.2.2.2, .ref zsa])), (zgd, .inl (cJ, 61, .inr (.inl r1)))] H → va_D (A_X7_period cI cJ zmo zar zst zgd zbe zah zsa mM fR sS fD wh s.heap.size) [(zmo, .inr (6, [.int 0, .int mM.2.1, .int mM.2.2.1, .int (bI mM.2.2.2.1), .int mM.2.2.2.2.1, .int mM.2.2.2.2.2, .ref zar, .ref zbe, .ref zst, .ref zah, .ref zgd])), (zar, .inl (cJ, 64, .inr (.inl fR))), (zst, .inr (5, [.int sS.1, .int sS.2.1, .int sS.2.2.1, .long sS.2.2.2, .ref zsa])), (zgd, .inl (cJ, 61, .inr (.inl r1)))] → va_S (A_X7_period cI cJ zmo zar zst zgd zbe zah zsa mM fR sS fD wh s.heap.size) s.heap H locs → lv_has ls 4 [(0, .ref zmo), (1, .int wh), (2, .int y9)] → W p l e rm_X7_period s m args below meth c H locs 0 0 (MQ below (Q_X7_period dC dI cI cJ zmo zar zst zgd zbe zah zsa mM fR sS fD wh s.heap.size R) args s 0 0 (A_X7_period cI cJ zmo zar zst zgd zbe zah zsa mM fR sS fD wh s.heap.size)) (F0 m 78 ls []) := by
            intro v12 H locs ls he hP hD hS hl
            have hf := hfi v12 he
            refine lv_iinc (v := (y9 + 1)) (lv' := [(2, .int (y9 + 1)), (0, .ref zmo), (1, .int wh)]) hx hb dX7_period_78 hl (k := 2) rfl rfl (by decide) rfl (fun ls hl => ?_)
            refine lv_goto (tgt := 28) hx hb dX7_period_81 (by decide) ?_
            exact ih15 _ _ _ _ hf hP hD hS (lv_sub hl [1, 2, 0] rfl)
          have lp18 : ∀ (nf : Nat) (y11 : Int32) (H : Heap) (locs : List Loc) (ls : Array Slot), lp_X7_period_38 mM wh r1 y9 nf y11 = some w16 → va_P (dC, dI) vwCl [(zmo, .inr (6, [.int 0, .int mM.2.1, .int mM.2.2.1, .int (bI mM.2.2.2.1), .int mM.2.2.2.2.1, .int mM.2.2.2.2.2, .ref zar, .ref zbe, .ref zst, .ref zah, .ref zgd])), (zar, .inl (cJ, 64, .inr (.inl fR))), (zst, .inr (5, [.int sS.1, .int sS.2.1, .int sS.2.2.1, .long sS.2.2.2, .ref zsa])), (zgd, .inl (cJ, 61, .inr (.inl r1)))] H → va_D (A_X7_period cI cJ zmo zar zst zgd zbe zah zsa mM fR sS fD wh s.heap.size) [(zmo, .inr (6, [.int 0, .int mM.2.1, .int mM.2.2.1, .int (bI mM.2.2.2.1), .int mM.2.2.2.2.1, .int mM.2.2.2.2.2, .ref zar, .ref zbe, .ref zst, .ref zah, .ref zgd])), (zar, .inl (cJ, 64, .inr (.inl fR))), (zst, .inr (5, [.int sS.1, .int sS.2.1, .int sS.2.2.1, .long sS.2.2.2, .ref zsa])), (zgd, .inl (cJ, 61, .inr (.inl r1)))] → va_S (A_X7_period cI cJ zmo zar zst zgd zbe zah zsa mM fR sS fD wh s.heap.size) s.heap H locs → lv_has ls 4 [(0, .ref zmo), (1, .int wh), (2, .int y9), (3, .int y11)] → W p l e rm_X7_period s m args below meth c H locs 0 0 (MQ below (Q_X7_period dC dI cI cJ zmo zar zst zgd zbe zah zsa mM fR sS fD wh s.heap.size R) args s 0 0 (A_X7_period cI cJ zmo zar zst zgd zbe zah zsa mM fR sS fD wh s.heap.size)) (F0 m 38 ls []) := by
            intro nf
            induction nf with
            | zero => intro y11 H locs ls h9; exact nomatch h9
            | succ nf ih19 =>
              intro y11 H locs ls hf hP hD hS hl
              rw [lp_X7_period_38.eq_2] at hf
              refine lv_iload_n hx hb dX7_period_38 rfl (lv_at hl 3 rfl) ?_
              refine lv_bipush (v := 60) hx hb dX7_period_39 (by decide) ?_
              refine lv_icmp_gt (tgt := 78) hx hb dX7_period_41 (by decide) (fun hc => ?_) (fun hc => ?_)
              · rw [if_pos hc] at hf
                exact K17 _ _ _ _ (Option.some.inj hf).symm hP hD hS (lv_sub hl [0, 1, 2] rfl)
              · rw [if_neg hc] at hf
                refine lv_aload_n hx hb dX7_period_44 rfl (lv_at hl 0 rfl) ?_
                refine va_get (D := (dC, dI)) (ci := 6) (v := .ref zgd) (C := RX7) (T := TX7) (N := 11) hx hb hts hinX7 hown hK hP 0 rfl rfl 10 (by decide) hw1 (fun _ h9 => h9) rfl dX7_period_45 ?_
                refine lv_iload_n hx hb dX7_period_48 rfl (lv_at hl 2 rfl) ?_
                have hg0 : ¬ (y9 < 0 ∨ 61 ≤ y9.toNatClampNeg) := fun hq => by rw [if_pos hq] at hf; exact nomatch hf
                rw [if_neg hg0] at hf
                have hg : vp_in y9 61 := hg0
                refine va_lald hx hb hK hP 3 1 rfl rfl hg dX7_period_49 ?_
                refine lv_aload_n hx hb dX7_period_50 rfl (lv_at hl 0 rfl) ?_
                refine va_get (D := (dC, dI)) (ci := 6) (v := .ref zgd) (C := RX7) (T := TX7) (N := 11) hx hb hts hinX7 hown hK hP 0 rfl rfl 10 (by decide) hw1 (fun _ h9 => h9) rfl dX7_period_51 ?_
                refine lv_iload_n hx hb dX7_period_54 rfl (lv_at hl 3 rfl) ?_
                have hg0 : ¬ (y11 < 0 ∨ 61 ≤ y11.toNatClampNeg) := fun hq => by rw [if_pos hq] at hf; exact nomatch hf
                rw [if_neg hg0] at hf
                have hg : vp_in y11 61 := hg0
                refine va_lald hx hb hK hP 3 1 rfl rfl hg dX7_period_55 ?_
                refine W.lcmp hx hb dX7_period_56 ?_
                refine lv_if_ne (tgt := 72) hx hb dX7_period_57 (by decide) (fun hc => ?_) (fun hc => ?_)
                · have hc := fun h9 => hc (lgz.mpr h9)
                  rw [if_neg hc] at hf
                  refine lv_iinc (v := (y11 + 1)) (lv' := [(3, .int (y11 + 1)), (0, .ref zmo), (1, .int wh), (2, .int y9)]) hx hb dX7_period_72 hl (k := 3) rfl rfl (by decide) rfl (fun ls hl => ?_)
                  refine lv_goto (tgt := 38) hx hb dX7_period_75 (by decide) ?_
                  exact ih19 _ _ _ _ hf hP hD hS (lv_sub hl [1, 2, 3, 0] rfl)
                · have hc := lgz.mp hc
                  rw [if_pos hc] at hf
                  refine lv_iload_n hx hb dX7_period_60 rfl (lv_at hl 1 rfl) ?_
                  refine lv_if_ne (tgt := 68) hx hb dX7_period_61 (by decide) (fun hc => ?_) (fun hc => ?_)
                  · rw [if_neg hc] at hf
                    refine lv_iload_n hx hb dX7_period_68 rfl (lv_at hl 3 rfl) ?_
                    refine lv_iload_n hx hb dX7_period_69 rfl (lv_at hl 2 rfl) ?_
                    refine lv_isub hx hb dX7_period_70 ?_
                    have hf := hfr _ (Option.some.inj hf).symm
                    have hf := congrArg some hf
                    obtain rfl := Option.some.inj hf
                    exact W.iret (v := (y11 - y9)) hx hb hr (fun t ht hW => ⟨⟨(y11 - y9), (), rfl, rfl, by rw [ht]; exact hP, va_K.moved hW.alike hK, hD⟩, hS.F ht⟩) hS.2.2 dX7_period_71
                  · rw [if_pos hc] at hf
                    refine lv_iload_n hx hb dX7_period_64 rfl (lv_at hl 2 rfl) ?_
                    refine lv_goto (tgt := 71) hx hb dX7_period_65 (by decide) ?_
                    have hf := hfr _ (Option.some.inj hf).symm
                    have hf := congrArg some hf
                    obtain rfl := Option.some.inj hf
                    exact W.iret (v := y9) hx hb hr (fun t ht hW => ⟨⟨y9, (), rfl, rfl, by rw [ht]; exact hP, va_K.moved hW.alike hK, hD⟩, hS.F ht⟩) hS.2.2 dX7_period_71
          exact lp18 100 _ _ _ _ hv hP hD hS (lv_sub hl [1, 2, 3, 0] rfl)
    exact lp14 100 _ _ _ _ hv hP hD hS (lv_sub hl [1, 2, 0] rfl)
  · rw [if_pos hc] at hf
    refine lv_aload_n hx hb dX7_period_14 rfl (lv_at hl 0 rfl) ?_
    refine lv_iconst (v := 1) hx hb dX7_period_15 (by decide) ?_
    have hPc := hP.sub (ws' := [(zmo, .inr (6, [.int 0, .int mM.2.1, .int mM.2.2.1, .int (bI mM.2.2.2.1), .int mM.2.2.2.2.1, .int mM.2.2.2.2.2, .ref zar, .ref zbe, .ref zst, .ref zah, .ref zgd]))]) [0] rfl
    have hDc := hD.sub (ws' := [(zmo, .inr (6, [.int 0, .int mM.2.1, .int mM.2.2.1, .int (bI mM.2.2.2.1), .int mM.2.2.2.2.1, .int mM.2.2.2.2.2, .ref zar, .ref zbe, .ref zst, .ref zah, .ref zgd]))]) [0] (by decide) rfl
    have hFc := va_free (wc := [(zmo, .inr (6, [.int 0, .int mM.2.1, .int mM.2.2.1, .int (bI mM.2.2.2.1), .int mM.2.2.2.2.1, .int mM.2.2.2.2.2, .ref zar, .ref zbe, .ref zst, .ref zah, .ref zgd]))]) hD hS hA [0] rfl
    refine va_calli (va_runV (As := [.int 1]) (rest := []) ⟨hx, hb, hml, hown, hts⟩ (c_X7_no l dC dI cI cJ zmo zar zbe zst zah zgd H.size (0, mM.2.1, mM.2.2.1, mM.2.2.2.1, mM.2.2.2.2.1, mM.2.2.2.2.2) 1) (cwV 1 hts gX7_period_X7_no rfl rfl rfl (by decide +kernel) ⟨Nat.le_of_ble_eq_true rfl, Nat.le_of_ble_eq_true rfl⟩) ⟨fun a U gg mk q => by obtain ⟨q0, q1, qP, qK, qD⟩ := q; exact ⟨q0, q1, qP, va_K.moved (u := U) (U := U.calling gg mk a) (Vm.Alike.refl U.vm) qK, qD⟩, va_recv hK hPc (ci := 6) (q0 := 0) rfl rfl, fun U hU hW => ⟨rfl, by rw [hU], by rw [hU]; exact hPc, va_K.moved hW.alike hK, hDc.weaken (fun _ _ _ _ => trivial)⟩⟩ rfl rfl hl.1 rfl (lv_room (Nat.le_of_ble_eq_true rfl)) dX7_period_16 ⟨Nat.zero_le _, Nat.zero_le _⟩) hS (fun q _ h => hFc q h) hFc (fun r_ u_ t H locs ht hvm hw hB hz1 hk1 hS => ?_)
    obtain rfl := hw.symm
    obtain ⟨hP1, -, hD1⟩ := hB
    rw [ht] at hP1
    obtain ⟨hP, hD⟩ := va_join (wr := [(zar, .inl (cJ, 64, .inr (.inl fR))), (zst, .inr (5, [.int sS.1, .int sS.2.1, .int sS.2.2.1, .long sS.2.2.2, .ref zsa])), (zgd, .inl (cJ, 61, .inr (.inl fD)))]) (w1 := [(zmo, .inr (6, [.int (f_X7_no (0, mM.2.1, mM.2.2.1, mM.2.2.2.1, mM.2.2.2.2.1, mM.2.2.2.2.2) 1).2.1, .int (f_X7_no (0, mM.2.1, mM.2.2.1, mM.2.2.2.1, mM.2.2.2.2.1, mM.2.2.2.2.2) 1).2.2.1, .int (f_X7_no (0, mM.2.1, mM.2.2.1, mM.2.2.2.1, mM.2.2.2.2.1, mM.2.2.2.2.2) 1).2.2.2.1, .int (bI (f_X7_no (0, mM.2.1, mM.2.2.1, mM.2.2.2.1, mM.2.2.2.2.1, mM.2.2.2.2.2) 1).2.2.2.2.1), .int (f_X7_no (0, mM.2.1, mM.2.2.1, mM.2.2.2.1, mM.2.2.2.2.1, mM.2.2.2.2.2) 1).2.2.2.2.2.1, .int (f_X7_no (0, mM.2.1, mM.2.2.1, mM.2.2.2.1, mM.2.2.2.2.1, mM.2.2.2.2.2) 1).2.2.2.2.2.2, .ref zar, .ref zbe, .ref zst, .ref zah, .ref zgd]))]) hP hD [0] [1, 2, 3] rfl rfl (by decide) (by decide) hk1 hFc hP1 hD1
    have hP := hP.sub (ws' := [(zmo, .inr (6, [.int (f_X7_no (0, mM.2.1, mM.2.2.1, mM.2.2.2.1, mM.2.2.2.2.1, mM.2.2.2.2.2) 1).2.1, .int (f_X7_no (0, mM.2.1, mM.2.2.1, mM.2.2.2.1, mM.2.2.2.2.1, mM.2.2.2.2.2) 1).2.2.1, .int (f_X7_no (0, mM.2.1, mM.2.2.1, mM.2.2.2.1, mM.2.2.2.2.1, mM.2.2.2.2.2) 1).2.2.2.1, .int (bI (f_X7_no (0, mM.2.1, mM.2.2.1, mM.2.2.2.1, mM.2.2.2.2.1, mM.2.2.2.2.2) 1).2.2.2.2.1), .int (f_X7_no (0, mM.2.1, mM.2.2.1, mM.2.2.2.1, mM.2.2.2.2.1, mM.2.2.2.2.2) 1).2.2.2.2.2.1, .int (f_X7_no (0, mM.2.1, mM.2.2.1, mM.2.2.2.1, mM.2.2.2.2.1, mM.2.2.2.2.2) 1).2.2.2.2.2.2, .ref zar, .ref zbe, .ref zst, .ref zah, .ref zgd])), (zar, .inl (cJ, 64, .inr (.inl fR))), (zst, .inr (5, [.int sS.1, .int sS.2.1, .int sS.2.2.1, .long sS.2.2.2, .ref zsa])), (zgd, .inl (cJ, 61, .inr (.inl fD)))]) [3, 0, 1, 2] rfl
    have hD := hD.sub (ws' := [(zmo, .inr (6, [.int (f_X7_no (0, mM.2.1, mM.2.2.1, mM.2.2.2.1, mM.2.2.2.2.1, mM.2.2.2.2.2) 1).2.1, .int (f_X7_no (0, mM.2.1, mM.2.2.1, mM.2.2.2.1, mM.2.2.2.2.1, mM.2.2.2.2.2) 1).2.2.1, .int (f_X7_no (0, mM.2.1, mM.2.2.1, mM.2.2.2.1, mM.2.2.2.2.1, mM.2.2.2.2.2) 1).2.2.2.1, .int (bI (f_X7_no (0, mM.2.1, mM.2.2.1, mM.2.2.2.1, mM.2.2.2.2.1, mM.2.2.2.2.2) 1).2.2.2.2.1), .int (f_X7_no (0, mM.2.1, mM.2.2.1, mM.2.2.2.1, mM.2.2.2.2.1, mM.2.2.2.2.2) 1).2.2.2.2.2.1, .int (f_X7_no (0, mM.2.1, mM.2.2.1, mM.2.2.2.1, mM.2.2.2.2.1, mM.2.2.2.2.2) 1).2.2.2.2.2.2, .ref zar, .ref zbe, .ref zst, .ref zah, .ref zgd])), (zar, .inl (cJ, 64, .inr (.inl fR))), (zst, .inr (5, [.int sS.1, .int sS.2.1, .int sS.2.2.1, .long sS.2.2.2, .ref zsa])), (zgd, .inl (cJ, 61, .inr (.inl fD)))]) [3, 0, 1, 2] (by decide) rfl
    clear hPc hDc hFc hP1 hD1 hk1
    obtain rfl := Option.some.inj hf
    exact W.iret (v := (f_X7_no (0, mM.2.1, mM.2.2.1, mM.2.2.2.1, mM.2.2.2.2.1, mM.2.2.2.2.2) 1).1) hx hb hr (fun t ht hW => ⟨⟨(f_X7_no (0, mM.2.1, mM.2.2.1, mM.2.2.2.1, mM.2.2.2.2.1, mM.2.2.2.2.2) 1).1, (), rfl, rfl, by rw [ht]; exact hP, va_K.moved hW.alike hK, hD⟩, hS.F ht⟩) hS.2.2 dX7_period_19
/-! HedgeGlidersModel.moved(JII)J -/
def lp_X7_moved_6 (mM : MoS) (hs : Int64) (dx : Int32) (dy : Int32) : Nat → Int64 → Int32 → Option (Int64)
  | 0, _, _ => none
  | nf + 1, y7, y8 => if (mM.2.1 * mM.2.2.1) ≤ y8 then (some y7) else (Option.bind (if ((jshr hs y8) &&& 1) = 1 then (if mM.2.1 = 0 then none else if mM.2.2.1 = 0 then none else if mM.2.1 = 0 then none else if mM.2.1 = 0 then none else bindv (y7 ||| (jshl 1 ((mM.2.1 * (((y8 / mM.2.1) + dy) - ((y8 / mM.2.1) + dy) / mM.2.2.1 * mM.2.2.1)) + (((y8 - y8 / mM.2.1 * mM.2.1) + dx) - ((y8 - y8 / mM.2.1 * mM.2.1) + dx) / mM.2.1 * mM.2.1)))) fun x9 => some x9) else (some y7) : Option (Int64)) fun v10 => lp_X7_moved_6 mM hs dx dy nf v10 (y8 + 1))
def f_X7_moved (mM : MoS) (hs : Int64) (dx : Int32) (dy : Int32) : Option (Int64) := Option.bind (lp_X7_moved_6 mM hs dx dy 100 0 0) fun v11 => some v11
abbrev rm_X7_moved : Room := ({ frames := 0, cells := 0, slots := 0, locals := 0 } : Room)
abbrev A_X7_moved (cI cJ : ClassId) (zmo zar zbe zst zah zgd : Nat) (mM : MoS) (hs : Int64) (dx : Int32) (dy : Int32) (sz : Nat) : Nat → Prop := va_A [(zmo, .inr (6, [.int mM.1, .int mM.2.1, .int mM.2.2.1, .int (bI mM.2.2.2.1), .int mM.2.2.2.2.1, .int mM.2.2.2.2.2, .ref zar, .ref zbe, .ref zst, .ref zah, .ref zgd]))] sz
abbrev Q_X7_moved (dC : Nat → ClassId) (dI : Nat → Nat → Nat) (cI cJ : ClassId) (zmo zar zbe zst zah zgd : Nat) (mM : MoS) (hs : Int64) (dx : Int32) (dy : Int32) (sz : Nat) (R : Int64) : Array Value → State → Outcome → State → Prop := va_Ql (fun (r : Int64) (_ : Unit) => r = R) (fun u_ t => va_P (dC, dI) vwCl [(zmo, .inr (6, [.int mM.1, .int mM.2.1, .int mM.2.2.1, .int (bI mM.2.2.2.1), .int mM.2.2.2.2.1, .int mM.2.2.2.2.2, .ref zar, .ref zbe, .ref zst, .ref zah, .ref zgd]))] t.heap ∧ va_K (dC, dI) vwCl [(cI, .int), (cJ, .long)] t ∧ va_D (A_X7_moved cI cJ zmo zar zbe zst zah zgd mM hs dx dy sz) [(zmo, .inr (6, [.int mM.1, .int mM.2.1, .int mM.2.2.1, .int (bI mM.2.2.2.1), .int mM.2.2.2.2.1, .int mM.2.2.2.2.2, .ref zar, .ref zbe, .ref zst, .ref zah, .ref zgd]))]) (A_X7_moved cI cJ zmo zar zbe zst zah zgd mM hs dx dy sz)
set_option maxHeartbeats 4000000 in
set_option maxRecDepth 100000 in
theorem c_X7_moved (l : Launch) (dC : Nat → ClassId) (dI : Nat → Nat → Nat) (cI cJ : ClassId) (zmo zar zbe zst zah zgd : Nat) (sz : Nat) (mM : MoS) (hs : Int64) (dx : Int32) (dy : Int32) (R : Int64) (hR : f_X7_moved mM hs dx dy = some R) : Met l yX7_moved wsX7_moved rm_X7_moved (va_Pc [.ref zmo, .long hs, .int dx, .int dy] (fun U => U.heap.size = sz ∧ va_P (dC, dI) vwCl [(zmo, .inr (6, [.int mM.1, .int mM.2.1, .int mM.2.2.1, .int (bI mM.2.2.2.1), .int mM.2.2.2.2.1, .int mM.2.2.2.2.2, .ref zar, .ref zbe, .ref zst, .ref zah, .ref zgd]))] U.heap ∧ va_K (dC, dI) vwCl [(cI, .int), (cJ, .long)] U ∧ va_D (fun _ => True) [(zmo, .inr (6, [.int mM.1, .int mM.2.1, .int mM.2.2.1, .int (bI mM.2.2.2.1), .int mM.2.2.2.2.1, .int mM.2.2.2.2.2, .ref zar, .ref zbe, .ref zst, .ref zah, .ref zgd]))])) (Q_X7_moved dC dI cI cJ zmo zar zbe zst zah zgd mM hs dx dy sz R) 0 0 (A_X7_moved cI cJ zmo zar zbe zst zah zgd mM hs dx dy sz) := by
  have hf := hR
  refine Met.ofW (cc := cX7_moved) (maxL := 8) (ret := (some .long)) (by decide) rfl ?_
  intro p e s m args below meth c s₁ B hml hv
  obtain ⟨hargs, hsz, hP, hK, hD0⟩ := hv
  have hx := B.exec
  have hb := B.bytes
  have hr := B.returns
  have hts := atoms_spec (ws := wsX7_moved) B.pre
  have hown : s.vm.findClass RX7 = some m.cls := findClass_of_methodNamed B.named
  have hlocks := B.notSynchronized
  subst hsz
  have hD : va_D (A_X7_moved cI cJ zmo zar zbe zst zah zgd mM hs dx dy s.heap.size) [(zmo, .inr (6, [.int mM.1, .int mM.2.1, .int mM.2.2.1, .int (bI mM.2.2.2.1), .int mM.2.2.2.2.1, .int mM.2.2.2.2.2, .ref zar, .ref zbe, .ref zst, .ref zah, .ref zgd]))] := hD0.self (sz := s.heap.size)
  have hA : ∀ q : Nat, s.heap.size ≤ q → (A_X7_moved cI cJ zmo zar zbe zst zah zgd mM hs dx dy s.heap.size) q := fun q h => Or.inr h
  have hS : va_S (A_X7_moved cI cJ zmo zar zbe zst zah zgd mM hs dx dy s.heap.size) s.heap s.heap [] := va_S.rf
  have hinX7 : ∀ w ∈ wsX70, w ∈ wsX7_moved := by decide +kernel
  have hw0 := hts (.fieldLink RX7 9 "HedgeGlidersModel" "w" "I") (by decide +kernel)
  have hw1 := hts (.fieldLink RX7 13 "HedgeGlidersModel" "h" "I") (by decide +kernel)
  have hl := lv_entry ([.ref zmo, .long hs, .int dx, .int dy]) (n := 8) (Nat.le_of_ble_eq_true rfl)
  have he0 : entryFrame m args 8 = entryFrame m ([.ref zmo, .long hs, .int dx, .int dy] : List Value).toArray 8 := by rw [hargs]
  rw [he0, lg_entry_eq]
  generalize (lg_sl ([.ref zmo, .long hs, .int dx, .int dy]) ++ List.replicate (8 - (lg_sl ([.ref zmo, .long hs, .int dx, .int dy])).length) Slot.unset).toArray = ls at hl ⊢
  have hl : lv_has ls 8 [(0, .ref zmo), (1, .long hs), (3, .int dx), (4, .int dy)] := hl
  rw [f_X7_moved] at hf
  refine lv_lconst (v := 0) hx hb dX7_moved_0 (by decide) ?_
  refine lv_lstore (lv' := [(5, .long 0), (0, .ref zmo), (1, .long hs), (3, .int dx), (4, .int dy)]) hx hb dX7_moved_1 hl (by decide) rfl (fun ls hl => ?_)
  refine lv_iconst (v := 0) hx hb dX7_moved_3 (by decide) ?_
  refine lv_istore (lv' := [(7, .int 0), (5, .long 0), (0, .ref zmo), (1, .long hs), (3, .int dx), (4, .int dy)]) hx hb dX7_moved_4 hl (by decide) rfl (fun ls hl => ?_)
  obtain ⟨v11, hv, hf⟩ := obind hf
  have K12 : ∀ (H : Heap) (locs : List Loc) (ls : Array Slot), va_P (dC, dI) vwCl [(zmo, .inr (6, [.int mM.1, .int mM.2.1, .int mM.2.2.1, .int (bI mM.2.2.2.1), .int mM.2.2.2.2.1, .int mM.2.2.2.2.2, .ref zar, .ref zbe, .ref zst, .ref zah, .ref zgd]))] H → va_D (A_X7_moved cI cJ zmo zar zbe zst zah zgd mM hs dx dy s.heap.size) [(zmo, .inr (6, [.int mM.1, .int mM.2.1, .int mM.2.2.1, .int (bI mM.2.2.2.1), .int mM.2.2.2.2.1, .int mM.2.2.2.2.2, .ref zar, .ref zbe, .ref zst, .ref zah, .ref zgd]))] → va_S (A_X7_moved cI cJ zmo zar zbe zst zah zgd mM hs dx dy s.heap.size) s.heap H locs → lv_has ls 8 [(5, .long v11)] → W p l e rm_X7_moved s m args below meth c H locs 0 0 (MQ below (Q_X7_moved dC dI cI cJ zmo zar zbe zst zah zgd mM hs dx dy s.heap.size R) args s 0 0 (A_X7_moved cI cJ zmo zar zbe zst zah zgd mM hs dx dy s.heap.size)) (F0 m 79 ls []) := by
    intro H locs ls hP hD hS hl
    refine lv_lload hx hb dX7_moved_79 (lv_at hl 0 rfl) ?_
    obtain rfl := Option.some.inj hf
    exact W.lret (v := v11) hx hb hr (fun t ht hW => ⟨⟨v11, (), rfl, rfl, by rw [ht]; exact hP, va_K.moved hW.alike hK, hD⟩, hS.F ht⟩) hS.2.2 dX7_moved_81
  have lp13 : ∀ (nf : Nat) (y7 : Int64) (y8 : Int32) (H : Heap) (locs : List Loc) (ls : Array Slot), lp_X7_moved_6 mM hs dx dy nf y7 y8 = some v11 → va_P (dC, dI) vwCl [(zmo, .inr (6, [.int mM.1, .int mM.2.1, .int mM.2.2.1, .int (bI mM.2.2.2.1), .int mM.2.2.2.2.1, .int mM.2.2.2.2.2, .ref zar, .ref zbe, .ref zst, .ref zah, .ref zgd]))] H → va_D (A_X7_moved cI cJ zmo zar zbe zst zah zgd mM hs dx dy s.heap.size) [(zmo, .inr (6, [.int mM.1, .int mM.2.1, .int mM.2.2.1, .int (bI mM.2.2.2.1), .int mM.2.2.2.2.1, .int mM.2.2.2.2.2, .ref zar, .ref zbe, .ref zst, .ref zah, .ref zgd]))] → va_S (A_X7_moved cI cJ zmo zar zbe zst zah zgd mM hs dx dy s.heap.size) s.heap H locs → lv_has ls 8 [(0, .ref zmo), (1, .long hs), (3, .int dx), (4, .int dy), (5, .long y7), (7, .int y8)] → W p l e rm_X7_moved s m args below meth c H locs 0 0 (MQ below (Q_X7_moved dC dI cI cJ zmo zar zbe zst zah zgd mM hs dx dy s.heap.size R) args s 0 0 (A_X7_moved cI cJ zmo zar zbe zst zah zgd mM hs dx dy s.heap.size)) (F0 m 6 ls []) := by
    intro nf
    induction nf with
    | zero => intro y7 y8 H locs ls h9; exact nomatch h9
    | succ nf ih14 =>
      intro y7 y8 H locs ls hf hP hD hS hl
      rw [lp_X7_moved_6.eq_2] at hf
      refine lv_iload hx hb dX7_moved_6 (lv_at hl 5 rfl) ?_
      refine lv_aload_n hx hb dX7_moved_8 rfl (lv_at hl 0 rfl) ?_
      refine va_get (D := (dC, dI)) (ci := 6) (v := .int mM.2.1) (C := RX7) (T := TX7) (N := 11) hx hb hts hinX7 hown hK hP 0 rfl rfl 1 (by decide) hw0 (fun _ h9 => h9) rfl dX7_moved_9 ?_
      refine lv_aload_n hx hb dX7_moved_12 rfl (lv_at hl 0 rfl) ?_
      refine va_get (D := (dC, dI)) (ci := 6) (v := .int mM.2.2.1) (C := RX7) (T := TX7) (N := 11) hx hb hts hinX7 hown hK hP 0 rfl rfl 2 (by decide) hw1 (fun _ h9 => h9) rfl dX7_moved_13 ?_
      refine lv_imul hx hb dX7_moved_16 ?_
      refine lv_icmp_ge (tgt := 79) hx hb dX7_moved_17 (by decide) (fun hc => ?_) (fun hc => ?_)
      · rw [if_pos hc] at hf
        obtain rfl := Option.some.inj hf
        exact K12 _ _ _ hP hD hS (lv_sub hl [4] rfl)
      · rw [if_neg hc] at hf
        refine lv_lload_n hx hb dX7_moved_20 rfl (lv_at hl 1 rfl) ?_
        refine lv_iload hx hb dX7_moved_21 (lv_at hl 5 rfl) ?_
        refine lv_lshr (v := (jshr hs y8)) hx hb dX7_moved_23 rfl ?_
        refine lv_lconst (v := 1) hx hb dX7_moved_24 (by decide) ?_
        refine lv_land hx hb dX7_moved_25 ?_
        refine lv_lconst (v := 1) hx hb dX7_moved_26 (by decide) ?_
        refine W.lcmp hx hb dX7_moved_27 ?_
        obtain ⟨v10, hv, hf⟩ := obind hf
        have K15 : ∀ (H : Heap) (locs : List Loc) (ls : Array Slot), va_P (dC, dI) vwCl [(zmo, .inr (6, [.int mM.1, .int mM.2.1, .int mM.2.2.1, .int (bI mM.2.2.2.1), .int mM.2.2.2.2.1, .int mM.2.2.2.2.2, .ref zar, .ref zbe, .ref zst, .ref zah, .ref zgd]))] H → va_D (A_X7_moved cI cJ zmo zar zbe zst zah zgd mM hs dx dy s.heap.size) [(zmo, .inr (6, [.int mM.1, .int mM.2.1, .int mM.2.2.1, .int (bI mM.2.2.2.1), .int mM.2.2.2.2.1, .int mM.2.2.2.2.2, .ref zar, .ref zbe, .ref zst, .ref zah, .ref zgd]))] → va_S (A_X7_moved cI cJ zmo zar zbe zst zah zgd mM hs dx dy s.heap.size) s.heap H locs → lv_has ls 8 [(0, .ref zmo), (1, .long hs), (3, .int dx), (4, .int dy), (5, .long v10), (7, .int y8)] → W p l e rm_X7_moved s m args below meth c H locs 0 0 (MQ below (Q_X7_moved dC dI cI cJ zmo zar zbe zst zah zgd mM hs dx dy s.heap.size R) args s 0 0 (A_X7_moved cI cJ zmo zar zbe zst zah zgd mM hs dx dy s.heap.size)) (F0 m 73 ls []) := by
          intro H locs ls hP hD hS hl
          refine lv_iinc (v := (y8 + 1)) (lv' := [(7, .int (y8 + 1)), (0, .ref zmo), (1, .long hs), (3, .int dx), (4, .int dy), (5, .long v10)]) hx hb dX7_moved_73 hl (k := 5) rfl rfl (by decide) rfl (fun ls hl => ?_)
          refine lv_goto (tgt := 6) hx hb dX7_moved_76 (by decide) ?_
          exact ih14 _ _ _ _ _ hf hP hD hS (lv_sub hl [1, 2, 3, 4, 5, 0] rfl)
        clear hf; have hf := hv; clear hv
        refine lv_if_ne (tgt := 73) hx hb dX7_moved_28 (by decide) (fun hc => ?_) (fun hc => ?_)
        · have hc := fun h9 => hc (lgz.mpr h9)
          rw [if_neg hc] at hf
          obtain rfl := Option.some.inj hf
          exact K15 _ _ _ hP hD hS (lv_sub hl [0, 1, 2, 3, 4, 5] rfl)
        · have hc := lgz.mp hc
          rw [if_pos hc] at hf
          refine lv_lload hx hb dX7_moved_31 (lv_at hl 4 rfl) ?_
          refine lv_lconst (v := 1) hx hb dX7_moved_33 (by decide) ?_
          refine lv_aload_n hx hb dX7_moved_34 rfl (lv_at hl 0 rfl) ?_
          refine va_get (D := (dC, dI)) (ci := 6) (v := .int mM.2.1) (C := RX7) (T := TX7) (N := 11) hx hb hts hinX7 hown hK hP 0 rfl rfl 1 (by decide) hw0 (fun _ h9 => h9) rfl dX7_moved_35 ?_
          refine lv_iload hx hb dX7_moved_38 (lv_at hl 5 rfl) ?_
          refine lv_aload_n hx hb dX7_moved_40 rfl (lv_at hl 0 rfl) ?_
          refine va_get (D := (dC, dI)) (ci := 6) (v := .int mM.2.1) (C := RX7) (T := TX7) (N := 11) hx hb hts hinX7 hown hK hP 0 rfl rfl 1 (by decide) hw0 (fun _ h9 => h9) rfl dX7_moved_41 ?_
          have hg0 : ¬ (mM.2.1 = 0) := fun hq => by rw [if_pos hq] at hf; exact nomatch hf
          rw [if_neg hg0] at hf
          have hg := hg0
          refine lv_idiv hx hb dX7_moved_44 hg ?_
          refine lv_iload hx hb dX7_moved_45 (lv_at hl 3 rfl) ?_
          refine lv_iadd hx hb dX7_moved_47 ?_
          refine lv_aload_n hx hb dX7_moved_48 rfl (lv_at hl 0 rfl) ?_
          refine va_get (D := (dC, dI)) (ci := 6) (v := .int mM.2.2.1) (C := RX7) (T := TX7) (N := 11) hx hb hts hinX7 hown hK hP 0 rfl rfl 2 (by decide) hw1 (fun _ h9 => h9) rfl dX7_moved_49 ?_
          have hg0 : ¬ (mM.2.2.1 = 0) := fun hq => by rw [if_pos hq] at hf; exact nomatch hf
          rw [if_neg hg0] at hf
          have hg := hg0
          refine lv_irem hx hb dX7_moved_52 hg ?_
          refine lv_imul hx hb dX7_moved_53 ?_
          refine lv_iload hx hb dX7_moved_54 (lv_at hl 5 rfl) ?_
          refine lv_aload_n hx hb dX7_moved_56 rfl (lv_at hl 0 rfl) ?_
          refine va_get (D := (dC, dI)) (ci := 6) (v := .int mM.2.1) (C := RX7) (T := TX7) (N := 11) hx hb hts hinX7 hown hK hP 0 rfl rfl 1 (by decide) hw0 (fun _ h9 => h9) rfl dX7_moved_57 ?_
          have hg0 : ¬ (mM.2.1 = 0) := fun hq => by rw [if_pos hq] at hf; exact nomatch hf
          rw [if_neg hg0] at hf
          have hg := hg0
          refine lv_irem hx hb dX7_moved_60 hg ?_
          refine lv_iload_n hx hb dX7_moved_61 rfl (lv_at hl 2 rfl) ?_
          refine lv_iadd hx hb dX7_moved_62 ?_
          refine lv_aload_n hx hb dX7_moved_63 rfl (lv_at hl 0 rfl) ?_
          refine va_get (D := (dC, dI)) (ci := 6) (v := .int mM.2.1) (C := RX7) (T := TX7) (N := 11) hx hb hts hinX7 hown hK hP 0 rfl rfl 1 (by decide) hw0 (fun _ h9 => h9) rfl dX7_moved_64 ?_
          have hg0 : ¬ (mM.2.1 = 0) := fun hq => by rw [if_pos hq] at hf; exact nomatch hf
          rw [if_neg hg0] at hf
          have hg := hg0
          refine lv_irem hx hb dX7_moved_67 hg ?_
          refine lv_iadd hx hb dX7_moved_68 ?_
          refine lv_lshl (v := (jshl 1 ((mM.2.1 * (((y8 / mM.2.1) + dy) - ((y8 / mM.2.1) + dy) / mM.2.2.1 * mM.2.2.1)) + (((y8 - y8 / mM.2.1 * mM.2.1) + dx) - ((y8 - y8 / mM.2.1 * mM.2.1) + dx) / mM.2.1 * mM.2.1)))) hx hb dX7_moved_69 rfl ?_
          refine lv_lor hx hb dX7_moved_70 ?_
          obtain ⟨x9, hx9, hf⟩ := vbind hf
          refine topl_e hx9 ?_
          refine lv_lstore (lv' := [(5, .long x9), (0, .ref zmo), (1, .long hs), (3, .int dx), (4, .int dy), (7, .int y8)]) hx hb dX7_moved_71 hl (by decide) rfl (fun ls hl => ?_)
          obtain rfl := Option.some.inj hf
          exact K15 _ _ _ hP hD hS (lv_sub hl [1, 2, 3, 4, 0, 5] rfl)
  exact lp13 100 _ _ _ _ _ hv hP hD hS (lv_sub hl [2, 3, 4, 5, 1, 0] rfl)
/-! HedgeGlidersModel.glides(I)I -/
def lp_X7_glides_57 (mM : MoS) (wh : Int32) (r1 : (Nat → Int64)) (y15 : Int32) : Nat → Int32 → Option ((Unit) ⊕ (Int32 × MoS × (Nat → Int64)))
  | 0, _ => none
  | nf + 1, y19 => if (mM.2.1 * mM.2.2.1) ≤ y19 then (some (.inl ())) else (if y15 < 0 ∨ 61 ≤ y15.toNatClampNeg then none else if (0 : Int32) < 0 ∨ 61 ≤ (0 : Int32).toNatClampNeg then none else if mM.2.1 = 0 then none else if mM.2.1 = 0 then none else Option.bind (f_X7_moved (0, mM.2.1, mM.2.2.1, mM.2.2.2.1, mM.2.2.2.2.1, mM.2.2.2.2.2) (r1 (0 : Int32).toNatClampNeg) (y19 - y19 / mM.2.1 * mM.2.1) (y19 / mM.2.1)) fun r20 => if (r1 y15.toNatClampNeg) = r20 then (if wh = 0 then (some (.inr (y15, (0, mM.2.1, mM.2.2.1, mM.2.2.2.1, mM.2.2.2.2.1, mM.2.2.2.2.2), r1))) else (if wh = 1 then (if mM.2.1 = 0 then none else some (.inr ((y19 - y19 / mM.2.1 * mM.2.1), (0, mM.2.1, mM.2.2.1, mM.2.2.2.1, mM.2.2.2.2.1, mM.2.2.2.2.2), r1))) else (if mM.2.1 = 0 then none else some (.inr ((y19 / mM.2.1), (0, mM.2.1, mM.2.2.1, mM.2.2.2.1, mM.2.2.2.2.1, mM.2.2.2.2.2), r1))))) else (lp_X7_glides_57 mM wh r1 y15 nf (y19 + 1)))
def lp_X7_glides_49 (mM : MoS) (wh : Int32) (r1 : (Nat → Int64)) : Nat → Int32 → Option (Int32 × MoS × (Nat → Int64))
  | 0, _ => none
  | nf + 1, y15 => if 30 < y15 then (some ((-1), (0, mM.2.1, mM.2.2.1, mM.2.2.2.1, mM.2.2.2.2.1, mM.2.2.2.2.2), r1)) else (osum (lp_X7_glides_57 mM wh r1 y15 100 1) fun v21 => lp_X7_glides_49 mM wh r1 nf (y15 + 1))
def f_X7_glides (mM : MoS) (fR : Nat → Int64) (sS : StS) (fD : Nat → Int64) (wh : Int32) : Option (Int32 × MoS × (Nat → Int64)) := if (f_X7_isIn wh 0 2) = 0 then (some ((f_X7_no (0, mM.2.1, mM.2.2.1, mM.2.2.2.1, mM.2.2.2.2.1, mM.2.2.2.2.2) 1).1, (f_X7_no (0, mM.2.1, mM.2.2.1, mM.2.2.2.1, mM.2.2.2.2.1, mM.2.2.2.2.2) 1).2, fD)) else (if (bI mM.2.2.2.1) = 0 then (some ((-1), (0, mM.2.1, mM.2.2.1, mM.2.2.2.1, mM.2.2.2.2.1, mM.2.2.2.2.2), fD)) else (if sS.2.2.2 = 0 then (some ((-1), (0, mM.2.1, mM.2.2.1, mM.2.2.2.1, mM.2.2.2.2.1, mM.2.2.2.2.2), fD)) else (Option.bind (f_X7_look (0, mM.2.1, mM.2.2.1, mM.2.2.2.1, mM.2.2.2.2.1, mM.2.2.2.2.2) fR sS fD 30) fun r1 => (lp_X7_glides_49 mM wh r1 100 1))))
abbrev rm_X7_glides : Room := ({ frames := 4, cells := 0, slots := 0, locals := 93 } : Room)
abbrev A_X7_glides (cI cJ : ClassId) (zmo zar zst zgd zbe zah zsa : Nat) (mM : MoS) (fR : Nat → Int64) (sS : StS) (fD : Nat → Int64) (wh : Int32) (sz : Nat) : Nat → Prop := va_A [(zmo, .inr (6, [.int mM.1, .int mM.2.1, .int mM.2.2.1, .int (bI mM.2.2.2.1), .int mM.2.2.2.2.1, .int mM.2.2.2.2.2, .ref zar, .ref zbe, .ref zst, .ref zah, .ref zgd])), (zar, .inl (cJ, 64, .inr (.inl fR))), (zst, .inr (5, [.int sS.1, .int sS.2.1, .int sS.2.2.1, .long sS.2.2.2, .ref zsa])), (zgd, .inl (cJ, 61, .inr (.inl fD)))] sz
abbrev Q_X7_glides (dC : Nat → ClassId) (dI : Nat → Nat → Nat) (cI cJ : ClassId) (zmo zar zst zgd zbe zah zsa : Nat) (mM : MoS) (fR : Nat → Int64) (sS : StS) (fD : Nat → Int64) (wh : Int32) (sz : Nat) (R : Int32 × MoS × (Nat → Int64)) : Array Value → State → Outcome → State → Prop := va_Qi (fun (r : Int32) (_ : Unit) => r = R.1) (fun u_ t => va_P (dC, dI) vwCl [(zmo, .inr (6, [.int R.2.1.1, .int R.2.1.2.1, .int R.2.1.2.2.1, .int (bI R.2.1.2.2.2.1), .int R.2.1.2.2.2.2.1, .int R.2.1.2.2.2.2.2, .ref zar, .ref zbe, .ref zst, .ref zah, .ref zgd])), (zar, .inl (cJ, 64, .inr (.inl fR))), (zst, .inr (5, [.int sS.1, .int sS.2.1, .int sS.2.2.1, .long sS.2.2.2, .ref zsa])), (zgd, .inl (cJ, 61, .inr (.inl R.2.2)))] t.heap ∧ va_K (dC, dI) vwCl [(cI, .int), (cJ, .long)] t ∧ va_D (A_X7_glides cI cJ zmo zar zst zgd zbe zah zsa mM fR sS fD wh sz) [(zmo, .inr (6, [.int R.2.1.1, .int R.2.1.2.1, .int R.2.1.2.2.1, .int (bI R.2.1.2.2.2.1), .int R.2.1.2.2.2.2.1, .int R.2.1.2.2.2.2.2, .ref zar, .ref zbe, .ref zst, .ref zah, .ref zgd])), (zar, .inl (cJ, 64, .inr (.inl fR))), (zst, .inr (5, [.int sS.1, .int sS.2.1, .int sS.2.2.1, .long sS.2.2.2, .ref zsa])), (zgd, .inl (cJ, 61, .inr (.inl R.2.2)))]) (A_X7_glides cI cJ zmo zar zst zgd zbe zah zsa mM fR sS fD wh sz)
set_option maxHeartbeats 4000000 in
set_option maxRecDepth 100000 in
theorem c_X7_glides (l : Launch) (dC : Nat → ClassId) (dI : Nat → Nat → Nat) (cI cJ : ClassId) (zmo zar zst zgd zbe zah zsa : Nat) (sz : Nat) (mM : MoS) (fR : Nat → Int64) (sS : StS) (fD : Nat → Int64) (wh : Int32) (R : Int32 × MoS × (Nat → Int64)) (hR : f_X7_glides mM fR sS fD wh = some R) : Met l yX7_glides wsX7_glides rm_X7_glides (va_Pc [.ref zmo, .int wh] (fun U => U.heap.size = sz ∧ va_P (dC, dI) vwCl [(zmo, .inr (6, [.int mM.1, .int mM.2.1, .int mM.2.2.1, .int (bI mM.2.2.2.1), .int mM.2.2.2.2.1, .int mM.2.2.2.2.2, .ref zar, .ref zbe, .ref zst, .ref zah, .ref zgd])), (zar, .inl (cJ, 64, .inr (.inl fR))), (zst, .inr (5, [.int sS.1, .int sS.2.1, .int sS.2.2.1, .long sS.2.2.2, .ref zsa])), (zgd, .inl (cJ, 61, .inr (.inl fD)))] U.heap ∧ va_K (dC, dI) vwCl [(cI, .int), (cJ, .long)] U ∧ va_D (fun _ => True) [(zmo, .inr (6, [.int mM.1, .int mM.2.1, .int mM.2.2.1, .int (bI mM.2.2.2.1), .int mM.2.2.2.2.1, .int mM.2.2.2.2.2, .ref zar, .ref zbe, .ref zst, .ref zah, .ref zgd])), (zar, .inl (cJ, 64, .inr (.inl fR))), (zst, .inr (5, [.int sS.1, .int sS.2.1, .int sS.2.2.1, .long sS.2.2.2, .ref zsa])), (zgd, .inl (cJ, 61, .inr (.inl fD)))] ∧ nwM U)) (Q_X7_glides dC dI cI cJ zmo zar zst zgd zbe zah zsa mM fR sS fD wh sz R) 0 0 (A_X7_glides cI cJ zmo zar zst zgd zbe zah zsa mM fR sS fD wh sz) := by
  have hf := hR
  refine Met.ofW (cc := cX7_glides) (maxL := 4) (ret := (some .int)) (by decide) rfl ?_
  intro p e s m args below meth c s₁ B hml hv
  obtain ⟨hargs, hsz, hP, hK, hD0, hnw⟩ := hv
  have hx := B.exec
  have hb := B.bytes
  have hr := B.returns
  have hts := atoms_spec (ws := wsX7_glides) B.pre
  have hown : s.vm.findClass RX7 = some m.cls := findClass_of_methodNamed B.named
  have hlocks := B.notSynchronized
  subst hsz
  obtain ⟨hnw_hedges, hnw_ages, hnw_born, hnw_dead, hnw_year⟩ := id hnw
  have hD : va_D (A_X7_glides cI cJ zmo zar zst zgd zbe zah zsa mM fR sS fD wh s.heap.size) [(zmo, .inr (6, [.int mM.1, .int mM.2.1, .int mM.2.2.1, .int (bI mM.2.2.2.1), .int mM.2.2.2.2.1, .int mM.2.2.2.2.2, .ref zar, .ref zbe, .ref zst, .ref zah, .ref zgd])), (zar, .inl (cJ, 64, .inr (.inl fR))), (zst, .inr (5, [.int sS.1, .int sS.2.1, .int sS.2.2.1, .long sS.2.2.2, .ref zsa])), (zgd, .inl (cJ, 61, .inr (.inl fD)))] := hD0.self (sz := s.heap.size)
  have hA : ∀ q : Nat, s.heap.size ≤ q → (A_X7_glides cI cJ zmo zar zst zgd zbe zah zsa mM fR sS fD wh s.heap.size) q := fun q h => Or.inr h
  have hS : va_S (A_X7_glides cI cJ zmo zar zst zgd zbe zah zsa mM fR sS fD wh s.heap.size) s.heap s.heap [] := va_S.rf
  have hinX6 : ∀ w ∈ wsX60, w ∈ wsX7_glides := by decide +kernel
  have hinX7 : ∀ w ∈ wsX70, w ∈ wsX7_glides := by decide +kernel
  have hw0 := hts (.fieldLink RX7 45 "HedgeGlidersModel" "thrown" "I") (by decide +kernel)
  have hw1 := hts (.fieldLink RX7 56 "HedgeGlidersModel" "isRound" "Z") (by decide +kernel)
  have hw2 := hts (.fieldLink RX7 32 "HedgeGlidersModel" "s" "LHedgeGlidersModel$State;") (by decide +kernel)
  have hw3 := hts (.fieldLink RX7 9 "HedgeGlidersModel" "w" "I") (by decide +kernel)
  have hw4 := hts (.fieldLink RX7 13 "HedgeGlidersModel" "h" "I") (by decide +kernel)
  have hw5 := hts (.fieldLink RX7 39 "HedgeGlidersModel" "gardens" "[J") (by decide +kernel)
  have hl := lv_entry ([.ref zmo, .int wh]) (n := 4) (Nat.le_of_ble_eq_true rfl)
  have he0 : entryFrame m args 4 = entryFrame m ([.ref zmo, .int wh] : List Value).toArray 4 := by rw [hargs]
  rw [he0, lg_entry_eq]
  generalize (lg_sl ([.ref zmo, .int wh]) ++ List.replicate (4 - (lg_sl ([.ref zmo, .int wh])).length) Slot.unset).toArray = ls at hl ⊢
  have hl : lv_has ls 4 [(0, .ref zmo), (1, .int wh)] := hl
  rw [f_X7_glides] at hf
  refine lv_aload_n hx hb dX7_glides_0 rfl (lv_at hl 0 rfl) ?_
  refine lv_iconst (v := 0) hx hb dX7_glides_1 (by decide) ?_
  refine va_put (D := (dC, dI)) (ci := 6) (v := .int 0) (ty := .int) (C := RX7) (T := TX7) (N := 11) hx hb hts hinX7 tyX7 tyX7_ok nmX7 hown hK hP hD hS 0 rfl rfl 0 (by decide) hw0 (fun _ h9 => h9) rfl (by decide +kernel) rfl rfl (Nat.le_of_ble_eq_true rfl) dX7_glides_2 (fun H locs hP hD hS => ?_)
  have hP : va_P (dC, dI) vwCl [(zmo, .inr (6, [.int 0, .int mM.2.1, .int mM.2.2.1, .int (bI mM.2.2.2.1), .int mM.2.2.2.2.1, .int mM.2.2.2.2.2, .ref zar, .ref zbe, .ref zst, .ref zah, .ref zgd])), (zar, .inl (cJ, 64, .inr (.inl fR))), (zst, .inr (5, [.int sS.1, .int sS.2.1, .int sS.2.2.1, .long sS.2.2.2, .ref zsa])), (zgd, .inl (cJ, 61, .inr (.inl fD)))] H := hP
  have hD : va_D (A_X7_glides cI cJ zmo zar zst zgd zbe zah zsa mM fR sS fD wh s.heap.size) [(zmo, .inr (6, [.int 0, .int mM.2.1, .int mM.2.2.1, .int (bI mM.2.2.2.1), .int mM.2.2.2.2.1, .int mM.2.2.2.2.2, .ref zar, .ref zbe, .ref zst, .ref zah, .ref zgd])), (zar, .inl (cJ, 64, .inr (.inl fR))), (zst, .inr (5, [.int sS.1, .int sS.2.1, .int sS.2.2.1, .long sS.2.2.2, .ref zsa])), (zgd, .inl (cJ, 61, .inr (.inl fD)))] := hD
  refine lv_iload_n hx hb dX7_glides_5 rfl (lv_at hl 1 rfl) ?_
  refine lv_iconst (v := 0) hx hb dX7_glides_6 (by decide) ?_
  refine lv_iconst (v := 2) hx hb dX7_glides_7 (by decide) ?_
  have hPc := hP.sub (ws' := []) [] rfl
  have hDc := hD.sub (ws' := []) [] (by decide) rfl
  have hFc := va_free (wc := []) hD hS hA [] rfl
  refine va_calli (va_runS (As := [.int wh, .int 0, .int 2]) (rest := []) ⟨hx, hb, hml, hown, hts⟩ (c_X7_isIn l dC dI cI cJ  H.size wh 0 2) (va_cwS 3 hts gX7_glides_X7_isIn rfl rfl rfl (by decide +kernel) ⟨Nat.le_of_ble_eq_true rfl, Nat.le_of_ble_eq_true rfl⟩) ⟨fun a U gg mk q => by obtain ⟨q0, q1, qP, qK, qD⟩ := q; exact ⟨q0, q1, qP, va_K.moved (u := U) (U := U.calling gg mk a) (Vm.Alike.refl U.vm) qK, qD⟩, fun U hU hW => ⟨rfl, by rw [hU], by rw [hU]; exact hPc, va_K.moved hW.alike hK, hDc.weaken (fun _ _ _ _ => trivial)⟩⟩ rfl rfl hl.1 rfl (lv_room (Nat.le_of_ble_eq_true rfl)) dX7_glides_8 ⟨Nat.zero_le _, Nat.zero_le _⟩) hS (fun q _ h => hFc q h) hFc (fun r_ u_ t H locs ht hvm hw hB hz1 hk1 hS => ?_)
  obtain rfl := hw.symm
  obtain ⟨hP1, -, hD1⟩ := hB
  rw [ht] at hP1
  obtain ⟨hP, hD⟩ := va_join (wr := [(zmo, .inr (6, [.int 0, .int mM.2.1, .int mM.2.2.1, .int (bI mM.2.2.2.1), .int mM.2.2.2.2.1, .int mM.2.2.2.2.2, .ref zar, .ref zbe, .ref zst, .ref zah, .ref zgd])), (zar, .inl (cJ, 64, .inr (.inl fR))), (zst, .inr (5, [.int sS.1, .int sS.2.1, .int sS.2.2.1, .long sS.2.2.2, .ref zsa])), (zgd, .inl (cJ, 61, .inr (.inl fD)))]) (w1 := []) hP hD [] [0, 1, 2, 3] rfl rfl (by decide) (by decide) hk1 hFc hP1 hD1
  have hP := hP.sub (ws' := [(zmo, .inr (6, [.int 0, .int mM.2.1, .int mM.2.2.1, .int (bI mM.2.2.2.1), .int mM.2.2.2.2.1, .int mM.2.2.2.2.2, .ref zar, .ref zbe, .ref zst, .ref zah, .ref zgd])), (zar, .inl (cJ, 64, .inr (.inl fR))), (zst, .inr (5, [.int sS.1, .int sS.2.1, .int sS.2.2.1, .long sS.2.2.2, .ref zsa])), (zgd, .inl (cJ, 61, .inr (.inl fD)))]) [0, 1, 2, 3] rfl
  have hD := hD.sub (ws' := [(zmo, .inr (6, [.int 0, .int mM.2.1, .int mM.2.2.1, .int (bI mM.2.2.2.1), .int mM.2.2.2.2.1, .int mM.2.2.2.2.2, .ref zar, .ref zbe, .ref zst, .ref zah, .ref zgd])), (zar, .inl (cJ, 64, .inr (.inl fR))), (zst, .inr (5, [.int sS.1, .int sS.2.1, .int sS.2.2.1, .long sS.2.2.2, .ref zsa])), (zgd, .inl (cJ, 61, .inr (.inl fD)))]) [0, 1, 2, 3] (by decide) rfl
  clear hPc hDc hFc hP1 hD1 hk1
  refine lv_if_ne (tgt := 20) hx hb dX7_glides_11 (by decide) (fun hc => ?_) (fun hc => ?_)
  · rw [if_neg hc] at hf
    refine lv_aload_n hx hb dX7_glides_20 rfl (lv_at hl 0 rfl) ?_
    refine va_get (D := (dC, dI)) (ci := 6) (v := .int (bI mM.2.2.2.1)) (C := RX7) (T := TX7) (N := 11) hx hb hts hinX7 hown hK hP 0 rfl rfl 3 (by decide) hw1 (fun _ h9 => h9) rfl dX7_glides_21 ?_
    refine lv_if_eq (tgt := 39) hx hb dX7_glides_24 (by decide) (fun hc => ?_) (fun hc => ?_)
    · rw [if_pos hc] at hf
      refine lv_iconst (v := (-1)) hx hb dX7_glides_39 (by decide) ?_
      obtain rfl := Option.some.inj hf
      exact W.iret (v := (-1)) hx hb hr (fun t ht hW => ⟨⟨(-1), (), rfl, rfl, by rw [ht]; exact hP, va_K.moved hW.alike hK, hD⟩, hS.F ht⟩) hS.2.2 dX7_glides_40
    · rw [if_neg hc] at hf
      refine lv_aload_n hx hb dX7_glides_27 rfl (lv_at hl 0 rfl) ?_
      refine va_get (D := (dC, dI)) (ci := 6) (v := .ref zst) (C := RX7) (T := TX7) (N := 11) hx hb hts hinX7 hown hK hP 0 rfl rfl 8 (by decide) hw2 (fun _ h9 => h9) rfl dX7_glides_28 ?_
      refine va_getN (D := (dC, dI)) (ci := 5) (v := .long sS.2.2.2) (C := RX6) (T := TX6) (N := 5) hx hb hts hinX6 hown hK hP 2 rfl rfl 3 (by decide) (va_Nw.use rfl hnw_hedges) (fun _ h9 => h9) rfl dX7_glides_31 ?_
      refine lv_lconst (v := 0) hx hb dX7_glides_34 (by decide) ?_
      refine W.lcmp hx hb dX7_glides_35 ?_
      refine lv_if_ne (tgt := 41) hx hb dX7_glides_36 (by decide) (fun hc => ?_) (fun hc => ?_)
      · have hc := fun h9 => hc (lgz.mpr h9)
        rw [if_neg hc] at hf
        refine lv_aload_n hx hb dX7_glides_41 rfl (lv_at hl 0 rfl) ?_
        refine lv_bipush (v := 30) hx hb dX7_glides_42 (by decide) ?_
        obtain ⟨r1, hr1, hf⟩ := obind hf
        have hPc := hP.sub (ws' := [(zmo, .inr (6, [.int 0, .int mM.2.1, .int mM.2.2.1, .int (bI mM.2.2.2.1), .int mM.2.2.2.2.1, .int mM.2.2.2.2.2, .ref zar, .ref zbe, .ref zst, .ref zah, .ref zgd])), (zar, .inl (cJ, 64, .inr (.inl fR))), (zst, .inr (5, [.int sS.1, .int sS.2.1, .int sS.2.2.1, .long sS.2.2.2, .ref zsa])), (zgd, .inl (cJ, 61, .inr (.inl fD)))]) [0, 1, 2, 3] rfl
        have hDc := hD.sub (ws' := [(zmo, .inr (6, [.int 0, .int mM.2.1, .int mM.2.2.1, .int (bI mM.2.2.2.1), .int mM.2.2.2.2.1, .int mM.2.2.2.2.2, .ref zar, .ref zbe, .ref zst, .ref zah, .ref zgd])), (zar, .inl (cJ, 64, .inr (.inl fR))), (zst, .inr (5, [.int sS.1, .int sS.2.1, .int sS.2.2.1, .long sS.2.2.2, .ref zsa])), (zgd, .inl (cJ, 61, .inr (.inl fD)))]) [0, 1, 2, 3] (by decide) rfl
        have hFc := va_free (wc := [(zmo, .inr (6, [.int 0, .int mM.2.1, .int mM.2.2.1, .int (bI mM.2.2.2.1), .int mM.2.2.2.2.1, .int mM.2.2.2.2.2, .ref zar, .ref zbe, .ref zst, .ref zah, .ref zgd])), (zar, .inl (cJ, 64, .inr (.inl fR))), (zst, .inr (5, [.int sS.1, .int sS.2.1, .int sS.2.2.1, .long sS.2.2.2, .ref zsa])), (zgd, .inl (cJ, 61, .inr (.inl fD)))]) hD hS hA [0, 1, 2, 3] rfl
        refine va_callv (va_runV (As := [.int 30]) (rest := []) ⟨hx, hb, hml, hown, hts⟩ (c_X7_look l dC dI cI cJ zmo zar zst zgd zbe zah zsa H.size (0, mM.2.1, mM.2.2.1, mM.2.2.2.1, mM.2.2.2.2.1, mM.2.2.2.2.2) fR sS fD 30 _ hr1) (cwV 1 hts gX7_glides_X7_look rfl rfl rfl (by decide +kernel) ⟨Nat.le_of_ble_eq_true rfl, Nat.le_of_ble_eq_true rfl⟩) ⟨fun a U gg mk q => by obtain ⟨q0, q1, qP, qK, qD, qn⟩ := q; exact ⟨q0, q1, qP, va_K.moved (u := U) (U := U.calling gg mk a) (Vm.Alike.refl U.vm) qK, qD, nwM.same (u := U) (U := U.calling gg mk a) rfl qn⟩, va_recv hK hPc (ci := 6) (q0 := 0) rfl rfl, fun U hU hW => ⟨rfl, by rw [hU], by rw [hU]; exact hPc, va_K.moved hW.alike hK, hDc.weaken (fun _ _ _ _ => trivial), nwM.moved hW hnw⟩⟩ rfl rfl hl.1 rfl (lv_room (Nat.le_of_ble_eq_true rfl)) dX7_glides_44 ⟨Nat.zero_le _, Nat.zero_le _⟩) hS (fun q _ h => hFc q h) hFc (fun u_ t H locs ht hvm hw hB hz1 hk1 hS => ?_)
        obtain ⟨hP1, -, hD1⟩ := hB
        rw [ht] at hP1
        obtain ⟨hP, hD⟩ := va_join (wr := []) (w1 := [(zmo, .inr (6, [.int 0, .int mM.2.1, .int mM.2.2.1, .int (bI mM.2.2.2.1), .int mM.2.2.2.2.1, .int mM.2.2.2.2.2, .ref zar, .ref zbe, .ref zst, .ref zah, .ref zgd])), (zar, .inl (cJ, 64, .inr (.inl fR))), (zst, .inr (5, [.int sS.1, .int sS.2.1, .int sS.2.2.1, .long sS.2.2.2, .ref zsa])), (zgd, .inl (cJ, 61, .inr (.inl r1)))]) hP hD [0, 1, 2, 3] [] rfl rfl (by decide) (by decide) hk1 hFc hP1 hD1
        have hP := hP.sub (ws' := [(zmo, .inr (6, [.int 0, .int mM.2.1, .int mM.2.2.1, .int (bI mM.2.2.2.1), .int mM.2.2.2.2.1, .int mM.2.2.2.2.2, .ref zar, .ref zbe, .ref zst, .ref zah, .ref zgd])), (zar, .inl (cJ, 64, .inr (.inl fR))), (zst, .inr (5, [.int sS.1, .int sS.2.1, .int sS.2.2.1, .long sS.2.2.2, .ref zsa])), (zgd, .inl (cJ, 61, .inr (.inl r1)))]) [0, 1, 2, 3] rfl
        have hD := hD.sub (ws' := [(zmo, .inr (6, [.int 0, .int mM.2.1, .int mM.2.2.1, .int (bI mM.2.2.2.1), .int mM.2.2.2.2.1, .int mM.2.2.2.2.2, .ref zar, .ref zbe, .ref zst, .ref zah, .ref zgd])), (zar, .inl (cJ, 64, .inr (.inl fR))), (zst, .inr (5, [.int sS.1, .int sS.2.1, .int sS.2.2.1, .long sS.2.2.2, .ref zsa])), (zgd, .inl (cJ, 61, .inr (.inl r1)))]) [0, 1, 2, 3] (by decide) rfl
        clear hPc hDc hFc hP1 hD1 hk1
        refine lv_iconst (v := 1) hx hb dX7_glides_47 (by decide) ?_
        refine lv_istore_n (lv' := [(2, .int 1), (0, .ref zmo), (1, .int wh)]) hx hb dX7_glides_48 rfl hl (by decide) rfl (fun ls hl => ?_)
        have hv := hf
        have lp23 : ∀ (nf : Nat) (y15 : Int32) (H : Heap) (locs : List Loc) (ls : Array Slot), lp_X7_glides_49 mM wh r1 nf y15 = some R → va_P (dC, dI) vwCl [(zmo, .inr (6, [.int 0, .int mM.2.1, .int mM.2.2.1, .int (bI mM.2.2.2.1), .int mM.2.2.2.2.1, .int mM.2.2.2.2.2, .ref zar, .ref zbe, .ref zst, .ref zah, .ref zgd])), (zar, .inl (cJ, 64, .inr (.inl fR))), (zst, .inr (5, [.int sS.1, .int sS.2.1, .int sS.2.2.1, .long sS.2.2.2, .ref zsa])), (zgd, .inl (cJ, 61, .inr (.inl r1)))] H → va_D (A_X7_glides cI cJ zmo zar zst zgd zbe zah zsa mM fR sS fD wh s.heap.size) [(zmo, .inr (6, [.int 0, .int mM.2.1, .int mM.2.2.1, .int (bI mM.2.2.2.1), .int mM.2.2.2.2.1, .int mM.2.2.2.2.2, .ref zar, .ref zbe, .ref zst, .ref zah, .ref zgd])), (zar, .inl (cJ, 64, .inr (.inl fR))), (zst, .inr (5, [.int sS.1, .int sS.2.1, .int sS.2.2.1, .long sS.2.2.2, .ref zsa])), (zgd, .inl (cJ, 61, .inr (.inl r1)))] → va_S (A_X7_glides cI cJ zmo zar zst zgd zbe zah zsa mM fR sS fD wh s.heap.size) s.heap H locs → lv_has ls 4 [(0, .ref zmo), (1, .int wh), (2, .int y15)] → W p l e rm_X7_glides s m args below meth c H locs 0 0 (MQ below (Q_X7_glides dC dI cI cJ zmo zar zst zgd zbe zah zsa mM fR sS fD wh s.heap.size R) args s 0 0 (A_X7_glides cI cJ zmo zar zst zgd zbe zah zsa mM fR sS fD wh s.heap.size)) (F0 m 49 ls []) := by
          intro nf
          induction nf with
          | zero => intro y15 H locs ls h9; exact nomatch h9
          | succ nf ih24 =>
            intro y15 H locs ls hf hP hD hS hl
            rw [lp_X7_glides_49.eq_2] at hf
            refine lv_iload_n hx hb dX7_glides_49 rfl (lv_at hl 2 rfl) ?_
            refine lv_bipush (v := 30) hx hb dX7_glides_50 (by decide) ?_
            refine lv_icmp_gt (tgt := 143) hx hb dX7_glides_52 (by decide) (fun hc => ?_) (fun hc => ?_)
            · rw [if_pos hc] at hf
              refine lv_iconst (v := (-1)) hx hb dX7_glides_143 (by decide) ?_
              obtain rfl := Option.some.inj hf
              exact W.iret (v := (-1)) hx hb hr (fun t ht hW => ⟨⟨(-1), (), rfl, rfl, by rw [ht]; exact hP, va_K.moved hW.alike hK, hD⟩, hS.F ht⟩) hS.2.2 dX7_glides_144
            · rw [if_neg hc] at hf
              refine lv_iconst (v := 1) hx hb dX7_glides_55 (by decide) ?_
              refine lv_istore_n (lv' := [(3, .int 1), (0, .ref zmo), (1, .int wh), (2, .int y15)]) hx hb dX7_glides_56 rfl hl (by decide) rfl (fun ls hl => ?_)
              obtain ⟨w25, hv, hfi, hfr⟩ := osum_e hf
              have K26 : ∀ (v21 : Unit) (H : Heap) (locs : List Loc) (ls : Array Slot) (he : w25 = .inl v21), va_P (dC, dI) vwCl [(zmo, .inr (6, [.int 0, .int mM.2.1, .int mM.2.2.1, .int (bI mM.2.2.2.1), .int mM.2.2.2.2.1, .int mM.2.2.2.2.2, .ref zar, .ref zbe, .ref zst, .ref zah, .ref zgd])), (zar, .inl (cJ, 64, .inr (.inl fR))), (zst, .inr (5, [.int sS.1, .int sS.2.1, .int sS.2.2.1, .long sS.2.2.2, .ref zsa])), (zgd, .inl (cJ, 61, .inr (.inl r1)))] H → va_D (A_X7_glides cI cJ zmo zar zst zgd zbe zah zsa mM fR sS fD wh s.heap.size) [(zmo, .inr (6, [.int 0, .int mM.2.1, .int mM.2.2.1, .int (bI mM.2.2.2.1), .int mM.2.2.2.2.1, .int mM.2.2.2.2.2, .ref zar, .ref zbe, .ref zst, .ref zah, .ref zgd])), (zar, .inl (cJ, 64, .inr (.inl fR))), (zst, .inr (5, [.int sS.1, .int sS.2.1, .int sS.2.2.1, .long sS.2.2.2, .ref zsa])), (zgd, .inl (cJ, 61, .inr (.inl r1)))] → va_S (A_X7_glides cI cJ zmo zar zst zgd zbe zah zsa mM fR sS fD wh s.heap.size) s.heap H locs → lv_has ls 4 [(0, .ref zmo), (1, .int wh), (2, .int y15)] → W p l e rm_X7_glides s m args below meth c H locs 0 0 (MQ below (Q_X7_glides dC dI cI cJ zmo zar zst zgd zbe zah zsa mM fR sS fD wh s.heap.size R) args s 0 0 (A_X7_glides cI cJ zmo zar zst zgd zbe zah zsa mM fR sS fD wh s.heap.size)) (F0 m 137 ls []) := by
                intro v21 H locs ls he hP hD hS hl
                have hf := hfi v21 he
                refine lv_iinc (v := (y15 + 1)) (lv' := [(2, .int (y15 + 1)), (0, .ref zmo), (1, .int wh)]) hx hb dX7_glides_137 hl (k := 2) rfl rfl (by decide) rfl (fun ls hl => ?_)
                refine lv_goto (tgt := 49) hx hb dX7_glides_140 (by decide) ?_
                exact ih24 _ _ _ _ hf hP hD hS (lv_sub hl [1, 2, 0] rfl)
              have lp27 : ∀ (nf : Nat) (y19 : Int32) (H : Heap) (locs : List Loc) (ls : Array Slot), lp_X7_glides_57 mM wh r1 y15 nf y19 = some w25 → va_P (dC, dI) vwCl [(zmo, .inr (6, [.int 0, .int mM.2.1, .int mM.2.2.1, .int (bI mM.2.2.2.1), .int mM.2.2.2.2.1, .int mM.2.2.2.2.2, .ref zar, .ref zbe, .ref zst, .ref zah, .ref zgd])), (zar, .inl (cJ, 64, .inr (.inl fR))), (zst, .inr (5, [.int sS.1, .int sS.2.1, .int sS.2.2.1, .long sS.2.2.2, .ref zsa])), (zgd, .inl (cJ, 61, .inr (.inl r1)))] H → va_D (A_X7_glides cI cJ zmo zar zst zgd zbe zah zsa mM fR sS fD wh s.heap.size) [(zmo, .inr (6, [.int 0, .int mM.2.1, .int mM.2.2.1, .int (bI mM.2.2.2.1), .int mM.2.2.2.2.1, .int mM.2.2.2.2.2, .ref zar, .ref zbe, .ref zst, .ref zah, .ref zgd])), (zar, .inl (cJ, 64, .inr (.inl fR))), (zst, .inr (5, [.int sS.1, .int sS.2.1, .int sS.2.2.1, .long sS.2.2.2, .ref zsa])), (zgd, .inl (cJ, 61, .inr (.inl r1)))] → va_S (A_X7_glides cI cJ zmo zar zst zgd zbe zah zsa mM fR sS fD wh s.heap.size) s.heap H locs → lv_has ls 4 [(0, .ref zmo), (1, .int wh), (2, .int y15), (3, .int y19)] → W p l e rm_X7_glides s m args below meth c H locs 0 0 (MQ below (Q_X7_glides dC dI cI cJ zmo zar zst zgd zbe zah zsa mM fR sS fD wh s.heap.size R) args s 0 0 (A_X7_glides cI cJ zmo zar zst zgd zbe zah zsa mM fR sS fD wh s.heap.size)) (F0 m 57 ls []) := by
                intro nf
                induction nf with
                | zero => intro y19 H locs ls h9; exact nomatch h9
                | succ nf ih28 =>
                  intro y19 H locs ls hf hP hD hS hl
                  rw [lp_X7_glides_57.eq_2] at hf
                  refine lv_iload_n hx hb dX7_glides_57 rfl (lv_at hl 3 rfl) ?_
                  refine lv_aload_n hx hb dX7_glides_58 rfl (lv_at hl 0 rfl) ?_
                  refine va_get (D := (dC, dI)) (ci := 6) (v := .int mM.2.1) (C := RX7) (T := TX7) (N := 11) hx hb hts hinX7 hown hK hP 0 rfl rfl 1 (by decide) hw3 (fun _ h9 => h9) rfl dX7_glides_59 ?_
                  refine lv_aload_n hx hb dX7_glides_62 rfl (lv_at hl 0 rfl) ?_
                  refine va_get (D := (dC, dI)) (ci := 6) (v := .int mM.2.2.1) (C := RX7) (T := TX7) (N := 11) hx hb hts hinX7 hown hK hP 0 rfl rfl 2 (by decide) hw4 (fun _ h9 => h9) rfl dX7_glides_63 ?_
                  refine lv_imul hx hb dX7_glides_66 ?_
                  refine lv_icmp_ge (tgt := 137) hx hb dX7_glides_67 (by decide) (fun hc => ?_) (fun hc => ?_)
                  · rw [if_pos hc] at hf
                    exact K26 _ _ _ _ (Option.some.inj hf).symm hP hD hS (lv_sub hl [0, 1, 2] rfl)
                  · rw [if_neg hc] at hf
                    refine lv_aload_n hx hb dX7_glides_70 rfl (lv_at hl 0 rfl) ?_
                    refine va_get (D := (dC, dI)) (ci := 6) (v := .ref zgd) (C := RX7) (T := TX7) (N := 11) hx hb hts hinX7 hown hK hP 0 rfl rfl 10 (by decide) hw5 (fun _ h9 => h9) rfl dX7_glides_71 ?_
                    refine lv_iload_n hx hb dX7_glides_74 rfl (lv_at hl 2 rfl) ?_
                    have hg0 : ¬ (y15 < 0 ∨ 61 ≤ y15.toNatClampNeg) := fun hq => by rw [if_pos hq] at hf; exact nomatch hf
                    rw [if_neg hg0] at hf
                    have hg : vp_in y15 61 := hg0
                    refine va_lald hx hb hK hP 3 1 rfl rfl hg dX7_glides_75 ?_
                    refine lv_aload_n hx hb dX7_glides_76 rfl (lv_at hl 0 rfl) ?_
                    refine lv_aload_n hx hb dX7_glides_77 rfl (lv_at hl 0 rfl) ?_
                    refine va_get (D := (dC, dI)) (ci := 6) (v := .ref zgd) (C := RX7) (T := TX7) (N := 11) hx hb hts hinX7 hown hK hP 0 rfl rfl 10 (by decide) hw5 (fun _ h9 => h9) rfl dX7_glides_78 ?_
                    refine lv_iconst (v := 0) hx hb dX7_glides_81 (by decide) ?_
                    have hg0 : ¬ ((0 : Int32) < 0 ∨ 61 ≤ (0 : Int32).toNatClampNeg) := fun hq => by rw [if_pos hq] at hf; exact nomatch hf
                    rw [if_neg hg0] at hf
                    have hg : vp_in (0 : Int32) 61 := hg0
                    refine va_lald hx hb hK hP 3 1 rfl rfl hg dX7_glides_82 ?_
                    refine lv_iload_n hx hb dX7_glides_83 rfl (lv_at hl 3 rfl) ?_
                    refine lv_aload_n hx hb dX7_glides_84 rfl (lv_at hl 0 rfl) ?_
                    refine va_get (D := (dC, dI)) (ci := 6) (v := .int mM.2.1) (C := RX7) (T := TX7) (N := 11) hx hb hts hinX7 hown hK hP 0 rfl rfl 1 (by decide) hw3 (fun _ h9 => h9) rfl dX7_glides_85 ?_
                    have hg0 : ¬ (mM.2.1 = 0) := fun hq => by rw [if_pos hq] at hf; exact nomatch hf
                    rw [if_neg hg0] at hf
                    have hg := hg0
                    refine lv_irem hx hb dX7_glides_88 hg ?_
                    refine lv_iload_n hx hb dX7_glides_89 rfl (lv_at hl 3 rfl) ?_
                    refine lv_aload_n hx hb dX7_glides_90 rfl (lv_at hl 0 rfl) ?_
                    refine va_get (D := (dC, dI)) (ci := 6) (v := .int mM.2.1) (C := RX7) (T := TX7) (N := 11) hx hb hts hinX7 hown hK hP 0 rfl rfl 1 (by decide) hw3 (fun _ h9 => h9) rfl dX7_glides_91 ?_
                    have hg0 : ¬ (mM.2.1 = 0) := fun hq => by rw [if_pos hq] at hf; exact nomatch hf
                    rw [if_neg hg0] at hf
                    have hg := hg0
                    refine lv_idiv hx hb dX7_glides_94 hg ?_
                    obtain ⟨r20, hr20, hf⟩ := obind hf
                    have hPc := hP.sub (ws' := [(zmo, .inr (6, [.int 0, .int mM.2.1, .int mM.2.2.1, .int (bI mM.2.2.2.1), .int mM.2.2.2.2.1, .int mM.2.2.2.2.2, .ref zar, .ref zbe, .ref zst, .ref zah, .ref zgd]))]) [0] rfl
                    have hDc := hD.sub (ws' := [(zmo, .inr (6, [.int 0, .int mM.2.1, .int mM.2.2.1, .int (bI mM.2.2.2.1), .int mM.2.2.2.2.1, .int mM.2.2.2.2.2, .ref zar, .ref zbe, .ref zst, .ref zah, .ref zgd]))]) [0] (by decide) rfl
                    have hFc := va_free (wc := [(zmo, .inr (6, [.int 0, .int mM.2.1, .int mM.2.2.1, .int (bI mM.2.2.2.1), .int mM.2.2.2.2.1, .int mM.2.2.2.2.2, .ref zar, .ref zbe, .ref zst, .ref zah, .ref zgd]))]) hD hS hA [0] rfl
                    refine va_calll (va_runV (As := [.long (r1 (0 : Int32).toNatClampNeg), .int (y19 - y19 / mM.2.1 * mM.2.1), .int (y19 / mM.2.1)]) (rest := [.long (r1 y15.toNatClampNeg)]) ⟨hx, hb, hml, hown, hts⟩ (c_X7_moved l dC dI cI cJ zmo zar zbe zst zah zgd H.size (0, mM.2.1, mM.2.2.1, mM.2.2.2.1, mM.2.2.2.2.1, mM.2.2.2.2.2) (r1 (0 : Int32).toNatClampNeg) (y19 - y19 / mM.2.1 * mM.2.1) (y19 / mM.2.1) _ hr20) (cwV 3 hts gX7_glides_X7_moved rfl rfl rfl (by decide +kernel) ⟨Nat.le_of_ble_eq_true rfl, Nat.le_of_ble_eq_true rfl⟩) ⟨fun a U gg mk q => by obtain ⟨q0, q1, qP, qK, qD⟩ := q; exact ⟨q0, q1, qP, va_K.moved (u := U) (U := U.calling gg mk a) (Vm.Alike.refl U.vm) qK, qD⟩, va_recv hK hPc (ci := 6) (q0 := 0) rfl rfl, fun U hU hW => ⟨rfl, by rw [hU], by rw [hU]; exact hPc, va_K.moved hW.alike hK, hDc.weaken (fun _ _ _ _ => trivial)⟩⟩ rfl rfl hl.1 rfl (lv_room (Nat.le_of_ble_eq_true rfl)) dX7_glides_95 ⟨Nat.zero_le _, Nat.zero_le _⟩) hS (fun q _ h => hFc q h) hFc (fun r_ u_ t H locs ht hvm hw hB hz1 hk1 hS => ?_)
                    obtain rfl := hw.symm
                    obtain ⟨hP1, -, hD1⟩ := hB
                    rw [ht] at hP1
                    obtain ⟨hP, hD⟩ := va_join (wr := [(zar, .inl (cJ, 64, .inr (.inl fR))), (zst, .inr (5, [.int sS.1, .int sS.2.1, .int sS.2.2.1, .long sS.2.2.2, .ref zsa])), (zgd, .inl (cJ, 61, .inr (.inl r1)))]) (w1 := [(zmo, .inr (6, [.int 0, .int mM.2.1, .int mM.2.2.1, .int (bI mM.2.2.2.1), .int mM.2.2.2.2.1, .int mM.2.2.2.2.2, .ref zar, .ref zbe, .ref zst, .ref zah, .ref zgd]))]) hP hD [0] [1, 2, 3] rfl rfl (by decide) (by decide) hk1 hFc hP1 hD1
                    have hP := hP.sub (ws' := [(zmo, .inr (6, [.int 0, .int mM.2.1, .int mM.2.2.1, .int (bI mM.2.2.2.1), .int mM.2.2.2.2.1, .int mM.2.2.2.2.2, .ref zar, .ref zbe, .ref zst, .ref zah, .ref zgd])), (zar, .inl (cJ, 64, .inr (.inl fR))), (zst, .inr (5, [.int sS.1, .int sS.2.1, .int sS.2.2.1, .long sS.2.2.2, .ref zsa])), (zgd, .inl (cJ, 61, .inr (.inl r1)))]) [3, 0, 1, 2] rfl
                    have hD := hD.sub (ws' := [(zmo, .inr (6, [.int 0, .int mM.2.1, .int mM.2.2.1, .int (bI mM.2.2.2.1), .int mM.2.2.2.2.1, .int mM.2.2.2.2.2, .ref zar, .ref zbe, .ref zst, .ref zah, .ref zgd])), (zar, .inl (cJ, 64, .inr (.inl fR))), (zst, .inr (5, [.int sS.1, .int sS.2.1, .int sS.2.2.1, .long sS.2.2.2, .ref zsa])), (zgd, .inl (cJ, 61, .inr (.inl r1)))]) [3, 0, 1, 2] (by decide) rfl
                    clear hPc hDc hFc hP1 hD1 hk1
                    refine W.lcmp hx hb dX7_glides_98 ?_
                    refine lv_if_ne (tgt := 131) hx hb dX7_glides_99 (by decide) (fun hc => ?_) (fun hc => ?_)
                    · have hc := fun h9 => hc (lgz.mpr h9)
                      rw [if_neg hc] at hf
                      refine lv_iinc (v := (y19 + 1)) (lv' := [(3, .int (y19 + 1)), (0, .ref zmo), (1, .int wh), (2, .int y15)]) hx hb dX7_glides_131 hl (k := 3) rfl rfl (by decide) rfl (fun ls hl => ?_)
                      refine lv_goto (tgt := 57) hx hb dX7_glides_134 (by decide) ?_
                      exact ih28 _ _ _ _ hf hP hD hS (lv_sub hl [1, 2, 3, 0] rfl)
                    · have hc := lgz.mp hc
                      rw [if_pos hc] at hf
                      refine lv_iload_n hx hb dX7_glides_102 rfl (lv_at hl 1 rfl) ?_
                      refine lv_if_ne (tgt := 110) hx hb dX7_glides_103 (by decide) (fun hc => ?_) (fun hc => ?_)
                      · rw [if_neg hc] at hf
                        refine lv_iload_n hx hb dX7_glides_110 rfl (lv_at hl 1 rfl) ?_
                        refine lv_iconst (v := 1) hx hb dX7_glides_111 (by decide) ?_
                        refine lv_icmp_ne (tgt := 124) hx hb dX7_glides_112 (by decide) (fun hc => ?_) (fun hc => ?_)
                        · rw [if_neg hc] at hf
                          refine lv_iload_n hx hb dX7_glides_124 rfl (lv_at hl 3 rfl) ?_
                          refine lv_aload_n hx hb dX7_glides_125 rfl (lv_at hl 0 rfl) ?_
                          refine va_get (D := (dC, dI)) (ci := 6) (v := .int mM.2.1) (C := RX7) (T := TX7) (N := 11) hx hb hts hinX7 hown hK hP 0 rfl rfl 1 (by decide) hw3 (fun _ h9 => h9) rfl dX7_glides_126 ?_
                          have hg0 : ¬ (mM.2.1 = 0) := fun hq => by rw [if_pos hq] at hf; exact nomatch hf
                          rw [if_neg hg0] at hf
                          have hg := hg0
                          refine lv_idiv hx hb dX7_glides_129 hg ?_
                          have hf := hfr _ (Option.some.inj hf).symm
                          have hf := congrArg some hf
                          obtain rfl := Option.some.inj hf
                          exact W.iret (v := (y19 / mM.2.1)) hx hb hr (fun t ht hW => ⟨⟨(y19 / mM.2.1), (), rfl, rfl, by rw [ht]; exact hP, va_K.moved hW.alike hK, hD⟩, hS.F ht⟩) hS.2.2 dX7_glides_130
                        · rw [if_pos hc] at hf
                          refine lv_iload_n hx hb dX7_glides_115 rfl (lv_at hl 3 rfl) ?_
                          refine lv_aload_n hx hb dX7_glides_116 rfl (lv_at hl 0 rfl) ?_
                          refine va_get (D := (dC, dI)) (ci := 6) (v := .int mM.2.1) (C := RX7) (T := TX7) (N := 11) hx hb hts hinX7 hown hK hP 0 rfl rfl 1 (by decide) hw3 (fun _ h9 => h9) rfl dX7_glides_117 ?_
                          have hg0 : ¬ (mM.2.1 = 0) := fun hq => by rw [if_pos hq] at hf; exact nomatch hf
                          rw [if_neg hg0] at hf
                          have hg := hg0
                          refine lv_irem hx hb dX7_glides_120 hg ?_
                          refine lv_goto (tgt := 130) hx hb dX7_glides_121 (by decide) ?_
                          have hf := hfr _ (Option.some.inj hf).symm
                          have hf := congrArg some hf
                          obtain rfl := Option.some.inj hf
                          exact W.iret (v := (y19 - y19 / mM.2.1 * mM.2.1)) hx hb hr (fun t ht hW => ⟨⟨(y19 - y19 / mM.2.1 * mM.2.1), (), rfl, rfl, by rw [ht]; exact hP, va_K.moved hW.alike hK, hD⟩, hS.F ht⟩) hS.2.2 dX7_glides_130
                      · rw [if_pos hc] at hf
                        refine lv_iload_n hx hb dX7_glides_106 rfl (lv_at hl 2 rfl) ?_
                        refine lv_goto (tgt := 130) hx hb dX7_glides_107 (by decide) ?_
                        have hf := hfr _ (Option.some.inj hf).symm
                        have hf := congrArg some hf
                        obtain rfl := Option.some.inj hf
                        exact W.iret (v := y15) hx hb hr (fun t ht hW => ⟨⟨y15, (), rfl, rfl, by rw [ht]; exact hP, va_K.moved hW.alike hK, hD⟩, hS.F ht⟩) hS.2.2 dX7_glides_130
              exact lp27 100 _ _ _ _ hv hP hD hS (lv_sub hl [1, 2, 3, 0] rfl)
        exact lp23 100 _ _ _ _ hv hP hD hS (lv_sub hl [1, 2, 0] rfl)
      · have hc := lgz.mp hc
        rw [if_pos hc] at hf
        refine lv_iconst (v := (-1)) hx hb dX7_glides_39 (by decide) ?_
        obtain rfl := Option.some.inj hf
        exact W.iret (v := (-1)) hx hb hr (fun t ht hW => ⟨⟨(-1), (), rfl, rfl, by rw [ht]; exact hP, va_K.moved hW.alike hK, hD⟩, hS.F ht⟩) hS.2.2 dX7_glides_40
  · rw [if_pos hc] at hf
    refine lv_aload_n hx hb dX7_glides_14 rfl (lv_at hl 0 rfl) ?_
    refine lv_iconst (v := 1) hx hb dX7_glides_15 (by decide) ?_
    have hPc := hP.sub (ws' := [(zmo, .inr (6, [.int 0, .int mM.2.1, .int mM.2.2.1, .int (bI mM.2.2.2.1), .int mM.2.2.2.2.1, .int mM.2.2.2.2.2, .ref zar, .ref zbe, .ref zst, .ref zah, .ref zgd]))]) [0] rfl
    have hDc := hD.sub (ws' := [(zmo, .inr (6, [.int 0, .int mM.2.1, .int mM.2.2.1, .int (bI mM.2.2.2.1), .int mM.2.2.2.2.1, .int mM.2.2.2.2.2, .ref zar, .ref zbe, .ref zst, .ref zah, .ref zgd]))]) [0] (by decide) rfl
    have hFc := va_free (wc := [(zmo, .inr (6, [.int 0, .int mM.2.1, .int mM.2.2.1, .int (bI mM.2.2.2.1), .int mM.2.2.2.2.1, .int mM.2.2.2.2.2, .ref zar, .ref zbe, .ref zst, .ref zah, .ref zgd]))]) hD hS hA [0] rfl
    refine va_calli (va_runV (As := [.int 1]) (rest := []) ⟨hx, hb, hml, hown, hts⟩ (c_X7_no l dC dI cI cJ zmo zar zbe zst zah zgd H.size (0, mM.2.1, mM.2.2.1, mM.2.2.2.1, mM.2.2.2.2.1, mM.2.2.2.2.2) 1) (cwV 1 hts gX7_glides_X7_no rfl rfl rfl (by decide +kernel) ⟨Nat.le_of_ble_eq_true rfl, Nat.le_of_ble_eq_true rfl⟩) ⟨fun a U gg mk q => by obtain ⟨q0, q1, qP, qK, qD⟩ := q; exact ⟨q0, q1, qP, va_K.moved (u := U) (U := U.calling gg mk a) (Vm.Alike.refl U.vm) qK, qD⟩, va_recv hK hPc (ci := 6) (q0 := 0) rfl rfl, fun U hU hW => ⟨rfl, by rw [hU], by rw [hU]; exact hPc, va_K.moved hW.alike hK, hDc.weaken (fun _ _ _ _ => trivial)⟩⟩ rfl rfl hl.1 rfl (lv_room (Nat.le_of_ble_eq_true rfl)) dX7_glides_16 ⟨Nat.zero_le _, Nat.zero_le _⟩) hS (fun q _ h => hFc q h) hFc (fun r_ u_ t H locs ht hvm hw hB hz1 hk1 hS => ?_)
    obtain rfl := hw.symm
    obtain ⟨hP1, -, hD1⟩ := hB
    rw [ht] at hP1
    obtain ⟨hP, hD⟩ := va_join (wr := [(zar, .inl (cJ, 64, .inr (.inl fR))), (zst, .inr (5, [.int sS.1, .int sS.2.1, .int sS.2.2.1, .long sS.2.2.2, .ref zsa])), (zgd, .inl (cJ, 61, .inr (.inl fD)))]) (w1 := [(zmo, .inr (6, [.int (f_X7_no (0, mM.2.1, mM.2.2.1, mM.2.2.2.1, mM.2.2.2.2.1, mM.2.2.2.2.2) 1).2.1, .int (f_X7_no (0, mM.2.1, mM.2.2.1, mM.2.2.2.1, mM.2.2.2.2.1, mM.2.2.2.2.2) 1).2.2.1, .int (f_X7_no (0, mM.2.1, mM.2.2.1, mM.2.2.2.1, mM.2.2.2.2.1, mM.2.2.2.2.2) 1).2.2.2.1, .int (bI (f_X7_no (0, mM.2.1, mM.2.2.1, mM.2.2.2.1, mM.2.2.2.2.1, mM.2.2.2.2.2) 1).2.2.2.2.1), .int (f_X7_no (0, mM.2.1, mM.2.2.1, mM.2.2.2.1, mM.2.2.2.2.1, mM.2.2.2.2.2) 1).2.2.2.2.2.1, .int (f_X7_no (0, mM.2.1, mM.2.2.1, mM.2.2.2.1, mM.2.2.2.2.1, mM.2.2.2.2.2) 1).2.2.2.2.2.2, .ref zar, .ref zbe, .ref zst, .ref zah, .ref zgd]))]) hP hD [0] [1, 2, 3] rfl rfl (by decide) (by decide) hk1 hFc hP1 hD1
    have hP := hP.sub (ws' := [(zmo, .inr (6, [.int (f_X7_no (0, mM.2.1, mM.2.2.1, mM.2.2.2.1, mM.2.2.2.2.1, mM.2.2.2.2.2) 1).2.1, .int (f_X7_no (0, mM.2.1, mM.2.2.1, mM.2.2.2.1, mM.2.2.2.2.1, mM.2.2.2.2.2) 1).2.2.1, .int (f_X7_no (0, mM.2.1, mM.2.2.1, mM.2.2.2.1, mM.2.2.2.2.1, mM.2.2.2.2.2) 1).2.2.2.1, .int (bI (f_X7_no (0, mM.2.1, mM.2.2.1, mM.2.2.2.1, mM.2.2.2.2.1, mM.2.2.2.2.2) 1).2.2.2.2.1), .int (f_X7_no (0, mM.2.1, mM.2.2.1, mM.2.2.2.1, mM.2.2.2.2.1, mM.2.2.2.2.2) 1).2.2.2.2.2.1, .int (f_X7_no (0, mM.2.1, mM.2.2.1, mM.2.2.2.1, mM.2.2.2.2.1, mM.2.2.2.2.2) 1).2.2.2.2.2.2, .ref zar, .ref zbe, .ref zst, .ref zah, .ref zgd])), (zar, .inl (cJ, 64, .inr (.inl fR))), (zst, .inr (5, [.int sS.1, .int sS.2.1, .int sS.2.2.1, .long sS.2.2.2, .ref zsa])), (zgd, .inl (cJ, 61, .inr (.inl fD)))]) [3, 0, 1, 2] rfl
    have hD := hD.sub (ws' := [(zmo, .inr (6, [.int (f_X7_no (0, mM.2.1, mM.2.2.1, mM.2.2.2.1, mM.2.2.2.2.1, mM.2.2.2.2.2) 1).2.1, .int (f_X7_no (0, mM.2.1, mM.2.2.1, mM.2.2.2.1, mM.2.2.2.2.1, mM.2.2.2.2.2) 1).2.2.1, .int (f_X7_no (0, mM.2.1, mM.2.2.1, mM.2.2.2.1, mM.2.2.2.2.1, mM.2.2.2.2.2) 1).2.2.2.1, .int (bI (f_X7_no (0, mM.2.1, mM.2.2.1, mM.2.2.2.1, mM.2.2.2.2.1, mM.2.2.2.2.2) 1).2.2.2.2.1), .int (f_X7_no (0, mM.2.1, mM.2.2.1, mM.2.2.2.1, mM.2.2.2.2.1, mM.2.2.2.2.2) 1).2.2.2.2.2.1, .int (f_X7_no (0, mM.2.1, mM.2.2.1, mM.2.2.2.1, mM.2.2.2.2.1, mM.2.2.2.2.2) 1).2.2.2.2.2.2, .ref zar, .ref zbe, .ref zst, .ref zah, .ref zgd])), (zar, .inl (cJ, 64, .inr (.inl fR))), (zst, .inr (5, [.int sS.1, .int sS.2.1, .int sS.2.2.1, .long sS.2.2.2, .ref zsa])), (zgd, .inl (cJ, 61, .inr (.inl fD)))]) [3, 0, 1, 2] (by decide) rfl
    clear hPc hDc hFc hP1 hD1 hk1
    obtain rfl := Option.some.inj hf
    exact W.iret (v := (f_X7_no (0, mM.2.1, mM.2.2.1, mM.2.2.2.1, mM.2.2.2.2.1, mM.2.2.2.2.2) 1).1) hx hb hr (fun t ht hW => ⟨⟨(f_X7_no (0, mM.2.1, mM.2.2.1, mM.2.2.2.1, mM.2.2.2.2.1, mM.2.2.2.2.2) 1).1, (), rfl, rfl, by rw [ht]; exact hP, va_K.moved hW.alike hK, hD⟩, hS.F ht⟩) hS.2.2 dX7_glides_19
/-! HedgeGlidersModel.foresee(II)I -/
def f_X7_foresee (mM : MoS) (fR : Nat → Int64) (fB : Nat → Int64) (sS : StS) (aS : Nat → Int32) (sA : StS) (aA : Nat → Int32) (yr : Int32) (wh : Int32) : Option (Int32 × MoS × StS × (Nat → Int32)) := if (f_X7_isIn yr 1 50) = 0 then (some ((f_X7_no (0, mM.2.1, mM.2.2.1, mM.2.2.2.1, mM.2.2.2.2.1, mM.2.2.2.2.2) 1).1, (f_X7_no (0, mM.2.1, mM.2.2.1, mM.2.2.2.1, mM.2.2.2.2.1, mM.2.2.2.2.2) 1).2, sA, aA)) else (if (f_X7_isIn wh 3 10) = 0 then (some ((f_X7_no (0, mM.2.1, mM.2.2.1, mM.2.2.2.1, mM.2.2.2.2.1, mM.2.2.2.2.2) 2).1, (f_X7_no (0, mM.2.1, mM.2.2.1, mM.2.2.2.1, mM.2.2.2.2.1, mM.2.2.2.2.2) 2).2, sA, aA)) else (if wh = 6 then (some ((f_X7_no (0, mM.2.1, mM.2.2.1, mM.2.2.2.1, mM.2.2.2.2.1, mM.2.2.2.2.2) 2).1, (f_X7_no (0, mM.2.1, mM.2.2.1, mM.2.2.2.1, mM.2.2.2.2.1, mM.2.2.2.2.2) 2).2, sA, aA)) else (Option.bind (f_X7_pass (0, mM.2.1, mM.2.2.1, mM.2.2.2.1, mM.2.2.2.2.1, mM.2.2.2.2.2) fR ((f_X6_become sA aA sS aS).1) ((f_X6_become sA aA sS aS).2) yr) fun r1 => Option.bind (f_X7_counted (0, mM.2.1, mM.2.2.1, mM.2.2.2.1, mM.2.2.2.2.1, mM.2.2.2.2.2) fR fB r1.1 r1.2 wh) fun r2 => some (r2, (0, mM.2.1, mM.2.2.1, mM.2.2.2.1, mM.2.2.2.2.1, mM.2.2.2.2.2), r1.1, r1.2))))
abbrev rm_X7_foresee : Room := ({ frames := 5, cells := 0, slots := 0, locals := 124 } : Room)
abbrev A_X7_foresee (cI cJ : ClassId) (zmo zar zbe zst zsa zah zaa zgd : Nat) (mM : MoS) (fR : Nat → Int64) (fB : Nat → Int64) (sS : StS) (aS : Nat → Int32) (sA : StS) (aA : Nat → Int32) (yr : Int32) (wh : Int32) (sz : Nat) : Nat → Prop := va_A [(zmo, .inr (6, [.int mM.1, .int mM.2.1, .int mM.2.2.1, .int (bI mM.2.2.2.1), .int mM.2.2.2.2.1, .int mM.2.2.2.2.2, .ref zar, .ref zbe, .ref zst, .ref zah, .ref zgd])), (zar, .inl (cJ, 64, .inr (.inl fR))), (zbe, .inl (cJ, 64, .inr (.inl fB))), (zst, .inr (5, [.int sS.1, .int sS.2.1, .int sS.2.2.1, .long sS.2.2.2, .ref zsa])), (zsa, .inl (cI, 64, .inl aS)), (zah, .inr (5, [.int sA.1, .int sA.2.1, .int sA.2.2.1, .long sA.2.2.2, .ref zaa])), (zaa, .inl (cI, 64, .inl aA))] sz
abbrev Q_X7_foresee (dC : Nat → ClassId) (dI : Nat → Nat → Nat) (cI cJ : ClassId) (zmo zar zbe zst zsa zah zaa zgd : Nat) (mM : MoS) (fR : Nat → Int64) (fB : Nat → Int64) (sS : StS) (aS : Nat → Int32) (sA : StS) (aA : Nat → Int32) (yr : Int32) (wh : Int32) (sz : Nat) (R : Int32 × MoS × StS × (Nat → Int32)) : Array Value → State → Outcome → State → Prop := va_Qi (fun (r : Int32) (_ : Unit) => r = R.1) (fun u_ t => va_P (dC, dI) vwCl [(zmo, .inr (6, [.int R.2.1.1, .int R.2.1.2.1, .int R.2.1.2.2.1, .int (bI R.2.1.2.2.2.1), .int R.2.1.2.2.2.2.1, .int R.2.1.2.2.2.2.2, .ref zar, .ref zbe, .ref zst, .ref zah, .ref zgd])), (zar, .inl (cJ, 64, .inr (.inl fR))), (zbe, .inl (cJ, 64, .inr (.inl fB))), (zst, .inr (5, [.int sS.1, .int sS.2.1, .int sS.2.2.1, .long sS.2.2.2, .ref zsa])), (zsa, .inl (cI, 64, .inl aS)), (zah, .inr (5, [.int R.2.2.1.1, .int R.2.2.1.2.1, .int R.2.2.1.2.2.1, .long R.2.2.1.2.2.2, .ref zaa])), (zaa, .inl (cI, 64, .inl R.2.2.2))] t.heap ∧ va_K (dC, dI) vwCl [(cI, .int), (cJ, .long)] t ∧ va_D (A_X7_foresee cI cJ zmo zar zbe zst zsa zah zaa zgd mM fR fB sS aS sA aA yr wh sz) [(zmo, .inr (6, [.int R.2.1.1, .int R.2.1.2.1, .int R.2.1.2.2.1, .int (bI R.2.1.2.2.2.1), .int R.2.1.2.2.2.2.1, .int R.2.1.2.2.2.2.2, .ref zar, .ref zbe, .ref zst, .ref zah, .ref zgd])), (zar, .inl (cJ, 64, .inr (.inl fR))), (zbe, .inl (cJ, 64, .inr (.inl fB))), (zst, .inr (5, [.int sS.1, .int sS.2.1, .int sS.2.2.1, .long sS.2.2.2, .ref zsa])), (zsa, .inl (cI, 64, .inl aS)), (zah, .inr (5, [.int R.2.2.1.1, .int R.2.2.1.2.1, .int R.2.2.1.2.2.1, .long R.2.2.1.2.2.2, .ref zaa])), (zaa, .inl (cI, 64, .inl R.2.2.2))]) (A_X7_foresee cI cJ zmo zar zbe zst zsa zah zaa zgd mM fR fB sS aS sA aA yr wh sz)
set_option maxHeartbeats 4000000 in
set_option maxRecDepth 100000 in
theorem c_X7_foresee (l : Launch) (dC : Nat → ClassId) (dI : Nat → Nat → Nat) (cI cJ : ClassId) (zmo zar zbe zst zsa zah zaa zgd : Nat) (sz : Nat) (mM : MoS) (fR : Nat → Int64) (fB : Nat → Int64) (sS : StS) (aS : Nat → Int32) (sA : StS) (aA : Nat → Int32) (yr : Int32) (wh : Int32) (R : Int32 × MoS × StS × (Nat → Int32)) (hR : f_X7_foresee mM fR fB sS aS sA aA yr wh = some R) : Met l yX7_foresee wsX7_foresee rm_X7_foresee (va_Pc [.ref zmo, .int yr, .int wh] (fun U => U.heap.size = sz ∧ va_P (dC, dI) vwCl [(zmo, .inr (6, [.int mM.1, .int mM.2.1, .int mM.2.2.1, .int (bI mM.2.2.2.1), .int mM.2.2.2.2.1, .int mM.2.2.2.2.2, .ref zar, .ref zbe, .ref zst, .ref zah, .ref zgd])), (zar, .inl (cJ, 64, .inr (.inl fR))), (zbe, .inl (cJ, 64, .inr (.inl fB))), (zst, .inr (5, [.int sS.1, .int sS.2.1, .int sS.2.2.1, .long sS.2.2.2, .ref zsa])), (zsa, .inl (cI, 64, .inl aS)), (zah, .inr (5, [.int sA.1, .int sA.2.1, .int sA.2.2.1, .long sA.2.2.2, .ref zaa])), (zaa, .inl (cI, 64, .inl aA))] U.heap ∧ va_K (dC, dI) vwCl [(cI, .int), (cJ, .long)] U ∧ va_D (fun _ => True) [(zmo, .inr (6, [.int mM.1, .int mM.2.1, .int mM.2.2.1, .int (bI mM.2.2.2.1), .int mM.2.2.2.2.1, .int mM.2.2.2.2.2, .ref zar, .ref zbe, .ref zst, .ref zah, .ref zgd])), (zar, .inl (cJ, 64, .inr (.inl fR))), (zbe, .inl (cJ, 64, .inr (.inl fB))), (zst, .inr (5, [.int sS.1, .int sS.2.1, .int sS.2.2.1, .long sS.2.2.2, .ref zsa])), (zsa, .inl (cI, 64, .inl aS)), (zah, .inr (5, [.int sA.1, .int sA.2.1, .int sA.2.2.1, .long sA.2.2.2, .ref zaa])), (zaa, .inl (cI, 64, .inl aA))] ∧ nwM U)) (Q_X7_foresee dC dI cI cJ zmo zar zbe zst zsa zah zaa zgd mM fR fB sS aS sA aA yr wh sz R) 0 0 (A_X7_foresee cI cJ zmo zar zbe zst zsa zah zaa zgd mM fR fB sS aS sA aA yr wh sz) := by
  have hf := hR
  refine Met.ofW (cc := cX7_foresee) (maxL := 3) (ret := (some .int)) (by decide) rfl ?_
  intro p e s m args below meth c s₁ B hml hv
  obtain ⟨hargs, hsz, hP, hK, hD0, hnw⟩ := hv
  have hx := B.exec
  have hb := B.bytes
  have hr := B.returns
  have hts := atoms_spec (ws := wsX7_foresee) B.pre
  have hown : s.vm.findClass RX7 = some m.cls := findClass_of_methodNamed B.named
  have hlocks := B.notSynchronized
  subst hsz
  obtain ⟨hnw_hedges, hnw_ages, hnw_born, hnw_dead, hnw_year⟩ := id hnw
  have hD : va_D (A_X7_foresee cI cJ zmo zar zbe zst zsa zah zaa zgd mM fR fB sS aS sA aA yr wh s.heap.size) [(zmo, .inr (6, [.int mM.1, .int mM.2.1, .int mM.2.2.1, .int (bI mM.2.2.2.1), .int mM.2.2.2.2.1, .int mM.2.2.2.2.2, .ref zar, .ref zbe, .ref zst, .ref zah, .ref zgd])), (zar, .inl (cJ, 64, .inr (.inl fR))), (zbe, .inl (cJ, 64, .inr (.inl fB))), (zst, .inr (5, [.int sS.1, .int sS.2.1, .int sS.2.2.1, .long sS.2.2.2, .ref zsa])), (zsa, .inl (cI, 64, .inl aS)), (zah, .inr (5, [.int sA.1, .int sA.2.1, .int sA.2.2.1, .long sA.2.2.2, .ref zaa])), (zaa, .inl (cI, 64, .inl aA))] := hD0.self (sz := s.heap.size)
  have hA : ∀ q : Nat, s.heap.size ≤ q → (A_X7_foresee cI cJ zmo zar zbe zst zsa zah zaa zgd mM fR fB sS aS sA aA yr wh s.heap.size) q := fun q h => Or.inr h
  have hS : va_S (A_X7_foresee cI cJ zmo zar zbe zst zsa zah zaa zgd mM fR fB sS aS sA aA yr wh s.heap.size) s.heap s.heap [] := va_S.rf
  have hinX7 : ∀ w ∈ wsX70, w ∈ wsX7_foresee := by decide +kernel
  have hw0 := hts (.fieldLink RX7 45 "HedgeGlidersModel" "thrown" "I") (by decide +kernel)
  have hw1 := hts (.fieldLink RX7 36 "HedgeGlidersModel" "ahead" "LHedgeGlidersModel$State;") (by decide +kernel)
  have hw2 := hts (.fieldLink RX7 32 "HedgeGlidersModel" "s" "LHedgeGlidersModel$State;") (by decide +kernel)
  have hl := lv_entry ([.ref zmo, .int yr, .int wh]) (n := 3) (Nat.le_of_ble_eq_true rfl)
  have he0 : entryFrame m args 3 = entryFrame m ([.ref zmo, .int yr, .int wh] : List Value).toArray 3 := by rw [hargs]
  rw [he0, lg_entry_eq]
  generalize (lg_sl ([.ref zmo, .int yr, .int wh]) ++ List.replicate (3 - (lg_sl ([.ref zmo, .int yr, .int wh])).length) Slot.unset).toArray = ls at hl ⊢
  have hl : lv_has ls 3 [(0, .ref zmo), (1, .int yr), (2, .int wh)] := hl
  rw [f_X7_foresee] at hf
  refine lv_aload_n hx hb dX7_foresee_0 rfl (lv_at hl 0 rfl) ?_
  refine lv_iconst (v := 0) hx hb dX7_foresee_1 (by decide) ?_
  refine va_put (D := (dC, dI)) (ci := 6) (v := .int 0) (ty := .int) (C := RX7) (T := TX7) (N := 11) hx hb hts hinX7 tyX7 tyX7_ok nmX7 hown hK hP hD hS 0 rfl rfl 0 (by decide) hw0 (fun _ h9 => h9) rfl (by decide +kernel) rfl rfl (Nat.le_of_ble_eq_true rfl) dX7_foresee_2 (fun H locs hP hD hS => ?_)
  have hP : va_P (dC, dI) vwCl [(zmo, .inr (6, [.int 0, .int mM.2.1, .int mM.2.2.1, .int (bI mM.2.2.2.1), .int mM.2.2.2.2.1, .int mM.2.2.2.2.2, .ref zar, .ref zbe, .ref zst, .ref zah, .ref zgd])), (zar, .inl (cJ, 64, .inr (.inl fR))), (zbe, .inl (cJ, 64, .inr (.inl fB))), (zst, .inr (5, [.int sS.1, .int sS.2.1, .int sS.2.2.1, .long sS.2.2.2, .ref zsa])), (zsa, .inl (cI, 64, .inl aS)), (zah, .inr (5, [.int sA.1, .int sA.2.1, .int sA.2.2.1, .long sA.2.2.2, .ref zaa])), (zaa, .inl (cI, 64, .inl aA))] H := hP
  have hD : va_D (A_X7_foresee cI cJ zmo zar zbe zst zsa zah zaa zgd mM fR fB sS aS sA aA yr wh s.heap.size) [(zmo, .inr (6, [.int 0, .int mM.2.1, .int mM.2.2.1, .int (bI mM.2.2.2.1), .int mM.2.2.2.2.1, .int mM.2.2.2.2.2, .ref zar, .ref zbe, .ref zst, .ref zah, .ref zgd])), (zar, .inl (cJ, 64, .inr (.inl fR))), (zbe, .inl (cJ, 64, .inr (.inl fB))), (zst, .inr (5, [.int sS.1, .int sS.2.1, .int sS.2.2.1, .long sS.2.2.2, .ref zsa])), (zsa, .inl (cI, 64, .inl aS)), (zah, .inr (5, [.int sA.1, .int sA.2.1, .int sA.2.2.1, .long sA.2.2.2, .ref zaa])), (zaa, .inl (cI, 64, .inl aA))] := hD
  refine lv_iload_n hx hb dX7_foresee_5 rfl (lv_at hl 1 rfl) ?_
  refine lv_iconst (v := 1) hx hb dX7_foresee_6 (by decide) ?_
  refine lv_bipush (v := 50) hx hb dX7_foresee_7 (by decide) ?_
  have hPc := hP.sub (ws' := []) [] rfl
  have hDc := hD.sub (ws' := []) [] (by decide) rfl
  have hFc := va_free (wc := []) hD hS hA [] rfl
  refine va_calli (va_runS (As := [.int yr, .int 1, .int 50]) (rest := []) ⟨hx, hb, hml, hown, hts⟩ (c_X7_isIn l dC dI cI cJ  H.size yr 1 50) (va_cwS 3 hts gX7_foresee_X7_isIn rfl rfl rfl (by decide +kernel) ⟨Nat.le_of_ble_eq_true rfl, Nat.le_of_ble_eq_true rfl⟩) ⟨fun a U gg mk q => by obtain ⟨q0, q1, qP, qK, qD⟩ := q; exact ⟨q0, q1, qP, va_K.moved (u := U) (U := U.calling gg mk a) (Vm.Alike.refl U.vm) qK, qD⟩, fun U hU hW => ⟨rfl, by rw [hU], by rw [hU]; exact hPc, va_K.moved hW.alike hK, hDc.weaken (fun _ _ _ _ => trivial)⟩⟩ rfl rfl hl.1 rfl (lv_room (Nat.le_of_ble_eq_true rfl)) dX7_foresee_9 ⟨Nat.zero_le _, Nat.zero_le _⟩) hS (fun q _ h => hFc q h) hFc (fun r_ u_ t H locs ht hvm hw hB hz1 hk1 hS => ?_)
  obtain rfl := hw.symm
  obtain ⟨hP1, -, hD1⟩ := hB
  rw [ht] at hP1
  obtain ⟨hP, hD⟩ := va_join (wr := [(zmo, .inr (6, [.int 0, .int mM.2.1, .int mM.2.2.1, .int (bI mM.2.2.2.1), .int mM.2.2.2.2.1, .int mM.2.2.2.2.2, .ref zar, .ref zbe, .ref zst, .ref zah, .ref zgd])), (zar, .inl (cJ, 64, .inr (.inl fR))), (zbe, .inl (cJ, 64, .inr (.inl fB))), (zst, .inr (5, [.int sS.1, .int sS.2.1, .int sS.2.2.1, .long sS.2.2.2, .ref zsa])), (zsa, .inl (cI, 64, .inl aS)), (zah, .inr (5, [.int sA.1, .int sA.2.1, .int sA.2.2.1, .long sA.2.2.2, .ref zaa])), (zaa, .inl (cI, 64, .inl aA))]) (w1 := []) hP hD [] [0, 1, 2, 3, 4, 5, 6] rfl rfl (by decide) (by decide) hk1 hFc hP1 hD1
  have hP := hP.sub (ws' := [(zmo, .inr (6, [.int 0, .int mM.2.1, .int mM.2.2.1, .int (bI mM.2.2.2.1), .int mM.2.2.2.2.1, .int mM.2.2.2.2.2, .ref zar, .ref zbe, .ref zst, .ref zah, .ref zgd])), (zar, .inl (cJ, 64, .inr (.inl fR))), (zbe, .inl (cJ, 64, .inr (.inl fB))), (zst, .inr (5, [.int sS.1, .int sS.2.1, .int sS.2.2.1, .long sS.2.2.2, .ref zsa])), (zsa, .inl (cI, 64, .inl aS)), (zah, .inr (5, [.int sA.1, .int sA.2.1, .int sA.2.2.1, .long sA.2.2.2, .ref zaa])), (zaa, .inl (cI, 64, .inl aA))]) [0, 1, 2, 3, 4, 5, 6] rfl
  have hD := hD.sub (ws' := [(zmo, .inr (6, [.int 0, .int mM.2.1, .int mM.2.2.1, .int (bI mM.2.2.2.1), .int mM.2.2.2.2.1, .int mM.2.2.2.2.2, .ref zar, .ref zbe, .ref zst, .ref zah, .ref zgd])), (zar, .inl (cJ, 64, .inr (.inl fR))), (zbe, .inl (cJ, 64, .inr (.inl fB))), (zst, .inr (5, [.int sS.1, .int sS.2.1, .int sS.2.2.1, .long sS.2.2.2, .ref zsa])), (zsa, .inl (cI, 64, .inl aS)), (zah, .inr (5, [.int sA.1, .int sA.2.1, .int sA.2.2.1, .long sA.2.2.2, .ref zaa])), (zaa, .inl (cI, 64, .inl aA))]) [0, 1, 2, 3, 4, 5, 6] (by decide) rfl
  clear hPc hDc hFc hP1 hD1 hk1
  refine lv_if_ne (tgt := 21) hx hb dX7_foresee_12 (by decide) (fun hc => ?_) (fun hc => ?_)
  · rw [if_neg hc] at hf
    refine lv_iload_n hx hb dX7_foresee_21 rfl (lv_at hl 2 rfl) ?_
    refine lv_iconst (v := 3) hx hb dX7_foresee_22 (by decide) ?_
    refine lv_bipush (v := 10) hx hb dX7_foresee_23 (by decide) ?_
    have hPc := hP.sub (ws' := []) [] rfl
    have hDc := hD.sub (ws' := []) [] (by decide) rfl
    have hFc := va_free (wc := []) hD hS hA [] rfl
    refine va_calli (va_runS (As := [.int wh, .int 3, .int 10]) (rest := []) ⟨hx, hb, hml, hown, hts⟩ (c_X7_isIn l dC dI cI cJ  H.size wh 3 10) (va_cwS 3 hts gX7_foresee_X7_isIn rfl rfl rfl (by decide +kernel) ⟨Nat.le_of_ble_eq_true rfl, Nat.le_of_ble_eq_true rfl⟩) ⟨fun a U gg mk q => by obtain ⟨q0, q1, qP, qK, qD⟩ := q; exact ⟨q0, q1, qP, va_K.moved (u := U) (U := U.calling gg mk a) (Vm.Alike.refl U.vm) qK, qD⟩, fun U hU hW => ⟨rfl, by rw [hU], by rw [hU]; exact hPc, va_K.moved hW.alike hK, hDc.weaken (fun _ _ _ _ => trivial)⟩⟩ rfl rfl hl.1 rfl (lv_room (Nat.le_of_ble_eq_true rfl)) dX7_foresee_25 ⟨Nat.zero_le _, Nat.zero_le _⟩) hS (fun q _ h => hFc q h) hFc (fun r_ u_ t H locs ht hvm hw hB hz1 hk1 hS => ?_)
    obtain rfl := hw.symm
    obtain ⟨hP1, -, hD1⟩ := hB
    rw [ht] at hP1
    obtain ⟨hP, hD⟩ := va_join (wr := [(zmo, .inr (6, [.int 0, .int mM.2.1, .int mM.2.2.1, .int (bI mM.2.2.2.1), .int mM.2.2.2.2.1, .int mM.2.2.2.2.2, .ref zar, .ref zbe, .ref zst, .ref zah, .ref zgd])), (zar, .inl (cJ, 64, .inr (.inl fR))), (zbe, .inl (cJ, 64, .inr (.inl fB))), (zst, .inr (5, [.int sS.1, .int sS.2.1, .int sS.2.2.1, .long sS.2.2.2, .ref zsa])), (zsa, .inl (cI, 64, .inl aS)), (zah, .inr (5, [.int sA.1, .int sA.2.1, .int sA.2.2.1, .long sA.2.2.2, .ref zaa])), (zaa, .inl (cI, 64, .inl aA))]) (w1 := []) hP hD [] [0, 1, 2, 3, 4, 5, 6] rfl rfl (by decide) (by decide) hk1 hFc hP1 hD1
    have hP := hP.sub (ws' := [(zmo, .inr (6, [.int 0, .int mM.2.1, .int mM.2.2.1, .int (bI mM.2.2.2.1), .int mM.2.2.2.2.1, .int mM.2.2.2.2.2, .ref zar, .ref zbe, .ref zst, .ref zah, .ref zgd])), (zar, .inl (cJ, 64, .inr (.inl fR))), (zbe, .inl (cJ, 64, .inr (.inl fB))), (zst, .inr (5, [.int sS.1, .int sS.2.1, .int sS.2.2.1, .long sS.2.2.2, .ref zsa])), (zsa, .inl (cI, 64, .inl aS)), (zah, .inr (5, [.int sA.1, .int sA.2.1, .int sA.2.2.1, .long sA.2.2.2, .ref zaa])), (zaa, .inl (cI, 64, .inl aA))]) [0, 1, 2, 3, 4, 5, 6] rfl
    have hD := hD.sub (ws' := [(zmo, .inr (6, [.int 0, .int mM.2.1, .int mM.2.2.1, .int (bI mM.2.2.2.1), .int mM.2.2.2.2.1, .int mM.2.2.2.2.2, .ref zar, .ref zbe, .ref zst, .ref zah, .ref zgd])), (zar, .inl (cJ, 64, .inr (.inl fR))), (zbe, .inl (cJ, 64, .inr (.inl fB))), (zst, .inr (5, [.int sS.1, .int sS.2.1, .int sS.2.2.1, .long sS.2.2.2, .ref zsa])), (zsa, .inl (cI, 64, .inl aS)), (zah, .inr (5, [.int sA.1, .int sA.2.1, .int sA.2.2.1, .long sA.2.2.2, .ref zaa])), (zaa, .inl (cI, 64, .inl aA))]) [0, 1, 2, 3, 4, 5, 6] (by decide) rfl
    clear hPc hDc hFc hP1 hD1 hk1
    refine lv_if_eq (tgt := 37) hx hb dX7_foresee_28 (by decide) (fun hc => ?_) (fun hc => ?_)
    · rw [if_pos hc] at hf
      refine lv_aload_n hx hb dX7_foresee_37 rfl (lv_at hl 0 rfl) ?_
      refine lv_iconst (v := 2) hx hb dX7_foresee_38 (by decide) ?_
      have hPc := hP.sub (ws' := [(zmo, .inr (6, [.int 0, .int mM.2.1, .int mM.2.2.1, .int (bI mM.2.2.2.1), .int mM.2.2.2.2.1, .int mM.2.2.2.2.2, .ref zar, .ref zbe, .ref zst, .ref zah, .ref zgd]))]) [0] rfl
      have hDc := hD.sub (ws' := [(zmo, .inr (6, [.int 0, .int mM.2.1, .int mM.2.2.1, .int (bI mM.2.2.2.1), .int mM.2.2.2.2.1, .int mM.2.2.2.2.2, .ref zar, .ref zbe, .ref zst, .ref zah, .ref zgd]))]) [0] (by decide) rfl
      have hFc := va_free (wc := [(zmo, .inr (6, [.int 0, .int mM.2.1, .int mM.2.2.1, .int (bI mM.2.2.2.1), .int mM.2.2.2.2.1, .int mM.2.2.2.2.2, .ref zar, .ref zbe, .ref zst, .ref zah, .ref zgd]))]) hD hS hA [0] rfl
      refine va_calli (va_runV (As := [.int 2]) (rest := []) ⟨hx, hb, hml, hown, hts⟩ (c_X7_no l dC dI cI cJ zmo zar zbe zst zah zgd H.size (0, mM.2.1, mM.2.2.1, mM.2.2.2.1, mM.2.2.2.2.1, mM.2.2.2.2.2) 2) (cwV 1 hts gX7_foresee_X7_no rfl rfl rfl (by decide +kernel) ⟨Nat.le_of_ble_eq_true rfl, Nat.le_of_ble_eq_true rfl⟩) ⟨fun a U gg mk q => by obtain ⟨q0, q1, qP, qK, qD⟩ := q; exact ⟨q0, q1, qP, va_K.moved (u := U) (U := U.calling gg mk a) (Vm.Alike.refl U.vm) qK, qD⟩, va_recv hK hPc (ci := 6) (q0 := 0) rfl rfl, fun U hU hW => ⟨rfl, by rw [hU], by rw [hU]; exact hPc, va_K.moved hW.alike hK, hDc.weaken (fun _ _ _ _ => trivial)⟩⟩ rfl rfl hl.1 rfl (lv_room (Nat.le_of_ble_eq_true rfl)) dX7_foresee_39 ⟨Nat.zero_le _, Nat.zero_le _⟩) hS (fun q _ h => hFc q h) hFc (fun r_ u_ t H locs ht hvm hw hB hz1 hk1 hS => ?_)
      obtain rfl := hw.symm
      obtain ⟨hP1, -, hD1⟩ := hB
      rw [ht] at hP1
      obtain ⟨hP, hD⟩ := va_join (wr := [(zar, .inl (cJ, 64, .inr (.inl fR))), (zbe, .inl (cJ, 64, .inr (.inl fB))), (zst, .inr (5, [.int sS.1, .int sS.2.1, .int sS.2.2.1, .long sS.2.2.2, .ref zsa])), (zsa, .inl (cI, 64, .inl aS)), (zah, .inr (5, [.int sA.1, .int sA.2.1, .int sA.2.2.1, .long sA.2.2.2, .ref zaa])), (zaa, .inl (cI, 64, .inl aA))]) (w1 := [(zmo, .inr (6, [.int (f_X7_no (0, mM.2.1, mM.2.2.1, mM.2.2.2.1, mM.2.2.2.2.1, mM.2.2.2.2.2) 2).2.1, .int (f_X7_no (0, mM.2.1, mM.2.2.1, mM.2.2.2.1, mM.2.2.2.2.1, mM.2.2.2.2.2) 2).2.2.1, .int (f_X7_no (0, mM.2.1, mM.2.2.1, mM.2.2.2.1, mM.2.2.2.2.1, mM.2.2.2.2.2) 2).2.2.2.1, .int (bI (f_X7_no (0, mM.2.1, mM.2.2.1, mM.2.2.2.1, mM.2.2.2.2.1, mM.2.2.2.2.2) 2).2.2.2.2.1), .int (f_X7_no (0, mM.2.1, mM.2.2.1, mM.2.2.2.1, mM.2.2.2.2.1, mM.2.2.2.2.2) 2).2.2.2.2.2.1, .int (f_X7_no (0, mM.2.1, mM.2.2.1, mM.2.2.2.1, mM.2.2.2.2.1, mM.2.2.2.2.2) 2).2.2.2.2.2.2, .ref zar, .ref zbe, .ref zst, .ref zah, .ref zgd]))]) hP hD [0] [1, 2, 3, 4, 5, 6] rfl rfl (by decide) (by decide) hk1 hFc hP1 hD1
      have hP := hP.sub (ws' := [(zmo, .inr (6, [.int (f_X7_no (0, mM.2.1, mM.2.2.1, mM.2.2.2.1, mM.2.2.2.2.1, mM.2.2.2.2.2) 2).2.1, .int (f_X7_no (0, mM.2.1, mM.2.2.1, mM.2.2.2.1, mM.2.2.2.2.1, mM.2.2.2.2.2) 2).2.2.1, .int (f_X7_no (0, mM.2.1, mM.2.2.1, mM.2.2.2.1, mM.2.2.2.2.1, mM.2.2.2.2.2) 2).2.2.2.1, .int (bI (f_X7_no (0, mM.2.1, mM.2.2.1, mM.2.2.2.1, mM.2.2.2.2.1, mM.2.2.2.2.2) 2).2.2.2.2.1), .int (f_X7_no (0, mM.2.1, mM.2.2.1, mM.2.2.2.1, mM.2.2.2.2.1, mM.2.2.2.2.2) 2).2.2.2.2.2.1, .int (f_X7_no (0, mM.2.1, mM.2.2.1, mM.2.2.2.1, mM.2.2.2.2.1, mM.2.2.2.2.2) 2).2.2.2.2.2.2, .ref zar, .ref zbe, .ref zst, .ref zah, .ref zgd])), (zar, .inl (cJ, 64, .inr (.inl fR))), (zbe, .inl (cJ, 64, .inr (.inl fB))), (zst, .inr (5, [.int sS.1, .int sS.2.1, .int sS.2.2.1, .long sS.2.2.2, .ref zsa])), (zsa, .inl (cI, 64, .inl aS)), (zah, .inr (5, [.int sA.1, .int sA.2.1, .int sA.2.2.1, .long sA.2.2.2, .ref zaa])), (zaa, .inl (cI, 64, .inl aA))]) [6, 0, 1, 2, 3, 4, 5] rfl
      have hD := hD.sub (ws' := [(zmo, .inr (6, [.int (f_X7_no (0, mM.2.1, mM.2.2.1, mM.2.2.2.1, mM.2.2.2.2.1, mM.2.2.2.2.2) 2).2.1, .int (f_X7_no (0, mM.2.1, mM.2.2.1, mM.2.2.2.1, mM.2.2.2.2.1, mM.2.2.2.2.2) 2).2.2.1, .int (f_X7_no (0, mM.2.1, mM.2.2.1, mM.2.2.2.1, mM.2.2.2.2.1, mM.2.2.2.2.2) 2).2.2.2.1, .int (bI (f_X7_no (0, mM.2.1, mM.2.2.1, mM.2.2.2.1, mM.2.2.2.2.1, mM.2.2.2.2.2) 2).2.2.2.2.1), .int (f_X7_no (0, mM.2.1, mM.2.2.1, mM.2.2.2.1, mM.2.2.2.2.1, mM.2.2.2.2.2) 2).2.2.2.2.2.1, .int (f_X7_no (0, mM.2.1, mM.2.2.1, mM.2.2.2.1, mM.2.2.2.2.1, mM.2.2.2.2.2) 2).2.2.2.2.2.2, .ref zar, .ref zbe, .ref zst, .ref zah, .ref zgd])), (zar, .inl (cJ, 64, .inr (.inl fR))), (zbe, .inl (cJ, 64, .inr (.inl fB))), (zst, .inr (5, [.int sS.1, .int sS.2.1, .int sS.2.2.1, .long sS.2.2.2, .ref zsa])), (zsa, .inl (cI, 64, .inl aS)), (zah, .inr (5, [.int sA.1, .int sA.2.1, .int sA.2.2.1, .long sA.2.2.2, .ref zaa])), (zaa, .inl (cI, 64, .inl aA))]) [6, 0, 1, 2, 3, 4, 5] (by decide) rfl
      clear hPc hDc hFc hP1 hD1 hk1
      obtain rfl := Option.some.inj hf
      exact W.iret (v := (f_X7_no (0, mM.2.1, mM.2.2.1, mM.2.2.2.1, mM.2.2.2.2.1, mM.2.2.2.2.2) 2).1) hx hb hr (fun t ht hW => ⟨⟨(f_X7_no (0, mM.2.1, mM.2.2.1, mM.2.2.2.1, mM.2.2.2.2.1, mM.2.2.2.2.2) 2).1, (), rfl, rfl, by rw [ht]; exact hP, va_K.moved hW.alike hK, hD⟩, hS.F ht⟩) hS.2.2 dX7_foresee_42
    · rw [if_neg hc] at hf
      refine lv_iload_n hx hb dX7_foresee_31 rfl (lv_at hl 2 rfl) ?_
      refine lv_bipush (v := 6) hx hb dX7_foresee_32 (by decide) ?_
      refine lv_icmp_ne (tgt := 43) hx hb dX7_foresee_34 (by decide) (fun hc => ?_) (fun hc => ?_)
      · rw [if_neg hc] at hf
        refine lv_aload_n hx hb dX7_foresee_43 rfl (lv_at hl 0 rfl) ?_
        refine lv_aload_n hx hb dX7_foresee_44 rfl (lv_at hl 0 rfl) ?_
        refine lv_aload_n hx hb dX7_foresee_45 rfl (lv_at hl 0 rfl) ?_
        refine va_get (D := (dC, dI)) (ci := 6) (v := .ref zah) (C := RX7) (T := TX7) (N := 11) hx hb hts hinX7 hown hK hP 0 rfl rfl 9 (by decide) hw1 (fun _ h9 => h9) rfl dX7_foresee_46 ?_
        refine lv_aload_n hx hb dX7_foresee_49 rfl (lv_at hl 0 rfl) ?_
        refine va_get (D := (dC, dI)) (ci := 6) (v := .ref zst) (C := RX7) (T := TX7) (N := 11) hx hb hts hinX7 hown hK hP 0 rfl rfl 8 (by decide) hw2 (fun _ h9 => h9) rfl dX7_foresee_50 ?_
        have hPc := hP.sub (ws' := [(zah, .inr (5, [.int sA.1, .int sA.2.1, .int sA.2.2.1, .long sA.2.2.2, .ref zaa])), (zaa, .inl (cI, 64, .inl aA)), (zst, .inr (5, [.int sS.1, .int sS.2.1, .int sS.2.2.1, .long sS.2.2.2, .ref zsa])), (zsa, .inl (cI, 64, .inl aS))]) [5, 6, 3, 4] rfl
        have hDc := hD.sub (ws' := [(zah, .inr (5, [.int sA.1, .int sA.2.1, .int sA.2.2.1, .long sA.2.2.2, .ref zaa])), (zaa, .inl (cI, 64, .inl aA)), (zst, .inr (5, [.int sS.1, .int sS.2.1, .int sS.2.2.1, .long sS.2.2.2, .ref zsa])), (zsa, .inl (cI, 64, .inl aS))]) [5, 6, 3, 4] (by decide) rfl
        have hFc := va_free (wc := [(zah, .inr (5, [.int sA.1, .int sA.2.1, .int sA.2.2.1, .long sA.2.2.2, .ref zaa])), (zaa, .inl (cI, 64, .inl aA)), (zst, .inr (5, [.int sS.1, .int sS.2.1, .int sS.2.2.1, .long sS.2.2.2, .ref zsa])), (zsa, .inl (cI, 64, .inl aS))]) hD hS hA [5, 6, 3, 4] rfl
        refine va_callr (va_runV (As := [.ref zst]) (rest := [.ref zmo, .ref zmo]) ⟨hx, hb, hml, hown, hts⟩ (c_X6_become l dC dI cI cJ zah zaa zst zsa H.size sA aA sS aS) (cwV 1 hts gX7_foresee_X6_become rfl rfl rfl (by decide +kernel) ⟨Nat.le_of_ble_eq_true rfl, Nat.le_of_ble_eq_true rfl⟩) ⟨fun a U gg mk q => by obtain ⟨q0, q1, qP, qK, qD⟩ := q; exact ⟨q0, q1, qP, va_K.moved (u := U) (U := U.calling gg mk a) (Vm.Alike.refl U.vm) qK, qD⟩, va_recv hK hPc (ci := 5) (q0 := 0) rfl rfl, fun U hU hW => ⟨rfl, by rw [hU], by rw [hU]; exact hPc, va_K.moved hW.alike hK, hDc.weaken (fun _ _ _ _ => trivial)⟩⟩ rfl rfl hl.1 rfl (lv_room (Nat.le_of_ble_eq_true rfl)) dX7_foresee_53 ⟨Nat.zero_le _, Nat.zero_le _⟩) hS (fun q _ h => hFc q h) hFc (fun u_ ra_ t H locs ht hvm hw hB hz1 hk1 hS => ?_)
        obtain ⟨hra, hP1, -, hD1⟩ := hB
        obtain rfl := hra.symm
        rw [ht] at hP1
        obtain ⟨hP, hD⟩ := va_join (wr := [(zmo, .inr (6, [.int 0, .int mM.2.1, .int mM.2.2.1, .int (bI mM.2.2.2.1), .int mM.2.2.2.2.1, .int mM.2.2.2.2.2, .ref zar, .ref zbe, .ref zst, .ref zah, .ref zgd])), (zar, .inl (cJ, 64, .inr (.inl fR))), (zbe, .inl (cJ, 64, .inr (.inl fB)))]) (w1 := [(zah, .inr (5, [.int (f_X6_become sA aA sS aS).1.1, .int (f_X6_become sA aA sS aS).1.2.1, .int (f_X6_become sA aA sS aS).1.2.2.1, .long (f_X6_become sA aA sS aS).1.2.2.2, .ref zaa])), (zaa, .inl (cI, 64, .inl (f_X6_become sA aA sS aS).2)), (zst, .inr (5, [.int sS.1, .int sS.2.1, .int sS.2.2.1, .long sS.2.2.2, .ref zsa])), (zsa, .inl (cI, 64, .inl aS))]) hP hD [5, 6, 3, 4] [0, 1, 2] rfl rfl (by decide) (by decide) hk1 hFc hP1 hD1
        have hP := hP.sub (ws' := [(zmo, .inr (6, [.int 0, .int mM.2.1, .int mM.2.2.1, .int (bI mM.2.2.2.1), .int mM.2.2.2.2.1, .int mM.2.2.2.2.2, .ref zar, .ref zbe, .ref zst, .ref zah, .ref zgd])), (zar, .inl (cJ, 64, .inr (.inl fR))), (zbe, .inl (cJ, 64, .inr (.inl fB))), (zst, .inr (5, [.int sS.1, .int sS.2.1, .int sS.2.2.1, .long sS.2.2.2, .ref zsa])), (zsa, .inl (cI, 64, .inl aS)), (zah, .inr (5, [.int (f_X6_become sA aA sS aS).1.1, .int (f_X6_become sA aA sS aS).1.2.1, .int (f_X6_become sA aA sS aS).1.2.2.1, .long (f_X6_become sA aA sS aS).1.2.2.2, .ref zaa])), (zaa, .inl (cI, 64, .inl (f_X6_become sA aA sS aS).2))]) [0, 1, 2, 5, 6, 3, 4] rfl
        have hD := hD.sub (ws' := [(zmo, .inr (6, [.int 0, .int mM.2.1, .int mM.2.2.1, .int (bI mM.2.2.2.1), .int mM.2.2.2.2.1, .int mM.2.2.2.2.2, .ref zar, .ref zbe, .ref zst, .ref zah, .ref zgd])), (zar, .inl (cJ, 64, .inr (.inl fR))), (zbe, .inl (cJ, 64, .inr (.inl fB))), (zst, .inr (5, [.int sS.1, .int sS.2.1, .int sS.2.2.1, .long sS.2.2.2, .ref zsa])), (zsa, .inl (cI, 64, .inl aS)), (zah, .inr (5, [.int (f_X6_become sA aA sS aS).1.1, .int (f_X6_become sA aA sS aS).1.2.1, .int (f_X6_become sA aA sS aS).1.2.2.1, .long (f_X6_become sA aA sS aS).1.2.2.2, .ref zaa])), (zaa, .inl (cI, 64, .inl (f_X6_become sA aA sS aS).2))]) [0, 1, 2, 5, 6, 3, 4] (by decide) rfl
        clear hPc hDc hFc hP1 hD1 hk1
        refine lv_iload_n hx hb dX7_foresee_56 rfl (lv_at hl 1 rfl) ?_
        obtain ⟨r1, hr1, hf⟩ := obind hf
        have hPc := hP.sub (ws' := [(zmo, .inr (6, [.int 0, .int mM.2.1, .int mM.2.2.1, .int (bI mM.2.2.2.1), .int mM.2.2.2.2.1, .int mM.2.2.2.2.2, .ref zar, .ref zbe, .ref zst, .ref zah, .ref zgd])), (zar, .inl (cJ, 64, .inr (.inl fR))), (zah, .inr (5, [.int (f_X6_become sA aA sS aS).1.1, .int (f_X6_become sA aA sS aS).1.2.1, .int (f_X6_become sA aA sS aS).1.2.2.1, .long (f_X6_become sA aA sS aS).1.2.2.2, .ref zaa])), (zaa, .inl (cI, 64, .inl (f_X6_become sA aA sS aS).2))]) [0, 1, 5, 6] rfl
        have hDc := hD.sub (ws' := [(zmo, .inr (6, [.int 0, .int mM.2.1, .int mM.2.2.1, .int (bI mM.2.2.2.1), .int mM.2.2.2.2.1, .int mM.2.2.2.2.2, .ref zar, .ref zbe, .ref zst, .ref zah, .ref zgd])), (zar, .inl (cJ, 64, .inr (.inl fR))), (zah, .inr (5, [.int (f_X6_become sA aA sS aS).1.1, .int (f_X6_become sA aA sS aS).1.2.1, .int (f_X6_become sA aA sS aS).1.2.2.1, .long (f_X6_become sA aA sS aS).1.2.2.2, .ref zaa])), (zaa, .inl (cI, 64, .inl (f_X6_become sA aA sS aS).2))]) [0, 1, 5, 6] (by decide) rfl
        have hFc := va_free (wc := [(zmo, .inr (6, [.int 0, .int mM.2.1, .int mM.2.2.1, .int (bI mM.2.2.2.1), .int mM.2.2.2.2.1, .int mM.2.2.2.2.2, .ref zar, .ref zbe, .ref zst, .ref zah, .ref zgd])), (zar, .inl (cJ, 64, .inr (.inl fR))), (zah, .inr (5, [.int (f_X6_become sA aA sS aS).1.1, .int (f_X6_become sA aA sS aS).1.2.1, .int (f_X6_become sA aA sS aS).1.2.2.1, .long (f_X6_become sA aA sS aS).1.2.2.2, .ref zaa])), (zaa, .inl (cI, 64, .inl (f_X6_become sA aA sS aS).2))]) hD hS hA [0, 1, 5, 6] rfl
        refine va_callr (va_runV (As := [.ref zah, .int yr]) (rest := [.ref zmo]) ⟨hx, hb, hml, hown, hts⟩ (c_X7_pass l dC dI cI cJ zmo zar zah zaa zbe zst zah zgd H.size (0, mM.2.1, mM.2.2.1, mM.2.2.2.1, mM.2.2.2.2.1, mM.2.2.2.2.2) fR ((f_X6_become sA aA sS aS).1) ((f_X6_become sA aA sS aS).2) yr _ hr1) (cwV 2 hts gX7_foresee_X7_pass rfl rfl rfl (by decide +kernel) ⟨Nat.le_of_ble_eq_true rfl, Nat.le_of_ble_eq_true rfl⟩) ⟨fun a U gg mk q => by obtain ⟨q0, q1, qP, qK, qD, qn⟩ := q; exact ⟨q0, q1, qP, va_K.moved (u := U) (U := U.calling gg mk a) (Vm.Alike.refl U.vm) qK, qD, nwM.same (u := U) (U := U.calling gg mk a) rfl qn⟩, va_recv hK hPc (ci := 6) (q0 := 0) rfl rfl, fun U hU hW => ⟨rfl, by rw [hU], by rw [hU]; exact hPc, va_K.moved hW.alike hK, hDc.weaken (fun _ _ _ _ => trivial), nwM.moved hW hnw⟩⟩ rfl rfl hl.1 rfl (lv_room (Nat.le_of_ble_eq_true rfl)) dX7_foresee_57 ⟨Nat.zero_le _, Nat.zero_le _⟩) hS (fun q _ h => hFc q h) hFc (fun u_ ra_ t H locs ht hvm hw hB hz1 hk1 hS => ?_)
        obtain ⟨hra, hP1, -, hD1⟩ := hB
        obtain rfl := hra.symm
        rw [ht] at hP1
        obtain ⟨hP, hD⟩ := va_join (wr := [(zbe, .inl (cJ, 64, .inr (.inl fB))), (zst, .inr (5, [.int sS.1, .int sS.2.1, .int sS.2.2.1, .long sS.2.2.2, .ref zsa])), (zsa, .inl (cI, 64, .inl aS))]) (w1 := [(zmo, .inr (6, [.int 0, .int mM.2.1, .int mM.2.2.1, .int (bI mM.2.2.2.1), .int mM.2.2.2.2.1, .int mM.2.2.2.2.2, .ref zar, .ref zbe, .ref zst, .ref zah, .ref zgd])), (zar, .inl (cJ, 64, .inr (.inl fR))), (zah, .inr (5, [.int r1.1.1, .int r1.1.2.1, .int r1.1.2.2.1, .long r1.1.2.2.2, .ref zaa])), (zaa, .inl (cI, 64, .inl r1.2))]) hP hD [0, 1, 5, 6] [2, 3, 4] rfl rfl (by decide) (by decide) hk1 hFc hP1 hD1
        have hP := hP.sub (ws' := [(zmo, .inr (6, [.int 0, .int mM.2.1, .int mM.2.2.1, .int (bI mM.2.2.2.1), .int mM.2.2.2.2.1, .int mM.2.2.2.2.2, .ref zar, .ref zbe, .ref zst, .ref zah, .ref zgd])), (zar, .inl (cJ, 64, .inr (.inl fR))), (zbe, .inl (cJ, 64, .inr (.inl fB))), (zst, .inr (5, [.int sS.1, .int sS.2.1, .int sS.2.2.1, .long sS.2.2.2, .ref zsa])), (zsa, .inl (cI, 64, .inl aS)), (zah, .inr (5, [.int r1.1.1, .int r1.1.2.1, .int r1.1.2.2.1, .long r1.1.2.2.2, .ref zaa])), (zaa, .inl (cI, 64, .inl r1.2))]) [3, 4, 0, 1, 2, 5, 6] rfl
        have hD := hD.sub (ws' := [(zmo, .inr (6, [.int 0, .int mM.2.1, .int mM.2.2.1, .int (bI mM.2.2.2.1), .int mM.2.2.2.2.1, .int mM.2.2.2.2.2, .ref zar, .ref zbe, .ref zst, .ref zah, .ref zgd])), (zar, .inl (cJ, 64, .inr (.inl fR))), (zbe, .inl (cJ, 64, .inr (.inl fB))), (zst, .inr (5, [.int sS.1, .int sS.2.1, .int sS.2.2.1, .long sS.2.2.2, .ref zsa])), (zsa, .inl (cI, 64, .inl aS)), (zah, .inr (5, [.int r1.1.1, .int r1.1.2.1, .int r1.1.2.2.1, .long r1.1.2.2.2, .ref zaa])), (zaa, .inl (cI, 64, .inl r1.2))]) [3, 4, 0, 1, 2, 5, 6] (by decide) rfl
        clear hPc hDc hFc hP1 hD1 hk1
        refine lv_iload_n hx hb dX7_foresee_60 rfl (lv_at hl 2 rfl) ?_
        obtain ⟨r2, hr2, hf⟩ := obind hf
        have hPc := hP.sub (ws' := [(zmo, .inr (6, [.int 0, .int mM.2.1, .int mM.2.2.1, .int (bI mM.2.2.2.1), .int mM.2.2.2.2.1, .int mM.2.2.2.2.2, .ref zar, .ref zbe, .ref zst, .ref zah, .ref zgd])), (zar, .inl (cJ, 64, .inr (.inl fR))), (zbe, .inl (cJ, 64, .inr (.inl fB))), (zah, .inr (5, [.int r1.1.1, .int r1.1.2.1, .int r1.1.2.2.1, .long r1.1.2.2.2, .ref zaa])), (zaa, .inl (cI, 64, .inl r1.2))]) [0, 1, 2, 5, 6] rfl
        have hDc := hD.sub (ws' := [(zmo, .inr (6, [.int 0, .int mM.2.1, .int mM.2.2.1, .int (bI mM.2.2.2.1), .int mM.2.2.2.2.1, .int mM.2.2.2.2.2, .ref zar, .ref zbe, .ref zst, .ref zah, .ref zgd])), (zar, .inl (cJ, 64, .inr (.inl fR))), (zbe, .inl (cJ, 64, .inr (.inl fB))), (zah, .inr (5, [.int r1.1.1, .int r1.1.2.1, .int r1.1.2.2.1, .long r1.1.2.2.2, .ref zaa])), (zaa, .inl (cI, 64, .inl r1.2))]) [0, 1, 2, 5, 6] (by decide) rfl
        have hFc := va_free (wc := [(zmo, .inr (6, [.int 0, .int mM.2.1, .int mM.2.2.1, .int (bI mM.2.2.2.1), .int mM.2.2.2.2.1, .int mM.2.2.2.2.2, .ref zar, .ref zbe, .ref zst, .ref zah, .ref zgd])), (zar, .inl (cJ, 64, .inr (.inl fR))), (zbe, .inl (cJ, 64, .inr (.inl fB))), (zah, .inr (5, [.int r1.1.1, .int r1.1.2.1, .int r1.1.2.2.1, .long r1.1.2.2.2, .ref zaa])), (zaa, .inl (cI, 64, .inl r1.2))]) hD hS hA [0, 1, 2, 5, 6] rfl
        refine va_calli (va_runV (As := [.ref zah, .int wh]) (rest := []) ⟨hx, hb, hml, hown, hts⟩ (c_X7_counted l dC dI cI cJ zmo zar zbe zah zaa zst zah zgd H.size (0, mM.2.1, mM.2.2.1, mM.2.2.2.1, mM.2.2.2.2.1, mM.2.2.2.2.2) fR fB r1.1 r1.2 wh _ hr2) (cwV 2 hts gX7_foresee_X7_counted rfl rfl rfl (by decide +kernel) ⟨Nat.le_of_ble_eq_true rfl, Nat.le_of_ble_eq_true rfl⟩) ⟨fun a U gg mk q => by obtain ⟨q0, q1, qP, qK, qD, qn⟩ := q; exact ⟨q0, q1, qP, va_K.moved (u := U) (U := U.calling gg mk a) (Vm.Alike.refl U.vm) qK, qD, nwM.same (u := U) (U := U.calling gg mk a) rfl qn⟩, va_recv hK hPc (ci := 6) (q0 := 0) rfl rfl, fun U hU hW => ⟨rfl, by rw [hU], by rw [hU]; exact hPc, va_K.moved hW.alike hK, hDc.weaken (fun _ _ _ _ => trivial), nwM.moved hW hnw⟩⟩ rfl rfl hl.1 rfl (lv_room (Nat.le_of_ble_eq_true rfl)) dX7_foresee_61 ⟨Nat.zero_le _, Nat.zero_le _⟩) hS (fun q _ h => hFc q h) hFc (fun r_ u_ t H locs ht hvm hw hB hz1 hk1 hS => ?_)
        obtain rfl := hw.symm
        obtain ⟨hP1, -, hD1⟩ := hB
        rw [ht] at hP1
        obtain ⟨hP, hD⟩ := va_join (wr := [(zst, .inr (5, [.int sS.1, .int sS.2.1, .int sS.2.2.1, .long sS.2.2.2, .ref zsa])), (zsa, .inl (cI, 64, .inl aS))]) (w1 := [(zmo, .inr (6, [.int 0, .int mM.2.1, .int mM.2.2.1, .int (bI mM.2.2.2.1), .int mM.2.2.2.2.1, .int mM.2.2.2.2.2, .ref zar, .ref zbe, .ref zst, .ref zah, .ref zgd])), (zar, .inl (cJ, 64, .inr (.inl fR))), (zbe, .inl (cJ, 64, .inr (.inl fB))), (zah, .inr (5, [.int r1.1.1, .int r1.1.2.1, .int r1.1.2.2.1, .long r1.1.2.2.2, .ref zaa])), (zaa, .inl (cI, 64, .inl r1.2))]) hP hD [0, 1, 2, 5, 6] [3, 4] rfl rfl (by decide) (by decide) hk1 hFc hP1 hD1
        have hP := hP.sub (ws' := [(zmo, .inr (6, [.int 0, .int mM.2.1, .int mM.2.2.1, .int (bI mM.2.2.2.1), .int mM.2.2.2.2.1, .int mM.2.2.2.2.2, .ref zar, .ref zbe, .ref zst, .ref zah, .ref zgd])), (zar, .inl (cJ, 64, .inr (.inl fR))), (zbe, .inl (cJ, 64, .inr (.inl fB))), (zst, .inr (5, [.int sS.1, .int sS.2.1, .int sS.2.2.1, .long sS.2.2.2, .ref zsa])), (zsa, .inl (cI, 64, .inl aS)), (zah, .inr (5, [.int r1.1.1, .int r1.1.2.1, .int r1.1.2.2.1, .long r1.1.2.2.2, .ref zaa])), (zaa, .inl (cI, 64, .inl r1.2))]) [2, 3, 4, 0, 1, 5, 6] rfl
        have hD := hD.sub (ws' := [(zmo, .inr (6, [.int 0, .int mM.2.1, .int mM.2.2.1, .int (bI mM.2.2.2.1), .int mM.2.2.2.2.1, .int mM.2.2.2.2.2, .ref zar, .ref zbe, .ref zst, .ref zah, .ref zgd])), (zar, .inl (cJ, 64, .inr (.inl fR))), (zbe, .inl (cJ, 64, .inr (.inl fB))), (zst, .inr (5, [.int sS.1, .int sS.2.1, .int sS.2.2.1, .long sS.2.2.2, .ref zsa])), (zsa, .inl (cI, 64, .inl aS)), (zah, .inr (5, [.int r1.1.1, .int r1.1.2.1, .int r1.1.2.2.1, .long r1.1.2.2.2, .ref zaa])), (zaa, .inl (cI, 64, .inl r1.2))]) [2, 3, 4, 0, 1, 5, 6] (by decide) rfl
        clear hPc hDc hFc hP1 hD1 hk1
        obtain rfl := Option.some.inj hf
        exact W.iret (v := r2) hx hb hr (fun t ht hW => ⟨⟨r2, (), rfl, rfl, by rw [ht]; exact hP, va_K.moved hW.alike hK, hD⟩, hS.F ht⟩) hS.2.2 dX7_foresee_64
      · rw [if_pos hc] at hf
        refine lv_aload_n hx hb dX7_foresee_37 rfl (lv_at hl 0 rfl) ?_
        refine lv_iconst (v := 2) hx hb dX7_foresee_38 (by decide) ?_
        have hPc := hP.sub (ws' := [(zmo, .inr (6, [.int 0, .int mM.2.1, .int mM.2.2.1, .int (bI mM.2.2.2.1), .int mM.2.2.2.2.1, .int mM.2.2.2.2.2, .ref zar, .ref zbe, .ref zst, .ref zah, .ref zgd]))]) [0] rfl
        have hDc := hD.sub (ws' := [(zmo, .inr (6, [.int 0, .int mM.2.1, .int mM.2.2.1, .int (bI mM.2.2.2.1), .int mM.2.2.2.2.1, .int mM.2.2.2.2.2, .ref zar, .ref zbe, .ref zst, .ref zah, .ref zgd]))]) [0] (by decide) rfl
        have hFc := va_free (wc := [(zmo, .inr (6, [.int 0, .int mM.2.1, .int mM.2.2.1, .int (bI mM.2.2.2.1), .int mM.2.2.2.2.1, .int mM.2.2.2.2.2, .ref zar, .ref zbe, .ref zst, .ref zah, .ref zgd]))]) hD hS hA [0] rfl
        refine va_calli (va_runV (As := [.int 2]) (rest := []) ⟨hx, hb, hml, hown, hts⟩ (c_X7_no l dC dI cI cJ zmo zar zbe zst zah zgd H.size (0, mM.2.1, mM.2.2.1, mM.2.2.2.1, mM.2.2.2.2.1, mM.2.2.2.2.2) 2) (cwV 1 hts gX7_foresee_X7_no rfl rfl rfl (by decide +kernel) ⟨Nat.le_of_ble_eq_true rfl, Nat.le_of_ble_eq_true rfl⟩) ⟨fun a U gg mk q => by obtain ⟨q0, q1, qP, qK, qD⟩ := q; exact ⟨q0, q1, qP, va_K.moved (u := U) (U := U.calling gg mk a) (Vm.Alike.refl U.vm) qK, qD⟩, va_recv hK hPc (ci := 6) (q0 := 0) rfl rfl, fun U hU hW => ⟨rfl, by rw [hU], by rw [hU]; exact hPc, va_K.moved hW.alike hK, hDc.weaken (fun _ _ _ _ => trivial)⟩⟩ rfl rfl hl.1 rfl (lv_room (Nat.le_of_ble_eq_true rfl)) dX7_foresee_39 ⟨Nat.zero_le _, Nat.zero_le _⟩) hS (fun q _ h => hFc q h) hFc (fun r_ u_ t H locs ht hvm hw hB hz1 hk1 hS => ?_)
        obtain rfl := hw.symm
        obtain ⟨hP1, -, hD1⟩ := hB
        rw [ht] at hP1
        obtain ⟨hP, hD⟩ := va_join (wr := [(zar, .inl (cJ, 64, .inr (.inl fR))), (zbe, .inl (cJ, 64, .inr (.inl fB))), (zst, .inr (5, [.int sS.1, .int sS.2.1, .int sS.2.2.1, .long sS.2.2.2, .ref zsa])), (zsa, .inl (cI, 64, .inl aS)), (zah, .inr (5, [.int sA.1, .int sA.2.1, .int sA.2.2.1, .long sA.2.2.2, .ref zaa])), (zaa, .inl (cI, 64, .inl aA))]) (w1 := [(zmo, .inr (6, [.int (f_X7_no (0, mM.2.1, mM.2.2.1, mM.2.2.2.1, mM.2.2.2.2.1, mM.2.2.2.2.2) 2).2.1, .int (f_X7_no (0, mM.2.1, mM.2.2.1, mM.2.2.2.1, mM.2.2.2.2.1, mM.2.2.2.2.2) 2).2.2.1, .int (f_X7_no (0, mM.2.1, mM.2.2.1, mM.2.2.2.1, mM.2.2.2.2.1, mM.2.2.2.2.2) 2).2.2.2.1, .int (bI (f_X7_no (0, mM.2.1, mM.2.2.1, mM.2.2.2.1, mM.2.2.2.2.1, mM.2.2.2.2.2) 2).2.2.2.2.1), .int (f_X7_no (0, mM.2.1, mM.2.2.1, mM.2.2.2.1, mM.2.2.2.2.1, mM.2.2.2.2.2) 2).2.2.2.2.2.1, .int (f_X7_no (0, mM.2.1, mM.2.2.1, mM.2.2.2.1, mM.2.2.2.2.1, mM.2.2.2.2.2) 2).2.2.2.2.2.2, .ref zar, .ref zbe, .ref zst, .ref zah, .ref zgd]))]) hP hD [0] [1, 2, 3, 4, 5, 6] rfl rfl (by decide) (by decide) hk1 hFc hP1 hD1
        have hP := hP.sub (ws' := [(zmo, .inr (6, [.int (f_X7_no (0, mM.2.1, mM.2.2.1, mM.2.2.2.1, mM.2.2.2.2.1, mM.2.2.2.2.2) 2).2.1, .int (f_X7_no (0, mM.2.1, mM.2.2.1, mM.2.2.2.1, mM.2.2.2.2.1, mM.2.2.2.2.2) 2).2.2.1, .int (f_X7_no (0, mM.2.1, mM.2.2.1, mM.2.2.2.1, mM.2.2.2.2.1, mM.2.2.2.2.2) 2).2.2.2.1, .int (bI (f_X7_no (0, mM.2.1, mM.2.2.1, mM.2.2.2.1, mM.2.2.2.2.1, mM.2.2.2.2.2) 2).2.2.2.2.1), .int (f_X7_no (0, mM.2.1, mM.2.2.1, mM.2.2.2.1, mM.2.2.2.2.1, mM.2.2.2.2.2) 2).2.2.2.2.2.1, .int (f_X7_no (0, mM.2.1, mM.2.2.1, mM.2.2.2.1, mM.2.2.2.2.1, mM.2.2.2.2.2) 2).2.2.2.2.2.2, .ref zar, .ref zbe, .ref zst, .ref zah, .ref zgd])), (zar, .inl (cJ, 64, .inr (.inl fR))), (zbe, .inl (cJ, 64, .inr (.inl fB))), (zst, .inr (5, [.int sS.1, .int sS.2.1, .int sS.2.2.1, .long sS.2.2.2, .ref zsa])), (zsa, .inl (cI, 64, .inl aS)), (zah, .inr (5, [.int sA.1, .int sA.2.1, .int sA.2.2.1, .long sA.2.2.2, .ref zaa])), (zaa, .inl (cI, 64, .inl aA))]) [6, 0, 1, 2, 3, 4, 5] rfl
        have hD := hD.sub (ws' := [(zmo, .inr (6, [.int (f_X7_no (0, mM.2.1, mM.2.2.1, mM.2.2.2.1, mM.2.2.2.2.1, mM.2.2.2.2.2) 2).2.1, .int (f_X7_no (0, mM.2.1, mM.2.2.1, mM.2.2.2.1, mM.2.2.2.2.1, mM.2.2.2.2.2) 2).2.2.1, .int (f_X7_no (0, mM.2.1, mM.2.2.1, mM.2.2.2.1, mM.2.2.2.2.1, mM.2.2.2.2.2) 2).2.2.2.1, .int (bI (f_X7_no (0, mM.2.1, mM.2.2.1, mM.2.2.2.1, mM.2.2.2.2.1, mM.2.2.2.2.2) 2).2.2.2.2.1), .int (f_X7_no (0, mM.2.1, mM.2.2.1, mM.2.2.2.1, mM.2.2.2.2.1, mM.2.2.2.2.2) 2).2.2.2.2.2.1, .int (f_X7_no (0, mM.2.1, mM.2.2.1, mM.2.2.2.1, mM.2.2.2.2.1, mM.2.2.2.2.2) 2).2.2.2.2.2.2, .ref zar, .ref zbe, .ref zst, .ref zah, .ref zgd])), (zar, .inl (cJ, 64, .inr (.inl fR))), (zbe, .inl (cJ, 64, .inr (.inl fB))), (zst, .inr (5, [.int sS.1, .int sS.2.1, .int sS.2.2.1, .long sS.2.2.2, .ref zsa])), (zsa, .inl (cI, 64, .inl aS)), (zah, .inr (5, [.int sA.1, .int sA.2.1, .int sA.2.2.1, .long sA.2.2.2, .ref zaa])), (zaa, .inl (cI, 64, .inl aA))]) [6, 0, 1, 2, 3, 4, 5] (by decide) rfl
        clear hPc hDc hFc hP1 hD1 hk1
        obtain rfl := Option.some.inj hf
        exact W.iret (v := (f_X7_no (0, mM.2.1, mM.2.2.1, mM.2.2.2.1, mM.2.2.2.2.1, mM.2.2.2.2.2) 2).1) hx hb hr (fun t ht hW => ⟨⟨(f_X7_no (0, mM.2.1, mM.2.2.1, mM.2.2.2.1, mM.2.2.2.2.1, mM.2.2.2.2.2) 2).1, (), rfl, rfl, by rw [ht]; exact hP, va_K.moved hW.alike hK, hD⟩, hS.F ht⟩) hS.2.2 dX7_foresee_42
  · rw [if_pos hc] at hf
    refine lv_aload_n hx hb dX7_foresee_15 rfl (lv_at hl 0 rfl) ?_
    refine lv_iconst (v := 1) hx hb dX7_foresee_16 (by decide) ?_
    have hPc := hP.sub (ws' := [(zmo, .inr (6, [.int 0, .int mM.2.1, .int mM.2.2.1, .int (bI mM.2.2.2.1), .int mM.2.2.2.2.1, .int mM.2.2.2.2.2, .ref zar, .ref zbe, .ref zst, .ref zah, .ref zgd]))]) [0] rfl
    have hDc := hD.sub (ws' := [(zmo, .inr (6, [.int 0, .int mM.2.1, .int mM.2.2.1, .int (bI mM.2.2.2.1), .int mM.2.2.2.2.1, .int mM.2.2.2.2.2, .ref zar, .ref zbe, .ref zst, .ref zah, .ref zgd]))]) [0] (by decide) rfl
    have hFc := va_free (wc := [(zmo, .inr (6, [.int 0, .int mM.2.1, .int mM.2.2.1, .int (bI mM.2.2.2.1), .int mM.2.2.2.2.1, .int mM.2.2.2.2.2, .ref zar, .ref zbe, .ref zst, .ref zah, .ref zgd]))]) hD hS hA [0] rfl
    refine va_calli (va_runV (As := [.int 1]) (rest := []) ⟨hx, hb, hml, hown, hts⟩ (c_X7_no l dC dI cI cJ zmo zar zbe zst zah zgd H.size (0, mM.2.1, mM.2.2.1, mM.2.2.2.1, mM.2.2.2.2.1, mM.2.2.2.2.2) 1) (cwV 1 hts gX7_foresee_X7_no rfl rfl rfl (by decide +kernel) ⟨Nat.le_of_ble_eq_true rfl, Nat.le_of_ble_eq_true rfl⟩) ⟨fun a U gg mk q => by obtain ⟨q0, q1, qP, qK, qD⟩ := q; exact ⟨q0, q1, qP, va_K.moved (u := U) (U := U.calling gg mk a) (Vm.Alike.refl U.vm) qK, qD⟩, va_recv hK hPc (ci := 6) (q0 := 0) rfl rfl, fun U hU hW => ⟨rfl, by rw [hU], by rw [hU]; exact hPc, va_K.moved hW.alike hK, hDc.weaken (fun _ _ _ _ => trivial)⟩⟩ rfl rfl hl.1 rfl (lv_room (Nat.le_of_ble_eq_true rfl)) dX7_foresee_17 ⟨Nat.zero_le _, Nat.zero_le _⟩) hS (fun q _ h => hFc q h) hFc (fun r_ u_ t H locs ht hvm hw hB hz1 hk1 hS => ?_)
    obtain rfl := hw.symm
    obtain ⟨hP1, -, hD1⟩ := hB
    rw [ht] at hP1
    obtain ⟨hP, hD⟩ := va_join (wr := [(zar, .inl (cJ, 64, .inr (.inl fR))), (zbe, .inl (cJ, 64, .inr (.inl fB))), (zst, .inr (5, [.int sS.1, .int sS.2.1, .int sS.2.2.1, .long sS.2.2.2, .ref zsa])), (zsa, .inl (cI, 64, .inl aS)), (zah, .inr (5, [.int sA.1, .int sA.2.1, .int sA.2.2.1, .long sA.2.2.2, .ref zaa])), (zaa, .inl (cI, 64, .inl aA))]) (w1 := [(zmo, .inr (6, [.int (f_X7_no (0, mM.2.1, mM.2.2.1, mM.2.2.2.1, mM.2.2.2.2.1, mM.2.2.2.2.2) 1).2.1, .int (f_X7_no (0, mM.2.1, mM.2.2.1, mM.2.2.2.1, mM.2.2.2.2.1, mM.2.2.2.2.2) 1).2.2.1, .int (f_X7_no (0, mM.2.1, mM.2.2.1, mM.2.2.2.1, mM.2.2.2.2.1, mM.2.2.2.2.2) 1).2.2.2.1, .int (bI (f_X7_no (0, mM.2.1, mM.2.2.1, mM.2.2.2.1, mM.2.2.2.2.1, mM.2.2.2.2.2) 1).2.2.2.2.1), .int (f_X7_no (0, mM.2.1, mM.2.2.1, mM.2.2.2.1, mM.2.2.2.2.1, mM.2.2.2.2.2) 1).2.2.2.2.2.1, .int (f_X7_no (0, mM.2.1, mM.2.2.1, mM.2.2.2.1, mM.2.2.2.2.1, mM.2.2.2.2.2) 1).2.2.2.2.2.2, .ref zar, .ref zbe, .ref zst, .ref zah, .ref zgd]))]) hP hD [0] [1, 2, 3, 4, 5, 6] rfl rfl (by decide) (by decide) hk1 hFc hP1 hD1
    have hP := hP.sub (ws' := [(zmo, .inr (6, [.int (f_X7_no (0, mM.2.1, mM.2.2.1, mM.2.2.2.1, mM.2.2.2.2.1, mM.2.2.2.2.2) 1).2.1, .int (f_X7_no (0, mM.2.1, mM.2.2.1, mM.2.2.2.1, mM.2.2.2.2.1, mM.2.2.2.2.2) 1).2.2.1, .int (f_X7_no (0, mM.2.1, mM.2.2.1, mM.2.2.2.1, mM.2.2.2.2.1, mM.2.2.2.2.2) 1).2.2.2.1, .int (bI (f_X7_no (0, mM.2.1, mM.2.2.1, mM.2.2.2.1, mM.2.2.2.2.1, mM.2.2.2.2.2) 1).2.2.2.2.1), .int (f_X7_no (0, mM.2.1, mM.2.2.1, mM.2.2.2.1, mM.2.2.2.2.1, mM.2.2.2.2.2) 1).2.2.2.2.2.1, .int (f_X7_no (0, mM.2.1, mM.2.2.1, mM.2.2.2.1, mM.2.2.2.2.1, mM.2.2.2.2.2) 1).2.2.2.2.2.2, .ref zar, .ref zbe, .ref zst, .ref zah, .ref zgd])), (zar, .inl (cJ, 64, .inr (.inl fR))), (zbe, .inl (cJ, 64, .inr (.inl fB))), (zst, .inr (5, [.int sS.1, .int sS.2.1, .int sS.2.2.1, .long sS.2.2.2, .ref zsa])), (zsa, .inl (cI, 64, .inl aS)), (zah, .inr (5, [.int sA.1, .int sA.2.1, .int sA.2.2.1, .long sA.2.2.2, .ref zaa])), (zaa, .inl (cI, 64, .inl aA))]) [6, 0, 1, 2, 3, 4, 5] rfl
    have hD := hD.sub (ws' := [(zmo, .inr (6, [.int (f_X7_no (0, mM.2.1, mM.2.2.1, mM.2.2.2.1, mM.2.2.2.2.1, mM.2.2.2.2.2) 1).2.1, .int (f_X7_no (0, mM.2.1, mM.2.2.1, mM.2.2.2.1, mM.2.2.2.2.1, mM.2.2.2.2.2) 1).2.2.1, .int (f_X7_no (0, mM.2.1, mM.2.2.1, mM.2.2.2.1, mM.2.2.2.2.1, mM.2.2.2.2.2) 1).2.2.2.1, .int (bI (f_X7_no (0, mM.2.1, mM.2.2.1, mM.2.2.2.1, mM.2.2.2.2.1, mM.2.2.2.2.2) 1).2.2.2.2.1), .int (f_X7_no (0, mM.2.1, mM.2.2.1, mM.2.2.2.1, mM.2.2.2.2.1, mM.2.2.2.2.2) 1).2.2.2.2.2.1, .int (f_X7_no (0, mM.2.1, mM.2.2.1, mM.2.2.2.1, mM.2.2.2.2.1, mM.2.2.2.2.2) 1).2.2.2.2.2.2, .ref zar, .ref zbe, .ref zst, .ref zah, .ref zgd])), (zar, .inl (cJ, 64, .inr (.inl fR))), (zbe, .inl (cJ, 64, .inr (.inl fB))), (zst, .inr (5, [.int sS.1, .int sS.2.1, .int sS.2.2.1, .long sS.2.2.2, .ref zsa])), (zsa, .inl (cI, 64, .inl aS)), (zah, .inr (5, [.int sA.1, .int sA.2.1, .int sA.2.2.1, .long sA.2.2.2, .ref zaa])), (zaa, .inl (cI, 64, .inl aA))]) [6, 0, 1, 2, 3, 4, 5] (by decide) rfl
    clear hPc hDc hFc hP1 hD1 hk1
    obtain rfl := Option.some.inj hf
    exact W.iret (v := (f_X7_no (0, mM.2.1, mM.2.2.1, mM.2.2.2.1, mM.2.2.2.2.1, mM.2.2.2.2.2) 1).1) hx hb hr (fun t ht hW => ⟨⟨(f_X7_no (0, mM.2.1, mM.2.2.1, mM.2.2.2.1, mM.2.2.2.2.1, mM.2.2.2.2.2) 1).1, (), rfl, rfl, by rw [ht]; exact hP, va_K.moved hW.alike hK, hD⟩, hS.F ht⟩) hS.2.2 dX7_foresee_20
/-! HedgeGlidersModel.hedgesBehind(JI)I -/
def f_X7_hedgesBehind (mM : MoS) (fR : Nat → Int64) (hs : Int64) (yr : Int32) : Option (Int32) := Option.bind (if yr = 1 then (Option.bind (f_X7_next mM fR hs) fun r3 => some r3) else (Option.bind (f_X7_next mM fR hs) fun r1 => Option.bind (f_X7_next mM fR r1) fun r2 => some r2) : Option (Int64)) fun v4 => some (f_J13_bitCount_95d88 v4)
abbrev rm_X7_hedgesBehind : Room := ({ frames := 3, cells := 0, slots := 0, locals := 71 } : Room)
abbrev A_X7_hedgesBehind (cI cJ : ClassId) (zmo zar zbe zst zah zgd : Nat) (mM : MoS) (fR : Nat → Int64) (hs : Int64) (yr : Int32) (sz : Nat) : Nat → Prop := va_A [(zmo, .inr (6, [.int mM.1, .int mM.2.1, .int mM.2.2.1, .int (bI mM.2.2.2.1), .int mM.2.2.2.2.1, .int mM.2.2.2.2.2, .ref zar, .ref zbe, .ref zst, .ref zah, .ref zgd])), (zar, .inl (cJ, 64, .inr (.inl fR)))] sz
abbrev Q_X7_hedgesBehind (dC : Nat → ClassId) (dI : Nat → Nat → Nat) (cI cJ : ClassId) (zmo zar zbe zst zah zgd : Nat) (mM : MoS) (fR : Nat → Int64) (hs : Int64) (yr : Int32) (sz : Nat) (R : Int32) : Array Value → State → Outcome → State → Prop := va_Qi (fun (r : Int32) (_ : Unit) => r = R) (fun u_ t => va_P (dC, dI) vwCl [(zmo, .inr (6, [.int mM.1, .int mM.2.1, .int mM.2.2.1, .int (bI mM.2.2.2.1), .int mM.2.2.2.2.1, .int mM.2.2.2.2.2, .ref zar, .ref zbe, .ref zst, .ref zah, .ref zgd])), (zar, .inl (cJ, 64, .inr (.inl fR)))] t.heap ∧ va_K (dC, dI) vwCl [(cI, .int), (cJ, .long)] t ∧ va_D (A_X7_hedgesBehind cI cJ zmo zar zbe zst zah zgd mM fR hs yr sz) [(zmo, .inr (6, [.int mM.1, .int mM.2.1, .int mM.2.2.1, .int (bI mM.2.2.2.1), .int mM.2.2.2.2.1, .int mM.2.2.2.2.2, .ref zar, .ref zbe, .ref zst, .ref zah, .ref zgd])), (zar, .inl (cJ, 64, .inr (.inl fR)))]) (A_X7_hedgesBehind cI cJ zmo zar zbe zst zah zgd mM fR hs yr sz)
set_option maxHeartbeats 4000000 in
set_option maxRecDepth 100000 in
theorem c_X7_hedgesBehind (l : Launch) (dC : Nat → ClassId) (dI : Nat → Nat → Nat) (cI cJ : ClassId) (zmo zar zbe zst zah zgd : Nat) (sz : Nat) (mM : MoS) (fR : Nat → Int64) (hs : Int64) (yr : Int32) (R : Int32) (hR : f_X7_hedgesBehind mM fR hs yr = some R) : Met l yX7_hedgesBehind wsX7_hedgesBehind rm_X7_hedgesBehind (va_Pc [.ref zmo, .long hs, .int yr] (fun U => U.heap.size = sz ∧ va_P (dC, dI) vwCl [(zmo, .inr (6, [.int mM.1, .int mM.2.1, .int mM.2.2.1, .int (bI mM.2.2.2.1), .int mM.2.2.2.2.1, .int mM.2.2.2.2.2, .ref zar, .ref zbe, .ref zst, .ref zah, .ref zgd])), (zar, .inl (cJ, 64, .inr (.inl fR)))] U.heap ∧ va_K (dC, dI) vwCl [(cI, .int), (cJ, .long)] U ∧ va_D (fun _ => True) [(zmo, .inr (6, [.int mM.1, .int mM.2.1, .int mM.2.2.1, .int (bI mM.2.2.2.1), .int mM.2.2.2.2.1, .int mM.2.2.2.2.2, .ref zar, .ref zbe, .ref zst, .ref zah, .ref zgd])), (zar, .inl (cJ, 64, .inr (.inl fR)))])) (Q_X7_hedgesBehind dC dI cI cJ zmo zar zbe zst zah zgd mM fR hs yr sz R) 0 0 (A_X7_hedgesBehind cI cJ zmo zar zbe zst zah zgd mM fR hs yr sz) := by
  have hf := hR
  refine Met.ofW (cc := cX7_hedgesBehind) (maxL := 4) (ret := (some .int)) (by decide) rfl ?_
  intro p e s m args below meth c s₁ B hml hv
  obtain ⟨hargs, hsz, hP, hK, hD0⟩ := hv
  have hx := B.exec
  have hb := B.bytes
  have hr := B.returns
  have hts := atoms_spec (ws := wsX7_hedgesBehind) B.pre
  have hown : s.vm.findClass RX7 = some m.cls := findClass_of_methodNamed B.named
  have hlocks := B.notSynchronized
  subst hsz
  have hD : va_D (A_X7_hedgesBehind cI cJ zmo zar zbe zst zah zgd mM fR hs yr s.heap.size) [(zmo, .inr (6, [.int mM.1, .int mM.2.1, .int mM.2.2.1, .int (bI mM.2.2.2.1), .int mM.2.2.2.2.1, .int mM.2.2.2.2.2, .ref zar, .ref zbe, .ref zst, .ref zah, .ref zgd])), (zar, .inl (cJ, 64, .inr (.inl fR)))] := hD0.self (sz := s.heap.size)
  have hA : ∀ q : Nat, s.heap.size ≤ q → (A_X7_hedgesBehind cI cJ zmo zar zbe zst zah zgd mM fR hs yr s.heap.size) q := fun q h => Or.inr h
  have hS : va_S (A_X7_hedgesBehind cI cJ zmo zar zbe zst zah zgd mM fR hs yr s.heap.size) s.heap s.heap [] := va_S.rf
  have hl := lv_entry ([.ref zmo, .long hs, .int yr]) (n := 4) (Nat.le_of_ble_eq_true rfl)
  have he0 : entryFrame m args 4 = entryFrame m ([.ref zmo, .long hs, .int yr] : List Value).toArray 4 := by rw [hargs]
  rw [he0, lg_entry_eq]
  generalize (lg_sl ([.ref zmo, .long hs, .int yr]) ++ List.replicate (4 - (lg_sl ([.ref zmo, .long hs, .int yr])).length) Slot.unset).toArray = ls at hl ⊢
  have hl : lv_has ls 4 [(0, .ref zmo), (1, .long hs), (3, .int yr)] := hl
  rw [f_X7_hedgesBehind] at hf
  refine lv_iload_n hx hb dX7_hedgesBehind_0 rfl (lv_at hl 2 rfl) ?_
  refine lv_iconst (v := 1) hx hb dX7_hedgesBehind_1 (by decide) ?_
  obtain ⟨v4, hv, hf⟩ := obind hf
  have K5 : ∀ (H : Heap) (locs : List Loc) (ls : Array Slot), va_P (dC, dI) vwCl [(zmo, .inr (6, [.int mM.1, .int mM.2.1, .int mM.2.2.1, .int (bI mM.2.2.2.1), .int mM.2.2.2.2.1, .int mM.2.2.2.2.2, .ref zar, .ref zbe, .ref zst, .ref zah, .ref zgd])), (zar, .inl (cJ, 64, .inr (.inl fR)))] H → va_D (A_X7_hedgesBehind cI cJ zmo zar zbe zst zah zgd mM fR hs yr s.heap.size) [(zmo, .inr (6, [.int mM.1, .int mM.2.1, .int mM.2.2.1, .int (bI mM.2.2.2.1), .int mM.2.2.2.2.1, .int mM.2.2.2.2.2, .ref zar, .ref zbe, .ref zst, .ref zah, .ref zgd])), (zar, .inl (cJ, 64, .inr (.inl fR)))] → va_S (A_X7_hedgesBehind cI cJ zmo zar zbe zst zah zgd mM fR hs yr s.heap.size) s.heap H locs → lv_has ls 4 [] → W p l e rm_X7_hedgesBehind s m args below meth c H locs 0 0 (MQ below (Q_X7_hedgesBehind dC dI cI cJ zmo zar zbe zst zah zgd mM fR hs yr s.heap.size R) args s 0 0 (A_X7_hedgesBehind cI cJ zmo zar zbe zst zah zgd mM fR hs yr s.heap.size)) (F0 m 22 ls [.long v4]) := by
    intro H locs ls hP hD hS hl
    have hPc := hP.sub (ws' := []) [] rfl
    have hDc := hD.sub (ws' := []) [] (by decide) rfl
    have hFc := va_free (wc := []) hD hS hA [] rfl
    refine va_calli (va_runS (As := [.long v4]) (rest := []) ⟨hx, hb, hml, hown, hts⟩ (c_J13_bitCount_95d88 l dC dI cI cJ  H.size v4) (va_cwS 1 hts gX7_hedgesBehind_J13_bitCount_95d88 rfl rfl rfl (by decide +kernel) ⟨Nat.le_of_ble_eq_true rfl, Nat.le_of_ble_eq_true rfl⟩) ⟨fun a U gg mk q => by obtain ⟨q0, q1, qP, qK, qD⟩ := q; exact ⟨q0, q1, qP, va_K.moved (u := U) (U := U.calling gg mk a) (Vm.Alike.refl U.vm) qK, qD⟩, fun U hU hW => ⟨rfl, by rw [hU], by rw [hU]; exact hPc, va_K.moved hW.alike hK, hDc.weaken (fun _ _ _ _ => trivial)⟩⟩ rfl rfl hl.1 rfl (lv_room (Nat.le_of_ble_eq_true rfl)) dX7_hedgesBehind_22 ⟨Nat.zero_le _, Nat.zero_le _⟩) hS (fun q _ h => hFc q h) hFc (fun r_ u_ t H locs ht hvm hw hB hz1 hk1 hS => ?_)
    obtain rfl := hw.symm
    obtain ⟨hP1, -, hD1⟩ := hB
    rw [ht] at hP1
    obtain ⟨hP, hD⟩ := va_join (wr := [(zmo, .inr (6, [.int mM.1, .int mM.2.1, .int mM.2.2.1, .int (bI mM.2.2.2.1), .int mM.2.2.2.2.1, .int mM.2.2.2.2.2, .ref zar, .ref zbe, .ref zst, .ref zah, .ref zgd])), (zar, .inl (cJ, 64, .inr (.inl fR)))]) (w1 := []) hP hD [] [0, 1] rfl rfl (by decide) (by decide) hk1 hFc hP1 hD1
    have hP := hP.sub (ws' := [(zmo, .inr (6, [.int mM.1, .int mM.2.1, .int mM.2.2.1, .int (bI mM.2.2.2.1), .int mM.2.2.2.2.1, .int mM.2.2.2.2.2, .ref zar, .ref zbe, .ref zst, .ref zah, .ref zgd])), (zar, .inl (cJ, 64, .inr (.inl fR)))]) [0, 1] rfl
    have hD := hD.sub (ws' := [(zmo, .inr (6, [.int mM.1, .int mM.2.1, .int mM.2.2.1, .int (bI mM.2.2.2.1), .int mM.2.2.2.2.1, .int mM.2.2.2.2.2, .ref zar, .ref zbe, .ref zst, .ref zah, .ref zgd])), (zar, .inl (cJ, 64, .inr (.inl fR)))]) [0, 1] (by decide) rfl
    clear hPc hDc hFc hP1 hD1 hk1
    obtain rfl := Option.some.inj hf
    exact W.iret (v := (f_J13_bitCount_95d88 v4)) hx hb hr (fun t ht hW => ⟨⟨(f_J13_bitCount_95d88 v4), (), rfl, rfl, by rw [ht]; exact hP, va_K.moved hW.alike hK, hD⟩, hS.F ht⟩) hS.2.2 dX7_hedgesBehind_25
  clear hf; have hf := hv; clear hv
  refine lv_icmp_ne (tgt := 13) hx hb dX7_hedgesBehind_2 (by decide) (fun hc => ?_) (fun hc => ?_)
  · rw [if_neg hc] at hf
    refine lv_aload_n hx hb dX7_hedgesBehind_13 rfl (lv_at hl 0 rfl) ?_
    refine lv_aload_n hx hb dX7_hedgesBehind_14 rfl (lv_at hl 0 rfl) ?_
    refine lv_lload_n hx hb dX7_hedgesBehind_15 rfl (lv_at hl 1 rfl) ?_
    obtain ⟨r1, hr1, hf⟩ := obind hf
    have hPc := hP.sub (ws' := [(zmo, .inr (6, [.int mM.1, .int mM.2.1, .int mM.2.2.1, .int (bI mM.2.2.2.1), .int mM.2.2.2.2.1, .int mM.2.2.2.2.2, .ref zar, .ref zbe, .ref zst, .ref zah, .ref zgd])), (zar, .inl (cJ, 64, .inr (.inl fR)))]) [0, 1] rfl
    have hDc := hD.sub (ws' := [(zmo, .inr (6, [.int mM.1, .int mM.2.1, .int mM.2.2.1, .int (bI mM.2.2.2.1), .int mM.2.2.2.2.1, .int mM.2.2.2.2.2, .ref zar, .ref zbe, .ref zst, .ref zah, .ref zgd])), (zar, .inl (cJ, 64, .inr (.inl fR)))]) [0, 1] (by decide) rfl
    have hFc := va_free (wc := [(zmo, .inr (6, [.int mM.1, .int mM.2.1, .int mM.2.2.1, .int (bI mM.2.2.2.1), .int mM.2.2.2.2.1, .int mM.2.2.2.2.2, .ref zar, .ref zbe, .ref zst, .ref zah, .ref zgd])), (zar, .inl (cJ, 64, .inr (.inl fR)))]) hD hS hA [0, 1] rfl
    refine va_calll (va_runV (As := [.long hs]) (rest := [.ref zmo]) ⟨hx, hb, hml, hown, hts⟩ (c_X7_next l dC dI cI cJ zmo zar zbe zst zah zgd s.heap.size mM fR hs _ hr1) (cwV 1 hts gX7_hedgesBehind_X7_next rfl rfl rfl (by decide +kernel) ⟨Nat.le_of_ble_eq_true rfl, Nat.le_of_ble_eq_true rfl⟩) ⟨fun a U gg mk q => by obtain ⟨q0, q1, qP, qK, qD⟩ := q; exact ⟨q0, q1, qP, va_K.moved (u := U) (U := U.calling gg mk a) (Vm.Alike.refl U.vm) qK, qD⟩, va_recv hK hPc (ci := 6) (q0 := 0) rfl rfl, fun U hU hW => ⟨rfl, by rw [hU], by rw [hU]; exact hPc, va_K.moved hW.alike hK, hDc.weaken (fun _ _ _ _ => trivial)⟩⟩ rfl rfl hl.1 rfl (lv_room (Nat.le_of_ble_eq_true rfl)) dX7_hedgesBehind_16 ⟨Nat.zero_le _, Nat.zero_le _⟩) hS (fun q _ h => hFc q h) hFc (fun r_ u_ t H locs ht hvm hw hB hz1 hk1 hS => ?_)
    obtain rfl := hw.symm
    obtain ⟨hP1, -, hD1⟩ := hB
    rw [ht] at hP1
    obtain ⟨hP, hD⟩ := va_join (wr := []) (w1 := [(zmo, .inr (6, [.int mM.1, .int mM.2.1, .int mM.2.2.1, .int (bI mM.2.2.2.1), .int mM.2.2.2.2.1, .int mM.2.2.2.2.2, .ref zar, .ref zbe, .ref zst, .ref zah, .ref zgd])), (zar, .inl (cJ, 64, .inr (.inl fR)))]) hP hD [0, 1] [] rfl rfl (by decide) (by decide) hk1 hFc hP1 hD1
    have hP := hP.sub (ws' := [(zmo, .inr (6, [.int mM.1, .int mM.2.1, .int mM.2.2.1, .int (bI mM.2.2.2.1), .int mM.2.2.2.2.1, .int mM.2.2.2.2.2, .ref zar, .ref zbe, .ref zst, .ref zah, .ref zgd])), (zar, .inl (cJ, 64, .inr (.inl fR)))]) [0, 1] rfl
    have hD := hD.sub (ws' := [(zmo, .inr (6, [.int mM.1, .int mM.2.1, .int mM.2.2.1, .int (bI mM.2.2.2.1), .int mM.2.2.2.2.1, .int mM.2.2.2.2.2, .ref zar, .ref zbe, .ref zst, .ref zah, .ref zgd])), (zar, .inl (cJ, 64, .inr (.inl fR)))]) [0, 1] (by decide) rfl
    clear hPc hDc hFc hP1 hD1 hk1
    obtain ⟨r2, hr2, hf⟩ := obind hf
    have hPc := hP.sub (ws' := [(zmo, .inr (6, [.int mM.1, .int mM.2.1, .int mM.2.2.1, .int (bI mM.2.2.2.1), .int mM.2.2.2.2.1, .int mM.2.2.2.2.2, .ref zar, .ref zbe, .ref zst, .ref zah, .ref zgd])), (zar, .inl (cJ, 64, .inr (.inl fR)))]) [0, 1] rfl
    have hDc := hD.sub (ws' := [(zmo, .inr (6, [.int mM.1, .int mM.2.1, .int mM.2.2.1, .int (bI mM.2.2.2.1), .int mM.2.2.2.2.1, .int mM.2.2.2.2.2, .ref zar, .ref zbe, .ref zst, .ref zah, .ref zgd])), (zar, .inl (cJ, 64, .inr (.inl fR)))]) [0, 1] (by decide) rfl
    have hFc := va_free (wc := [(zmo, .inr (6, [.int mM.1, .int mM.2.1, .int mM.2.2.1, .int (bI mM.2.2.2.1), .int mM.2.2.2.2.1, .int mM.2.2.2.2.2, .ref zar, .ref zbe, .ref zst, .ref zah, .ref zgd])), (zar, .inl (cJ, 64, .inr (.inl fR)))]) hD hS hA [0, 1] rfl
    refine va_calll (va_runV (As := [.long r1]) (rest := []) ⟨hx, hb, hml, hown, hts⟩ (c_X7_next l dC dI cI cJ zmo zar zbe zst zah zgd H.size mM fR r1 _ hr2) (cwV 1 hts gX7_hedgesBehind_X7_next rfl rfl rfl (by decide +kernel) ⟨Nat.le_of_ble_eq_true rfl, Nat.le_of_ble_eq_true rfl⟩) ⟨fun a U gg mk q => by obtain ⟨q0, q1, qP, qK, qD⟩ := q; exact ⟨q0, q1, qP, va_K.moved (u := U) (U := U.calling gg mk a) (Vm.Alike.refl U.vm) qK, qD⟩, va_recv hK hPc (ci := 6) (q0 := 0) rfl rfl, fun U hU hW => ⟨rfl, by rw [hU], by rw [hU]; exact hPc, va_K.moved hW.alike hK, hDc.weaken (fun _ _ _ _ => trivial)⟩⟩ rfl rfl hl.1 rfl (lv_room (Nat.le_of_ble_eq_true rfl)) dX7_hedgesBehind_19 ⟨Nat.zero_le _, Nat.zero_le _⟩) hS (fun q _ h => hFc q h) hFc (fun r_ u_ t H locs ht hvm hw hB hz1 hk1 hS => ?_)
    obtain rfl := hw.symm
    obtain ⟨hP1, -, hD1⟩ := hB
    rw [ht] at hP1
    obtain ⟨hP, hD⟩ := va_join (wr := []) (w1 := [(zmo, .inr (6, [.int mM.1, .int mM.2.1, .int mM.2.2.1, .int (bI mM.2.2.2.1), .int mM.2.2.2.2.1, .int mM.2.2.2.2.2, .ref zar, .ref zbe, .ref zst, .ref zah, .ref zgd])), (zar, .inl (cJ, 64, .inr (.inl fR)))]) hP hD [0, 1] [] rfl rfl (by decide) (by decide) hk1 hFc hP1 hD1
    have hP := hP.sub (ws' := [(zmo, .inr (6, [.int mM.1, .int mM.2.1, .int mM.2.2.1, .int (bI mM.2.2.2.1), .int mM.2.2.2.2.1, .int mM.2.2.2.2.2, .ref zar, .ref zbe, .ref zst, .ref zah, .ref zgd])), (zar, .inl (cJ, 64, .inr (.inl fR)))]) [0, 1] rfl
    have hD := hD.sub (ws' := [(zmo, .inr (6, [.int mM.1, .int mM.2.1, .int mM.2.2.1, .int (bI mM.2.2.2.1), .int mM.2.2.2.2.1, .int mM.2.2.2.2.2, .ref zar, .ref zbe, .ref zst, .ref zah, .ref zgd])), (zar, .inl (cJ, 64, .inr (.inl fR)))]) [0, 1] (by decide) rfl
    clear hPc hDc hFc hP1 hD1 hk1
    obtain rfl := Option.some.inj hf
    exact K5 _ _ _ hP hD hS (lv_sub hl [] rfl)
  · rw [if_pos hc] at hf
    refine lv_aload_n hx hb dX7_hedgesBehind_5 rfl (lv_at hl 0 rfl) ?_
    refine lv_lload_n hx hb dX7_hedgesBehind_6 rfl (lv_at hl 1 rfl) ?_
    obtain ⟨r3, hr3, hf⟩ := obind hf
    have hPc := hP.sub (ws' := [(zmo, .inr (6, [.int mM.1, .int mM.2.1, .int mM.2.2.1, .int (bI mM.2.2.2.1), .int mM.2.2.2.2.1, .int mM.2.2.2.2.2, .ref zar, .ref zbe, .ref zst, .ref zah, .ref zgd])), (zar, .inl (cJ, 64, .inr (.inl fR)))]) [0, 1] rfl
    have hDc := hD.sub (ws' := [(zmo, .inr (6, [.int mM.1, .int mM.2.1, .int mM.2.2.1, .int (bI mM.2.2.2.1), .int mM.2.2.2.2.1, .int mM.2.2.2.2.2, .ref zar, .ref zbe, .ref zst, .ref zah, .ref zgd])), (zar, .inl (cJ, 64, .inr (.inl fR)))]) [0, 1] (by decide) rfl
    have hFc := va_free (wc := [(zmo, .inr (6, [.int mM.1, .int mM.2.1, .int mM.2.2.1, .int (bI mM.2.2.2.1), .int mM.2.2.2.2.1, .int mM.2.2.2.2.2, .ref zar, .ref zbe, .ref zst, .ref zah, .ref zgd])), (zar, .inl (cJ, 64, .inr (.inl fR)))]) hD hS hA [0, 1] rfl
    refine va_calll (va_runV (As := [.long hs]) (rest := []) ⟨hx, hb, hml, hown, hts⟩ (c_X7_next l dC dI cI cJ zmo zar zbe zst zah zgd s.heap.size mM fR hs _ hr3) (cwV 1 hts gX7_hedgesBehind_X7_next rfl rfl rfl (by decide +kernel) ⟨Nat.le_of_ble_eq_true rfl, Nat.le_of_ble_eq_true rfl⟩) ⟨fun a U gg mk q => by obtain ⟨q0, q1, qP, qK, qD⟩ := q; exact ⟨q0, q1, qP, va_K.moved (u := U) (U := U.calling gg mk a) (Vm.Alike.refl U.vm) qK, qD⟩, va_recv hK hPc (ci := 6) (q0 := 0) rfl rfl, fun U hU hW => ⟨rfl, by rw [hU], by rw [hU]; exact hPc, va_K.moved hW.alike hK, hDc.weaken (fun _ _ _ _ => trivial)⟩⟩ rfl rfl hl.1 rfl (lv_room (Nat.le_of_ble_eq_true rfl)) dX7_hedgesBehind_7 ⟨Nat.zero_le _, Nat.zero_le _⟩) hS (fun q _ h => hFc q h) hFc (fun r_ u_ t H locs ht hvm hw hB hz1 hk1 hS => ?_)
    obtain rfl := hw.symm
    obtain ⟨hP1, -, hD1⟩ := hB
    rw [ht] at hP1
    obtain ⟨hP, hD⟩ := va_join (wr := []) (w1 := [(zmo, .inr (6, [.int mM.1, .int mM.2.1, .int mM.2.2.1, .int (bI mM.2.2.2.1), .int mM.2.2.2.2.1, .int mM.2.2.2.2.2, .ref zar, .ref zbe, .ref zst, .ref zah, .ref zgd])), (zar, .inl (cJ, 64, .inr (.inl fR)))]) hP hD [0, 1] [] rfl rfl (by decide) (by decide) hk1 hFc hP1 hD1
    have hP := hP.sub (ws' := [(zmo, .inr (6, [.int mM.1, .int mM.2.1, .int mM.2.2.1, .int (bI mM.2.2.2.1), .int mM.2.2.2.2.1, .int mM.2.2.2.2.2, .ref zar, .ref zbe, .ref zst, .ref zah, .ref zgd])), (zar, .inl (cJ, 64, .inr (.inl fR)))]) [0, 1] rfl
    have hD := hD.sub (ws' := [(zmo, .inr (6, [.int mM.1, .int mM.2.1, .int mM.2.2.1, .int (bI mM.2.2.2.1), .int mM.2.2.2.2.1, .int mM.2.2.2.2.2, .ref zar, .ref zbe, .ref zst, .ref zah, .ref zgd])), (zar, .inl (cJ, 64, .inr (.inl fR)))]) [0, 1] (by decide) rfl
    clear hPc hDc hFc hP1 hD1 hk1
    refine lv_goto (tgt := 22) hx hb dX7_hedgesBehind_10 (by decide) ?_
    obtain rfl := Option.some.inj hf
    exact K5 _ _ _ hP hD hS (lv_sub hl [] rfl)
/-! HedgeGlidersModel.advise(I)I -/
def lp_X7_advise_38 (mM : MoS) (fR : Nat → Int64) (sS : StS) (yr : Int32) : Nat → Int32 → Int32 → Int32 → Option (Int32)
  | 0, _, _, _ => none
  | nf + 1, y9, y10, y11 => if (mM.2.1 * mM.2.2.1) ≤ y11 then (some y9) else (Option.bind (if (f_X6_has sS y11) = 0 then (Option.bind (f_X7_hedgesBehind (0, mM.2.1, mM.2.2.1, mM.2.2.2.1, mM.2.2.2.2.1, mM.2.2.2.2.2) fR (sS.2.2.2 ||| (jshl 1 y11)) yr) fun r12 => if y10 < r12 then (some (y11, r12)) else (some (y9, y10))) else (some (y9, y10)) : Option (Int32 × Int32)) fun v13 => lp_X7_advise_38 mM fR sS yr nf v13.1 v13.2 (y11 + 1))
def f_X7_advise (mM : MoS) (fR : Nat → Int64) (sS : StS) (yr : Int32) : Option (Int32 × MoS) := if (f_X7_isIn yr 1 2) = 0 then (some ((f_X7_no (0, mM.2.1, mM.2.2.1, mM.2.2.2.1, mM.2.2.2.2.1, mM.2.2.2.2.2) 1).1, (f_X7_no (0, mM.2.1, mM.2.2.1, mM.2.2.2.1, mM.2.2.2.2.1, mM.2.2.2.2.2) 1).2)) else (Option.bind (f_X7_hedgesBehind (0, mM.2.1, mM.2.2.1, mM.2.2.2.1, mM.2.2.2.2.1, mM.2.2.2.2.2) fR sS.2.2.2 yr) fun r1 => Option.bind (lp_X7_advise_38 mM fR sS yr 100 (-1) r1 0) fun v14 => some (v14, (0, mM.2.1, mM.2.2.1, mM.2.2.2.1, mM.2.2.2.2.1, mM.2.2.2.2.2)))
abbrev rm_X7_advise : Room := ({ frames := 4, cells := 0, slots := 0, locals := 94 } : Room)
abbrev A_X7_advise (cI cJ : ClassId) (zmo zar zst zbe zah zgd zsa : Nat) (mM : MoS) (fR : Nat → Int64) (sS : StS) (yr : Int32) (sz : Nat) : Nat → Prop := va_A [(zmo, .inr (6, [.int mM.1, .int mM.2.1, .int mM.2.2.1, .int (bI mM.2.2.2.1), .int mM.2.2.2.2.1, .int mM.2.2.2.2.2, .ref zar, .ref zbe, .ref zst, .ref zah, .ref zgd])), (zar, .inl (cJ, 64, .inr (.inl fR))), (zst, .inr (5, [.int sS.1, .int sS.2.1, .int sS.2.2.1, .long sS.2.2.2, .ref zsa]))] sz
abbrev Q_X7_advise (dC : Nat → ClassId) (dI : Nat → Nat → Nat) (cI cJ : ClassId) (zmo zar zst zbe zah zgd zsa : Nat) (mM : MoS) (fR : Nat → Int64) (sS : StS) (yr : Int32) (sz : Nat) (R : Int32 × MoS) : Array Value → State → Outcome → State → Prop := va_Qi (fun (r : Int32) (_ : Unit) => r = R.1) (fun u_ t => va_P (dC, dI) vwCl [(zmo, .inr (6, [.int R.2.1, .int R.2.2.1, .int R.2.2.2.1, .int (bI R.2.2.2.2.1), .int R.2.2.2.2.2.1, .int R.2.2.2.2.2.2, .ref zar, .ref zbe, .ref zst, .ref zah, .ref zgd])), (zar, .inl (cJ, 64, .inr (.inl fR))), (zst, .inr (5, [.int sS.1, .int sS.2.1, .int sS.2.2.1, .long sS.2.2.2, .ref zsa]))] t.heap ∧ va_K (dC, dI) vwCl [(cI, .int), (cJ, .long)] t ∧ va_D (A_X7_advise cI cJ zmo zar zst zbe zah zgd zsa mM fR sS yr sz) [(zmo, .inr (6, [.int R.2.1, .int R.2.2.1, .int R.2.2.2.1, .int (bI R.2.2.2.2.1), .int R.2.2.2.2.2.1, .int R.2.2.2.2.2.2, .ref zar, .ref zbe, .ref zst, .ref zah, .ref zgd])), (zar, .inl (cJ, 64, .inr (.inl fR))), (zst, .inr (5, [.int sS.1, .int sS.2.1, .int sS.2.2.1, .long sS.2.2.2, .ref zsa]))]) (A_X7_advise cI cJ zmo zar zst zbe zah zgd zsa mM fR sS yr sz)
set_option maxHeartbeats 4000000 in
set_option maxRecDepth 100000 in
theorem c_X7_advise (l : Launch) (dC : Nat → ClassId) (dI : Nat → Nat → Nat) (cI cJ : ClassId) (zmo zar zst zbe zah zgd zsa : Nat) (sz : Nat) (mM : MoS) (fR : Nat → Int64) (sS : StS) (yr : Int32) (R : Int32 × MoS) (hR : f_X7_advise mM fR sS yr = some R) : Met l yX7_advise wsX7_advise rm_X7_advise (va_Pc [.ref zmo, .int yr] (fun U => U.heap.size = sz ∧ va_P (dC, dI) vwCl [(zmo, .inr (6, [.int mM.1, .int mM.2.1, .int mM.2.2.1, .int (bI mM.2.2.2.1), .int mM.2.2.2.2.1, .int mM.2.2.2.2.2, .ref zar, .ref zbe, .ref zst, .ref zah, .ref zgd])), (zar, .inl (cJ, 64, .inr (.inl fR))), (zst, .inr (5, [.int sS.1, .int sS.2.1, .int sS.2.2.1, .long sS.2.2.2, .ref zsa]))] U.heap ∧ va_K (dC, dI) vwCl [(cI, .int), (cJ, .long)] U ∧ va_D (fun _ => True) [(zmo, .inr (6, [.int mM.1, .int mM.2.1, .int mM.2.2.1, .int (bI mM.2.2.2.1), .int mM.2.2.2.2.1, .int mM.2.2.2.2.2, .ref zar, .ref zbe, .ref zst, .ref zah, .ref zgd])), (zar, .inl (cJ, 64, .inr (.inl fR))), (zst, .inr (5, [.int sS.1, .int sS.2.1, .int sS.2.2.1, .long sS.2.2.2, .ref zsa]))] ∧ nwM U)) (Q_X7_advise dC dI cI cJ zmo zar zst zbe zah zgd zsa mM fR sS yr sz R) 0 0 (A_X7_advise cI cJ zmo zar zst zbe zah zgd zsa mM fR sS yr sz) := by
  have hf := hR
  refine Met.ofW (cc := cX7_advise) (maxL := 6) (ret := (some .int)) (by decide) rfl ?_
  intro p e s m args below meth c s₁ B hml hv
  obtain ⟨hargs, hsz, hP, hK, hD0, hnw⟩ := hv
  have hx := B.exec
  have hb := B.bytes
  have hr := B.returns
  have hts := atoms_spec (ws := wsX7_advise) B.pre
  have hown : s.vm.findClass RX7 = some m.cls := findClass_of_methodNamed B.named
  have hlocks := B.notSynchronized
  subst hsz
  obtain ⟨hnw_hedges, hnw_ages, hnw_born, hnw_dead, hnw_year⟩ := id hnw
  have hD : va_D (A_X7_advise cI cJ zmo zar zst zbe zah zgd zsa mM fR sS yr s.heap.size) [(zmo, .inr (6, [.int mM.1, .int mM.2.1, .int mM.2.2.1, .int (bI mM.2.2.2.1), .int mM.2.2.2.2.1, .int mM.2.2.2.2.2, .ref zar, .ref zbe, .ref zst, .ref zah, .ref zgd])), (zar, .inl (cJ, 64, .inr (.inl fR))), (zst, .inr (5, [.int sS.1, .int sS.2.1, .int sS.2.2.1, .long sS.2.2.2, .ref zsa]))] := hD0.self (sz := s.heap.size)
  have hA : ∀ q : Nat, s.heap.size ≤ q → (A_X7_advise cI cJ zmo zar zst zbe zah zgd zsa mM fR sS yr s.heap.size) q := fun q h => Or.inr h
  have hS : va_S (A_X7_advise cI cJ zmo zar zst zbe zah zgd zsa mM fR sS yr s.heap.size) s.heap s.heap [] := va_S.rf
  have hinX6 : ∀ w ∈ wsX60, w ∈ wsX7_advise := by decide +kernel
  have hinX7 : ∀ w ∈ wsX70, w ∈ wsX7_advise := by decide +kernel
  have hw0 := hts (.fieldLink RX7 45 "HedgeGlidersModel" "thrown" "I") (by decide +kernel)
  have hw1 := hts (.fieldLink RX7 32 "HedgeGlidersModel" "s" "LHedgeGlidersModel$State;") (by decide +kernel)
  have hw2 := hts (.fieldLink RX7 9 "HedgeGlidersModel" "w" "I") (by decide +kernel)
  have hw3 := hts (.fieldLink RX7 13 "HedgeGlidersModel" "h" "I") (by decide +kernel)
  have hl := lv_entry ([.ref zmo, .int yr]) (n := 6) (Nat.le_of_ble_eq_true rfl)
  have he0 : entryFrame m args 6 = entryFrame m ([.ref zmo, .int yr] : List Value).toArray 6 := by rw [hargs]
  rw [he0, lg_entry_eq]
  generalize (lg_sl ([.ref zmo, .int yr]) ++ List.replicate (6 - (lg_sl ([.ref zmo, .int yr])).length) Slot.unset).toArray = ls at hl ⊢
  have hl : lv_has ls 6 [(0, .ref zmo), (1, .int yr)] := hl
  rw [f_X7_advise] at hf
  refine lv_aload_n hx hb dX7_advise_0 rfl (lv_at hl 0 rfl) ?_
  refine lv_iconst (v := 0) hx hb dX7_advise_1 (by decide) ?_
  refine va_put (D := (dC, dI)) (ci := 6) (v := .int 0) (ty := .int) (C := RX7) (T := TX7) (N := 11) hx hb hts hinX7 tyX7 tyX7_ok nmX7 hown hK hP hD hS 0 rfl rfl 0 (by decide) hw0 (fun _ h9 => h9) rfl (by decide +kernel) rfl rfl (Nat.le_of_ble_eq_true rfl) dX7_advise_2 (fun H locs hP hD hS => ?_)
  have hP : va_P (dC, dI) vwCl [(zmo, .inr (6, [.int 0, .int mM.2.1, .int mM.2.2.1, .int (bI mM.2.2.2.1), .int mM.2.2.2.2.1, .int mM.2.2.2.2.2, .ref zar, .ref zbe, .ref zst, .ref zah, .ref zgd])), (zar, .inl (cJ, 64, .inr (.inl fR))), (zst, .inr (5, [.int sS.1, .int sS.2.1, .int sS.2.2.1, .long sS.2.2.2, .ref zsa]))] H := hP
  have hD : va_D (A_X7_advise cI cJ zmo zar zst zbe zah zgd zsa mM fR sS yr s.heap.size) [(zmo, .inr (6, [.int 0, .int mM.2.1, .int mM.2.2.1, .int (bI mM.2.2.2.1), .int mM.2.2.2.2.1, .int mM.2.2.2.2.2, .ref zar, .ref zbe, .ref zst, .ref zah, .ref zgd])), (zar, .inl (cJ, 64, .inr (.inl fR))), (zst, .inr (5, [.int sS.1, .int sS.2.1, .int sS.2.2.1, .long sS.2.2.2, .ref zsa]))] := hD
  refine lv_iload_n hx hb dX7_advise_5 rfl (lv_at hl 1 rfl) ?_
  refine lv_iconst (v := 1) hx hb dX7_advise_6 (by decide) ?_
  refine lv_iconst (v := 2) hx hb dX7_advise_7 (by decide) ?_
  have hPc := hP.sub (ws' := []) [] rfl
  have hDc := hD.sub (ws' := []) [] (by decide) rfl
  have hFc := va_free (wc := []) hD hS hA [] rfl
  refine va_calli (va_runS (As := [.int yr, .int 1, .int 2]) (rest := []) ⟨hx, hb, hml, hown, hts⟩ (c_X7_isIn l dC dI cI cJ  H.size yr 1 2) (va_cwS 3 hts gX7_advise_X7_isIn rfl rfl rfl (by decide +kernel) ⟨Nat.le_of_ble_eq_true rfl, Nat.le_of_ble_eq_true rfl⟩) ⟨fun a U gg mk q => by obtain ⟨q0, q1, qP, qK, qD⟩ := q; exact ⟨q0, q1, qP, va_K.moved (u := U) (U := U.calling gg mk a) (Vm.Alike.refl U.vm) qK, qD⟩, fun U hU hW => ⟨rfl, by rw [hU], by rw [hU]; exact hPc, va_K.moved hW.alike hK, hDc.weaken (fun _ _ _ _ => trivial)⟩⟩ rfl rfl hl.1 rfl (lv_room (Nat.le_of_ble_eq_true rfl)) dX7_advise_8 ⟨Nat.zero_le _, Nat.zero_le _⟩) hS (fun q _ h => hFc q h) hFc (fun r_ u_ t H locs ht hvm hw hB hz1 hk1 hS => ?_)
  obtain rfl := hw.symm
  obtain ⟨hP1, -, hD1⟩ := hB
  rw [ht] at hP1
  obtain ⟨hP, hD⟩ := va_join (wr := [(zmo, .inr (6, [.int 0, .int mM.2.1, .int mM.2.2.1, .int (bI mM.2.2.2.1), .int mM.2.2.2.2.1, .int mM.2.2.2.2.2, .ref zar, .ref zbe, .ref zst, .ref zah, .ref zgd])), (zar, .inl (cJ, 64, .inr (.inl fR))), (zst, .inr (5, [.int sS.1, .int sS.2.1, .int sS.2.2.1, .long sS.2.2.2, .ref zsa]))]) (w1 := []) hP hD [] [0, 1, 2] rfl rfl (by decide) (by decide) hk1 hFc hP1 hD1
  have hP := hP.sub (ws' := [(zmo, .inr (6, [.int 0, .int mM.2.1, .int mM.2.2.1, .int (bI mM.2.2.2.1), .int mM.2.2.2.2.1, .int mM.2.2.2.2.2, .ref zar, .ref zbe, .ref zst, .ref zah, .ref zgd])), (zar, .inl (cJ, 64, .inr (.inl fR))), (zst, .inr (5, [.int sS.1, .int sS.2.1, .int sS.2.2.1, .long sS.2.2.2, .ref zsa]))]) [0, 1, 2] rfl
  have hD := hD.sub (ws' := [(zmo, .inr (6, [.int 0, .int mM.2.1, .int mM.2.2.1, .int (bI mM.2.2.2.1), .int mM.2.2.2.2.1, .int mM.2.2.2.2.2, .ref zar, .ref zbe, .ref zst, .ref zah, .ref zgd])), (zar, .inl (cJ, 64, .inr (.inl fR))), (zst, .inr (5, [.int sS.1, .int sS.2.1, .int sS.2.2.1, .long sS.2.2.2, .ref zsa]))]) [0, 1, 2] (by decide) rfl
  clear hPc hDc hFc hP1 hD1 hk1
  refine lv_if_ne (tgt := 20) hx hb dX7_advise_11 (by decide) (fun hc => ?_) (fun hc => ?_)
  · rw [if_neg hc] at hf
    refine lv_iconst (v := (-1)) hx hb dX7_advise_20 (by decide) ?_
    refine lv_istore_n (lv' := [(2, .int (-1)), (0, .ref zmo), (1, .int yr)]) hx hb dX7_advise_21 rfl hl (by decide) rfl (fun ls hl => ?_)
    refine lv_aload_n hx hb dX7_advise_22 rfl (lv_at hl 1 rfl) ?_
    refine lv_aload_n hx hb dX7_advise_23 rfl (lv_at hl 1 rfl) ?_
    refine va_get (D := (dC, dI)) (ci := 6) (v := .ref zst) (C := RX7) (T := TX7) (N := 11) hx hb hts hinX7 hown hK hP 0 rfl rfl 8 (by decide) hw1 (fun _ h9 => h9) rfl dX7_advise_24 ?_
    refine va_getN (D := (dC, dI)) (ci := 5) (v := .long sS.2.2.2) (C := RX6) (T := TX6) (N := 5) hx hb hts hinX6 hown hK hP 2 rfl rfl 3 (by decide) (va_Nw.use rfl hnw_hedges) (fun _ h9 => h9) rfl dX7_advise_27 ?_
    refine lv_iload_n hx hb dX7_advise_30 rfl (lv_at hl 2 rfl) ?_
    obtain ⟨r1, hr1, hf⟩ := obind hf
    have hPc := hP.sub (ws' := [(zmo, .inr (6, [.int 0, .int mM.2.1, .int mM.2.2.1, .int (bI mM.2.2.2.1), .int mM.2.2.2.2.1, .int mM.2.2.2.2.2, .ref zar, .ref zbe, .ref zst, .ref zah, .ref zgd])), (zar, .inl (cJ, 64, .inr (.inl fR)))]) [0, 1] rfl
    have hDc := hD.sub (ws' := [(zmo, .inr (6, [.int 0, .int mM.2.1, .int mM.2.2.1, .int (bI mM.2.2.2.1), .int mM.2.2.2.2.1, .int mM.2.2.2.2.2, .ref zar, .ref zbe, .ref zst, .ref zah, .ref zgd])), (zar, .inl (cJ, 64, .inr (.inl fR)))]) [0, 1] (by decide) rfl
    have hFc := va_free (wc := [(zmo, .inr (6, [.int 0, .int mM.2.1, .int mM.2.2.1, .int (bI mM.2.2.2.1), .int mM.2.2.2.2.1, .int mM.2.2.2.2.2, .ref zar, .ref zbe, .ref zst, .ref zah, .ref zgd])), (zar, .inl (cJ, 64, .inr (.inl fR)))]) hD hS hA [0, 1] rfl
    refine va_calli (va_runV (As := [.long sS.2.2.2, .int yr]) (rest := []) ⟨hx, hb, hml, hown, hts⟩ (c_X7_hedgesBehind l dC dI cI cJ zmo zar zbe zst zah zgd H.size (0, mM.2.1, mM.2.2.1, mM.2.2.2.1, mM.2.2.2.2.1, mM.2.2.2.2.2) fR sS.2.2.2 yr _ hr1) (cwV 2 hts gX7_advise_X7_hedgesBehind rfl rfl rfl (by decide +kernel) ⟨Nat.le_of_ble_eq_true rfl, Nat.le_of_ble_eq_true rfl⟩) ⟨fun a U gg mk q => by obtain ⟨q0, q1, qP, qK, qD⟩ := q; exact ⟨q0, q1, qP, va_K.moved (u := U) (U := U.calling gg mk a) (Vm.Alike.refl U.vm) qK, qD⟩, va_recv hK hPc (ci := 6) (q0 := 0) rfl rfl, fun U hU hW => ⟨rfl, by rw [hU], by rw [hU]; exact hPc, va_K.moved hW.alike hK, hDc.weaken (fun _ _ _ _ => trivial)⟩⟩ rfl rfl hl.1 rfl (lv_room (Nat.le_of_ble_eq_true rfl)) dX7_advise_31 ⟨Nat.zero_le _, Nat.zero_le _⟩) hS (fun q _ h => hFc q h) hFc (fun r_ u_ t H locs ht hvm hw hB hz1 hk1 hS => ?_)
    obtain rfl := hw.symm
    obtain ⟨hP1, -, hD1⟩ := hB
    rw [ht] at hP1
    obtain ⟨hP, hD⟩ := va_join (wr := [(zst, .inr (5, [.int sS.1, .int sS.2.1, .int sS.2.2.1, .long sS.2.2.2, .ref zsa]))]) (w1 := [(zmo, .inr (6, [.int 0, .int mM.2.1, .int mM.2.2.1, .int (bI mM.2.2.2.1), .int mM.2.2.2.2.1, .int mM.2.2.2.2.2, .ref zar, .ref zbe, .ref zst, .ref zah, .ref zgd])), (zar, .inl (cJ, 64, .inr (.inl fR)))]) hP hD [0, 1] [2] rfl rfl (by decide) (by decide) hk1 hFc hP1 hD1
    have hP := hP.sub (ws' := [(zmo, .inr (6, [.int 0, .int mM.2.1, .int mM.2.2.1, .int (bI mM.2.2.2.1), .int mM.2.2.2.2.1, .int mM.2.2.2.2.2, .ref zar, .ref zbe, .ref zst, .ref zah, .ref zgd])), (zar, .inl (cJ, 64, .inr (.inl fR))), (zst, .inr (5, [.int sS.1, .int sS.2.1, .int sS.2.2.1, .long sS.2.2.2, .ref zsa]))]) [1, 2, 0] rfl
    have hD := hD.sub (ws' := [(zmo, .inr (6, [.int 0, .int mM.2.1, .int mM.2.2.1, .int (bI mM.2.2.2.1), .int mM.2.2.2.2.1, .int mM.2.2.2.2.2, .ref zar, .ref zbe, .ref zst, .ref zah, .ref zgd])), (zar, .inl (cJ, 64, .inr (.inl fR))), (zst, .inr (5, [.int sS.1, .int sS.2.1, .int sS.2.2.1, .long sS.2.2.2, .ref zsa]))]) [1, 2, 0] (by decide) rfl
    clear hPc hDc hFc hP1 hD1 hk1
    refine lv_istore_n (lv' := [(3, .int r1), (2, .int (-1)), (0, .ref zmo), (1, .int yr)]) hx hb dX7_advise_34 rfl hl (by decide) rfl (fun ls hl => ?_)
    refine lv_iconst (v := 0) hx hb dX7_advise_35 (by decide) ?_
    refine lv_istore (lv' := [(4, .int 0), (3, .int r1), (2, .int (-1)), (0, .ref zmo), (1, .int yr)]) hx hb dX7_advise_36 hl (by decide) rfl (fun ls hl => ?_)
    obtain ⟨v14, hv, hf⟩ := obind hf
    have K15 : ∀ (H : Heap) (locs : List Loc) (ls : Array Slot), va_P (dC, dI) vwCl [(zmo, .inr (6, [.int 0, .int mM.2.1, .int mM.2.2.1, .int (bI mM.2.2.2.1), .int mM.2.2.2.2.1, .int mM.2.2.2.2.2, .ref zar, .ref zbe, .ref zst, .ref zah, .ref zgd])), (zar, .inl (cJ, 64, .inr (.inl fR))), (zst, .inr (5, [.int sS.1, .int sS.2.1, .int sS.2.2.1, .long sS.2.2.2, .ref zsa]))] H → va_D (A_X7_advise cI cJ zmo zar zst zbe zah zgd zsa mM fR sS yr s.heap.size) [(zmo, .inr (6, [.int 0, .int mM.2.1, .int mM.2.2.1, .int (bI mM.2.2.2.1), .int mM.2.2.2.2.1, .int mM.2.2.2.2.2, .ref zar, .ref zbe, .ref zst, .ref zah, .ref zgd])), (zar, .inl (cJ, 64, .inr (.inl fR))), (zst, .inr (5, [.int sS.1, .int sS.2.1, .int sS.2.2.1, .long sS.2.2.2, .ref zsa]))] → va_S (A_X7_advise cI cJ zmo zar zst zbe zah zgd zsa mM fR sS yr s.heap.size) s.heap H locs → lv_has ls 6 [(2, .int v14)] → W p l e rm_X7_advise s m args below meth c H locs 0 0 (MQ below (Q_X7_advise dC dI cI cJ zmo zar zst zbe zah zgd zsa mM fR sS yr s.heap.size R) args s 0 0 (A_X7_advise cI cJ zmo zar zst zbe zah zgd zsa mM fR sS yr s.heap.size)) (F0 m 107 ls []) := by
      intro H locs ls hP hD hS hl
      refine lv_iload_n hx hb dX7_advise_107 rfl (lv_at hl 0 rfl) ?_
      obtain rfl := Option.some.inj hf
      exact W.iret (v := v14) hx hb hr (fun t ht hW => ⟨⟨v14, (), rfl, rfl, by rw [ht]; exact hP, va_K.moved hW.alike hK, hD⟩, hS.F ht⟩) hS.2.2 dX7_advise_108
    have lp16 : ∀ (nf : Nat) (y9 : Int32) (y10 : Int32) (y11 : Int32) (H : Heap) (locs : List Loc) (ls : Array Slot), lp_X7_advise_38 mM fR sS yr nf y9 y10 y11 = some v14 → va_P (dC, dI) vwCl [(zmo, .inr (6, [.int 0, .int mM.2.1, .int mM.2.2.1, .int (bI mM.2.2.2.1), .int mM.2.2.2.2.1, .int mM.2.2.2.2.2, .ref zar, .ref zbe, .ref zst, .ref zah, .ref zgd])), (zar, .inl (cJ, 64, .inr (.inl fR))), (zst, .inr (5, [.int sS.1, .int sS.2.1, .int sS.2.2.1, .long sS.2.2.2, .ref zsa]))] H → va_D (A_X7_advise cI cJ zmo zar zst zbe zah zgd zsa mM fR sS yr s.heap.size) [(zmo, .inr (6, [.int 0, .int mM.2.1, .int mM.2.2.1, .int (bI mM.2.2.2.1), .int mM.2.2.2.2.1, .int mM.2.2.2.2.2, .ref zar, .ref zbe, .ref zst, .ref zah, .ref zgd])), (zar, .inl (cJ, 64, .inr (.inl fR))), (zst, .inr (5, [.int sS.1, .int sS.2.1, .int sS.2.2.1, .long sS.2.2.2, .ref zsa]))] → va_S (A_X7_advise cI cJ zmo zar zst zbe zah zgd zsa mM fR sS yr s.heap.size) s.heap H locs → lv_has ls 6 [(0, .ref zmo), (1, .int yr), (2, .int y9), (3, .int y10), (4, .int y11)] → W p l e rm_X7_advise s m args below meth c H locs 0 0 (MQ below (Q_X7_advise dC dI cI cJ zmo zar zst zbe zah zgd zsa mM fR sS yr s.heap.size R) args s 0 0 (A_X7_advise cI cJ zmo zar zst zbe zah zgd zsa mM fR sS yr s.heap.size)) (F0 m 38 ls []) := by
      intro nf
      induction nf with
      | zero => intro y9 y10 y11 H locs ls h9; exact nomatch h9
      | succ nf ih17 =>
        intro y9 y10 y11 H locs ls hf hP hD hS hl
        rw [lp_X7_advise_38.eq_2] at hf
        refine lv_iload hx hb dX7_advise_38 (lv_at hl 4 rfl) ?_
        refine lv_aload_n hx hb dX7_advise_40 rfl (lv_at hl 0 rfl) ?_
        refine va_get (D := (dC, dI)) (ci := 6) (v := .int mM.2.1) (C := RX7) (T := TX7) (N := 11) hx hb hts hinX7 hown hK hP 0 rfl rfl 1 (by decide) hw2 (fun _ h9 => h9) rfl dX7_advise_41 ?_
        refine lv_aload_n hx hb dX7_advise_44 rfl (lv_at hl 0 rfl) ?_
        refine va_get (D := (dC, dI)) (ci := 6) (v := .int mM.2.2.1) (C := RX7) (T := TX7) (N := 11) hx hb hts hinX7 hown hK hP 0 rfl rfl 2 (by decide) hw3 (fun _ h9 => h9) rfl dX7_advise_45 ?_
        refine lv_imul hx hb dX7_advise_48 ?_
        refine lv_icmp_ge (tgt := 107) hx hb dX7_advise_49 (by decide) (fun hc => ?_) (fun hc => ?_)
        · rw [if_pos hc] at hf
          obtain rfl := Option.some.inj hf
          exact K15 _ _ _ hP hD hS (lv_sub hl [2] rfl)
        · rw [if_neg hc] at hf
          refine lv_aload_n hx hb dX7_advise_52 rfl (lv_at hl 0 rfl) ?_
          refine va_get (D := (dC, dI)) (ci := 6) (v := .ref zst) (C := RX7) (T := TX7) (N := 11) hx hb hts hinX7 hown hK hP 0 rfl rfl 8 (by decide) hw1 (fun _ h9 => h9) rfl dX7_advise_53 ?_
          refine lv_iload hx hb dX7_advise_56 (lv_at hl 4 rfl) ?_
          have hPc := hP.sub (ws' := [(zst, .inr (5, [.int sS.1, .int sS.2.1, .int sS.2.2.1, .long sS.2.2.2, .ref zsa]))]) [2] rfl
          have hDc := hD.sub (ws' := [(zst, .inr (5, [.int sS.1, .int sS.2.1, .int sS.2.2.1, .long sS.2.2.2, .ref zsa]))]) [2] (by decide) rfl
          have hFc := va_free (wc := [(zst, .inr (5, [.int sS.1, .int sS.2.1, .int sS.2.2.1, .long sS.2.2.2, .ref zsa]))]) hD hS hA [2] rfl
          refine va_calli (va_runV (As := [.int y11]) (rest := []) ⟨hx, hb, hml, hown, hts⟩ (c_X6_has l dC dI cI cJ zst zsa H.size sS y11) (cwV 1 hts gX7_advise_X6_has rfl rfl rfl (by decide +kernel) ⟨Nat.le_of_ble_eq_true rfl, Nat.le_of_ble_eq_true rfl⟩) ⟨fun a U gg mk q => by obtain ⟨q0, q1, qP, qK, qD⟩ := q; exact ⟨q0, q1, qP, va_K.moved (u := U) (U := U.calling gg mk a) (Vm.Alike.refl U.vm) qK, qD⟩, va_recv hK hPc (ci := 5) (q0 := 0) rfl rfl, fun U hU hW => ⟨rfl, by rw [hU], by rw [hU]; exact hPc, va_K.moved hW.alike hK, hDc.weaken (fun _ _ _ _ => trivial)⟩⟩ rfl rfl hl.1 rfl (lv_room (Nat.le_of_ble_eq_true rfl)) dX7_advise_58 ⟨Nat.zero_le _, Nat.zero_le _⟩) hS (fun q _ h => hFc q h) hFc (fun r_ u_ t H locs ht hvm hw hB hz1 hk1 hS => ?_)
          obtain rfl := hw.symm
          obtain ⟨hP1, -, hD1⟩ := hB
          rw [ht] at hP1
          obtain ⟨hP, hD⟩ := va_join (wr := [(zmo, .inr (6, [.int 0, .int mM.2.1, .int mM.2.2.1, .int (bI mM.2.2.2.1), .int mM.2.2.2.2.1, .int mM.2.2.2.2.2, .ref zar, .ref zbe, .ref zst, .ref zah, .ref zgd])), (zar, .inl (cJ, 64, .inr (.inl fR)))]) (w1 := [(zst, .inr (5, [.int sS.1, .int sS.2.1, .int sS.2.2.1, .long sS.2.2.2, .ref zsa]))]) hP hD [2] [0, 1] rfl rfl (by decide) (by decide) hk1 hFc hP1 hD1
          have hP := hP.sub (ws' := [(zmo, .inr (6, [.int 0, .int mM.2.1, .int mM.2.2.1, .int (bI mM.2.2.2.1), .int mM.2.2.2.2.1, .int mM.2.2.2.2.2, .ref zar, .ref zbe, .ref zst, .ref zah, .ref zgd])), (zar, .inl (cJ, 64, .inr (.inl fR))), (zst, .inr (5, [.int sS.1, .int sS.2.1, .int sS.2.2.1, .long sS.2.2.2, .ref zsa]))]) [0, 1, 2] rfl
          have hD := hD.sub (ws' := [(zmo, .inr (6, [.int 0, .int mM.2.1, .int mM.2.2.1, .int (bI mM.2.2.2.1), .int mM.2.2.2.2.1, .int mM.2.2.2.2.2, .ref zar, .ref zbe, .ref zst, .ref zah, .ref zgd])), (zar, .inl (cJ, 64, .inr (.inl fR))), (zst, .inr (5, [.int sS.1, .int sS.2.1, .int sS.2.2.1, .long sS.2.2.2, .ref zsa]))]) [0, 1, 2] (by decide) rfl
          clear hPc hDc hFc hP1 hD1 hk1
          obtain ⟨v13, hv, hf⟩ := obind hf
          have K18 : ∀ (H : Heap) (locs : List Loc) (ls : Array Slot), va_P (dC, dI) vwCl [(zmo, .inr (6, [.int 0, .int mM.2.1, .int mM.2.2.1, .int (bI mM.2.2.2.1), .int mM.2.2.2.2.1, .int mM.2.2.2.2.2, .ref zar, .ref zbe, .ref zst, .ref zah, .ref zgd])), (zar, .inl (cJ, 64, .inr (.inl fR))), (zst, .inr (5, [.int sS.1, .int sS.2.1, .int sS.2.2.1, .long sS.2.2.2, .ref zsa]))] H → va_D (A_X7_advise cI cJ zmo zar zst zbe zah zgd zsa mM fR sS yr s.heap.size) [(zmo, .inr (6, [.int 0, .int mM.2.1, .int mM.2.2.1, .int (bI mM.2.2.2.1), .int mM.2.2.2.2.1, .int mM.2.2.2.2.2, .ref zar, .ref zbe, .ref zst, .ref zah, .ref zgd])), (zar, .inl (cJ, 64, .inr (.inl fR))), (zst, .inr (5, [.int sS.1, .int sS.2.1, .int sS.2.2.1, .long sS.2.2.2, .ref zsa]))] → va_S (A_X7_advise cI cJ zmo zar zst zbe zah zgd zsa mM fR sS yr s.heap.size) s.heap H locs → lv_has ls 6 [(0, .ref zmo), (1, .int yr), (2, .int v13.1), (3, .int v13.2), (4, .int y11)] → W p l e rm_X7_advise s m args below meth c H locs 0 0 (MQ below (Q_X7_advise dC dI cI cJ zmo zar zst zbe zah zgd zsa mM fR sS yr s.heap.size R) args s 0 0 (A_X7_advise cI cJ zmo zar zst zbe zah zgd zsa mM fR sS yr s.heap.size)) (F0 m 101 ls []) := by
            intro H locs ls hP hD hS hl
            refine lv_iinc (v := (y11 + 1)) (lv' := [(4, .int (y11 + 1)), (0, .ref zmo), (1, .int yr), (2, .int v13.1), (3, .int v13.2)]) hx hb dX7_advise_101 hl (k := 4) rfl rfl (by decide) rfl (fun ls hl => ?_)
            refine lv_goto (tgt := 38) hx hb dX7_advise_104 (by decide) ?_
            exact ih17 _ _ _ _ _ _ hf hP hD hS (lv_sub hl [1, 2, 3, 4, 0] rfl)
          clear hf; have hf := hv; clear hv
          refine lv_if_eq (tgt := 67) hx hb dX7_advise_61 (by decide) (fun hc => ?_) (fun hc => ?_)
          · rw [if_pos hc] at hf
            refine lv_aload_n hx hb dX7_advise_67 rfl (lv_at hl 0 rfl) ?_
            refine lv_aload_n hx hb dX7_advise_68 rfl (lv_at hl 0 rfl) ?_
            refine va_get (D := (dC, dI)) (ci := 6) (v := .ref zst) (C := RX7) (T := TX7) (N := 11) hx hb hts hinX7 hown hK hP 0 rfl rfl 8 (by decide) hw1 (fun _ h9 => h9) rfl dX7_advise_69 ?_
            refine va_getN (D := (dC, dI)) (ci := 5) (v := .long sS.2.2.2) (C := RX6) (T := TX6) (N := 5) hx hb hts hinX6 hown hK hP 2 rfl rfl 3 (by decide) (va_Nw.use rfl hnw_hedges) (fun _ h9 => h9) rfl dX7_advise_72 ?_
            refine lv_lconst (v := 1) hx hb dX7_advise_75 (by decide) ?_
            refine lv_iload hx hb dX7_advise_76 (lv_at hl 4 rfl) ?_
            refine lv_lshl (v := (jshl 1 y11)) hx hb dX7_advise_78 rfl ?_
            refine lv_lor hx hb dX7_advise_79 ?_
            refine lv_iload_n hx hb dX7_advise_80 rfl (lv_at hl 1 rfl) ?_
            obtain ⟨r12, hr12, hf⟩ := obind hf
            have hPc := hP.sub (ws' := [(zmo, .inr (6, [.int 0, .int mM.2.1, .int mM.2.2.1, .int (bI mM.2.2.2.1), .int mM.2.2.2.2.1, .int mM.2.2.2.2.2, .ref zar, .ref zbe, .ref zst, .ref zah, .ref zgd])), (zar, .inl (cJ, 64, .inr (.inl fR)))]) [0, 1] rfl
            have hDc := hD.sub (ws' := [(zmo, .inr (6, [.int 0, .int mM.2.1, .int mM.2.2.1, .int (bI mM.2.2.2.1), .int mM.2.2.2.2.1, .int mM.2.2.2.2.2, .ref zar, .ref zbe, .ref zst, .ref zah, .ref zgd])), (zar, .inl (cJ, 64, .inr (.inl fR)))]) [0, 1] (by decide) rfl
            have hFc := va_free (wc := [(zmo, .inr (6, [.int 0, .int mM.2.1, .int mM.2.2.1, .int (bI mM.2.2.2.1), .int mM.2.2.2.2.1, .int mM.2.2.2.2.2, .ref zar, .ref zbe, .ref zst, .ref zah, .ref zgd])), (zar, .inl (cJ, 64, .inr (.inl fR)))]) hD hS hA [0, 1] rfl
            refine va_calli (va_runV (As := [.long (sS.2.2.2 ||| (jshl 1 y11)), .int yr]) (rest := []) ⟨hx, hb, hml, hown, hts⟩ (c_X7_hedgesBehind l dC dI cI cJ zmo zar zbe zst zah zgd H.size (0, mM.2.1, mM.2.2.1, mM.2.2.2.1, mM.2.2.2.2.1, mM.2.2.2.2.2) fR (sS.2.2.2 ||| (jshl 1 y11)) yr _ hr12) (cwV 2 hts gX7_advise_X7_hedgesBehind rfl rfl rfl (by decide +kernel) ⟨Nat.le_of_ble_eq_true rfl, Nat.le_of_ble_eq_true rfl⟩) ⟨fun a U gg mk q => by obtain ⟨q0, q1, qP, qK, qD⟩ := q; exact ⟨q0, q1, qP, va_K.moved (u := U) (U := U.calling gg mk a) (Vm.Alike.refl U.vm) qK, qD⟩, va_recv hK hPc (ci := 6) (q0 := 0) rfl rfl, fun U hU hW => ⟨rfl, by rw [hU], by rw [hU]; exact hPc, va_K.moved hW.alike hK, hDc.weaken (fun _ _ _ _ => trivial)⟩⟩ rfl rfl hl.1 rfl (lv_room (Nat.le_of_ble_eq_true rfl)) dX7_advise_81 ⟨Nat.zero_le _, Nat.zero_le _⟩) hS (fun q _ h => hFc q h) hFc (fun r_ u_ t H locs ht hvm hw hB hz1 hk1 hS => ?_)
            obtain rfl := hw.symm
            obtain ⟨hP1, -, hD1⟩ := hB
            rw [ht] at hP1
            obtain ⟨hP, hD⟩ := va_join (wr := [(zst, .inr (5, [.int sS.1, .int sS.2.1, .int sS.2.2.1, .long sS.2.2.2, .ref zsa]))]) (w1 := [(zmo, .inr (6, [.int 0, .int mM.2.1, .int mM.2.2.1, .int (bI mM.2.2.2.1), .int mM.2.2.2.2.1, .int mM.2.2.2.2.2, .ref zar, .ref zbe, .ref zst, .ref zah, .ref zgd])), (zar, .inl (cJ, 64, .inr (.inl fR)))]) hP hD [0, 1] [2] rfl rfl (by decide) (by decide) hk1 hFc hP1 hD1
            have hP := hP.sub (ws' := [(zmo, .inr (6, [.int 0, .int mM.2.1, .int mM.2.2.1, .int (bI mM.2.2.2.1), .int mM.2.2.2.2.1, .int mM.2.2.2.2.2, .ref zar, .ref zbe, .ref zst, .ref zah, .ref zgd])), (zar, .inl (cJ, 64, .inr (.inl fR))), (zst, .inr (5, [.int sS.1, .int sS.2.1, .int sS.2.2.1, .long sS.2.2.2, .ref zsa]))]) [1, 2, 0] rfl
            have hD := hD.sub (ws' := [(zmo, .inr (6, [.int 0, .int mM.2.1, .int mM.2.2.1, .int (bI mM.2.2.2.1), .int mM.2.2.2.2.1, .int mM.2.2.2.2.2, .ref zar, .ref zbe, .ref zst, .ref zah, .ref zgd])), (zar, .inl (cJ, 64, .inr (.inl fR))), (zst, .inr (5, [.int sS.1, .int sS.2.1, .int sS.2.2.1, .long sS.2.2.2, .ref zsa]))]) [1, 2, 0] (by decide) rfl
            clear hPc hDc hFc hP1 hD1 hk1
            refine lv_istore (lv' := [(5, .int r12), (0, .ref zmo), (1, .int yr), (2, .int y9), (3, .int y10), (4, .int y11)]) hx hb dX7_advise_84 hl (by decide) rfl (fun ls hl => ?_)
            refine lv_iload hx hb dX7_advise_86 (lv_at hl 0 rfl) ?_
            refine lv_iload_n hx hb dX7_advise_88 rfl (lv_at hl 4 rfl) ?_
            refine lv_icmp_gt (tgt := 95) hx hb dX7_advise_89 (by decide) (fun hc => ?_) (fun hc => ?_)
            · rw [if_pos hc] at hf
              refine lv_iload hx hb dX7_advise_95 (lv_at hl 5 rfl) ?_
              refine lv_istore_n (lv' := [(2, .int y11), (5, .int r12), (0, .ref zmo), (1, .int yr), (3, .int y10), (4, .int y11)]) hx hb dX7_advise_97 rfl hl (by decide) rfl (fun ls hl => ?_)
              refine lv_iload hx hb dX7_advise_98 (lv_at hl 1 rfl) ?_
              refine lv_istore_n (lv' := [(3, .int r12), (2, .int y11), (5, .int r12), (0, .ref zmo), (1, .int yr), (4, .int y11)]) hx hb dX7_advise_100 rfl hl (by decide) rfl (fun ls hl => ?_)
              obtain rfl := Option.some.inj hf
              exact K18 _ _ _ hP hD hS (lv_sub hl [3, 4, 1, 0, 5] rfl)
            · rw [if_neg hc] at hf
              refine lv_goto (tgt := 101) hx hb dX7_advise_92 (by decide) ?_
              obtain rfl := Option.some.inj hf
              exact K18 _ _ _ hP hD hS (lv_sub hl [1, 2, 3, 4, 5] rfl)
          · rw [if_neg hc] at hf
            refine lv_goto (tgt := 101) hx hb dX7_advise_64 (by decide) ?_
            obtain rfl := Option.some.inj hf
            exact K18 _ _ _ hP hD hS (lv_sub hl [0, 1, 2, 3, 4] rfl)
    exact lp16 100 _ _ _ _ _ _ hv hP hD hS (lv_sub hl [3, 4, 2, 1, 0] rfl)
  · rw [if_pos hc] at hf
    refine lv_aload_n hx hb dX7_advise_14 rfl (lv_at hl 0 rfl) ?_
    refine lv_iconst (v := 1) hx hb dX7_advise_15 (by decide) ?_
    have hPc := hP.sub (ws' := [(zmo, .inr (6, [.int 0, .int mM.2.1, .int mM.2.2.1, .int (bI mM.2.2.2.1), .int mM.2.2.2.2.1, .int mM.2.2.2.2.2, .ref zar, .ref zbe, .ref zst, .ref zah, .ref zgd]))]) [0] rfl
    have hDc := hD.sub (ws' := [(zmo, .inr (6, [.int 0, .int mM.2.1, .int mM.2.2.1, .int (bI mM.2.2.2.1), .int mM.2.2.2.2.1, .int mM.2.2.2.2.2, .ref zar, .ref zbe, .ref zst, .ref zah, .ref zgd]))]) [0] (by decide) rfl
    have hFc := va_free (wc := [(zmo, .inr (6, [.int 0, .int mM.2.1, .int mM.2.2.1, .int (bI mM.2.2.2.1), .int mM.2.2.2.2.1, .int mM.2.2.2.2.2, .ref zar, .ref zbe, .ref zst, .ref zah, .ref zgd]))]) hD hS hA [0] rfl
    refine va_calli (va_runV (As := [.int 1]) (rest := []) ⟨hx, hb, hml, hown, hts⟩ (c_X7_no l dC dI cI cJ zmo zar zbe zst zah zgd H.size (0, mM.2.1, mM.2.2.1, mM.2.2.2.1, mM.2.2.2.2.1, mM.2.2.2.2.2) 1) (cwV 1 hts gX7_advise_X7_no rfl rfl rfl (by decide +kernel) ⟨Nat.le_of_ble_eq_true rfl, Nat.le_of_ble_eq_true rfl⟩) ⟨fun a U gg mk q => by obtain ⟨q0, q1, qP, qK, qD⟩ := q; exact ⟨q0, q1, qP, va_K.moved (u := U) (U := U.calling gg mk a) (Vm.Alike.refl U.vm) qK, qD⟩, va_recv hK hPc (ci := 6) (q0 := 0) rfl rfl, fun U hU hW => ⟨rfl, by rw [hU], by rw [hU]; exact hPc, va_K.moved hW.alike hK, hDc.weaken (fun _ _ _ _ => trivial)⟩⟩ rfl rfl hl.1 rfl (lv_room (Nat.le_of_ble_eq_true rfl)) dX7_advise_16 ⟨Nat.zero_le _, Nat.zero_le _⟩) hS (fun q _ h => hFc q h) hFc (fun r_ u_ t H locs ht hvm hw hB hz1 hk1 hS => ?_)
    obtain rfl := hw.symm
    obtain ⟨hP1, -, hD1⟩ := hB
    rw [ht] at hP1
    obtain ⟨hP, hD⟩ := va_join (wr := [(zar, .inl (cJ, 64, .inr (.inl fR))), (zst, .inr (5, [.int sS.1, .int sS.2.1, .int sS.2.2.1, .long sS.2.2.2, .ref zsa]))]) (w1 := [(zmo, .inr (6, [.int (f_X7_no (0, mM.2.1, mM.2.2.1, mM.2.2.2.1, mM.2.2.2.2.1, mM.2.2.2.2.2) 1).2.1, .int (f_X7_no (0, mM.2.1, mM.2.2.1, mM.2.2.2.1, mM.2.2.2.2.1, mM.2.2.2.2.2) 1).2.2.1, .int (f_X7_no (0, mM.2.1, mM.2.2.1, mM.2.2.2.1, mM.2.2.2.2.1, mM.2.2.2.2.2) 1).2.2.2.1, .int (bI (f_X7_no (0, mM.2.1, mM.2.2.1, mM.2.2.2.1, mM.2.2.2.2.1, mM.2.2.2.2.2) 1).2.2.2.2.1), .int (f_X7_no (0, mM.2.1, mM.2.2.1, mM.2.2.2.1, mM.2.2.2.2.1, mM.2.2.2.2.2) 1).2.2.2.2.2.1, .int (f_X7_no (0, mM.2.1, mM.2.2.1, mM.2.2.2.1, mM.2.2.2.2.1, mM.2.2.2.2.2) 1).2.2.2.2.2.2, .ref zar, .ref zbe, .ref zst, .ref zah, .ref zgd]))]) hP hD [0] [1, 2] rfl rfl (by decide) (by decide) hk1 hFc hP1 hD1
    have hP := hP.sub (ws' := [(zmo, .inr (6, [.int (f_X7_no (0, mM.2.1, mM.2.2.1, mM.2.2.2.1, mM.2.2.2.2.1, mM.2.2.2.2.2) 1).2.1, .int (f_X7_no (0, mM.2.1, mM.2.2.1, mM.2.2.2.1, mM.2.2.2.2.1, mM.2.2.2.2.2) 1).2.2.1, .int (f_X7_no (0, mM.2.1, mM.2.2.1, mM.2.2.2.1, mM.2.2.2.2.1, mM.2.2.2.2.2) 1).2.2.2.1, .int (bI (f_X7_no (0, mM.2.1, mM.2.2.1, mM.2.2.2.1, mM.2.2.2.2.1, mM.2.2.2.2.2) 1).2.2.2.2.1), .int (f_X7_no (0, mM.2.1, mM.2.2.1, mM.2.2.2.1, mM.2.2.2.2.1, mM.2.2.2.2.2) 1).2.2.2.2.2.1, .int (f_X7_no (0, mM.2.1, mM.2.2.1, mM.2.2.2.1, mM.2.2.2.2.1, mM.2.2.2.2.2) 1).2.2.2.2.2.2, .ref zar, .ref zbe, .ref zst, .ref zah, .ref zgd])), (zar, .inl (cJ, 64, .inr (.inl fR))), (zst, .inr (5, [.int sS.1, .int sS.2.1, .int sS.2.2.1, .long sS.2.2.2, .ref zsa]))]) [2, 0, 1] rfl
    have hD := hD.sub (ws' := [(zmo, .inr (6, [.int (f_X7_no (0, mM.2.1, mM.2.2.1, mM.2.2.2.1, mM.2.2.2.2.1, mM.2.2.2.2.2) 1).2.1, .int (f_X7_no (0, mM.2.1, mM.2.2.1, mM.2.2.2.1, mM.2.2.2.2.1, mM.2.2.2.2.2) 1).2.2.1, .int (f_X7_no (0, mM.2.1, mM.2.2.1, mM.2.2.2.1, mM.2.2.2.2.1, mM.2.2.2.2.2) 1).2.2.2.1, .int (bI (f_X7_no (0, mM.2.1, mM.2.2.1, mM.2.2.2.1, mM.2.2.2.2.1, mM.2.2.2.2.2) 1).2.2.2.2.1), .int (f_X7_no (0, mM.2.1, mM.2.2.1, mM.2.2.2.1, mM.2.2.2.2.1, mM.2.2.2.2.2) 1).2.2.2.2.2.1, .int (f_X7_no (0, mM.2.1, mM.2.2.1, mM.2.2.2.1, mM.2.2.2.2.1, mM.2.2.2.2.2) 1).2.2.2.2.2.2, .ref zar, .ref zbe, .ref zst, .ref zah, .ref zgd])), (zar, .inl (cJ, 64, .inr (.inl fR))), (zst, .inr (5, [.int sS.1, .int sS.2.1, .int sS.2.2.1, .long sS.2.2.2, .ref zsa]))]) [2, 0, 1] (by decide) rfl
    clear hPc hDc hFc hP1 hD1 hk1
    obtain rfl := Option.some.inj hf
    exact W.iret (v := (f_X7_no (0, mM.2.1, mM.2.2.1, mM.2.2.2.1, mM.2.2.2.2.1, mM.2.2.2.2.2) 1).1) hx hb hr (fun t ht hW => ⟨⟨(f_X7_no (0, mM.2.1, mM.2.2.1, mM.2.2.2.1, mM.2.2.2.2.1, mM.2.2.2.2.2) 1).1, (), rfl, rfl, by rw [ht]; exact hP, va_K.moved hW.alike hK, hD⟩, hS.F ht⟩) hS.2.2 dX7_advise_19
/-! HedgeGlidersModel.digest()J -/
def lp_X7_digest_11 (mM : MoS) (fR : Nat → Int64) (fB : Nat → Int64) (sS : StS) (aS : Nat → Int32) : Nat → Int64 → Int32 → Option (Int64)
  | 0, _, _ => none
  | nf + 1, y5, y6 => if 10 < y6 then (some y5) else (Option.bind (f_X7_counted (0, mM.2.1, mM.2.2.1, mM.2.2.2.1, mM.2.2.2.2.1, mM.2.2.2.2.2) fR fB sS aS y6) fun r7 => lp_X7_digest_11 mM fR fB sS aS nf ((y5 * 31) + (Int32.toInt64 r7)) (y6 + 1))
def lp_X7_digest_80 (mM : MoS) (fR : Nat → Int64) (fB : Nat → Int64) (sS : StS) (aS : Nat → Int32) (y29 : Int32) : Nat → Int64 → Int32 → Option (Int64)
  | 0, _, _ => none
  | nf + 1, y34, y35 => if 4 < y35 then (some y34) else (Option.bind (f_X7_toldOf (0, mM.2.1, mM.2.2.1, mM.2.2.2.1, mM.2.2.2.2.1, mM.2.2.2.2.2) fR fB sS aS y29 y35) fun r36 => lp_X7_digest_80 mM fR fB sS aS y29 nf ((y34 * 31) + (Int32.toInt64 r36)) (y35 + 1))
def lp_X7_digest_64 (mM : MoS) (fR : Nat → Int64) (fB : Nat → Int64) (sS : StS) (aS : Nat → Int32) : Nat → Int64 → Int32 → Option (Int64)
  | 0, _, _ => none
  | nf + 1, y28, y29 => if (mM.2.1 * mM.2.2.1) ≤ y29 then (some y28) else (Option.bind (lp_X7_digest_80 mM fR fB sS aS y29 100 y28 0) fun v37 => lp_X7_digest_64 mM fR fB sS aS nf v37 (y29 + 1))
def f_X7_digest (mM : MoS) (fR : Nat → Int64) (fB : Nat → Int64) (sS : StS) (aS : Nat → Int32) : Option (Int64 × MoS) := Option.bind (lp_X7_digest_11 mM fR fB sS aS 100 1597 0) fun v8 => bindv ((((v8 * 31) + (Int32.toInt64 mM.2.2.2.2.1)) * 31) + (Int32.toInt64 mM.2.2.2.2.2)) fun x9 => Option.bind (lp_X7_digest_64 mM fR fB sS aS 100 x9 0) fun v38 => some (v38, (0, mM.2.1, mM.2.2.1, mM.2.2.2.1, mM.2.2.2.2.1, mM.2.2.2.2.2))
abbrev rm_X7_digest : Room := ({ frames := 5, cells := 0, slots := 0, locals := 124 } : Room)
abbrev A_X7_digest (cI cJ : ClassId) (zmo zar zbe zst zsa zah zgd : Nat) (mM : MoS) (fR : Nat → Int64) (fB : Nat → Int64) (sS : StS) (aS : Nat → Int32) (sz : Nat) : Nat → Prop := va_A [(zmo, .inr (6, [.int mM.1, .int mM.2.1, .int mM.2.2.1, .int (bI mM.2.2.2.1), .int mM.2.2.2.2.1, .int mM.2.2.2.2.2, .ref zar, .ref zbe, .ref zst, .ref zah, .ref zgd])), (zar, .inl (cJ, 64, .inr (.inl fR))), (zbe, .inl (cJ, 64, .inr (.inl fB))), (zst, .inr (5, [.int sS.1, .int sS.2.1, .int sS.2.2.1, .long sS.2.2.2, .ref zsa])), (zsa, .inl (cI, 64, .inl aS))] sz
abbrev Q_X7_digest (dC : Nat → ClassId) (dI : Nat → Nat → Nat) (cI cJ : ClassId) (zmo zar zbe zst zsa zah zgd : Nat) (mM : MoS) (fR : Nat → Int64) (fB : Nat → Int64) (sS : StS) (aS : Nat → Int32) (sz : Nat) (R : Int64 × MoS) : Array Value → State → Outcome → State → Prop := va_Ql (fun (r : Int64) (_ : Unit) => r = R.1) (fun u_ t => va_P (dC, dI) vwCl [(zmo, .inr (6, [.int R.2.1, .int R.2.2.1, .int R.2.2.2.1, .int (bI R.2.2.2.2.1), .int R.2.2.2.2.2.1, .int R.2.2.2.2.2.2, .ref zar, .ref zbe, .ref zst, .ref zah, .ref zgd])), (zar, .inl (cJ, 64, .inr (.inl fR))), (zbe, .inl (cJ, 64, .inr (.inl fB))), (zst, .inr (5, [.int sS.1, .int sS.2.1, .int sS.2.2.1, .long sS.2.2.2, .ref zsa])), (zsa, .inl (cI, 64, .inl aS))] t.heap ∧ va_K (dC, dI) vwCl [(cI, .int), (cJ, .long)] t ∧ va_D (A_X7_digest cI cJ zmo zar zbe zst zsa zah zgd mM fR fB sS aS sz) [(zmo, .inr (6, [.int R.2.1, .int R.2.2.1, .int R.2.2.2.1, .int (bI R.2.2.2.2.1), .int R.2.2.2.2.2.1, .int R.2.2.2.2.2.2, .ref zar, .ref zbe, .ref zst, .ref zah, .ref zgd])), (zar, .inl (cJ, 64, .inr (.inl fR))), (zbe, .inl (cJ, 64, .inr (.inl fB))), (zst, .inr (5, [.int sS.1, .int sS.2.1, .int sS.2.2.1, .long sS.2.2.2, .ref zsa])), (zsa, .inl (cI, 64, .inl aS))]) (A_X7_digest cI cJ zmo zar zbe zst zsa zah zgd mM fR fB sS aS sz)
set_option maxHeartbeats 4000000 in
set_option maxRecDepth 100000 in
theorem c_X7_digest (l : Launch) (dC : Nat → ClassId) (dI : Nat → Nat → Nat) (cI cJ : ClassId) (zmo zar zbe zst zsa zah zgd : Nat) (sz : Nat) (mM : MoS) (fR : Nat → Int64) (fB : Nat → Int64) (sS : StS) (aS : Nat → Int32) (R : Int64 × MoS) (hR : f_X7_digest mM fR fB sS aS = some R) : Met l yX7_digest wsX7_digest rm_X7_digest (va_Pc [.ref zmo] (fun U => U.heap.size = sz ∧ va_P (dC, dI) vwCl [(zmo, .inr (6, [.int mM.1, .int mM.2.1, .int mM.2.2.1, .int (bI mM.2.2.2.1), .int mM.2.2.2.2.1, .int mM.2.2.2.2.2, .ref zar, .ref zbe, .ref zst, .ref zah, .ref zgd])), (zar, .inl (cJ, 64, .inr (.inl fR))), (zbe, .inl (cJ, 64, .inr (.inl fB))), (zst, .inr (5, [.int sS.1, .int sS.2.1, .int sS.2.2.1, .long sS.2.2.2, .ref zsa])), (zsa, .inl (cI, 64, .inl aS))] U.heap ∧ va_K (dC, dI) vwCl [(cI, .int), (cJ, .long)] U ∧ va_D (fun _ => True) [(zmo, .inr (6, [.int mM.1, .int mM.2.1, .int mM.2.2.1, .int (bI mM.2.2.2.1), .int mM.2.2.2.2.1, .int mM.2.2.2.2.2, .ref zar, .ref zbe, .ref zst, .ref zah, .ref zgd])), (zar, .inl (cJ, 64, .inr (.inl fR))), (zbe, .inl (cJ, 64, .inr (.inl fB))), (zst, .inr (5, [.int sS.1, .int sS.2.1, .int sS.2.2.1, .long sS.2.2.2, .ref zsa])), (zsa, .inl (cI, 64, .inl aS))] ∧ nwM U)) (Q_X7_digest dC dI cI cJ zmo zar zbe zst zsa zah zgd mM fR fB sS aS sz R) 0 0 (A_X7_digest cI cJ zmo zar zbe zst zsa zah zgd mM fR fB sS aS sz) := by
  have hf := hR
  refine Met.ofW (cc := cX7_digest) (maxL := 5) (ret := (some .long)) (by decide) rfl ?_
  intro p e s m args below meth c s₁ B hml hv
  obtain ⟨hargs, hsz, hP, hK, hD0, hnw⟩ := hv
  have hx := B.exec
  have hb := B.bytes
  have hr := B.returns
  have hts := atoms_spec (ws := wsX7_digest) B.pre
  have hown : s.vm.findClass RX7 = some m.cls := findClass_of_methodNamed B.named
  have hlocks := B.notSynchronized
  subst hsz
  obtain ⟨hnw_hedges, hnw_ages, hnw_born, hnw_dead, hnw_year⟩ := id hnw
  have hD : va_D (A_X7_digest cI cJ zmo zar zbe zst zsa zah zgd mM fR fB sS aS s.heap.size) [(zmo, .inr (6, [.int mM.1, .int mM.2.1, .int mM.2.2.1, .int (bI mM.2.2.2.1), .int mM.2.2.2.2.1, .int mM.2.2.2.2.2, .ref zar, .ref zbe, .ref zst, .ref zah, .ref zgd])), (zar, .inl (cJ, 64, .inr (.inl fR))), (zbe, .inl (cJ, 64, .inr (.inl fB))), (zst, .inr (5, [.int sS.1, .int sS.2.1, .int sS.2.2.1, .long sS.2.2.2, .ref zsa])), (zsa, .inl (cI, 64, .inl aS))] := hD0.self (sz := s.heap.size)
  have hA : ∀ q : Nat, s.heap.size ≤ q → (A_X7_digest cI cJ zmo zar zbe zst zsa zah zgd mM fR fB sS aS s.heap.size) q := fun q h => Or.inr h
  have hS : va_S (A_X7_digest cI cJ zmo zar zbe zst zsa zah zgd mM fR fB sS aS s.heap.size) s.heap s.heap [] := va_S.rf
  have hinX7 : ∀ w ∈ wsX70, w ∈ wsX7_digest := by decide +kernel
  have hw0 := hts (.fieldLink RX7 45 "HedgeGlidersModel" "thrown" "I") (by decide +kernel)
  have hw1 := hts (.constantLong RX7 169 (1597)) (by decide +kernel)
  have hw2 := hts (.constantLong RX7 171 (31)) (by decide +kernel)
  have hw3 := hts (.fieldLink RX7 32 "HedgeGlidersModel" "s" "LHedgeGlidersModel$State;") (by decide +kernel)
  have hw4 := hts (.fieldLink RX7 16 "HedgeGlidersModel" "births" "I") (by decide +kernel)
  have hw5 := hts (.fieldLink RX7 19 "HedgeGlidersModel" "stays" "I") (by decide +kernel)
  have hw6 := hts (.fieldLink RX7 9 "HedgeGlidersModel" "w" "I") (by decide +kernel)
  have hw7 := hts (.fieldLink RX7 13 "HedgeGlidersModel" "h" "I") (by decide +kernel)
  have hl := lv_entry ([.ref zmo]) (n := 5) (Nat.le_of_ble_eq_true rfl)
  have he0 : entryFrame m args 5 = entryFrame m ([.ref zmo] : List Value).toArray 5 := by rw [hargs]
  rw [he0, lg_entry_eq]
  generalize (lg_sl ([.ref zmo]) ++ List.replicate (5 - (lg_sl ([.ref zmo])).length) Slot.unset).toArray = ls at hl ⊢
  have hl : lv_has ls 5 [(0, .ref zmo)] := hl
  rw [f_X7_digest] at hf
  refine lv_aload_n hx hb dX7_digest_0 rfl (lv_at hl 0 rfl) ?_
  refine lv_iconst (v := 0) hx hb dX7_digest_1 (by decide) ?_
  refine va_put (D := (dC, dI)) (ci := 6) (v := .int 0) (ty := .int) (C := RX7) (T := TX7) (N := 11) hx hb hts hinX7 tyX7 tyX7_ok nmX7 hown hK hP hD hS 0 rfl rfl 0 (by decide) hw0 (fun _ h9 => h9) rfl (by decide +kernel) rfl rfl (Nat.le_of_ble_eq_true rfl) dX7_digest_2 (fun H locs hP hD hS => ?_)
  have hP : va_P (dC, dI) vwCl [(zmo, .inr (6, [.int 0, .int mM.2.1, .int mM.2.2.1, .int (bI mM.2.2.2.1), .int mM.2.2.2.2.1, .int mM.2.2.2.2.2, .ref zar, .ref zbe, .ref zst, .ref zah, .ref zgd])), (zar, .inl (cJ, 64, .inr (.inl fR))), (zbe, .inl (cJ, 64, .inr (.inl fB))), (zst, .inr (5, [.int sS.1, .int sS.2.1, .int sS.2.2.1, .long sS.2.2.2, .ref zsa])), (zsa, .inl (cI, 64, .inl aS))] H := hP
  have hD : va_D (A_X7_digest cI cJ zmo zar zbe zst zsa zah zgd mM fR fB sS aS s.heap.size) [(zmo, .inr (6, [.int 0, .int mM.2.1, .int mM.2.2.1, .int (bI mM.2.2.2.1), .int mM.2.2.2.2.1, .int mM.2.2.2.2.2, .ref zar, .ref zbe, .ref zst, .ref zah, .ref zgd])), (zar, .inl (cJ, 64, .inr (.inl fR))), (zbe, .inl (cJ, 64, .inr (.inl fB))), (zst, .inr (5, [.int sS.1, .int sS.2.1, .int sS.2.2.1, .long sS.2.2.2, .ref zsa])), (zsa, .inl (cI, 64, .inl aS))] := hD
  refine lv_ldc2 (v := 1597) hx hb hown hw1 dX7_digest_5 ?_
  refine lv_lstore_n (lv' := [(1, .long 1597), (0, .ref zmo)]) hx hb dX7_digest_8 rfl hl (by decide) rfl (fun ls hl => ?_)
  refine lv_iconst (v := 0) hx hb dX7_digest_9 (by decide) ?_
  refine lv_istore_n (lv' := [(3, .int 0), (1, .long 1597), (0, .ref zmo)]) hx hb dX7_digest_10 rfl hl (by decide) rfl (fun ls hl => ?_)
  obtain ⟨v8, hv, hf⟩ := obind hf
  have K39 : ∀ (H : Heap) (locs : List Loc) (ls : Array Slot), va_P (dC, dI) vwCl [(zmo, .inr (6, [.int 0, .int mM.2.1, .int mM.2.2.1, .int (bI mM.2.2.2.1), .int mM.2.2.2.2.1, .int mM.2.2.2.2.2, .ref zar, .ref zbe, .ref zst, .ref zah, .ref zgd])), (zar, .inl (cJ, 64, .inr (.inl fR))), (zbe, .inl (cJ, 64, .inr (.inl fB))), (zst, .inr (5, [.int sS.1, .int sS.2.1, .int sS.2.2.1, .long sS.2.2.2, .ref zsa])), (zsa, .inl (cI, 64, .inl aS))] H → va_D (A_X7_digest cI cJ zmo zar zbe zst zsa zah zgd mM fR fB sS aS s.heap.size) [(zmo, .inr (6, [.int 0, .int mM.2.1, .int mM.2.2.1, .int (bI mM.2.2.2.1), .int mM.2.2.2.2.1, .int mM.2.2.2.2.2, .ref zar, .ref zbe, .ref zst, .ref zah, .ref zgd])), (zar, .inl (cJ, 64, .inr (.inl fR))), (zbe, .inl (cJ, 64, .inr (.inl fB))), (zst, .inr (5, [.int sS.1, .int sS.2.1, .int sS.2.2.1, .long sS.2.2.2, .ref zsa])), (zsa, .inl (cI, 64, .inl aS))] → va_S (A_X7_digest cI cJ zmo zar zbe zst zsa zah zgd mM fR fB sS aS s.heap.size) s.heap H locs → lv_has ls 5 [(0, .ref zmo), (1, .long v8)] → W p l e rm_X7_digest s m args below meth c H locs 0 0 (MQ below (Q_X7_digest dC dI cI cJ zmo zar zbe zst zsa zah zgd mM fR fB sS aS s.heap.size R) args s 0 0 (A_X7_digest cI cJ zmo zar zbe zst zsa zah zgd mM fR fB sS aS s.heap.size)) (F0 m 40 ls []) := by
    intro H locs ls hP hD hS hl
    refine lv_lload_n hx hb dX7_digest_40 rfl (lv_at hl 1 rfl) ?_
    refine lv_ldc2 (v := 31) hx hb hown hw2 dX7_digest_41 ?_
    refine lv_lmul hx hb dX7_digest_44 ?_
    refine lv_aload_n hx hb dX7_digest_45 rfl (lv_at hl 0 rfl) ?_
    refine va_get (D := (dC, dI)) (ci := 6) (v := .int mM.2.2.2.2.1) (C := RX7) (T := TX7) (N := 11) hx hb hts hinX7 hown hK hP 0 rfl rfl 4 (by decide) hw4 (fun _ h9 => h9) rfl dX7_digest_46 ?_
    refine lv_i2l (v := (Int32.toInt64 mM.2.2.2.2.1)) hx hb dX7_digest_49 rfl ?_
    refine lv_ladd hx hb dX7_digest_50 ?_
    refine lv_ldc2 (v := 31) hx hb hown hw2 dX7_digest_51 ?_
    refine lv_lmul hx hb dX7_digest_54 ?_
    refine lv_aload_n hx hb dX7_digest_55 rfl (lv_at hl 0 rfl) ?_
    refine va_get (D := (dC, dI)) (ci := 6) (v := .int mM.2.2.2.2.2) (C := RX7) (T := TX7) (N := 11) hx hb hts hinX7 hown hK hP 0 rfl rfl 5 (by decide) hw5 (fun _ h9 => h9) rfl dX7_digest_56 ?_
    refine lv_i2l (v := (Int32.toInt64 mM.2.2.2.2.2)) hx hb dX7_digest_59 rfl ?_
    refine lv_ladd hx hb dX7_digest_60 ?_
    obtain ⟨x9, hx9, hf⟩ := vbind hf
    refine topl_e hx9 ?_
    refine lv_lstore_n (lv' := [(1, .long x9), (0, .ref zmo)]) hx hb dX7_digest_61 rfl hl (by decide) rfl (fun ls hl => ?_)
    refine lv_iconst (v := 0) hx hb dX7_digest_62 (by decide) ?_
    refine lv_istore_n (lv' := [(3, .int 0), (1, .long x9), (0, .ref zmo)]) hx hb dX7_digest_63 rfl hl (by decide) rfl (fun ls hl => ?_)
    obtain ⟨v38, hv, hf⟩ := obind hf
    have K40 : ∀ (H : Heap) (locs : List Loc) (ls : Array Slot), va_P (dC, dI) vwCl [(zmo, .inr (6, [.int 0, .int mM.2.1, .int mM.2.2.1, .int (bI mM.2.2.2.1), .int mM.2.2.2.2.1, .int mM.2.2.2.2.2, .ref zar, .ref zbe, .ref zst, .ref zah, .ref zgd])), (zar, .inl (cJ, 64, .inr (.inl fR))), (zbe, .inl (cJ, 64, .inr (.inl fB))), (zst, .inr (5, [.int sS.1, .int sS.2.1, .int sS.2.2.1, .long sS.2.2.2, .ref zsa])), (zsa, .inl (cI, 64, .inl aS))] H → va_D (A_X7_digest cI cJ zmo zar zbe zst zsa zah zgd mM fR fB sS aS s.heap.size) [(zmo, .inr (6, [.int 0, .int mM.2.1, .int mM.2.2.1, .int (bI mM.2.2.2.1), .int mM.2.2.2.2.1, .int mM.2.2.2.2.2, .ref zar, .ref zbe, .ref zst, .ref zah, .ref zgd])), (zar, .inl (cJ, 64, .inr (.inl fR))), (zbe, .inl (cJ, 64, .inr (.inl fB))), (zst, .inr (5, [.int sS.1, .int sS.2.1, .int sS.2.2.1, .long sS.2.2.2, .ref zsa])), (zsa, .inl (cI, 64, .inl aS))] → va_S (A_X7_digest cI cJ zmo zar zbe zst zsa zah zgd mM fR fB sS aS s.heap.size) s.heap H locs → lv_has ls 5 [(1, .long v38)] → W p l e rm_X7_digest s m args below meth c H locs 0 0 (MQ below (Q_X7_digest dC dI cI cJ zmo zar zbe zst zsa zah zgd mM fR fB sS aS s.heap.size R) args s 0 0 (A_X7_digest cI cJ zmo zar zbe zst zsa zah zgd mM fR fB sS aS s.heap.size)) (F0 m 113 ls []) := by
      intro H locs ls hP hD hS hl
      refine lv_lload_n hx hb dX7_digest_113 rfl (lv_at hl 0 rfl) ?_
      obtain rfl := Option.some.inj hf
      exact W.lret (v := v38) hx hb hr (fun t ht hW => ⟨⟨v38, (), rfl, rfl, by rw [ht]; exact hP, va_K.moved hW.alike hK, hD⟩, hS.F ht⟩) hS.2.2 dX7_digest_114
    have lp41 : ∀ (nf : Nat) (y28 : Int64) (y29 : Int32) (H : Heap) (locs : List Loc) (ls : Array Slot), lp_X7_digest_64 mM fR fB sS aS nf y28 y29 = some v38 → va_P (dC, dI) vwCl [(zmo, .inr (6, [.int 0, .int mM.2.1, .int mM.2.2.1, .int (bI mM.2.2.2.1), .int mM.2.2.2.2.1, .int mM.2.2.2.2.2, .ref zar, .ref zbe, .ref zst, .ref zah, .ref zgd])), (zar, .inl (cJ, 64, .inr (.inl fR))), (zbe, .inl (cJ, 64, .inr (.inl fB))), (zst, .inr (5, [.int sS.1, .int sS.2.1, .int sS.2.2.1, .long sS.2.2.2, .ref zsa])), (zsa, .inl (cI, 64, .inl aS))] H → va_D (A_X7_digest cI cJ zmo zar zbe zst zsa zah zgd mM fR fB sS aS s.heap.size) [(zmo, .inr (6, [.int 0, .int mM.2.1, .int mM.2.2.1, .int (bI mM.2.2.2.1), .int mM.2.2.2.2.1, .int mM.2.2.2.2.2, .ref zar, .ref zbe, .ref zst, .ref zah, .ref zgd])), (zar, .inl (cJ, 64, .inr (.inl fR))), (zbe, .inl (cJ, 64, .inr (.inl fB))), (zst, .inr (5, [.int sS.1, .int sS.2.1, .int sS.2.2.1, .long sS.2.2.2, .ref zsa])), (zsa, .inl (cI, 64, .inl aS))] → va_S (A_X7_digest cI cJ zmo zar zbe zst zsa zah zgd mM fR fB sS aS s.heap.size) s.heap H locs → lv_has ls 5 [(0, .ref zmo), (1, .long y28), (3, .int y29)] → W p l e rm_X7_digest s m args below meth c H locs 0 0 (MQ below (Q_X7_digest dC dI cI cJ zmo zar zbe zst zsa zah zgd mM fR fB sS aS s.heap.size R) args s 0 0 (A_X7_digest cI cJ zmo zar zbe zst zsa zah zgd mM fR fB sS aS s.heap.size)) (F0 m 64 ls []) := by
      intro nf
      induction nf with
      | zero => intro y28 y29 H locs ls h9; exact nomatch h9
      | succ nf ih42 =>
        intro y28 y29 H locs ls hf hP hD hS hl
        rw [lp_X7_digest_64.eq_2] at hf
        refine lv_iload_n hx hb dX7_digest_64 rfl (lv_at hl 2 rfl) ?_
        refine lv_aload_n hx hb dX7_digest_65 rfl (lv_at hl 0 rfl) ?_
        refine va_get (D := (dC, dI)) (ci := 6) (v := .int mM.2.1) (C := RX7) (T := TX7) (N := 11) hx hb hts hinX7 hown hK hP 0 rfl rfl 1 (by decide) hw6 (fun _ h9 => h9) rfl dX7_digest_66 ?_
        refine lv_aload_n hx hb dX7_digest_69 rfl (lv_at hl 0 rfl) ?_
        refine va_get (D := (dC, dI)) (ci := 6) (v := .int mM.2.2.1) (C := RX7) (T := TX7) (N := 11) hx hb hts hinX7 hown hK hP 0 rfl rfl 2 (by decide) hw7 (fun _ h9 => h9) rfl dX7_digest_70 ?_
        refine lv_imul hx hb dX7_digest_73 ?_
        refine lv_icmp_ge (tgt := 113) hx hb dX7_digest_74 (by decide) (fun hc => ?_) (fun hc => ?_)
        · rw [if_pos hc] at hf
          obtain rfl := Option.some.inj hf
          exact K40 _ _ _ hP hD hS (lv_sub hl [1] rfl)
        · rw [if_neg hc] at hf
          refine lv_iconst (v := 0) hx hb dX7_digest_77 (by decide) ?_
          refine lv_istore (lv' := [(4, .int 0), (0, .ref zmo), (1, .long y28), (3, .int y29)]) hx hb dX7_digest_78 hl (by decide) rfl (fun ls hl => ?_)
          obtain ⟨v37, hv, hf⟩ := obind hf
          have K43 : ∀ (H : Heap) (locs : List Loc) (ls : Array Slot), va_P (dC, dI) vwCl [(zmo, .inr (6, [.int 0, .int mM.2.1, .int mM.2.2.1, .int (bI mM.2.2.2.1), .int mM.2.2.2.2.1, .int mM.2.2.2.2.2, .ref zar, .ref zbe, .ref zst, .ref zah, .ref zgd])), (zar, .inl (cJ, 64, .inr (.inl fR))), (zbe, .inl (cJ, 64, .inr (.inl fB))), (zst, .inr (5, [.int sS.1, .int sS.2.1, .int sS.2.2.1, .long sS.2.2.2, .ref zsa])), (zsa, .inl (cI, 64, .inl aS))] H → va_D (A_X7_digest cI cJ zmo zar zbe zst zsa zah zgd mM fR fB sS aS s.heap.size) [(zmo, .inr (6, [.int 0, .int mM.2.1, .int mM.2.2.1, .int (bI mM.2.2.2.1), .int mM.2.2.2.2.1, .int mM.2.2.2.2.2, .ref zar, .ref zbe, .ref zst, .ref zah, .ref zgd])), (zar, .inl (cJ, 64, .inr (.inl fR))), (zbe, .inl (cJ, 64, .inr (.inl fB))), (zst, .inr (5, [.int sS.1, .int sS.2.1, .int sS.2.2.1, .long sS.2.2.2, .ref zsa])), (zsa, .inl (cI, 64, .inl aS))] → va_S (A_X7_digest cI cJ zmo zar zbe zst zsa zah zgd mM fR fB sS aS s.heap.size) s.heap H locs → lv_has ls 5 [(0, .ref zmo), (1, .long v37), (3, .int y29)] → W p l e rm_X7_digest s m args below meth c H locs 0 0 (MQ below (Q_X7_digest dC dI cI cJ zmo zar zbe zst zsa zah zgd mM fR fB sS aS s.heap.size R) args s 0 0 (A_X7_digest cI cJ zmo zar zbe zst zsa zah zgd mM fR fB sS aS s.heap.size)) (F0 m 107 ls []) := by
            intro H locs ls hP hD hS hl
            refine lv_iinc (v := (y29 + 1)) (lv' := [(3, .int (y29 + 1)), (0, .ref zmo), (1, .long v37)]) hx hb dX7_digest_107 hl (k := 2) rfl rfl (by decide) rfl (fun ls hl => ?_)
            refine lv_goto (tgt := 64) hx hb dX7_digest_110 (by decide) ?_
            exact ih42 _ _ _ _ _ hf hP hD hS (lv_sub hl [1, 2, 0] rfl)
          have lp44 : ∀ (nf : Nat) (y34 : Int64) (y35 : Int32) (H : Heap) (locs : List Loc) (ls : Array Slot), lp_X7_digest_80 mM fR fB sS aS y29 nf y34 y35 = some v37 → va_P (dC, dI) vwCl [(zmo, .inr (6, [.int 0, .int mM.2.1, .int mM.2.2.1, .int (bI mM.2.2.2.1), .int mM.2.2.2.2.1, .int mM.2.2.2.2.2, .ref zar, .ref zbe, .ref zst, .ref zah, .ref zgd])), (zar, .inl (cJ, 64, .inr (.inl fR))), (zbe, .inl (cJ, 64, .inr (.inl fB))), (zst, .inr (5, [.int sS.1, .int sS.2.1, .int sS.2.2.1, .long sS.2.2.2, .ref zsa])), (zsa, .inl (cI, 64, .inl aS))] H → va_D (A_X7_digest cI cJ zmo zar zbe zst zsa zah zgd mM fR fB sS aS s.heap.size) [(zmo, .inr (6, [.int 0, .int mM.2.1, .int mM.2.2.1, .int (bI mM.2.2.2.1), .int mM.2.2.2.2.1, .int mM.2.2.2.2.2, .ref zar, .ref zbe, .ref zst, .ref zah, .ref zgd])), (zar, .inl (cJ, 64, .inr (.inl fR))), (zbe, .inl (cJ, 64, .inr (.inl fB))), (zst, .inr (5, [.int sS.1, .int sS.2.1, .int sS.2.2.1, .long sS.2.2.2, .ref zsa])), (zsa, .inl (cI, 64, .inl aS))] → va_S (A_X7_digest cI cJ zmo zar zbe zst zsa zah zgd mM fR fB sS aS s.heap.size) s.heap H locs → lv_has ls 5 [(0, .ref zmo), (1, .long y34), (3, .int y29), (4, .int y35)] → W p l e rm_X7_digest s m args below meth c H locs 0 0 (MQ below (Q_X7_digest dC dI cI cJ zmo zar zbe zst zsa zah zgd mM fR fB sS aS s.heap.size R) args s 0 0 (A_X7_digest cI cJ zmo zar zbe zst zsa zah zgd mM fR fB sS aS s.heap.size)) (F0 m 80 ls []) := by
            intro nf
            induction nf with
            | zero => intro y34 y35 H locs ls h9; exact nomatch h9
            | succ nf ih45 =>
              intro y34 y35 H locs ls hf hP hD hS hl
              rw [lp_X7_digest_80.eq_2] at hf
              refine lv_iload hx hb dX7_digest_80 (lv_at hl 3 rfl) ?_
              refine lv_iconst (v := 4) hx hb dX7_digest_82 (by decide) ?_
              refine lv_icmp_gt (tgt := 107) hx hb dX7_digest_83 (by decide) (fun hc => ?_) (fun hc => ?_)
              · rw [if_pos hc] at hf
                obtain rfl := Option.some.inj hf
                exact K43 _ _ _ hP hD hS (lv_sub hl [0, 1, 2] rfl)
              · rw [if_neg hc] at hf
                refine lv_lload_n hx hb dX7_digest_86 rfl (lv_at hl 1 rfl) ?_
                refine lv_ldc2 (v := 31) hx hb hown hw2 dX7_digest_87 ?_
                refine lv_lmul hx hb dX7_digest_90 ?_
                refine lv_aload_n hx hb dX7_digest_91 rfl (lv_at hl 0 rfl) ?_
                refine lv_iload_n hx hb dX7_digest_92 rfl (lv_at hl 2 rfl) ?_
                refine lv_iload hx hb dX7_digest_93 (lv_at hl 3 rfl) ?_
                obtain ⟨r36, hr36, hf⟩ := obind hf
                have hPc := hP.sub (ws' := [(zmo, .inr (6, [.int 0, .int mM.2.1, .int mM.2.2.1, .int (bI mM.2.2.2.1), .int mM.2.2.2.2.1, .int mM.2.2.2.2.2, .ref zar, .ref zbe, .ref zst, .ref zah, .ref zgd])), (zar, .inl (cJ, 64, .inr (.inl fR))), (zbe, .inl (cJ, 64, .inr (.inl fB))), (zst, .inr (5, [.int sS.1, .int sS.2.1, .int sS.2.2.1, .long sS.2.2.2, .ref zsa])), (zsa, .inl (cI, 64, .inl aS))]) [0, 1, 2, 3, 4] rfl
                have hDc := hD.sub (ws' := [(zmo, .inr (6, [.int 0, .int mM.2.1, .int mM.2.2.1, .int (bI mM.2.2.2.1), .int mM.2.2.2.2.1, .int mM.2.2.2.2.2, .ref zar, .ref zbe, .ref zst, .ref zah, .ref zgd])), (zar, .inl (cJ, 64, .inr (.inl fR))), (zbe, .inl (cJ, 64, .inr (.inl fB))), (zst, .inr (5, [.int sS.1, .int sS.2.1, .int sS.2.2.1, .long sS.2.2.2, .ref zsa])), (zsa, .inl (cI, 64, .inl aS))]) [0, 1, 2, 3, 4] (by decide) rfl
                have hFc := va_free (wc := [(zmo, .inr (6, [.int 0, .int mM.2.1, .int mM.2.2.1, .int (bI mM.2.2.2.1), .int mM.2.2.2.2.1, .int mM.2.2.2.2.2, .ref zar, .ref zbe, .ref zst, .ref zah, .ref zgd])), (zar, .inl (cJ, 64, .inr (.inl fR))), (zbe, .inl (cJ, 64, .inr (.inl fB))), (zst, .inr (5, [.int sS.1, .int sS.2.1, .int sS.2.2.1, .long sS.2.2.2, .ref zsa])), (zsa, .inl (cI, 64, .inl aS))]) hD hS hA [0, 1, 2, 3, 4] rfl
                refine va_calli (va_runV (As := [.int y29, .int y35]) (rest := [.long (y34 * 31)]) ⟨hx, hb, hml, hown, hts⟩ (c_X7_toldOf l dC dI cI cJ zmo zar zbe zst zsa zah zgd H.size (0, mM.2.1, mM.2.2.1, mM.2.2.2.1, mM.2.2.2.2.1, mM.2.2.2.2.2) fR fB sS aS y29 y35 _ hr36) (cwV 2 hts gX7_digest_X7_toldOf rfl rfl rfl (by decide +kernel) ⟨Nat.le_of_ble_eq_true rfl, Nat.le_of_ble_eq_true rfl⟩) ⟨fun a U gg mk q => by obtain ⟨q0, q1, qP, qK, qD, qn⟩ := q; exact ⟨q0, q1, qP, va_K.moved (u := U) (U := U.calling gg mk a) (Vm.Alike.refl U.vm) qK, qD, nwM.same (u := U) (U := U.calling gg mk a) rfl qn⟩, va_recv hK hPc (ci := 6) (q0 := 0) rfl rfl, fun U hU hW => ⟨rfl, by rw [hU], by rw [hU]; exact hPc, va_K.moved hW.alike hK, hDc.weaken (fun _ _ _ _ => trivial), nwM.moved hW hnw⟩⟩ rfl rfl hl.1 rfl (lv_room (Nat.le_of_ble_eq_true rfl)) dX7_digest_95 ⟨Nat.zero_le _, Nat.zero_le _⟩) hS (fun q _ h => hFc q h) hFc (fun r_ u_ t H locs ht hvm hw hB hz1 hk1 hS => ?_)
                obtain rfl := hw.symm
                obtain ⟨hP1, -, hD1⟩ := hB
                rw [ht] at hP1
                obtain ⟨hP, hD⟩ := va_join (wr := []) (w1 := [(zmo, .inr (6, [.int 0, .int mM.2.1, .int mM.2.2.1, .int (bI mM.2.2.2.1), .int mM.2.2.2.2.1, .int mM.2.2.2.2.2, .ref zar, .ref zbe, .ref zst, .ref zah, .ref zgd])), (zar, .inl (cJ, 64, .inr (.inl fR))), (zbe, .inl (cJ, 64, .inr (.inl fB))), (zst, .inr (5, [.int sS.1, .int sS.2.1, .int sS.2.2.1, .long sS.2.2.2, .ref zsa])), (zsa, .inl (cI, 64, .inl aS))]) hP hD [0, 1, 2, 3, 4] [] rfl rfl (by decide) (by decide) hk1 hFc hP1 hD1
                have hP := hP.sub (ws' := [(zmo, .inr (6, [.int 0, .int mM.2.1, .int mM.2.2.1, .int (bI mM.2.2.2.1), .int mM.2.2.2.2.1, .int mM.2.2.2.2.2, .ref zar, .ref zbe, .ref zst, .ref zah, .ref zgd])), (zar, .inl (cJ, 64, .inr (.inl fR))), (zbe, .inl (cJ, 64, .inr (.inl fB))), (zst, .inr (5, [.int sS.1, .int sS.2.1, .int sS.2.2.1, .long sS.2.2.2, .ref zsa])), (zsa, .inl (cI, 64, .inl aS))]) [0, 1, 2, 3, 4] rfl
                have hD := hD.sub (ws' := [(zmo, .inr (6, [.int 0, .int mM.2.1, .int mM.2.2.1, .int (bI mM.2.2.2.1), .int mM.2.2.2.2.1, .int mM.2.2.2.2.2, .ref zar, .ref zbe, .ref zst, .ref zah, .ref zgd])), (zar, .inl (cJ, 64, .inr (.inl fR))), (zbe, .inl (cJ, 64, .inr (.inl fB))), (zst, .inr (5, [.int sS.1, .int sS.2.1, .int sS.2.2.1, .long sS.2.2.2, .ref zsa])), (zsa, .inl (cI, 64, .inl aS))]) [0, 1, 2, 3, 4] (by decide) rfl
                clear hPc hDc hFc hP1 hD1 hk1
                refine lv_i2l (v := (Int32.toInt64 r36)) hx hb dX7_digest_98 rfl ?_
                refine lv_ladd hx hb dX7_digest_99 ?_
                refine lv_lstore_n (lv' := [(1, .long ((y34 * 31) + (Int32.toInt64 r36))), (0, .ref zmo), (3, .int y29), (4, .int y35)]) hx hb dX7_digest_100 rfl hl (by decide) rfl (fun ls hl => ?_)
                refine lv_iinc (v := (y35 + 1)) (lv' := [(4, .int (y35 + 1)), (1, .long ((y34 * 31) + (Int32.toInt64 r36))), (0, .ref zmo), (3, .int y29)]) hx hb dX7_digest_101 hl (k := 3) rfl rfl (by decide) rfl (fun ls hl => ?_)
                refine lv_goto (tgt := 80) hx hb dX7_digest_104 (by decide) ?_
                exact ih45 _ _ _ _ _ hf hP hD hS (lv_sub hl [2, 1, 3, 0] rfl)
          exact lp44 100 _ _ _ _ _ hv hP hD hS (lv_sub hl [1, 2, 3, 0] rfl)
    exact lp41 100 _ _ _ _ _ hv hP hD hS (lv_sub hl [2, 1, 0] rfl)
  have lp46 : ∀ (nf : Nat) (y5 : Int64) (y6 : Int32) (H : Heap) (locs : List Loc) (ls : Array Slot), lp_X7_digest_11 mM fR fB sS aS nf y5 y6 = some v8 → va_P (dC, dI) vwCl [(zmo, .inr (6, [.int 0, .int mM.2.1, .int mM.2.2.1, .int (bI mM.2.2.2.1), .int mM.2.2.2.2.1, .int mM.2.2.2.2.2, .ref zar, .ref zbe, .ref zst, .ref zah, .ref zgd])), (zar, .inl (cJ, 64, .inr (.inl fR))), (zbe, .inl (cJ, 64, .inr (.inl fB))), (zst, .inr (5, [.int sS.1, .int sS.2.1, .int sS.2.2.1, .long sS.2.2.2, .ref zsa])), (zsa, .inl (cI, 64, .inl aS))] H → va_D (A_X7_digest cI cJ zmo zar zbe zst zsa zah zgd mM fR fB sS aS s.heap.size) [(zmo, .inr (6, [.int 0, .int mM.2.1, .int mM.2.2.1, .int (bI mM.2.2.2.1), .int mM.2.2.2.2.1, .int mM.2.2.2.2.2, .ref zar, .ref zbe, .ref zst, .ref zah, .ref zgd])), (zar, .inl (cJ, 64, .inr (.inl fR))), (zbe, .inl (cJ, 64, .inr (.inl fB))), (zst, .inr (5, [.int sS.1, .int sS.2.1, .int sS.2.2.1, .long sS.2.2.2, .ref zsa])), (zsa, .inl (cI, 64, .inl aS))] → va_S (A_X7_digest cI cJ zmo zar zbe zst zsa zah zgd mM fR fB sS aS s.heap.size) s.heap H locs → lv_has ls 5 [(0, .ref zmo), (1, .long y5), (3, .int y6)] → W p l e rm_X7_digest s m args below meth c H locs 0 0 (MQ below (Q_X7_digest dC dI cI cJ zmo zar zbe zst zsa zah zgd mM fR fB sS aS s.heap.size R) args s 0 0 (A_X7_digest cI cJ zmo zar zbe zst zsa zah zgd mM fR fB sS aS s.heap.size)) (F0 m 11 ls []) := by
    intro nf
    induction nf with
    | zero => intro y5 y6 H locs ls h9; exact nomatch h9
    | succ nf ih47 =>
      intro y5 y6 H locs ls hf hP hD hS hl
      rw [lp_X7_digest_11.eq_2] at hf
      refine lv_iload_n hx hb dX7_digest_11 rfl (lv_at hl 2 rfl) ?_
      refine lv_bipush (v := 10) hx hb dX7_digest_12 (by decide) ?_
      refine lv_icmp_gt (tgt := 40) hx hb dX7_digest_14 (by decide) (fun hc => ?_) (fun hc => ?_)
      · rw [if_pos hc] at hf
        obtain rfl := Option.some.inj hf
        exact K39 _ _ _ hP hD hS (lv_sub hl [0, 1] rfl)
      · rw [if_neg hc] at hf
        refine lv_lload_n hx hb dX7_digest_17 rfl (lv_at hl 1 rfl) ?_
        refine lv_ldc2 (v := 31) hx hb hown hw2 dX7_digest_18 ?_
        refine lv_lmul hx hb dX7_digest_21 ?_
        refine lv_aload_n hx hb dX7_digest_22 rfl (lv_at hl 0 rfl) ?_
        refine lv_aload_n hx hb dX7_digest_23 rfl (lv_at hl 0 rfl) ?_
        refine va_get (D := (dC, dI)) (ci := 6) (v := .ref zst) (C := RX7) (T := TX7) (N := 11) hx hb hts hinX7 hown hK hP 0 rfl rfl 8 (by decide) hw3 (fun _ h9 => h9) rfl dX7_digest_24 ?_
        refine lv_iload_n hx hb dX7_digest_27 rfl (lv_at hl 2 rfl) ?_
        obtain ⟨r7, hr7, hf⟩ := obind hf
        have hPc := hP.sub (ws' := [(zmo, .inr (6, [.int 0, .int mM.2.1, .int mM.2.2.1, .int (bI mM.2.2.2.1), .int mM.2.2.2.2.1, .int mM.2.2.2.2.2, .ref zar, .ref zbe, .ref zst, .ref zah, .ref zgd])), (zar, .inl (cJ, 64, .inr (.inl fR))), (zbe, .inl (cJ, 64, .inr (.inl fB))), (zst, .inr (5, [.int sS.1, .int sS.2.1, .int sS.2.2.1, .long sS.2.2.2, .ref zsa])), (zsa, .inl (cI, 64, .inl aS))]) [0, 1, 2, 3, 4] rfl
        have hDc := hD.sub (ws' := [(zmo, .inr (6, [.int 0, .int mM.2.1, .int mM.2.2.1, .int (bI mM.2.2.2.1), .int mM.2.2.2.2.1, .int mM.2.2.2.2.2, .ref zar, .ref zbe, .ref zst, .ref zah, .ref zgd])), (zar, .inl (cJ, 64, .inr (.inl fR))), (zbe, .inl (cJ, 64, .inr (.inl fB))), (zst, .inr (5, [.int sS.1, .int sS.2.1, .int sS.2.2.1, .long sS.2.2.2, .ref zsa])), (zsa, .inl (cI, 64, .inl aS))]) [0, 1, 2, 3, 4] (by decide) rfl
        have hFc := va_free (wc := [(zmo, .inr (6, [.int 0, .int mM.2.1, .int mM.2.2.1, .int (bI mM.2.2.2.1), .int mM.2.2.2.2.1, .int mM.2.2.2.2.2, .ref zar, .ref zbe, .ref zst, .ref zah, .ref zgd])), (zar, .inl (cJ, 64, .inr (.inl fR))), (zbe, .inl (cJ, 64, .inr (.inl fB))), (zst, .inr (5, [.int sS.1, .int sS.2.1, .int sS.2.2.1, .long sS.2.2.2, .ref zsa])), (zsa, .inl (cI, 64, .inl aS))]) hD hS hA [0, 1, 2, 3, 4] rfl
        refine va_calli (va_runV (As := [.ref zst, .int y6]) (rest := [.long (y5 * 31)]) ⟨hx, hb, hml, hown, hts⟩ (c_X7_counted l dC dI cI cJ zmo zar zbe zst zsa zst zah zgd H.size (0, mM.2.1, mM.2.2.1, mM.2.2.2.1, mM.2.2.2.2.1, mM.2.2.2.2.2) fR fB sS aS y6 _ hr7) (cwV 2 hts gX7_digest_X7_counted rfl rfl rfl (by decide +kernel) ⟨Nat.le_of_ble_eq_true rfl, Nat.le_of_ble_eq_true rfl⟩) ⟨fun a U gg mk q => by obtain ⟨q0, q1, qP, qK, qD, qn⟩ := q; exact ⟨q0, q1, qP, va_K.moved (u := U) (U := U.calling gg mk a) (Vm.Alike.refl U.vm) qK, qD, nwM.same (u := U) (U := U.calling gg mk a) rfl qn⟩, va_recv hK hPc (ci := 6) (q0 := 0) rfl rfl, fun U hU hW => ⟨rfl, by rw [hU], by rw [hU]; exact hPc, va_K.moved hW.alike hK, hDc.weaken (fun _ _ _ _ => trivial), nwM.moved hW hnw⟩⟩ rfl rfl hl.1 rfl (lv_room (Nat.le_of_ble_eq_true rfl)) dX7_digest_28 ⟨Nat.zero_le _, Nat.zero_le _⟩) hS (fun q _ h => hFc q h) hFc (fun r_ u_ t H locs ht hvm hw hB hz1 hk1 hS => ?_)
        obtain rfl := hw.symm
        obtain ⟨hP1, -, hD1⟩ := hB
        rw [ht] at hP1
        obtain ⟨hP, hD⟩ := va_join (wr := []) (w1 := [(zmo, .inr (6, [.int 0, .int mM.2.1, .int mM.2.2.1, .int (bI mM.2.2.2.1), .int mM.2.2.2.2.1, .int mM.2.2.2.2.2, .ref zar, .ref zbe, .ref zst, .ref zah, .ref zgd])), (zar, .inl (cJ, 64, .inr (.inl fR))), (zbe, .inl (cJ, 64, .inr (.inl fB))), (zst, .inr (5, [.int sS.1, .int sS.2.1, .int sS.2.2.1, .long sS.2.2.2, .ref zsa])), (zsa, .inl (cI, 64, .inl aS))]) hP hD [0, 1, 2, 3, 4] [] rfl rfl (by decide) (by decide) hk1 hFc hP1 hD1
        have hP := hP.sub (ws' := [(zmo, .inr (6, [.int 0, .int mM.2.1, .int mM.2.2.1, .int (bI mM.2.2.2.1), .int mM.2.2.2.2.1, .int mM.2.2.2.2.2, .ref zar, .ref zbe, .ref zst, .ref zah, .ref zgd])), (zar, .inl (cJ, 64, .inr (.inl fR))), (zbe, .inl (cJ, 64, .inr (.inl fB))), (zst, .inr (5, [.int sS.1, .int sS.2.1, .int sS.2.2.1, .long sS.2.2.2, .ref zsa])), (zsa, .inl (cI, 64, .inl aS))]) [0, 1, 2, 3, 4] rfl
        have hD := hD.sub (ws' := [(zmo, .inr (6, [.int 0, .int mM.2.1, .int mM.2.2.1, .int (bI mM.2.2.2.1), .int mM.2.2.2.2.1, .int mM.2.2.2.2.2, .ref zar, .ref zbe, .ref zst, .ref zah, .ref zgd])), (zar, .inl (cJ, 64, .inr (.inl fR))), (zbe, .inl (cJ, 64, .inr (.inl fB))), (zst, .inr (5, [.int sS.1, .int sS.2.1, .int sS.2.2.1, .long sS.2.2.2, .ref zsa])), (zsa, .inl (cI, 64, .inl aS))]) [0, 1, 2, 3, 4] (by decide) rfl
        clear hPc hDc hFc hP1 hD1 hk1
        refine lv_i2l (v := (Int32.toInt64 r7)) hx hb dX7_digest_31 rfl ?_
        refine lv_ladd hx hb dX7_digest_32 ?_
        refine lv_lstore_n (lv' := [(1, .long ((y5 * 31) + (Int32.toInt64 r7))), (0, .ref zmo), (3, .int y6)]) hx hb dX7_digest_33 rfl hl (by decide) rfl (fun ls hl => ?_)
        refine lv_iinc (v := (y6 + 1)) (lv' := [(3, .int (y6 + 1)), (1, .long ((y5 * 31) + (Int32.toInt64 r7))), (0, .ref zmo)]) hx hb dX7_digest_34 hl (k := 2) rfl rfl (by decide) rfl (fun ls hl => ?_)
        refine lv_goto (tgt := 11) hx hb dX7_digest_37 (by decide) ?_
        exact ih47 _ _ _ _ _ hf hP hD hS (lv_sub hl [2, 1, 0] rfl)
  exact lp46 100 _ _ _ _ _ hv hP hD hS (lv_sub hl [2, 1, 0] rfl)
