/-! HedgeGliders.mean()D -/
def f_X5_mean (dG : GaS) (aG : Nat → Int32) : Option (UInt64) := if (f_X2_size dG) ≤ 0 then (some FP.dconst0) else (Option.bind (f_X2_ageOfAll dG aG) fun r1 => some (FP.ddiv (FP.i2d r1) (FP.i2d (f_X2_size dG))))
abbrev rm_X5_mean : Room := ({ frames := 2, cells := 0, slots := 0, locals := 41 } : Room)
abbrev A_X5_mean (cI cJ : ClassId) (zhg zga zag zgr zru zfo zco : Nat) (dG : GaS) (aG : Nat → Int32) (sz : Nat) : Nat → Prop := va_A [(zhg, .inr (4, [.ref zgr, .ref zru, .ref zga, .ref zfo, .ref zco])), (zga, .inr (1, [.ref zgr, .ref zru, .ref zag, .long dG.1, .int dG.2.1, .int dG.2.2.1, .int dG.2.2.2])), (zag, .inl (cI, 64, .inl aG))] sz
abbrev Q_X5_mean (dC : Nat → ClassId) (dI : Nat → Nat → Nat) (cI cJ : ClassId) (zhg zga zag zgr zru zfo zco : Nat) (dG : GaS) (aG : Nat → Int32) (sz : Nat) (R : UInt64) : Array Value → State → Outcome → State → Prop := va_Qd (fun (r : UInt64) (_ : Unit) => alike64 r R = true) (fun u_ t => va_P (dC, dI) vwCl [(zhg, .inr (4, [.ref zgr, .ref zru, .ref zga, .ref zfo, .ref zco])), (zga, .inr (1, [.ref zgr, .ref zru, .ref zag, .long dG.1, .int dG.2.1, .int dG.2.2.1, .int dG.2.2.2])), (zag, .inl (cI, 64, .inl aG))] t.heap ∧ va_K (dC, dI) vwCl [(cI, .int), (cJ, .long)] t ∧ va_D (A_X5_mean cI cJ zhg zga zag zgr zru zfo zco dG aG sz) [(zhg, .inr (4, [.ref zgr, .ref zru, .ref zga, .ref zfo, .ref zco])), (zga, .inr (1, [.ref zgr, .ref zru, .ref zag, .long dG.1, .int dG.2.1, .int dG.2.2.1, .int dG.2.2.2])), (zag, .inl (cI, 64, .inl aG))]) (A_X5_mean cI cJ zhg zga zag zgr zru zfo zco dG aG sz)
set_option maxHeartbeats 4000000 in
set_option maxRecDepth 100000 in
theorem c_X5_mean (l : Launch) (dC : Nat → ClassId) (dI : Nat → Nat → Nat) (cI cJ : ClassId) (zhg zga zag zgr zru zfo zco : Nat) (sz : Nat) (dG : GaS) (aG : Nat → Int32) (R : UInt64) (hR : f_X5_mean dG aG = some R) : MetD lw_cs l yX5_mean wsX5_mean rm_X5_mean (va_Pc [.ref zhg] (fun U => U.heap.size = sz ∧ va_P (dC, dI) vwCl [(zhg, .inr (4, [.ref zgr, .ref zru, .ref zga, .ref zfo, .ref zco])), (zga, .inr (1, [.ref zgr, .ref zru, .ref zag, .long dG.1, .int dG.2.1, .int dG.2.2.1, .int dG.2.2.2])), (zag, .inl (cI, 64, .inl aG))] U.heap ∧ va_K (dC, dI) vwCl [(cI, .int), (cJ, .long)] U ∧ va_D (fun _ => True) [(zhg, .inr (4, [.ref zgr, .ref zru, .ref zga, .ref zfo, .ref zco])), (zga, .inr (1, [.ref zgr, .ref zru, .ref zag, .long dG.1, .int dG.2.1, .int dG.2.2.1, .int dG.2.2.2])), (zag, .inl (cI, 64, .inl aG))])) (Q_X5_mean dC dI cI cJ zhg zga zag zgr zru zfo zco dG aG sz R) 0 0 (A_X5_mean cI cJ zhg zga zag zgr zru zfo zco dG aG sz) := by
  have hf := hR
  refine MetD.ofW (cs := lw_cs) (cc := cX5_mean) (maxL := 2) (ret := (some .double)) (by decide) rfl ?_
  intro p e s m args below meth c s₁ B hml hv hd0
  obtain ⟨hargs, hsz, hP, hK, hD0⟩ := hv
  have hx := B.exec
  have hb := B.bytes
  have hr := B.returns
  have hts := atoms_spec (ws := wsX5_mean) B.pre
  have hown : s.vm.findClass RX5 = some m.cls := findClass_of_methodNamed B.named
  have hlocks := B.notSynchronized
  subst hsz
  have hts := dr_words hts s.drawn
  have hD : va_D (A_X5_mean cI cJ zhg zga zag zgr zru zfo zco dG aG s.heap.size) [(zhg, .inr (4, [.ref zgr, .ref zru, .ref zga, .ref zfo, .ref zco])), (zga, .inr (1, [.ref zgr, .ref zru, .ref zag, .long dG.1, .int dG.2.1, .int dG.2.2.1, .int dG.2.2.2])), (zag, .inl (cI, 64, .inl aG))] := hD0.self (sz := s.heap.size)
  have hA : ∀ q : Nat, s.heap.size ≤ q → (A_X5_mean cI cJ zhg zga zag zgr zru zfo zco dG aG s.heap.size) q := fun q h => Or.inr h
  have hS : va_S (A_X5_mean cI cJ zhg zga zag zgr zru zfo zco dG aG s.heap.size) s.heap s.heap [] := va_S.rf
  have hinX5 : ∀ w ∈ wsX50, w ∈ wsX5_mean := by decide +kernel
  have hw0 := hts (.fieldLink RX5 30 "HedgeGliders" "garden" "LHedgeGliders$Garden;") (by decide +kernel)
  have hl := lv_entry ([.ref zhg]) (n := 2) (Nat.le_of_ble_eq_true rfl)
  have he0 : entryFrame m args 2 = entryFrame m ([.ref zhg] : List Value).toArray 2 := by rw [hargs]
  rw [he0, lg_entry_eq]
  generalize (lg_sl ([.ref zhg]) ++ List.replicate (2 - (lg_sl ([.ref zhg])).length) Slot.unset).toArray = ls at hl ⊢
  have hl : lv_has ls 2 [(0, .ref zhg)] := hl
  rw [f_X5_mean] at hf
  refine lv_aload_n hx hb dX5_mean_0 rfl (lv_at hl 0 rfl) ?_
  refine va_get (D := (dC, dI)) (ci := 4) (v := .ref zga) (C := RX5) (T := TX5) (N := 5) hx hb hts hinX5 hown hK hP 0 rfl rfl 2 (by decide) hw0 (fun _ h9 => h9) rfl dX5_mean_1 ?_
  have hPc := hP.sub (ws' := [(zga, .inr (1, [.ref zgr, .ref zru, .ref zag, .long dG.1, .int dG.2.1, .int dG.2.2.1, .int dG.2.2.2]))]) [1] rfl
  have hDc := hD.sub (ws' := [(zga, .inr (1, [.ref zgr, .ref zru, .ref zag, .long dG.1, .int dG.2.1, .int dG.2.2.1, .int dG.2.2.2]))]) [1] (by decide) rfl
  have hFc := va_free (wc := [(zga, .inr (1, [.ref zgr, .ref zru, .ref zag, .long dG.1, .int dG.2.1, .int dG.2.2.1, .int dG.2.2.2]))]) hD hS hA [1] rfl
  refine va_calli (va_runV (As := []) (rest := []) ⟨hx, hb, hml, hown, hts⟩ (c_X2_size l dC dI cI cJ zga zgr zru zag s.heap.size dG) (cwV 0 hts gX5_mean_X2_size rfl rfl rfl (by decide +kernel) ⟨Nat.le_of_ble_eq_true rfl, Nat.le_of_ble_eq_true rfl⟩) ⟨fun a U gg mk q => by obtain ⟨q0, q1, qP, qK, qD⟩ := q; exact ⟨q0, q1, qP, va_K.moved (u := U) (U := U.calling gg mk a) (Vm.Alike.refl U.vm) qK, qD⟩, va_recv hK hPc (ci := 1) (q0 := 0) rfl rfl, fun U hU hW => ⟨rfl, by rw [hU], by rw [hU]; exact hPc, va_K.moved hW.alike hK, hDc.weaken (fun _ _ _ _ => trivial)⟩⟩ rfl rfl hl.1 rfl (lv_room (Nat.le_of_ble_eq_true rfl)) dX5_mean_4 ⟨Nat.zero_le _, Nat.zero_le _⟩) hS (fun q _ h => hFc q h) hFc (fun r_ u_ t H locs ht hvm hw hB hz1 hk1 hS => ?_)
  obtain rfl := hw.symm
  obtain ⟨hP1, -, hD1⟩ := hB
  rw [ht] at hP1
  obtain ⟨hP, hD⟩ := va_join (wr := [(zhg, .inr (4, [.ref zgr, .ref zru, .ref zga, .ref zfo, .ref zco])), (zag, .inl (cI, 64, .inl aG))]) (w1 := [(zga, .inr (1, [.ref zgr, .ref zru, .ref zag, .long dG.1, .int dG.2.1, .int dG.2.2.1, .int dG.2.2.2]))]) hP hD [1] [0, 2] rfl rfl (by decide) (by decide) hk1 hFc hP1 hD1
  have hP := hP.sub (ws' := [(zhg, .inr (4, [.ref zgr, .ref zru, .ref zga, .ref zfo, .ref zco])), (zga, .inr (1, [.ref zgr, .ref zru, .ref zag, .long dG.1, .int dG.2.1, .int dG.2.2.1, .int dG.2.2.2])), (zag, .inl (cI, 64, .inl aG))]) [0, 2, 1] rfl
  have hD := hD.sub (ws' := [(zhg, .inr (4, [.ref zgr, .ref zru, .ref zga, .ref zfo, .ref zco])), (zga, .inr (1, [.ref zgr, .ref zru, .ref zag, .long dG.1, .int dG.2.1, .int dG.2.2.1, .int dG.2.2.2])), (zag, .inl (cI, 64, .inl aG))]) [0, 2, 1] (by decide) rfl
  clear hPc hDc hFc hP1 hD1 hk1
  refine lv_istore_n (lv' := [(1, .int (f_X2_size dG)), (0, .ref zhg)]) hx hb dX5_mean_7 rfl hl (by decide) rfl (fun ls hl => ?_)
  refine lv_iload_n hx hb dX5_mean_8 rfl (lv_at hl 0 rfl) ?_
  refine lv_if_le (tgt := 26) hx hb dX5_mean_9 (by decide) (fun hc => ?_) (fun hc => ?_)
  · rw [if_pos hc] at hf
    refine lv_dconst0 hx hb dX5_mean_26 ?_
    obtain rfl := Option.some.inj hf
    refine W.endD hd0 ?_
    exact W.dret (v := FP.dconst0) hx hb hr (fun t ht hW => ⟨⟨FP.dconst0, (), rfl, (show alike64 FP.dconst0 FP.dconst0 = true by decide), by rw [ht]; exact hP, va_K.moved hW.alike hK, hD⟩, hS.F ht⟩) hS.2.2 dX5_mean_27
  · rw [if_neg hc] at hf
    refine lv_aload_n hx hb dX5_mean_12 rfl (lv_at hl 1 rfl) ?_
    refine va_get (D := (dC, dI)) (ci := 4) (v := .ref zga) (C := RX5) (T := TX5) (N := 5) hx hb hts hinX5 hown hK hP 0 rfl rfl 2 (by decide) hw0 (fun _ h9 => h9) rfl dX5_mean_13 ?_
    obtain ⟨r1, hr1, hf⟩ := obind hf
    have hPc := hP.sub (ws' := [(zga, .inr (1, [.ref zgr, .ref zru, .ref zag, .long dG.1, .int dG.2.1, .int dG.2.2.1, .int dG.2.2.2])), (zag, .inl (cI, 64, .inl aG))]) [1, 2] rfl
    have hDc := hD.sub (ws' := [(zga, .inr (1, [.ref zgr, .ref zru, .ref zag, .long dG.1, .int dG.2.1, .int dG.2.2.1, .int dG.2.2.2])), (zag, .inl (cI, 64, .inl aG))]) [1, 2] (by decide) rfl
    have hFc := va_free (wc := [(zga, .inr (1, [.ref zgr, .ref zru, .ref zag, .long dG.1, .int dG.2.1, .int dG.2.2.1, .int dG.2.2.2])), (zag, .inl (cI, 64, .inl aG))]) hD hS hA [1, 2] rfl
    refine va_calli (va_runV (As := []) (rest := []) ⟨hx, hb, hml, hown, hts⟩ (c_X2_ageOfAll l dC dI cI cJ zga zag zgr zru H.size dG aG _ hr1) (cwV 0 hts gX5_mean_X2_ageOfAll rfl rfl rfl (by decide +kernel) ⟨Nat.le_of_ble_eq_true rfl, Nat.le_of_ble_eq_true rfl⟩) ⟨fun a U gg mk q => by obtain ⟨q0, q1, qP, qK, qD⟩ := q; exact ⟨q0, q1, qP, va_K.moved (u := U) (U := U.calling gg mk a) (Vm.Alike.refl U.vm) qK, qD⟩, va_recv hK hPc (ci := 1) (q0 := 0) rfl rfl, fun U hU hW => ⟨rfl, by rw [hU], by rw [hU]; exact hPc, va_K.moved hW.alike hK, hDc.weaken (fun _ _ _ _ => trivial)⟩⟩ rfl rfl hl.1 rfl (lv_room (Nat.le_of_ble_eq_true rfl)) dX5_mean_16 ⟨Nat.zero_le _, Nat.zero_le _⟩) hS (fun q _ h => hFc q h) hFc (fun r_ u_ t H locs ht hvm hw hB hz1 hk1 hS => ?_)
    obtain rfl := hw.symm
    obtain ⟨hP1, -, hD1⟩ := hB
    rw [ht] at hP1
    obtain ⟨hP, hD⟩ := va_join (wr := [(zhg, .inr (4, [.ref zgr, .ref zru, .ref zga, .ref zfo, .ref zco]))]) (w1 := [(zga, .inr (1, [.ref zgr, .ref zru, .ref zag, .long dG.1, .int dG.2.1, .int dG.2.2.1, .int dG.2.2.2])), (zag, .inl (cI, 64, .inl aG))]) hP hD [1, 2] [0] rfl rfl (by decide) (by decide) hk1 hFc hP1 hD1
    have hP := hP.sub (ws' := [(zhg, .inr (4, [.ref zgr, .ref zru, .ref zga, .ref zfo, .ref zco])), (zga, .inr (1, [.ref zgr, .ref zru, .ref zag, .long dG.1, .int dG.2.1, .int dG.2.2.1, .int dG.2.2.2])), (zag, .inl (cI, 64, .inl aG))]) [0, 1, 2] rfl
    have hD := hD.sub (ws' := [(zhg, .inr (4, [.ref zgr, .ref zru, .ref zga, .ref zfo, .ref zco])), (zga, .inr (1, [.ref zgr, .ref zru, .ref zag, .long dG.1, .int dG.2.1, .int dG.2.2.1, .int dG.2.2.2])), (zag, .inl (cI, 64, .inl aG))]) [0, 1, 2] (by decide) rfl
    clear hPc hDc hFc hP1 hD1 hk1
    refine lv_i2d hx hb dX5_mean_19 ?_
    refine lv_iload_n hx hb dX5_mean_20 rfl (lv_at hl 0 rfl) ?_
    refine lv_i2d hx hb dX5_mean_21 ?_
    refine lv_ddiv_any hd0 lw_bits hx hb dX5_mean_22 (fun dr2 d1 hal hd0 => ?_)
    refine lv_goto (tgt := 27) hx hb dX5_mean_23 (by decide) ?_
    obtain rfl := Option.some.inj hf
    refine W.endD hd0 ?_
    exact W.dret (v := dr2) hx hb hr (fun t ht hW => ⟨⟨dr2, (), rfl, hal, by rw [ht]; exact hP, va_K.moved hW.alike hK, hD⟩, hS.F ht⟩) hS.2.2 dX5_mean_27
/-! HedgeGlidersModel.mean()D -/
def lp_X7_mean_9 (mM : MoS) (sS : StS) (aS : Nat → Int32) : Nat → Int32 → Int32 → Option (Int32)
  | 0, _, _ => none
  | nf + 1, y5, y6 => if (mM.2.1 * mM.2.2.1) ≤ y6 then (some y5) else (Option.bind (if (f_X6_has sS y6) = 0 then (some 0) else (if y6 < 0 ∨ 64 ≤ y6.toNatClampNeg then none else some (aS y6.toNatClampNeg)) : Option (Int32)) fun v7 => lp_X7_mean_9 mM sS aS nf (y5 + v7) (y6 + 1))
def f_X7_mean (mM : MoS) (sS : StS) (aS : Nat → Int32) : Option (UInt64 × MoS) := Option.bind (lp_X7_mean_9 mM sS aS 100 0 0) fun v8 => if sS.2.2.2 = 0 then (some (FP.dconst0, (0, mM.2.1, mM.2.2.1, mM.2.2.2.1, mM.2.2.2.2.1, mM.2.2.2.2.2))) else (some ((FP.ddiv (FP.i2d v8) (FP.i2d (f_J13_bitCount_95d88 sS.2.2.2))), (0, mM.2.1, mM.2.2.1, mM.2.2.2.1, mM.2.2.2.2.1, mM.2.2.2.2.2)))
abbrev rm_X7_mean : Room := ({ frames := 1, cells := 0, slots := 0, locals := 21 } : Room)
abbrev A_X7_mean (cI cJ : ClassId) (zmo zst zsa zar zbe zah zgd : Nat) (mM : MoS) (sS : StS) (aS : Nat → Int32) (sz : Nat) : Nat → Prop := va_A [(zmo, .inr (6, [.int mM.1, .int mM.2.1, .int mM.2.2.1, .int (bI mM.2.2.2.1), .int mM.2.2.2.2.1, .int mM.2.2.2.2.2, .ref zar, .ref zbe, .ref zst, .ref zah, .ref zgd])), (zst, .inr (5, [.int sS.1, .int sS.2.1, .int sS.2.2.1, .long sS.2.2.2, .ref zsa])), (zsa, .inl (cI, 64, .inl aS))] sz
abbrev Q_X7_mean (dC : Nat → ClassId) (dI : Nat → Nat → Nat) (cI cJ : ClassId) (zmo zst zsa zar zbe zah zgd : Nat) (mM : MoS) (sS : StS) (aS : Nat → Int32) (sz : Nat) (R : UInt64 × MoS) : Array Value → State → Outcome → State → Prop := va_Qd (fun (r : UInt64) (_ : Unit) => alike64 r R.1 = true) (fun u_ t => va_P (dC, dI) vwCl [(zmo, .inr (6, [.int R.2.1, .int R.2.2.1, .int R.2.2.2.1, .int (bI R.2.2.2.2.1), .int R.2.2.2.2.2.1, .int R.2.2.2.2.2.2, .ref zar, .ref zbe, .ref zst, .ref zah, .ref zgd])), (zst, .inr (5, [.int sS.1, .int sS.2.1, .int sS.2.2.1, .long sS.2.2.2, .ref zsa])), (zsa, .inl (cI, 64, .inl aS))] t.heap ∧ va_K (dC, dI) vwCl [(cI, .int), (cJ, .long)] t ∧ va_D (A_X7_mean cI cJ zmo zst zsa zar zbe zah zgd mM sS aS sz) [(zmo, .inr (6, [.int R.2.1, .int R.2.2.1, .int R.2.2.2.1, .int (bI R.2.2.2.2.1), .int R.2.2.2.2.2.1, .int R.2.2.2.2.2.2, .ref zar, .ref zbe, .ref zst, .ref zah, .ref zgd])), (zst, .inr (5, [.int sS.1, .int sS.2.1, .int sS.2.2.1, .long sS.2.2.2, .ref zsa])), (zsa, .inl (cI, 64, .inl aS))]) (A_X7_mean cI cJ zmo zst zsa zar zbe zah zgd mM sS aS sz)
set_option maxHeartbeats 4000000 in
set_option maxRecDepth 100000 in
theorem c_X7_mean (l : Launch) (dC : Nat → ClassId) (dI : Nat → Nat → Nat) (cI cJ : ClassId) (zmo zst zsa zar zbe zah zgd : Nat) (sz : Nat) (mM : MoS) (sS : StS) (aS : Nat → Int32) (R : UInt64 × MoS) (hR : f_X7_mean mM sS aS = some R) : MetD lw_cs l yX7_mean wsX7_mean rm_X7_mean (va_Pc [.ref zmo] (fun U => U.heap.size = sz ∧ va_P (dC, dI) vwCl [(zmo, .inr (6, [.int mM.1, .int mM.2.1, .int mM.2.2.1, .int (bI mM.2.2.2.1), .int mM.2.2.2.2.1, .int mM.2.2.2.2.2, .ref zar, .ref zbe, .ref zst, .ref zah, .ref zgd])), (zst, .inr (5, [.int sS.1, .int sS.2.1, .int sS.2.2.1, .long sS.2.2.2, .ref zsa])), (zsa, .inl (cI, 64, .inl aS))] U.heap ∧ va_K (dC, dI) vwCl [(cI, .int), (cJ, .long)] U ∧ va_D (fun _ => True) [(zmo, .inr (6, [.int mM.1, .int mM.2.1, .int mM.2.2.1, .int (bI mM.2.2.2.1), .int mM.2.2.2.2.1, .int mM.2.2.2.2.2, .ref zar, .ref zbe, .ref zst, .ref zah, .ref zgd])), (zst, .inr (5, [.int sS.1, .int sS.2.1, .int sS.2.2.1, .long sS.2.2.2, .ref zsa])), (zsa, .inl (cI, 64, .inl aS))] ∧ nwM U)) (Q_X7_mean dC dI cI cJ zmo zst zsa zar zbe zah zgd mM sS aS sz R) 0 0 (A_X7_mean cI cJ zmo zst zsa zar zbe zah zgd mM sS aS sz) := by
  have hf := hR
  refine MetD.ofW (cs := lw_cs) (cc := cX7_mean) (maxL := 3) (ret := (some .double)) (by decide) rfl ?_
  intro p e s m args below meth c s₁ B hml hv hd0
  obtain ⟨hargs, hsz, hP, hK, hD0, hnw⟩ := hv
  have hx := B.exec
  have hb := B.bytes
  have hr := B.returns
  have hts := atoms_spec (ws := wsX7_mean) B.pre
  have hown : s.vm.findClass RX7 = some m.cls := findClass_of_methodNamed B.named
  have hlocks := B.notSynchronized
  subst hsz
  have hts := dr_words hts s.drawn
  have hnw := nwM.same (u := s) (U := s.setDrawn s.drawn) rfl hnw
  obtain ⟨hnw_hedges, hnw_ages, hnw_born, hnw_dead, hnw_year⟩ := id hnw
  have hD : va_D (A_X7_mean cI cJ zmo zst zsa zar zbe zah zgd mM sS aS s.heap.size) [(zmo, .inr (6, [.int mM.1, .int mM.2.1, .int mM.2.2.1, .int (bI mM.2.2.2.1), .int mM.2.2.2.2.1, .int mM.2.2.2.2.2, .ref zar, .ref zbe, .ref zst, .ref zah, .ref zgd])), (zst, .inr (5, [.int sS.1, .int sS.2.1, .int sS.2.2.1, .long sS.2.2.2, .ref zsa])), (zsa, .inl (cI, 64, .inl aS))] := hD0.self (sz := s.heap.size)
  have hA : ∀ q : Nat, s.heap.size ≤ q → (A_X7_mean cI cJ zmo zst zsa zar zbe zah zgd mM sS aS s.heap.size) q := fun q h => Or.inr h
  have hS : va_S (A_X7_mean cI cJ zmo zst zsa zar zbe zah zgd mM sS aS s.heap.size) s.heap s.heap [] := va_S.rf
  have hinX6 : ∀ w ∈ wsX60, w ∈ wsX7_mean := by decide +kernel
  have hinX7 : ∀ w ∈ wsX70, w ∈ wsX7_mean := by decide +kernel
  have hw0 := hts (.fieldLink RX7 45 "HedgeGlidersModel" "thrown" "I") (by decide +kernel)
  have hw1 := hts (.fieldLink RX7 9 "HedgeGlidersModel" "w" "I") (by decide +kernel)
  have hw2 := hts (.fieldLink RX7 13 "HedgeGlidersModel" "h" "I") (by decide +kernel)
  have hw3 := hts (.fieldLink RX7 32 "HedgeGlidersModel" "s" "LHedgeGlidersModel$State;") (by decide +kernel)
  have hl := lv_entry ([.ref zmo]) (n := 3) (Nat.le_of_ble_eq_true rfl)
  have he0 : entryFrame m args 3 = entryFrame m ([.ref zmo] : List Value).toArray 3 := by rw [hargs]
  rw [he0, lg_entry_eq]
  generalize (lg_sl ([.ref zmo]) ++ List.replicate (3 - (lg_sl ([.ref zmo])).length) Slot.unset).toArray = ls at hl ⊢
  have hl : lv_has ls 3 [(0, .ref zmo)] := hl
  rw [f_X7_mean] at hf
  refine lv_aload_n hx hb dX7_mean_0 rfl (lv_at hl 0 rfl) ?_
  refine lv_iconst (v := 0) hx hb dX7_mean_1 (by decide) ?_
  refine va_put (D := (dC, dI)) (ci := 6) (v := .int 0) (ty := .int) (C := RX7) (T := TX7) (N := 11) hx hb hts hinX7 tyX7 tyX7_ok nmX7 hown hK hP hD hS 0 rfl rfl 0 (by decide) hw0 (fun _ h9 => h9) rfl (by decide +kernel) rfl rfl (Nat.le_of_ble_eq_true rfl) dX7_mean_2 (fun H locs hP hD hS => ?_)
  have hP : va_P (dC, dI) vwCl [(zmo, .inr (6, [.int 0, .int mM.2.1, .int mM.2.2.1, .int (bI mM.2.2.2.1), .int mM.2.2.2.2.1, .int mM.2.2.2.2.2, .ref zar, .ref zbe, .ref zst, .ref zah, .ref zgd])), (zst, .inr (5, [.int sS.1, .int sS.2.1, .int sS.2.2.1, .long sS.2.2.2, .ref zsa])), (zsa, .inl (cI, 64, .inl aS))] H := hP
  have hD : va_D (A_X7_mean cI cJ zmo zst zsa zar zbe zah zgd mM sS aS s.heap.size) [(zmo, .inr (6, [.int 0, .int mM.2.1, .int mM.2.2.1, .int (bI mM.2.2.2.1), .int mM.2.2.2.2.1, .int mM.2.2.2.2.2, .ref zar, .ref zbe, .ref zst, .ref zah, .ref zgd])), (zst, .inr (5, [.int sS.1, .int sS.2.1, .int sS.2.2.1, .long sS.2.2.2, .ref zsa])), (zsa, .inl (cI, 64, .inl aS))] := hD
  refine lv_iconst (v := 0) hx hb dX7_mean_5 (by decide) ?_
  refine lv_istore_n (lv' := [(1, .int 0), (0, .ref zmo)]) hx hb dX7_mean_6 rfl hl (by decide) rfl (fun ls hl => ?_)
  refine lv_iconst (v := 0) hx hb dX7_mean_7 (by decide) ?_
  refine lv_istore_n (lv' := [(2, .int 0), (1, .int 0), (0, .ref zmo)]) hx hb dX7_mean_8 rfl hl (by decide) rfl (fun ls hl => ?_)
  obtain ⟨v8, hv, hf⟩ := obind hf
  have K10 : ∀ (H : Heap) (locs : List Loc) (ls : Array Slot), va_P (dC, dI) vwCl [(zmo, .inr (6, [.int 0, .int mM.2.1, .int mM.2.2.1, .int (bI mM.2.2.2.1), .int mM.2.2.2.2.1, .int mM.2.2.2.2.2, .ref zar, .ref zbe, .ref zst, .ref zah, .ref zgd])), (zst, .inr (5, [.int sS.1, .int sS.2.1, .int sS.2.2.1, .long sS.2.2.2, .ref zsa])), (zsa, .inl (cI, 64, .inl aS))] H → va_D (A_X7_mean cI cJ zmo zst zsa zar zbe zah zgd mM sS aS s.heap.size) [(zmo, .inr (6, [.int 0, .int mM.2.1, .int mM.2.2.1, .int (bI mM.2.2.2.1), .int mM.2.2.2.2.1, .int mM.2.2.2.2.2, .ref zar, .ref zbe, .ref zst, .ref zah, .ref zgd])), (zst, .inr (5, [.int sS.1, .int sS.2.1, .int sS.2.2.1, .long sS.2.2.2, .ref zsa])), (zsa, .inl (cI, 64, .inl aS))] → va_S (A_X7_mean cI cJ zmo zst zsa zar zbe zah zgd mM sS aS s.heap.size) s.heap H locs → lv_has ls 3 [(0, .ref zmo), (1, .int v8)] → W p l e rm_X7_mean (s.setDrawn s.drawn) m args below meth c H locs 0 0 (MQD lw_cs below (Q_X7_mean dC dI cI cJ zmo zst zsa zar zbe zah zgd mM sS aS s.heap.size R) args s 0 0 (A_X7_mean cI cJ zmo zst zsa zar zbe zah zgd mM sS aS s.heap.size)) (F0 m 55 ls []) := by
    intro H locs ls hP hD hS hl
    refine lv_aload_n hx hb dX7_mean_55 rfl (lv_at hl 0 rfl) ?_
    refine va_get (D := (dC, dI)) (ci := 6) (v := .ref zst) (C := RX7) (T := TX7) (N := 11) hx hb hts hinX7 hown hK hP 0 rfl rfl 8 (by decide) hw3 (fun _ h9 => h9) rfl dX7_mean_56 ?_
    refine va_getN (D := (dC, dI)) (ci := 5) (v := .long sS.2.2.2) (C := RX6) (T := TX6) (N := 5) hx hb hts hinX6 hown hK hP 1 rfl rfl 3 (by decide) (va_Nw.use rfl hnw_hedges) (fun _ h9 => h9) rfl dX7_mean_59 ?_
    refine lv_lconst (v := 0) hx hb dX7_mean_62 (by decide) ?_
    refine W.lcmp hx hb dX7_mean_63 ?_
    refine lv_if_ne (tgt := 71) hx hb dX7_mean_64 (by decide) (fun hc => ?_) (fun hc => ?_)
    · have hc := fun h9 => hc (lgz.mpr h9)
      rw [if_neg hc] at hf
      refine lv_iload_n hx hb dX7_mean_71 rfl (lv_at hl 1 rfl) ?_
      refine lv_i2d hx hb dX7_mean_72 ?_
      refine lv_aload_n hx hb dX7_mean_73 rfl (lv_at hl 0 rfl) ?_
      refine va_get (D := (dC, dI)) (ci := 6) (v := .ref zst) (C := RX7) (T := TX7) (N := 11) hx hb hts hinX7 hown hK hP 0 rfl rfl 8 (by decide) hw3 (fun _ h9 => h9) rfl dX7_mean_74 ?_
      refine va_getN (D := (dC, dI)) (ci := 5) (v := .long sS.2.2.2) (C := RX6) (T := TX6) (N := 5) hx hb hts hinX6 hown hK hP 1 rfl rfl 3 (by decide) (va_Nw.use rfl hnw_hedges) (fun _ h9 => h9) rfl dX7_mean_77 ?_
      have hPc := hP.sub (ws' := []) [] rfl
      have hDc := hD.sub (ws' := []) [] (by decide) rfl
      have hFc := va_free (wc := []) hD hS hA [] rfl
      refine va_calli (va_runS (As := [.long sS.2.2.2]) (rest := [.double (FP.i2d v8)]) ⟨hx, hb, hml, hown, hts⟩ (c_J13_bitCount_95d88 l dC dI cI cJ  H.size sS.2.2.2) (va_cwS 1 hts gX7_mean_J13_bitCount_95d88 rfl rfl rfl (by decide +kernel) ⟨Nat.le_of_ble_eq_true rfl, Nat.le_of_ble_eq_true rfl⟩) ⟨fun a U gg mk q => by obtain ⟨q0, q1, qP, qK, qD⟩ := q; exact ⟨q0, q1, qP, va_K.moved (u := U) (U := U.calling gg mk a) (Vm.Alike.refl U.vm) qK, qD⟩, fun U hU hW => ⟨rfl, by rw [hU], by rw [hU]; exact hPc, va_K.moved hW.alike hK, hDc.weaken (fun _ _ _ _ => trivial)⟩⟩ rfl rfl hl.1 rfl (lv_room (Nat.le_of_ble_eq_true rfl)) dX7_mean_80 ⟨Nat.zero_le _, Nat.zero_le _⟩) hS (fun q _ h => hFc q h) hFc (fun r_ u_ t H locs ht hvm hw hB hz1 hk1 hS => ?_)
      obtain rfl := hw.symm
      obtain ⟨hP1, -, hD1⟩ := hB
      rw [ht] at hP1
      obtain ⟨hP, hD⟩ := va_join (wr := [(zmo, .inr (6, [.int 0, .int mM.2.1, .int mM.2.2.1, .int (bI mM.2.2.2.1), .int mM.2.2.2.2.1, .int mM.2.2.2.2.2, .ref zar, .ref zbe, .ref zst, .ref zah, .ref zgd])), (zst, .inr (5, [.int sS.1, .int sS.2.1, .int sS.2.2.1, .long sS.2.2.2, .ref zsa])), (zsa, .inl (cI, 64, .inl aS))]) (w1 := []) hP hD [] [0, 1, 2] rfl rfl (by decide) (by decide) hk1 hFc hP1 hD1
      have hP := hP.sub (ws' := [(zmo, .inr (6, [.int 0, .int mM.2.1, .int mM.2.2.1, .int (bI mM.2.2.2.1), .int mM.2.2.2.2.1, .int mM.2.2.2.2.2, .ref zar, .ref zbe, .ref zst, .ref zah, .ref zgd])), (zst, .inr (5, [.int sS.1, .int sS.2.1, .int sS.2.2.1, .long sS.2.2.2, .ref zsa])), (zsa, .inl (cI, 64, .inl aS))]) [0, 1, 2] rfl
      have hD := hD.sub (ws' := [(zmo, .inr (6, [.int 0, .int mM.2.1, .int mM.2.2.1, .int (bI mM.2.2.2.1), .int mM.2.2.2.2.1, .int mM.2.2.2.2.2, .ref zar, .ref zbe, .ref zst, .ref zah, .ref zgd])), (zst, .inr (5, [.int sS.1, .int sS.2.1, .int sS.2.2.1, .long sS.2.2.2, .ref zsa])), (zsa, .inl (cI, 64, .inl aS))]) [0, 1, 2] (by decide) rfl
      clear hPc hDc hFc hP1 hD1 hk1
      refine lv_i2d hx hb dX7_mean_83 ?_
      refine lv_ddiv_any hd0 lw_bits hx hb dX7_mean_84 (fun dr9 d1 hal hd0 => ?_)
      obtain rfl := Option.some.inj hf
      refine W.endD hd0 ?_
      exact W.dret (v := dr9) hx hb hr (fun t ht hW => ⟨⟨dr9, (), rfl, hal, by rw [ht]; exact hP, va_K.moved hW.alike hK, hD⟩, hS.F ht⟩) hS.2.2 dX7_mean_85
    · have hc := lgz.mp hc
      rw [if_pos hc] at hf
      refine lv_dconst0 hx hb dX7_mean_67 ?_
      refine lv_goto (tgt := 85) hx hb dX7_mean_68 (by decide) ?_
      obtain rfl := Option.some.inj hf
      refine W.endD hd0 ?_
      exact W.dret (v := FP.dconst0) hx hb hr (fun t ht hW => ⟨⟨FP.dconst0, (), rfl, (show alike64 FP.dconst0 FP.dconst0 = true by decide), by rw [ht]; exact hP, va_K.moved hW.alike hK, hD⟩, hS.F ht⟩) hS.2.2 dX7_mean_85
  have lp11 : ∀ (nf : Nat) (y5 : Int32) (y6 : Int32) (H : Heap) (locs : List Loc) (ls : Array Slot), lp_X7_mean_9 mM sS aS nf y5 y6 = some v8 → va_P (dC, dI) vwCl [(zmo, .inr (6, [.int 0, .int mM.2.1, .int mM.2.2.1, .int (bI mM.2.2.2.1), .int mM.2.2.2.2.1, .int mM.2.2.2.2.2, .ref zar, .ref zbe, .ref zst, .ref zah, .ref zgd])), (zst, .inr (5, [.int sS.1, .int sS.2.1, .int sS.2.2.1, .long sS.2.2.2, .ref zsa])), (zsa, .inl (cI, 64, .inl aS))] H → va_D (A_X7_mean cI cJ zmo zst zsa zar zbe zah zgd mM sS aS s.heap.size) [(zmo, .inr (6, [.int 0, .int mM.2.1, .int mM.2.2.1, .int (bI mM.2.2.2.1), .int mM.2.2.2.2.1, .int mM.2.2.2.2.2, .ref zar, .ref zbe, .ref zst, .ref zah, .ref zgd])), (zst, .inr (5, [.int sS.1, .int sS.2.1, .int sS.2.2.1, .long sS.2.2.2, .ref zsa])), (zsa, .inl (cI, 64, .inl aS))] → va_S (A_X7_mean cI cJ zmo zst zsa zar zbe zah zgd mM sS aS s.heap.size) s.heap H locs → lv_has ls 3 [(0, .ref zmo), (1, .int y5), (2, .int y6)] → W p l e rm_X7_mean (s.setDrawn s.drawn) m args below meth c H locs 0 0 (MQD lw_cs below (Q_X7_mean dC dI cI cJ zmo zst zsa zar zbe zah zgd mM sS aS s.heap.size R) args s 0 0 (A_X7_mean cI cJ zmo zst zsa zar zbe zah zgd mM sS aS s.heap.size)) (F0 m 9 ls []) := by
    intro nf
    induction nf with
    | zero => intro y5 y6 H locs ls h9; exact nomatch h9
    | succ nf ih12 =>
      intro y5 y6 H locs ls hf hP hD hS hl
      rw [lp_X7_mean_9.eq_2] at hf
      refine lv_iload_n hx hb dX7_mean_9 rfl (lv_at hl 2 rfl) ?_
      refine lv_aload_n hx hb dX7_mean_10 rfl (lv_at hl 0 rfl) ?_
      refine va_get (D := (dC, dI)) (ci := 6) (v := .int mM.2.1) (C := RX7) (T := TX7) (N := 11) hx hb hts hinX7 hown hK hP 0 rfl rfl 1 (by decide) hw1 (fun _ h9 => h9) rfl dX7_mean_11 ?_
      refine lv_aload_n hx hb dX7_mean_14 rfl (lv_at hl 0 rfl) ?_
      refine va_get (D := (dC, dI)) (ci := 6) (v := .int mM.2.2.1) (C := RX7) (T := TX7) (N := 11) hx hb hts hinX7 hown hK hP 0 rfl rfl 2 (by decide) hw2 (fun _ h9 => h9) rfl dX7_mean_15 ?_
      refine lv_imul hx hb dX7_mean_18 ?_
      refine lv_icmp_ge (tgt := 55) hx hb dX7_mean_19 (by decide) (fun hc => ?_) (fun hc => ?_)
      · rw [if_pos hc] at hf
        obtain rfl := Option.some.inj hf
        exact K10 _ _ _ hP hD hS (lv_sub hl [0, 1] rfl)
      · rw [if_neg hc] at hf
        refine lv_iload_n hx hb dX7_mean_22 rfl (lv_at hl 1 rfl) ?_
        refine lv_aload_n hx hb dX7_mean_23 rfl (lv_at hl 0 rfl) ?_
        refine va_get (D := (dC, dI)) (ci := 6) (v := .ref zst) (C := RX7) (T := TX7) (N := 11) hx hb hts hinX7 hown hK hP 0 rfl rfl 8 (by decide) hw3 (fun _ h9 => h9) rfl dX7_mean_24 ?_
        refine lv_iload_n hx hb dX7_mean_27 rfl (lv_at hl 2 rfl) ?_
        have hPc := hP.sub (ws' := [(zst, .inr (5, [.int sS.1, .int sS.2.1, .int sS.2.2.1, .long sS.2.2.2, .ref zsa]))]) [1] rfl
        have hDc := hD.sub (ws' := [(zst, .inr (5, [.int sS.1, .int sS.2.1, .int sS.2.2.1, .long sS.2.2.2, .ref zsa]))]) [1] (by decide) rfl
        have hFc := va_free (wc := [(zst, .inr (5, [.int sS.1, .int sS.2.1, .int sS.2.2.1, .long sS.2.2.2, .ref zsa]))]) hD hS hA [1] rfl
        refine va_calli (va_runV (As := [.int y6]) (rest := [.int y5]) ⟨hx, hb, hml, hown, hts⟩ (c_X6_has l dC dI cI cJ zst zsa H.size sS y6) (cwV 1 hts gX7_mean_X6_has rfl rfl rfl (by decide +kernel) ⟨Nat.le_of_ble_eq_true rfl, Nat.le_of_ble_eq_true rfl⟩) ⟨fun a U gg mk q => by obtain ⟨q0, q1, qP, qK, qD⟩ := q; exact ⟨q0, q1, qP, va_K.moved (u := U) (U := U.calling gg mk a) (Vm.Alike.refl U.vm) qK, qD⟩, va_recv hK hPc (ci := 5) (q0 := 0) rfl rfl, fun U hU hW => ⟨rfl, by rw [hU], by rw [hU]; exact hPc, va_K.moved hW.alike hK, hDc.weaken (fun _ _ _ _ => trivial)⟩⟩ rfl rfl hl.1 rfl (lv_room (Nat.le_of_ble_eq_true rfl)) dX7_mean_28 ⟨Nat.zero_le _, Nat.zero_le _⟩) hS (fun q _ h => hFc q h) hFc (fun r_ u_ t H locs ht hvm hw hB hz1 hk1 hS => ?_)
        obtain rfl := hw.symm
        obtain ⟨hP1, -, hD1⟩ := hB
        rw [ht] at hP1
        obtain ⟨hP, hD⟩ := va_join (wr := [(zmo, .inr (6, [.int 0, .int mM.2.1, .int mM.2.2.1, .int (bI mM.2.2.2.1), .int mM.2.2.2.2.1, .int mM.2.2.2.2.2, .ref zar, .ref zbe, .ref zst, .ref zah, .ref zgd])), (zsa, .inl (cI, 64, .inl aS))]) (w1 := [(zst, .inr (5, [.int sS.1, .int sS.2.1, .int sS.2.2.1, .long sS.2.2.2, .ref zsa]))]) hP hD [1] [0, 2] rfl rfl (by decide) (by decide) hk1 hFc hP1 hD1
        have hP := hP.sub (ws' := [(zmo, .inr (6, [.int 0, .int mM.2.1, .int mM.2.2.1, .int (bI mM.2.2.2.1), .int mM.2.2.2.2.1, .int mM.2.2.2.2.2, .ref zar, .ref zbe, .ref zst, .ref zah, .ref zgd])), (zst, .inr (5, [.int sS.1, .int sS.2.1, .int sS.2.2.1, .long sS.2.2.2, .ref zsa])), (zsa, .inl (cI, 64, .inl aS))]) [0, 2, 1] rfl
        have hD := hD.sub (ws' := [(zmo, .inr (6, [.int 0, .int mM.2.1, .int mM.2.2.1, .int (bI mM.2.2.2.1), .int mM.2.2.2.2.1, .int mM.2.2.2.2.2, .ref zar, .ref zbe, .ref zst, .ref zah, .ref zgd])), (zst, .inr (5, [.int sS.1, .int sS.2.1, .int sS.2.2.1, .long sS.2.2.2, .ref zsa])), (zsa, .inl (cI, 64, .inl aS))]) [0, 2, 1] (by decide) rfl
        clear hPc hDc hFc hP1 hD1 hk1
        obtain ⟨v7, hv, hf⟩ := obind hf
        have K13 : ∀ (H : Heap) (locs : List Loc) (ls : Array Slot), va_P (dC, dI) vwCl [(zmo, .inr (6, [.int 0, .int mM.2.1, .int mM.2.2.1, .int (bI mM.2.2.2.1), .int mM.2.2.2.2.1, .int mM.2.2.2.2.2, .ref zar, .ref zbe, .ref zst, .ref zah, .ref zgd])), (zst, .inr (5, [.int sS.1, .int sS.2.1, .int sS.2.2.1, .long sS.2.2.2, .ref zsa])), (zsa, .inl (cI, 64, .inl aS))] H → va_D (A_X7_mean cI cJ zmo zst zsa zar zbe zah zgd mM sS aS s.heap.size) [(zmo, .inr (6, [.int 0, .int mM.2.1, .int mM.2.2.1, .int (bI mM.2.2.2.1), .int mM.2.2.2.2.1, .int mM.2.2.2.2.2, .ref zar, .ref zbe, .ref zst, .ref zah, .ref zgd])), (zst, .inr (5, [.int sS.1, .int sS.2.1, .int sS.2.2.1, .long sS.2.2.2, .ref zsa])), (zsa, .inl (cI, 64, .inl aS))] → va_S (A_X7_mean cI cJ zmo zst zsa zar zbe zah zgd mM sS aS s.heap.size) s.heap H locs → lv_has ls 3 [(0, .ref zmo), (2, .int y6)] → W p l e rm_X7_mean (s.setDrawn s.drawn) m args below meth c H locs 0 0 (MQD lw_cs below (Q_X7_mean dC dI cI cJ zmo zst zsa zar zbe zah zgd mM sS aS s.heap.size R) args s 0 0 (A_X7_mean cI cJ zmo zst zsa zar zbe zah zgd mM sS aS s.heap.size)) (F0 m 47 ls [.int v7, .int y5]) := by
          intro H locs ls hP hD hS hl
          refine lv_iadd hx hb dX7_mean_47 ?_
          refine lv_istore_n (lv' := [(1, .int (y5 + v7)), (0, .ref zmo), (2, .int y6)]) hx hb dX7_mean_48 rfl hl (by decide) rfl (fun ls hl => ?_)
          refine lv_iinc (v := (y6 + 1)) (lv' := [(2, .int (y6 + 1)), (1, .int (y5 + v7)), (0, .ref zmo)]) hx hb dX7_mean_49 hl (k := 2) rfl rfl (by decide) rfl (fun ls hl => ?_)
          refine lv_goto (tgt := 9) hx hb dX7_mean_52 (by decide) ?_
          exact ih12 _ _ _ _ _ hf hP hD hS (lv_sub hl [2, 1, 0] rfl)
        clear hf; have hf := hv; clear hv
        refine lv_if_eq (tgt := 46) hx hb dX7_mean_31 (by decide) (fun hc => ?_) (fun hc => ?_)
        · rw [if_pos hc] at hf
          refine lv_iconst (v := 0) hx hb dX7_mean_46 (by decide) ?_
          obtain rfl := Option.some.inj hf
          exact K13 _ _ _ hP hD hS (lv_sub hl [0, 2] rfl)
        · rw [if_neg hc] at hf
          refine lv_aload_n hx hb dX7_mean_34 rfl (lv_at hl 0 rfl) ?_
          refine va_get (D := (dC, dI)) (ci := 6) (v := .ref zst) (C := RX7) (T := TX7) (N := 11) hx hb hts hinX7 hown hK hP 0 rfl rfl 8 (by decide) hw3 (fun _ h9 => h9) rfl dX7_mean_35 ?_
          refine va_getN (D := (dC, dI)) (ci := 5) (v := .ref zsa) (C := RX6) (T := TX6) (N := 5) hx hb hts hinX6 hown hK hP 1 rfl rfl 4 (by decide) (va_Nw.use rfl hnw_ages) (fun _ h9 => h9) rfl dX7_mean_38 ?_
          refine lv_iload_n hx hb dX7_mean_41 rfl (lv_at hl 2 rfl) ?_
          have hg0 : ¬ (y6 < 0 ∨ 64 ≤ y6.toNatClampNeg) := fun hq => by rw [if_pos hq] at hf; exact nomatch hf
          rw [if_neg hg0] at hf
          have hg : vp_in y6 64 := hg0
          refine va_iald hx hb hK hP 2 0 rfl rfl hg dX7_mean_42 ?_
          refine lv_goto (tgt := 47) hx hb dX7_mean_43 (by decide) ?_
          obtain rfl := Option.some.inj hf
          exact K13 _ _ _ hP hD hS (lv_sub hl [0, 2] rfl)
  exact lp11 100 _ _ _ _ _ hv hP hD hS (lv_sub hl [2, 1, 0] rfl)
