/-! HedgeGliders.mean()D -/
def f_X5_mean (dG : GaS) (aG : Nat → Int32) : Option (UInt64) := if (f_X2_size dG) ≤ 0 then (some FP.dconst0) else (Option.bind (f_X2_ageOfAll dG aG) fun r1 => some (FP.ddiv (FP.i2d r1) (FP.i2d (f_X2_size dG))))
abbrev rm_X5_mean : Room := ({ frames := 2, cells := 0, slots := 0, locals := 41 } : Room)
abbrev A_X5_mean (cI cJ : ClassId) (zhg zga zag zgr zru zfo zco : Nat) (dG : GaS) (aG : Nat → Int32) (sz : Nat) : Nat → Prop := va_A [(zhg, .inr (4, [.ref zgr, .ref zru, .ref zga, .ref zfo, .ref zco])), (zga, .inr (1, [.ref zgr, .ref zru, .ref zag, .long dG.1, .int dG.2.1, .int dG.2.2.1, .int dG.2.2.2])), (zag, .inl (cI, 64, .inl aG))] sz
abbrev Q_X5_mean (dC : Nat → ClassId) (dI : Nat → Nat → Nat) (cI cJ : ClassId) (zhg zga zag zgr zru zfo zco : Nat) (dG : GaS) (aG : Nat → Int32) (sz : Nat) (R : UInt64) : Array Value → State → Outcome → State → Prop := va_Qd (fun (r : UInt64) (_ : Unit) => alike64 r R = true) (fun u_ t => va_P (dC, dI) vwCl [(zhg, .inr (4, [.ref zgr, .ref zru, .ref zga, .ref zfo, .ref zco])), (zga, .inr (1, [.ref zgr, .ref zru, .ref zag, .long dG.1, .int dG.2.1, .int dG.2.2.1, .int dG.2.2.2])), (zag, .inl (cI, 64, .inl aG))] t.heap ∧ va_K (dC, dI) vwCl [(cI, .int), (cJ, .long)] t ∧ va_D (A_X5_mean cI cJ zhg zga zag zgr zru zfo zco dG aG sz) [(zhg, .inr (4, [.ref zgr, .ref zru, .ref zga, .ref zfo, .ref zco])), (zga, .inr (1, [.ref zgr, .ref zru, .ref zag, .long dG.1, .int dG.2.1, .int dG.2.2.1, .int dG.2.2.2])), (zag, .inl (cI, 64, .inl aG))]) (A_X5_mean cI cJ zhg zga zag zgr zru zfo zco dG aG sz)
set_option maxHeartbeats 4000000 in
set_option maxRecDepth 100000 in
theorem c_X5_mean (l : Launch) (dC : Nat → ClassId) (dI : Nat → Nat → Nat) (cI cJ : ClassId) (zhg zga zag zgr zru zfo zco : Nat) (sz : Nat) (dG : GaS) (aG : Nat → Int32) (R : UInt64) (hR : f_X5_mean dG aG = some R) : MetD lw_cs l yX5_mean wsX5_mean rm_X5_mean (va_Pc [.ref zhg] (fun U => U.heap.size = sz ∧ va_P (dC, dI) vwCl [(zhg, .inr (4, [.ref zgr, .ref zru, .ref zga, .ref zfo, .ref zco])), (zga, .inr (1, [.ref zgr, .ref zru, .ref zag, .long dG.1, .int dG.2.1, .int dG.2.2.1, .int dG.2.2.2])), (zag, .inl (cI, 64, .inl aG))] U.heap ∧ va_K (dC, dI) vwCl [(cI, .int), (cJ, .long)] U ∧ va_D (fun _ => True) [(zhg, .inr (4, [.ref zgr, .ref zru, .ref zga, .ref zfo, .ref zco])), (zga, .inr (1, [.ref zgr, .ref zru, .ref zag, .long dG.1, .int dG.2.1, .int dG.2.2.1, .int dG.2.2.2])), (zag, .inl (cI, 64, .inl aG))])) (Q_X5_mean dC dI cI cJ zhg zga zag zgr zru zfo zco dG aG sz R) 0 0 (A_X5_mean cI cJ zhg zga zag zgr zru zfo zco dG aG sz) := by
  have hf := hR
  refine MetD.ofW (cs := lw_cs) (cc := cX5_mean) (maxL := 2) (ret := (some .double)) (by decide) rfl ?_
  intro p e s m args below meth c s₁ B hml hv hd0
  obtain ⟨hargs, hsz, hP, hK, hD0⟩ := hv
  have hx := B.exec
  have hb := B.bytes
  have hr := B.returns
  have hts := atoms_spec (ws := wsX5_mean) B.pre
  have hown : s.vm.findClass RX5 = some m.cls := findClass_of_methodNamed B.named
  have hlocks := B.notSynchronized
  subst hsz
  have hts := dr_words hts s.drawn
  have hD : va_D (A_X5_mean cI cJ zhg zga zag zgr zru zfo zco dG aG s.heap.size) [(zhg, .inr (4, [.ref zgr, .ref zru, .ref zga, .ref zfo, .ref zco])), (zga, .inr (1, [.ref zgr, .ref zru, .ref zag, .long dG.1, .int dG.2.1, .int dG.2.2.1, .int dG.2.2.2])), (zag, .inl (cI, 64, .inl aG))] := hD0.self (sz := s.heap.size)
  have hA : ∀ q : Nat, s.heap.size ≤ q → (A_X5_mean cI cJ zhg zga zag zgr zru zfo zco dG aG s.heap.size) q := fun q h => Or.inr h
  have hS : va_S (A_X5_mean cI cJ zhg zga zag zgr zru zfo zco dG aG s.heap.size) s.heap s.heap [] := va_S.rf
  have hinX5 : ∀ w ∈ wsX50, w ∈ wsX5_mean := by decide +kernel
  have hw0 := hts (.fieldLink RX5 30 "HedgeGliders" "garden" "LHedgeGliders$Garden;") (by decide +kernel)
  have hl := lv_entry ([.ref zhg]) (n := 2) (Nat.le_of_ble_eq_true rfl)
  have he0 : entryFrame m args 2 = entryFrame m ([.ref zhg] : List Value).toArray 2 := by rw [hargs]
  rw [he0, lg_entry_eq]
  generalize (lg_sl ([.ref zhg]) ++ List.replicate (2 - (lg_sl ([.ref zhg])).length) Slot.unset).toArray = ls at hl ⊢
  have hl : lv_has ls 2 [(0, .ref zhg)] := hl
  rw [f_X5_mean] at hf
  refine lv_aload_n hx hb dX5_mean_0 rfl (lv_at hl 0 rfl) ?_
  refine va_get (D := (dC, dI)) (ci := 4) (v := .ref zga) (C := RX5) (T := TX5) (N := 5) hx hb hts hinX5 hown hK hP 0 rfl rfl 2 (by decide) hw0 (fun _ h9 => h9) rfl dX5_mean_1 ?_
  have hPc := hP.sub (ws' := [(zga, .inr (1, [.ref zgr, .ref zru, .ref zag, .long dG.1, .int dG.2.1, .int dG.2.2.1, .int dG.2.2.2]))]) [1] rfl
  have hDc := hD.sub (ws' := [(zga, .inr (1, [.ref zgr, .ref zru, .ref zag, .long dG.1, .int dG.2.1, .int dG.2.2.1, .int dG.2.2.2]))]) [1] (by decide) rfl
  have hFc := va_free (wc := [(zga, .inr (1, [.ref zgr, .ref zru, .ref zag, .long dG.1, .int dG.2.1, .int dG.2.2.1, .int dG.2.2.2]))]) hD hS hA [1] rfl
  refine va_calli (va_runV (As := []) (rest := []) ⟨hx, hb, hml, hown, hts⟩ (c_X2_size l dC dI cI cJ zga zgr zru zag s.heap.size dG) (cwV 0 hts gX5_mean_X2_size rfl rfl rfl (by decide +kernel) ⟨Nat.le_of_ble_eq_true rfl, Nat.le_of_ble_eq_true rfl⟩) ⟨fun a U gg mk q => by obtain ⟨q0, q1, qP, qK, qD⟩ := q; exact ⟨q0, q1, qP, va_K.moved (u := U) (U := U.calling gg mk a) (Vm.Alike.refl U.vm) qK, qD⟩, va_recv hK hPc (ci := 1) (q0 := 0) rfl rfl, fun U hU hW => ⟨rfl, by rw [hU], by rw [hU]; exact hPc, va_K.moved hW.alike hK, hDc.weaken (fun _ _ _ _ => trivial)⟩⟩ rfl rfl hl.1 rfl (lv_room (Nat.le_of_ble_eq_true rfl)) dX5_mean_4 ⟨Nat.zero_le _, Nat.zero_le _⟩) hS (fun q _ h => hFc q h) hFc (fun r_ u_ t H locs ht hvm hw hB hz1 hk1 hS => ?_)
  obtain rfl := hw.symm
  obtain ⟨hP1, -, hD1⟩ := hB
  rw [ht] at hP1
  obtain ⟨hP, hD⟩ := va_join (wr := [(zhg, .inr (4, [.ref zgr, .ref zru, .ref zga, .ref zfo, .ref zco])), (zag, .inl (cI, 64, .inl aG))]) (w1 := [(zga, .inr (1, [.ref zgr, .ref zru, .ref zag, .long dG.1, .int dG.2.1, .int dG.2.2.1, .int dG.2.2.2]))]) hP hD [1] [0, 2] rfl rfl (by decide) (by decide) hk1 hFc hP1 hD1
  have hP := hP.sub (ws' := [(zhg, .inr (4, [.ref zgr, .ref zru, .ref zga, .ref zfo, .ref zco])), (zga, .inr (1, [.ref zgr, .ref zru, .ref zag, .long dG.1, .int dG.2.1, .int dG.2.2.1, .int dG.2.2.2])), (zag, .inl (cI, 64, .inl aG))]) [0, 2, 1] rfl
  have hD := hD.sub (ws' := [(zhg, .inr (4, [.ref zgr, .ref zru, .ref zga, .ref zfo, .ref zco])), (zga, .inr (1, [.ref zgr, .ref zru, .ref zag, .long dG.1, .int dG.2.1, .int dG.2.2.1, .int dG.2.2.2])), (zag, .inl (cI, 64, .inl aG))]) [0, 2, 1] (by decide) rfl
  clear hPc hDc hFc hP1 hD1 hk1
  refine lv_istore_n (lv' := [(1, .int (f_X2_size dG)), (0, .ref zhg)]) hx hb dX5_mean_7 rfl hl (by decide) rfl (fun ls hl => ?_)
  refine lv_iload_n hx hb dX5_mean_8 rfl (lv_at hl 0 rfl) ?_
  refine lv_if_le (tgt := 26) hx hb dX5_mean_9 (by decide) (fun hc => ?_) (fun hc => ?_)
  · rw [if_pos hc] at hf
    refine lv_dconst0 hx hb dX5_mean_26 ?_
    obtain rfl := Option.some.inj hf
    refine W.endD hd0 ?_
    exact W.dret (v := FP.dconst0) hx hb hr (fun t ht hW => ⟨⟨FP.dconst0, (), rfl, (show alike64 FP.dconst0 FP.dconst0 = true by decide), by rw [ht]; exact hP, va_K.moved hW.alike hK, hD⟩, hS.F ht⟩) hS.2.2 dX5_mean_27
  · rw [if_neg hc] at hf
    refine lv_aload_n hx hb dX5_mean_12 rfl (lv_at hl 1 rfl) ?_
    refine va_get (D := (dC, dI)) (ci := 4) (v := .ref zga) (C := RX5) (T := TX5) (N := 5) hx hb hts hinX5 hown hK hP 0 rfl rfl 2 (by decide) hw0 (fun _ h9 => h9) rfl dX5_mean_13 ?_
    obtain ⟨r1, hr1, hf⟩ := obind hf
    have hPc := hP.sub (ws' := [(zga, .inr (1, [.ref zgr, .ref zru, .ref zag, .long dG.1, .int dG.2.1, .int dG.2.2.1, .int dG.2.2.2])), (zag, .inl (cI, 64, .inl aG))]) [1, 2] rfl
    have hDc := hD.sub (ws' := [(zga, .inr (1, [.ref zgr, .ref zru, .ref zag, .long dG.1, .int dG.2.1, .int dG.2.2.1, .int dG.2.2.2])), (zag, .inl (cI, 64, .inl aG))]) [1, 2] (by decide) rfl
    have hFc := va_free (wc := [(zga, .inr (1, [.ref zgr, .ref zru, .ref zag, .long dG.1, .int dG.2.1, .int dG.2.2.1, .int dG.2.2.2])), (zag, .inl (cI, 64, .inl aG))]) hD hS hA [1, 2] rfl
    refine va_calli (va_runV (As := []) (rest := []) ⟨hx, hb, hml, hown, hts⟩ (c_X2_ageOfAll l dC dI cI cJ zga zag zgr zru H.size dG aG _ hr1) (cwV 0 hts gX5_mean_X2_ageOfAll rfl rfl rfl (by decide +kernel) ⟨Nat.le_of_ble_eq_true rfl, Nat.le_of_ble_eq_true rfl⟩) ⟨fun a U gg mk q => by obtain ⟨q0, q1, qP, qK, qD⟩ := q; exact ⟨q0, q1, qP, va_K.moved (u := U) (U := U.calling gg mk a) (Vm.Alike.refl U.vm) qK, qD⟩, va_recv hK hPc (ci := 1) (q0 := 0) rfl rfl, fun U hU hW => ⟨rfl, by rw [hU], by rw [hU]; exact hPc, va_K.moved hW.alike hK, hDc.weaken (fun _ _ _ _ => trivial)⟩⟩ rfl rfl hl.1 rfl (lv_room (Nat.le_of_ble_eq_true rfl)) dX5_mean_16 ⟨Nat.zero_le _, Nat.zero_le _⟩) hS (fun q _ h => hFc q h) hFc (fun r_ u_ t H locs ht hvm hw hB hz1 hk1 hS => ?_)
    obtain rfl := hw.symm
    obtain ⟨hP1, -, hD1⟩ := hB
    rw [ht] at hP1
    obtain ⟨hP, hD⟩ := va_join (wr := [(zhg, .inr (4, [.ref zgr, .ref zru, .ref zga, .ref zfo, .ref zco]))]) (w1 := [(zga, .inr (1, [.ref zgr, .ref zru, .ref zag, .long dG.1, .int dG.2.1, .int dG.2.2.1, .int dG.2.2.2])), (zag, .inl (cI, 64, .inl aG))]) hP hD [1, 2] [0] rfl rfl (by decide) (by decide) hk1 hFc hP1 hD1
    have hP := hP.sub (ws' := [(zhg, .inr (4, [.ref zgr, .ref zru, .ref zga, .ref zfo, .ref zco])), (zga, .inr (1, [.ref zgr, .ref zru, .ref zag, .long dG.1, .int dG.2.1, .int dG.2.2.1, .int dG.2.2.2])), (zag, .inl (cI, 64, .inl aG))]) [0, 1, 2] rfl
    have hD := hD.sub (ws' := [(zhg, .inr (4, [.ref zgr, .ref zru, .ref zga, .ref zfo, .ref zco])), (zga, .inr (1, [.ref zgr, .ref zru, .ref zag, .long dG.1, .int dG.2.1, .int dG.2.2.1, .int dG.2.2.2])), (zag, .inl (cI, 64, .inl aG))]) [0, 1, 2] (by decide) rfl
    clear hPc hDc hFc hP1 hD1 hk1
    refine lv_i2d hx hb dX5_mean_19 ?_
    refine lv_iload_n hx hb dX5_mean_20 rfl (lv_at hl 0 rfl) ?_
    refine lv_i2d hx hb dX5_mean_21 ?_
    refine lv_ddiv_any hd0 lw_bits hx hb dX5_mean_22 (fun dr2 d1 hal hd0 => ?_)
    refine lv_goto (tgt := 27) hx hb dX5_mean_23 (by decide) ?_
    obtain rfl := Option.some.inj hf
    refine W.endD hd0 ?_
    exact W.dret (v := dr2) hx hb hr (fun t ht hW => ⟨⟨dr2, (), rfl, hal, by rw [ht]; exact hP, va_K.moved hW.alike hK, hD⟩, hS.F ht⟩) hS.2.2 dX5_mean_27
