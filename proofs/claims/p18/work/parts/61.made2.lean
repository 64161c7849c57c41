abbrev rm_X2_init : Room := ({ frames := 1, cells := 1, slots := 64, locals := 12 } : Room)
set_option maxHeartbeats 800000 in
set_option maxRecDepth 100000 in
theorem c_X2_init (l : Launch) (dC : Nat → ClassId) (dI : Nat → Nat → Nat) (z0 zgr zru : Nat) (sz : Nat) : Met l yX2_init wsX2_init rm_X2_init (va_Pc [.ref z0, .ref zgr, .ref zru] (fun U => U.heap.size = sz ∧ va_P (dC, dI) vwCl [(z0, .inr (1, [.null, .null, .null, .long 0, .int 0, .int 0, .int 0]))] U.heap ∧ va_K (dC, dI) vwCl [] U ∧ va_D (fun _ => True) [(z0, .inr (1, [.null, .null, .null, .long 0, .int 0, .int 0, .int 0]))])) (va_Qv (fun _ : Unit => True) (fun _ t => ∃ q7 : Nat, ∃ cA7 : ClassId, va_P (dC, dI) vwCl [(z0, .inr (1, [.ref zgr, .ref zru, .ref q7, .long 0, .int 0, .int 0, .int 0])), (q7, .inl (cA7, 64, .inl (fun _ => 0)))] t.heap ∧ va_K (dC, dI) vwCl [(cA7, .int)] t ∧ va_D (va_A [(z0, .inr (1, [.null, .null, .null, .long 0, .int 0, .int 0, .int 0]))] sz) [(z0, .inr (1, [.ref zgr, .ref zru, .ref q7, .long 0, .int 0, .int 0, .int 0])), (q7, .inl (cA7, 64, .inl (fun _ => 0)))]) (va_A [(z0, .inr (1, [.null, .null, .null, .long 0, .int 0, .int 0, .int 0]))] sz)) 1 64 (va_A [(z0, .inr (1, [.null, .null, .null, .long 0, .int 0, .int 0, .int 0]))] sz) := by
  refine Met.ofW (cc := cX2_init) (maxL := 3) (ret := none) (by decide) rfl ?_
  intro p e s m args below meth c s₁ B hml hv
  obtain ⟨rfl, hsz, hP, hK, hD0⟩ := hv
  have hx := B.exec
  have hb := B.bytes
  have hr := B.returns
  have hts := atoms_spec (ws := wsX2_init) B.pre
  have hown : s.vm.findClass RX2 = some m.cls := findClass_of_methodNamed B.named
  have hlocks := B.notSynchronized
  have hin : meth.name = "<init>" := (name_of_methodNamed B.named B.method).1
  subst hsz
  have hD := hD0.self (sz := s.heap.size)
  generalize hAe : va_A [(z0, .inr (1, [.null, .null, .null, .long 0, .int 0, .int 0, .int 0]))] s.heap.size = A at hD ⊢
  have hA : ∀ q : Nat, s.heap.size ≤ q → A q := fun q h => by rw [← hAe]; exact Or.inr h
  have hS : va_S A s.heap s.heap [] := va_S.rf
  have hP : va_P (dC, dI) vwCl [(z0, .inr (1, [.null, .null, .null, .long 0, .int 0, .int 0, .int 0]))] s.heap := hP
  have hl := lv_entry ([.ref z0, .ref zgr, .ref zru]) (n := 3) (Nat.le_of_ble_eq_true rfl)
  rw [lg_entry_eq]
  generalize (lg_sl ([.ref z0, .ref zgr, .ref zru]) ++ List.replicate (3 - (lg_sl ([.ref z0, .ref zgr, .ref zru])).length) Slot.unset).toArray = ls at hl ⊢
  have hl : lv_has ls 3 [(0, .ref z0), (1, .ref zgr), (2, .ref zru)] := hl
  refine lv_aload_n hx hb dX2_init_0 rfl (lv_at hl 0 rfl) ?_
  refine W.objInit hx hb hown (hts (.methodLink RX2 1 objectInit) (by decide +kernel)) (hts (.instanceMethod objectInit) (by decide +kernel)) (hts (.code objectInit ⟨#[0xb1]⟩ 1 none) (by decide +kernel)) rfl (by rw [hml]; exact hl.1) rfl dX2_init_1 (Nat.le_of_ble_eq_true rfl) (Nat.le_of_ble_eq_true rfl) ?_
  refine W.eq (g2 := F0 m 4 ls []) rfl ?_
  refine lv_aload_n hx hb dX2_init_4 rfl (lv_at hl 0 rfl) ?_
  refine lv_bipush (v := 64) hx hb dX2_init_5 (by decide) ?_
  refine va_newa (atype := .int) (ty := .int) (a0 := (64, .inl (fun _ => 0))) (N' := 64) hx hb (hts (.arrayClass .int) (by decide +kernel)) rfl hK hP hD hS hA (fun cA => vp_cell_i cA 64 (fun _ => 0)) (show ¬ (64 : Int32) < 0 by decide) (show (64 : Int32).toNatClampNeg = 64 by decide) (by decide) (Nat.le_of_ble_eq_true rfl) (Nat.le_of_ble_eq_true rfl) dX2_init_7 (fun q7 cA7 H hK hP hD hS => ?_)
  have hP : va_P (dC, dI) vwCl [(z0, .inr (1, [.null, .null, .null, .long 0, .int 0, .int 0, .int 0])), (q7, .inl (cA7, 64, .inl (fun _ => 0)))] H := hP
  have hD : va_D A [(z0, .inr (1, [.null, .null, .null, .long 0, .int 0, .int 0, .int 0])), (q7, .inl (cA7, 64, .inl (fun _ => 0)))] := hD
  have hK : va_K (dC, dI) vwCl [(cA7, .int)] s := hK
  refine W.widen (k := 1) (n := 64) (Nat.le_of_ble_eq_true rfl) (Nat.le_of_ble_eq_true rfl) ?_
  refine va_putF (D := (dC, dI)) (ci := 1) (v := .ref q7) (ty := .array .int) (C := RX2) (T := TX2) (N := 7) hx hb hts (by decide +kernel) tyX2 tyX2_ok nmX2 hown hK hP hD hS 0 rfl rfl 2 (by decide) (hts (.fieldLink RX2 9 "HedgeGliders$Garden" "ages" "[I") (by decide +kernel)) (fun _ h9 => h9) rfl hin rfl (by decide +kernel) rfl rfl (Nat.le_of_ble_eq_true rfl) dX2_init_9 (fun H locs hP hD hS => ?_)
  have hP : va_P (dC, dI) vwCl [(z0, .inr (1, [.null, .null, .ref q7, .long 0, .int 0, .int 0, .int 0])), (q7, .inl (cA7, 64, .inl (fun _ => 0)))] H := hP
  have hD : va_D A [(z0, .inr (1, [.null, .null, .ref q7, .long 0, .int 0, .int 0, .int 0])), (q7, .inl (cA7, 64, .inl (fun _ => 0)))] := hD
  refine lv_aload_n hx hb dX2_init_12 rfl (lv_at hl 0 rfl) ?_
  refine lv_aload_n hx hb dX2_init_13 rfl (lv_at hl 1 rfl) ?_
  refine va_putF (D := (dC, dI)) (ci := 1) (v := .ref zgr) (ty := .object "HedgeGliders$Ground") (C := RX2) (T := TX2) (N := 7) hx hb hts (by decide +kernel) tyX2 tyX2_ok nmX2 hown hK hP hD hS 0 rfl rfl 0 (by decide) (hts (.fieldLink RX2 15 "HedgeGliders$Garden" "ground" "LHedgeGliders$Ground;") (by decide +kernel)) (fun _ h9 => h9) rfl hin rfl (by decide +kernel) rfl rfl (Nat.le_of_ble_eq_true rfl) dX2_init_14 (fun H locs hP hD hS => ?_)
  have hP : va_P (dC, dI) vwCl [(z0, .inr (1, [.ref zgr, .null, .ref q7, .long 0, .int 0, .int 0, .int 0])), (q7, .inl (cA7, 64, .inl (fun _ => 0)))] H := hP
  have hD : va_D A [(z0, .inr (1, [.ref zgr, .null, .ref q7, .long 0, .int 0, .int 0, .int 0])), (q7, .inl (cA7, 64, .inl (fun _ => 0)))] := hD
  refine lv_aload_n hx hb dX2_init_17 rfl (lv_at hl 0 rfl) ?_
  refine lv_aload_n hx hb dX2_init_18 rfl (lv_at hl 2 rfl) ?_
  refine va_putF (D := (dC, dI)) (ci := 1) (v := .ref zru) (ty := .object "HedgeGliders$Rules") (C := RX2) (T := TX2) (N := 7) hx hb hts (by decide +kernel) tyX2 tyX2_ok nmX2 hown hK hP hD hS 0 rfl rfl 1 (by decide) (hts (.fieldLink RX2 19 "HedgeGliders$Garden" "rules" "LHedgeGliders$Rules;") (by decide +kernel)) (fun _ h9 => h9) rfl hin rfl (by decide +kernel) rfl rfl (Nat.le_of_ble_eq_true rfl) dX2_init_19 (fun H locs hP hD hS => ?_)
  have hP : va_P (dC, dI) vwCl [(z0, .inr (1, [.ref zgr, .ref zru, .ref q7, .long 0, .int 0, .int 0, .int 0])), (q7, .inl (cA7, 64, .inl (fun _ => 0)))] H := hP
  have hD : va_D A [(z0, .inr (1, [.ref zgr, .ref zru, .ref q7, .long 0, .int 0, .int 0, .int 0])), (q7, .inl (cA7, 64, .inl (fun _ => 0)))] := hD
  have hK9 := hK.sub (tys' := [(cA7, .int)]) [0] rfl
  exact W.vret hx hb hr (fun t ht hW => ⟨⟨(), rfl, trivial, q7, cA7, by rw [ht]; exact hP, va_K.moved hW.alike hK9, hD⟩, hS.F ht⟩) hS.2.2 dX2_init_22
abbrev rm_X4_init : Room := ({ frames := 2, cells := 1, slots := 4, locals := 32 } : Room)
set_option maxHeartbeats 800000 in
set_option maxRecDepth 100000 in
theorem c_X4_init (l : Launch) (dC : Nat → ClassId) (dI : Nat → Nat → Nat) (z0 zgr : Nat) (sz : Nat) : Met l yX4_init wsX4_init rm_X4_init (va_Pc [.ref z0, .ref zgr] (fun U => U.heap.size = sz ∧ va_P (dC, dI) vwCl [(z0, .inr (3, [.null, .null, .int 0, .int 0]))] U.heap ∧ va_K (dC, dI) vwCl [] U ∧ va_D (fun _ => True) [(z0, .inr (3, [.null, .null, .int 0, .int 0]))] ∧ va_Nw (.methodLinkNest RX4 9 yX0_init RX5) U)) (va_Qv (fun _ : Unit => True) (fun _ t => ∃ q5 : Nat, va_P (dC, dI) vwCl [(z0, .inr (3, [.ref zgr, .ref q5, .int 8, .int 62])), (q5, .inr (0, [.long 0, .long 0, .long 0, .long 0]))] t.heap ∧ va_K (dC, dI) vwCl [] t ∧ va_D (va_A [(z0, .inr (3, [.null, .null, .int 0, .int 0]))] sz) [(z0, .inr (3, [.ref zgr, .ref q5, .int 8, .int 62])), (q5, .inr (0, [.long 0, .long 0, .long 0, .long 0]))]) (va_A [(z0, .inr (3, [.null, .null, .int 0, .int 0]))] sz)) 1 4 (va_A [(z0, .inr (3, [.null, .null, .int 0, .int 0]))] sz) := by
  refine Met.ofW (cc := cX4_init) (maxL := 2) (ret := none) (by decide) rfl ?_
  intro p e s m args below meth c s₁ B hml hv
  obtain ⟨rfl, hsz, hP, hK, hD0, hn_X4_9⟩ := hv
  have hx := B.exec
  have hb := B.bytes
  have hr := B.returns
  have hts := atoms_spec (ws := wsX4_init) B.pre
  have hown : s.vm.findClass RX4 = some m.cls := findClass_of_methodNamed B.named
  have hlocks := B.notSynchronized
  have hin : meth.name = "<init>" := (name_of_methodNamed B.named B.method).1
  subst hsz
  have hD := hD0.self (sz := s.heap.size)
  generalize hAe : va_A [(z0, .inr (3, [.null, .null, .int 0, .int 0]))] s.heap.size = A at hD ⊢
  have hA : ∀ q : Nat, s.heap.size ≤ q → A q := fun q h => by rw [← hAe]; exact Or.inr h
  have hS : va_S A s.heap s.heap [] := va_S.rf
  have hP : va_P (dC, dI) vwCl [(z0, .inr (3, [.null, .null, .int 0, .int 0]))] s.heap := hP
  have hl := lv_entry ([.ref z0, .ref zgr]) (n := 2) (Nat.le_of_ble_eq_true rfl)
  rw [lg_entry_eq]
  generalize (lg_sl ([.ref z0, .ref zgr]) ++ List.replicate (2 - (lg_sl ([.ref z0, .ref zgr])).length) Slot.unset).toArray = ls at hl ⊢
  have hl : lv_has ls 2 [(0, .ref z0), (1, .ref zgr)] := hl
  refine lv_aload_n hx hb dX4_init_0 rfl (lv_at hl 0 rfl) ?_
  refine W.objInit hx hb hown (hts (.methodLink RX4 1 objectInit) (by decide +kernel)) (hts (.instanceMethod objectInit) (by decide +kernel)) (hts (.code objectInit ⟨#[0xb1]⟩ 1 none) (by decide +kernel)) rfl (by rw [hml]; exact hl.1) rfl dX4_init_1 (Nat.le_of_ble_eq_true rfl) (Nat.le_of_ble_eq_true rfl) ?_
  refine W.eq (g2 := F0 m 4 ls []) rfl ?_
  refine lv_aload_n hx hb dX4_init_4 rfl (lv_at hl 0 rfl) ?_
  refine va_new (ci := 0) (fs := [.long 0, .long 0, .long 0, .long 0]) (C := RX0) (T := TX0) (N := 4) hx hb hts (by decide +kernel) tyX0 tyX0_ok hown (hts (.classLink RX4 7 RX0) (by decide +kernel)) (hts (.instantiable RX0 4) (by decide +kernel)) (hts (.initialized RX0) (by decide +kernel)) hK hP hD hS hA rfl (fun j hj => by rcases (show j = 0 ∨ j = 1 ∨ j = 2 ∨ j = 3 by omega) with rfl | rfl | rfl | rfl <;> rfl) (Nat.le_of_ble_eq_true rfl) (Nat.le_of_ble_eq_true rfl) dX4_init_5 (fun q5 H hP hD hS => ?_)
  have hP : va_P (dC, dI) vwCl [(z0, .inr (3, [.null, .null, .int 0, .int 0])), (q5, .inr (0, [.long 0, .long 0, .long 0, .long 0]))] H := hP
  have hD : va_D A [(z0, .inr (3, [.null, .null, .int 0, .int 0])), (q5, .inr (0, [.long 0, .long 0, .long 0, .long 0]))] := hD
  refine W.widen (k := 1) (n := 4) (Nat.le_of_ble_eq_true rfl) (Nat.le_of_ble_eq_true rfl) ?_
  refine lv_dup hx hb dX4_init_8 rfl ?_
  have hPc := hP.sub (ws' := [(q5, .inr (0, [.long 0, .long 0, .long 0, .long 0]))]) [1] rfl
  have hDc := hD.sub (ws' := [(q5, .inr (0, [.long 0, .long 0, .long 0, .long 0]))]) [1] (by decide) rfl
  have hKc := hK.sub (tys' := []) [] rfl
  have hFc := va_free (wc := [(q5, .inr (0, [.long 0, .long 0, .long 0, .long 0]))]) hD hS hA [1] rfl
  refine va_callv (va_runIN (As := []) (rest := [.ref q5, .ref z0]) ⟨hx, hb, hml, hown, hts⟩ (c_X0_init l dC dI q5 H.size) ⟨va_cnB 0 hts gX4_init_X0_init_n9 rfl rfl rfl hn_X4_9 (hts (.initialized RX0) (by decide +kernel)) (by decide +kernel) ⟨Nat.le_of_ble_eq_true rfl, Nat.le_of_ble_eq_true rfl⟩, rfl, hts (.instanceMethod yX0_init) (by decide +kernel)⟩ ⟨fun a U g mk q => by obtain ⟨q0, q1, qP, qK, qD⟩ := q; exact ⟨q0, q1, qP, va_K.moved (u := U) (U := U.calling g mk a) (Vm.Alike.refl U.vm) qK, qD⟩, fun U hU hW => ⟨rfl, by rw [hU], by rw [hU]; exact hPc, va_K.moved hW.alike hKc, hDc.weaken (fun _ _ _ _ => trivial)⟩⟩ rfl rfl hl.1 rfl (lv_room (Nat.le_of_ble_eq_true rfl)) dX4_init_9 ⟨Nat.le_of_ble_eq_true rfl, Nat.le_of_ble_eq_true rfl⟩) hS (fun q _ h => hFc q h) hFc (fun u t H1 locs ht hvm h5 hB hz1 hk1 hS => ?_)
  obtain ⟨hP1, hK1, hD1⟩ := hB
  rw [ht] at hP1
  have hK1 := va_K.moved hvm.symm hK1
  obtain ⟨hP, hD⟩ := va_join (wr := [(z0, .inr (3, [.null, .null, .int 0, .int 0]))]) (w1 := [(q5, .inr (0, [.long 0, .long 0, .long 0, .long 0]))]) hP hD [1] [0] rfl rfl (by decide) (by decide) hk1 hFc hP1 hD1
  have hK := (hK.sub (tys' := []) [] rfl).app hK1
  generalize H1 = H at hP hS ⊢
  have hP := hP.sub (ws' := [(z0, .inr (3, [.null, .null, .int 0, .int 0])), (q5, .inr (0, [.long 0, .long 0, .long 0, .long 0]))]) [0, 1] rfl
  have hD := hD.sub (ws' := [(z0, .inr (3, [.null, .null, .int 0, .int 0])), (q5, .inr (0, [.long 0, .long 0, .long 0, .long 0]))]) [0, 1] (by decide) rfl
  have hK : va_K (dC, dI) vwCl [] s := hK
  refine va_putF (D := (dC, dI)) (ci := 3) (v := .ref q5) (ty := .object "HedgeGliders$Crowd") (C := RX4) (T := TX4) (N := 4) hx hb hts (by decide +kernel) tyX4 tyX4_ok nmX4 hown hK hP hD hS 0 rfl rfl 1 (by decide) (hts (.fieldLink RX4 10 "HedgeGliders$Rules" "crowd" "LHedgeGliders$Crowd;") (by decide +kernel)) (fun _ h9 => h9) rfl hin rfl (by decide +kernel) rfl rfl (Nat.le_of_ble_eq_true rfl) dX4_init_12 (fun H locs hP hD hS => ?_)
  have hP : va_P (dC, dI) vwCl [(z0, .inr (3, [.null, .ref q5, .int 0, .int 0])), (q5, .inr (0, [.long 0, .long 0, .long 0, .long 0]))] H := hP
  have hD : va_D A [(z0, .inr (3, [.null, .ref q5, .int 0, .int 0])), (q5, .inr (0, [.long 0, .long 0, .long 0, .long 0]))] := hD
  refine lv_aload_n hx hb dX4_init_15 rfl (lv_at hl 0 rfl) ?_
  refine lv_bipush (v := 8) hx hb dX4_init_16 (by decide) ?_
  refine va_put (D := (dC, dI)) (ci := 3) (v := .int 8) (ty := .int) (C := RX4) (T := TX4) (N := 4) hx hb hts (by decide +kernel) tyX4 tyX4_ok nmX4 hown hK hP hD hS 0 rfl rfl 2 (by decide) (hts (.fieldLink RX4 16 "HedgeGliders$Rules" "births" "I") (by decide +kernel)) (fun _ h9 => h9) rfl (by decide +kernel) rfl rfl (Nat.le_of_ble_eq_true rfl) dX4_init_18 (fun H locs hP hD hS => ?_)
  have hP : va_P (dC, dI) vwCl [(z0, .inr (3, [.null, .ref q5, .int 8, .int 0])), (q5, .inr (0, [.long 0, .long 0, .long 0, .long 0]))] H := hP
  have hD : va_D A [(z0, .inr (3, [.null, .ref q5, .int 8, .int 0])), (q5, .inr (0, [.long 0, .long 0, .long 0, .long 0]))] := hD
  refine lv_aload_n hx hb dX4_init_21 rfl (lv_at hl 0 rfl) ?_
  refine lv_bipush (v := 62) hx hb dX4_init_22 (by decide) ?_
  refine va_put (D := (dC, dI)) (ci := 3) (v := .int 62) (ty := .int) (C := RX4) (T := TX4) (N := 4) hx hb hts (by decide +kernel) tyX4 tyX4_ok nmX4 hown hK hP hD hS 0 rfl rfl 3 (by decide) (hts (.fieldLink RX4 20 "HedgeGliders$Rules" "stays" "I") (by decide +kernel)) (fun _ h9 => h9) rfl (by decide +kernel) rfl rfl (Nat.le_of_ble_eq_true rfl) dX4_init_24 (fun H locs hP hD hS => ?_)
  have hP : va_P (dC, dI) vwCl [(z0, .inr (3, [.null, .ref q5, .int 8, .int 62])), (q5, .inr (0, [.long 0, .long 0, .long 0, .long 0]))] H := hP
  have hD : va_D A [(z0, .inr (3, [.null, .ref q5, .int 8, .int 62])), (q5, .inr (0, [.long 0, .long 0, .long 0, .long 0]))] := hD
  refine lv_aload_n hx hb dX4_init_27 rfl (lv_at hl 0 rfl) ?_
  refine lv_aload_n hx hb dX4_init_28 rfl (lv_at hl 1 rfl) ?_
  refine va_putF (D := (dC, dI)) (ci := 3) (v := .ref zgr) (ty := .object "HedgeGliders$Ground") (C := RX4) (T := TX4) (N := 4) hx hb hts (by decide +kernel) tyX4 tyX4_ok nmX4 hown hK hP hD hS 0 rfl rfl 0 (by decide) (hts (.fieldLink RX4 23 "HedgeGliders$Rules" "ground" "LHedgeGliders$Ground;") (by decide +kernel)) (fun _ h9 => h9) rfl hin rfl (by decide +kernel) rfl rfl (Nat.le_of_ble_eq_true rfl) dX4_init_29 (fun H locs hP hD hS => ?_)
  have hP : va_P (dC, dI) vwCl [(z0, .inr (3, [.ref zgr, .ref q5, .int 8, .int 62])), (q5, .inr (0, [.long 0, .long 0, .long 0, .long 0]))] H := hP
  have hD : va_D A [(z0, .inr (3, [.ref zgr, .ref q5, .int 8, .int 62])), (q5, .inr (0, [.long 0, .long 0, .long 0, .long 0]))] := hD
  have hK9 := hK.sub (tys' := []) [] rfl
  exact W.vret hx hb hr (fun t ht hW => ⟨⟨(), rfl, trivial, q5, by rw [ht]; exact hP, va_K.moved hW.alike hK9, hD⟩, hS.F ht⟩) hS.2.2 dX4_init_32
