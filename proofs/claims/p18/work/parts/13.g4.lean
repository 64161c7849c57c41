/-! HedgeGliders$Figures.picture(I)I -/
def f_X1_picture (fg : Int32) : Int32 := if fg = 0 then (482) else if fg = 1 then (56) else if fg = 2 then (27) else (186)
abbrev rm_X1_picture : Room := ({ frames := 0, cells := 0, slots := 0, locals := 0 } : Room)
abbrev A_X1_picture (cI cJ : ClassId) (fg : Int32) (sz : Nat) : Nat → Prop := va_A [] sz
abbrev Q_X1_picture (dC : Nat → ClassId) (dI : Nat → Nat → Nat) (cI cJ : ClassId) (fg : Int32) (sz : Nat) (R : Int32) : Array Value → State → Outcome → State → Prop := va_Qi (fun (r : Int32) (_ : Unit) => r = R) (fun u_ t => va_P (dC, dI) vwCl [] t.heap ∧ va_K (dC, dI) vwCl [(cI, .int), (cJ, .long)] t ∧ va_D (A_X1_picture cI cJ fg sz) []) (A_X1_picture cI cJ fg sz)
set_option maxHeartbeats 4000000 in
set_option maxRecDepth 100000 in
theorem c_X1_picture (l : Launch) (dC : Nat → ClassId) (dI : Nat → Nat → Nat) (cI cJ : ClassId) (sz : Nat) (fg : Int32) : Met l yX1_picture wsX1_picture rm_X1_picture (va_Pc [.int fg] (fun U => U.heap.size = sz ∧ va_P (dC, dI) vwCl [] U.heap ∧ va_K (dC, dI) vwCl [(cI, .int), (cJ, .long)] U ∧ va_D (fun _ => True) [])) (Q_X1_picture dC dI cI cJ fg sz (f_X1_picture fg)) 0 0 (A_X1_picture cI cJ fg sz) := by
  generalize hf : (f_X1_picture fg) = R
  refine Met.ofW (cc := cX1_picture) (maxL := 1) (ret := (some .int)) (by decide) rfl ?_
  intro p e s m args below meth c s₁ B hml hv
  obtain ⟨hargs, hsz, hP, hK, hD0⟩ := hv
  have hx := B.exec
  have hb := B.bytes
  have hr := B.returns
  have hts := atoms_spec (ws := wsX1_picture) B.pre
  have hown : s.vm.findClass RX1 = some m.cls := findClass_of_methodNamed B.named
  have hlocks := B.notSynchronized
  subst hsz
  have hD : va_D (A_X1_picture cI cJ fg s.heap.size) [] := hD0.self (sz := s.heap.size)
  have hA : ∀ q : Nat, s.heap.size ≤ q → (A_X1_picture cI cJ fg s.heap.size) q := fun q h => Or.inr h
  have hS : va_S (A_X1_picture cI cJ fg s.heap.size) s.heap s.heap [] := va_S.rf
  have hl := lv_entry ([.int fg]) (n := 1) (Nat.le_of_ble_eq_true rfl)
  have he0 : entryFrame m args 1 = entryFrame m ([.int fg] : List Value).toArray 1 := by rw [hargs]
  rw [he0, lg_entry_eq]
  generalize (lg_sl ([.int fg]) ++ List.replicate (1 - (lg_sl ([.int fg])).length) Slot.unset).toArray = ls at hl ⊢
  have hl : lv_has ls 1 [(0, .int fg)] := hl
  rw [f_X1_picture] at hf
  refine lv_iload_n hx hb dX1_picture_0 rfl (lv_at hl 0 rfl) ?_
  by_cases hc0 : fg = 0
  · rw [if_pos hc0] at hf
    refine lv_tableIn (off := 27) (tgt := 28) hx hb dX1_picture_1 (by rw [hc0]; decide) (by rw [hc0]; decide) (by rw [hc0]; rfl) (by decide) ?_
    refine lv_sipush (v := 482) hx hb dX1_picture_28 (by decide) ?_
    obtain rfl := hf
    exact W.iret (v := 482) hx hb hr (fun t ht hW => ⟨⟨482, (), rfl, rfl, by rw [ht]; exact hP, va_K.moved hW.alike hK, hD⟩, hS.F ht⟩) hS.2.2 dX1_picture_31
  · rw [if_neg hc0] at hf
    by_cases hc1 : fg = 1
    · rw [if_pos hc1] at hf
      refine lv_tableIn (off := 31) (tgt := 32) hx hb dX1_picture_1 (by rw [hc1]; decide) (by rw [hc1]; decide) (by rw [hc1]; rfl) (by decide) ?_
      refine lv_bipush (v := 56) hx hb dX1_picture_32 (by decide) ?_
      obtain rfl := hf
      exact W.iret (v := 56) hx hb hr (fun t ht hW => ⟨⟨56, (), rfl, rfl, by rw [ht]; exact hP, va_K.moved hW.alike hK, hD⟩, hS.F ht⟩) hS.2.2 dX1_picture_34
    · rw [if_neg hc1] at hf
      by_cases hc2 : fg = 2
      · rw [if_pos hc2] at hf
        refine lv_tableIn (off := 34) (tgt := 35) hx hb dX1_picture_1 (by rw [hc2]; decide) (by rw [hc2]; decide) (by rw [hc2]; rfl) (by decide) ?_
        refine lv_bipush (v := 27) hx hb dX1_picture_35 (by decide) ?_
        obtain rfl := hf
        exact W.iret (v := 27) hx hb hr (fun t ht hW => ⟨⟨27, (), rfl, rfl, by rw [ht]; exact hP, va_K.moved hW.alike hK, hD⟩, hS.F ht⟩) hS.2.2 dX1_picture_37
      · rw [if_neg hc2] at hf
        have ht0 : (fg).toInt ≠ 0 := fun h9 => hc0 (Int32.toInt_inj.mp (h9.trans (by decide)))
        have ht1 : (fg).toInt ≠ 1 := fun h9 => hc1 (Int32.toInt_inj.mp (h9.trans (by decide)))
        have ht2 : (fg).toInt ≠ 2 := fun h9 => hc2 (Int32.toInt_inj.mp (h9.trans (by decide)))
        refine lv_tableOut (tgt := 38) hx hb dX1_picture_1 (by omega) (by decide) ?_
        refine lv_sipush (v := 186) hx hb dX1_picture_38 (by decide) ?_
        obtain rfl := hf
        exact W.iret (v := 186) hx hb hr (fun t ht hW => ⟨⟨186, (), rfl, rfl, by rw [ht]; exact hP, va_K.moved hW.alike hK, hD⟩, hS.F ht⟩) hS.2.2 dX1_picture_41
/-! HedgeGliders$Figures.has(III)Z -/
def f_X1_has (pi : Int32) (cx : Int32) (cy : Int32) : Int32 := if ((pi >>> (((3 * cy) + cx) &&& 31)) &&& 1) = 0 then (0) else (1)
abbrev rm_X1_has : Room := ({ frames := 0, cells := 0, slots := 0, locals := 0 } : Room)
abbrev A_X1_has (cI cJ : ClassId) (pi : Int32) (cx : Int32) (cy : Int32) (sz : Nat) : Nat → Prop := va_A [] sz
abbrev Q_X1_has (dC : Nat → ClassId) (dI : Nat → Nat → Nat) (cI cJ : ClassId) (pi : Int32) (cx : Int32) (cy : Int32) (sz : Nat) (R : Int32) : Array Value → State → Outcome → State → Prop := va_Qi (fun (r : Int32) (_ : Unit) => r = R) (fun u_ t => va_P (dC, dI) vwCl [] t.heap ∧ va_K (dC, dI) vwCl [(cI, .int), (cJ, .long)] t ∧ va_D (A_X1_has cI cJ pi cx cy sz) []) (A_X1_has cI cJ pi cx cy sz)
set_option maxHeartbeats 4000000 in
set_option maxRecDepth 100000 in
theorem c_X1_has (l : Launch) (dC : Nat → ClassId) (dI : Nat → Nat → Nat) (cI cJ : ClassId) (sz : Nat) (pi : Int32) (cx : Int32) (cy : Int32) : Met l yX1_has wsX1_has rm_X1_has (va_Pc [.int pi, .int cx, .int cy] (fun U => U.heap.size = sz ∧ va_P (dC, dI) vwCl [] U.heap ∧ va_K (dC, dI) vwCl [(cI, .int), (cJ, .long)] U ∧ va_D (fun _ => True) [])) (Q_X1_has dC dI cI cJ pi cx cy sz (f_X1_has pi cx cy)) 0 0 (A_X1_has cI cJ pi cx cy sz) := by
  generalize hf : (f_X1_has pi cx cy) = R
  refine Met.ofW (cc := cX1_has) (maxL := 3) (ret := (some .boolean)) (by decide) rfl ?_
  intro p e s m args below meth c s₁ B hml hv
  obtain ⟨hargs, hsz, hP, hK, hD0⟩ := hv
  have hx := B.exec
  have hb := B.bytes
  have hr := B.returns
  have hts := atoms_spec (ws := wsX1_has) B.pre
  have hown : s.vm.findClass RX1 = some m.cls := findClass_of_methodNamed B.named
  have hlocks := B.notSynchronized
  subst hsz
  have hD : va_D (A_X1_has cI cJ pi cx cy s.heap.size) [] := hD0.self (sz := s.heap.size)
  have hA : ∀ q : Nat, s.heap.size ≤ q → (A_X1_has cI cJ pi cx cy s.heap.size) q := fun q h => Or.inr h
  have hS : va_S (A_X1_has cI cJ pi cx cy s.heap.size) s.heap s.heap [] := va_S.rf
  have hl := lv_entry ([.int pi, .int cx, .int cy]) (n := 3) (Nat.le_of_ble_eq_true rfl)
  have he0 : entryFrame m args 3 = entryFrame m ([.int pi, .int cx, .int cy] : List Value).toArray 3 := by rw [hargs]
  rw [he0, lg_entry_eq]
  generalize (lg_sl ([.int pi, .int cx, .int cy]) ++ List.replicate (3 - (lg_sl ([.int pi, .int cx, .int cy])).length) Slot.unset).toArray = ls at hl ⊢
  have hl : lv_has ls 3 [(0, .int pi), (1, .int cx), (2, .int cy)] := hl
  rw [f_X1_has] at hf
  refine lv_iload_n hx hb dX1_has_0 rfl (lv_at hl 0 rfl) ?_
  refine lv_iconst (v := 3) hx hb dX1_has_1 (by decide) ?_
  refine lv_iload_n hx hb dX1_has_2 rfl (lv_at hl 2 rfl) ?_
  refine lv_imul hx hb dX1_has_3 ?_
  refine lv_iload_n hx hb dX1_has_4 rfl (lv_at hl 1 rfl) ?_
  refine lv_iadd hx hb dX1_has_5 ?_
  refine lv_ishr hx hb dX1_has_6 ?_
  refine lv_iconst (v := 1) hx hb dX1_has_7 (by decide) ?_
  refine lv_iand hx hb dX1_has_8 ?_
  refine lv_if_eq (tgt := 16) hx hb dX1_has_9 (by decide) (fun hc => ?_) (fun hc => ?_)
  · rw [if_pos hc] at hf
    refine lv_iconst (v := 0) hx hb dX1_has_16 (by decide) ?_
    obtain rfl := hf
    exact W.zret (v := 0) (ty := .boolean) hx hb hr rfl (fun t ht hW => ⟨⟨0, (), rfl, rfl, by rw [ht]; exact hP, va_K.moved hW.alike hK, hD⟩, hS.F ht⟩) hS.2.2 dX1_has_17
  · rw [if_neg hc] at hf
    refine lv_iconst (v := 1) hx hb dX1_has_12 (by decide) ?_
    refine lv_goto (tgt := 17) hx hb dX1_has_13 (by decide) ?_
    obtain rfl := hf
    exact W.zret (v := 1) (ty := .boolean) hx hb hr rfl (fun t ht hW => ⟨⟨1, (), rfl, rfl, by rw [ht]; exact hP, va_K.moved hW.alike hK, hD⟩, hS.F ht⟩) hS.2.2 dX1_has_17
/-! HedgeGliders$Figures.turnedOnce(I)I -/
def lp_X1_turnedOnce_11 (pi : Int32) (y20 : Int32) : Nat → Int32 → Int32 → Option (Int32)
  | 0, _, _ => none
  | nf + 1, y25, y26 => if 3 ≤ y26 then (some y25) else (bindv (if (f_X1_has pi y26 y20) = 0 then (y25) else ((y25 ||| (1 <<< (((((3 * y26) + 3) - 1) - y20) &&& 31)))) : Int32) fun v27 => lp_X1_turnedOnce_11 pi y20 nf v27 (y26 + 1))
def lp_X1_turnedOnce_4 (pi : Int32) : Nat → Int32 → Int32 → Option (Int32)
  | 0, _, _ => none
  | nf + 1, y19, y20 => if 3 ≤ y20 then (some y19) else (Option.bind (lp_X1_turnedOnce_11 pi y20 100 y19 0) fun v28 => lp_X1_turnedOnce_4 pi nf v28 (y20 + 1))
def f_X1_turnedOnce (pi : Int32) : Option (Int32) := Option.bind (lp_X1_turnedOnce_4 pi 100 0 0) fun v29 => some v29
abbrev rm_X1_turnedOnce : Room := ({ frames := 1, cells := 0, slots := 0, locals := 22 } : Room)
abbrev A_X1_turnedOnce (cI cJ : ClassId) (pi : Int32) (sz : Nat) : Nat → Prop := va_A [] sz
abbrev Q_X1_turnedOnce (dC : Nat → ClassId) (dI : Nat → Nat → Nat) (cI cJ : ClassId) (pi : Int32) (sz : Nat) (R : Int32) : Array Value → State → Outcome → State → Prop := va_Qi (fun (r : Int32) (_ : Unit) => r = R) (fun u_ t => va_P (dC, dI) vwCl [] t.heap ∧ va_K (dC, dI) vwCl [(cI, .int), (cJ, .long)] t ∧ va_D (A_X1_turnedOnce cI cJ pi sz) []) (A_X1_turnedOnce cI cJ pi sz)
set_option maxHeartbeats 4000000 in
set_option maxRecDepth 100000 in
theorem c_X1_turnedOnce (l : Launch) (dC : Nat → ClassId) (dI : Nat → Nat → Nat) (cI cJ : ClassId) (sz : Nat) (pi : Int32) (R : Int32) (hR : f_X1_turnedOnce pi = some R) : Met l yX1_turnedOnce wsX1_turnedOnce rm_X1_turnedOnce (va_Pc [.int pi] (fun U => U.heap.size = sz ∧ va_P (dC, dI) vwCl [] U.heap ∧ va_K (dC, dI) vwCl [(cI, .int), (cJ, .long)] U ∧ va_D (fun _ => True) [])) (Q_X1_turnedOnce dC dI cI cJ pi sz R) 0 0 (A_X1_turnedOnce cI cJ pi sz) := by
  have hf := hR
  refine Met.ofW (cc := cX1_turnedOnce) (maxL := 4) (ret := (some .int)) (by decide) rfl ?_
  intro p e s m args below meth c s₁ B hml hv
  obtain ⟨hargs, hsz, hP, hK, hD0⟩ := hv
  have hx := B.exec
  have hb := B.bytes
  have hr := B.returns
  have hts := atoms_spec (ws := wsX1_turnedOnce) B.pre
  have hown : s.vm.findClass RX1 = some m.cls := findClass_of_methodNamed B.named
  have hlocks := B.notSynchronized
  subst hsz
  have hD : va_D (A_X1_turnedOnce cI cJ pi s.heap.size) [] := hD0.self (sz := s.heap.size)
  have hA : ∀ q : Nat, s.heap.size ≤ q → (A_X1_turnedOnce cI cJ pi s.heap.size) q := fun q h => Or.inr h
  have hS : va_S (A_X1_turnedOnce cI cJ pi s.heap.size) s.heap s.heap [] := va_S.rf
  have hl := lv_entry ([.int pi]) (n := 4) (Nat.le_of_ble_eq_true rfl)
  have he0 : entryFrame m args 4 = entryFrame m ([.int pi] : List Value).toArray 4 := by rw [hargs]
  rw [he0, lg_entry_eq]
  generalize (lg_sl ([.int pi]) ++ List.replicate (4 - (lg_sl ([.int pi])).length) Slot.unset).toArray = ls at hl ⊢
  have hl : lv_has ls 4 [(0, .int pi)] := hl
  rw [f_X1_turnedOnce] at hf
  refine lv_iconst (v := 0) hx hb dX1_turnedOnce_0 (by decide) ?_
  refine lv_istore_n (lv' := [(1, .int 0), (0, .int pi)]) hx hb dX1_turnedOnce_1 rfl hl (by decide) rfl (fun ls hl => ?_)
  refine lv_iconst (v := 0) hx hb dX1_turnedOnce_2 (by decide) ?_
  refine lv_istore_n (lv' := [(2, .int 0), (1, .int 0), (0, .int pi)]) hx hb dX1_turnedOnce_3 rfl hl (by decide) rfl (fun ls hl => ?_)
  obtain ⟨v29, hv, hf⟩ := obind hf
  have K30 : ∀ (H : Heap) (locs : List Loc) (ls : Array Slot), va_P (dC, dI) vwCl [] H → va_D (A_X1_turnedOnce cI cJ pi s.heap.size) [] → va_S (A_X1_turnedOnce cI cJ pi s.heap.size) s.heap H locs → lv_has ls 4 [(1, .int v29)] → W p l e rm_X1_turnedOnce s m args below meth c H locs 0 0 (MQ below (Q_X1_turnedOnce dC dI cI cJ pi s.heap.size R) args s 0 0 (A_X1_turnedOnce cI cJ pi s.heap.size)) (F0 m 51 ls []) := by
    intro H locs ls hP hD hS hl
    refine lv_iload_n hx hb dX1_turnedOnce_51 rfl (lv_at hl 0 rfl) ?_
    obtain rfl := Option.some.inj hf
    exact W.iret (v := v29) hx hb hr (fun t ht hW => ⟨⟨v29, (), rfl, rfl, by rw [ht]; exact hP, va_K.moved hW.alike hK, hD⟩, hS.F ht⟩) hS.2.2 dX1_turnedOnce_52
  have lp31 : ∀ (nf : Nat) (y19 : Int32) (y20 : Int32) (H : Heap) (locs : List Loc) (ls : Array Slot), lp_X1_turnedOnce_4 pi nf y19 y20 = some v29 → va_P (dC, dI) vwCl [] H → va_D (A_X1_turnedOnce cI cJ pi s.heap.size) [] → va_S (A_X1_turnedOnce cI cJ pi s.heap.size) s.heap H locs → lv_has ls 4 [(0, .int pi), (1, .int y19), (2, .int y20)] → W p l e rm_X1_turnedOnce s m args below meth c H locs 0 0 (MQ below (Q_X1_turnedOnce dC dI cI cJ pi s.heap.size R) args s 0 0 (A_X1_turnedOnce cI cJ pi s.heap.size)) (F0 m 4 ls []) := by
    intro nf
    induction nf with
    | zero => intro y19 y20 H locs ls h9; exact nomatch h9
    | succ nf ih32 =>
      intro y19 y20 H locs ls hf hP hD hS hl
      rw [lp_X1_turnedOnce_4.eq_2] at hf
      refine lv_iload_n hx hb dX1_turnedOnce_4 rfl (lv_at hl 2 rfl) ?_
      refine lv_iconst (v := 3) hx hb dX1_turnedOnce_5 (by decide) ?_
      refine lv_icmp_ge (tgt := 51) hx hb dX1_turnedOnce_6 (by decide) (fun hc => ?_) (fun hc => ?_)
      · rw [if_pos hc] at hf
        obtain rfl := Option.some.inj hf
        exact K30 _ _ _ hP hD hS (lv_sub hl [1] rfl)
      · rw [if_neg hc] at hf
        refine lv_iconst (v := 0) hx hb dX1_turnedOnce_9 (by decide) ?_
        refine lv_istore_n (lv' := [(3, .int 0), (0, .int pi), (1, .int y19), (2, .int y20)]) hx hb dX1_turnedOnce_10 rfl hl (by decide) rfl (fun ls hl => ?_)
        obtain ⟨v28, hv, hf⟩ := obind hf
        have K33 : ∀ (H : Heap) (locs : List Loc) (ls : Array Slot), va_P (dC, dI) vwCl [] H → va_D (A_X1_turnedOnce cI cJ pi s.heap.size) [] → va_S (A_X1_turnedOnce cI cJ pi s.heap.size) s.heap H locs → lv_has ls 4 [(0, .int pi), (1, .int v28), (2, .int y20)] → W p l e rm_X1_turnedOnce s m args below meth c H locs 0 0 (MQ below (Q_X1_turnedOnce dC dI cI cJ pi s.heap.size R) args s 0 0 (A_X1_turnedOnce cI cJ pi s.heap.size)) (F0 m 45 ls []) := by
          intro H locs ls hP hD hS hl
          refine lv_iinc (v := (y20 + 1)) (lv' := [(2, .int (y20 + 1)), (0, .int pi), (1, .int v28)]) hx hb dX1_turnedOnce_45 hl (k := 2) rfl rfl (by decide) rfl (fun ls hl => ?_)
          refine lv_goto (tgt := 4) hx hb dX1_turnedOnce_48 (by decide) ?_
          exact ih32 _ _ _ _ _ hf hP hD hS (lv_sub hl [1, 2, 0] rfl)
        have lp34 : ∀ (nf : Nat) (y25 : Int32) (y26 : Int32) (H : Heap) (locs : List Loc) (ls : Array Slot), lp_X1_turnedOnce_11 pi y20 nf y25 y26 = some v28 → va_P (dC, dI) vwCl [] H → va_D (A_X1_turnedOnce cI cJ pi s.heap.size) [] → va_S (A_X1_turnedOnce cI cJ pi s.heap.size) s.heap H locs → lv_has ls 4 [(0, .int pi), (1, .int y25), (2, .int y20), (3, .int y26)] → W p l e rm_X1_turnedOnce s m args below meth c H locs 0 0 (MQ below (Q_X1_turnedOnce dC dI cI cJ pi s.heap.size R) args s 0 0 (A_X1_turnedOnce cI cJ pi s.heap.size)) (F0 m 11 ls []) := by
          intro nf
          induction nf with
          | zero => intro y25 y26 H locs ls h9; exact nomatch h9
          | succ nf ih35 =>
            intro y25 y26 H locs ls hf hP hD hS hl
            rw [lp_X1_turnedOnce_11.eq_2] at hf
            refine lv_iload_n hx hb dX1_turnedOnce_11 rfl (lv_at hl 3 rfl) ?_
            refine lv_iconst (v := 3) hx hb dX1_turnedOnce_12 (by decide) ?_
            refine lv_icmp_ge (tgt := 45) hx hb dX1_turnedOnce_13 (by decide) (fun hc => ?_) (fun hc => ?_)
            · rw [if_pos hc] at hf
              obtain rfl := Option.some.inj hf
              exact K33 _ _ _ hP hD hS (lv_sub hl [0, 1, 2] rfl)
            · rw [if_neg hc] at hf
              refine lv_iload_n hx hb dX1_turnedOnce_16 rfl (lv_at hl 0 rfl) ?_
              refine lv_iload_n hx hb dX1_turnedOnce_17 rfl (lv_at hl 3 rfl) ?_
              refine lv_iload_n hx hb dX1_turnedOnce_18 rfl (lv_at hl 2 rfl) ?_
              have hPc := hP.sub (ws' := []) [] rfl
              have hDc := hD.sub (ws' := []) [] (by decide) rfl
              have hFc := va_free (wc := []) hD hS hA [] rfl
              refine va_calli (va_runS (As := [.int pi, .int y26, .int y20]) (rest := []) ⟨hx, hb, hml, hown, hts⟩ (c_X1_has l dC dI cI cJ  H.size pi y26 y20) (va_cwS 3 hts gX1_turnedOnce_X1_has rfl rfl rfl (by decide +kernel) ⟨Nat.le_of_ble_eq_true rfl, Nat.le_of_ble_eq_true rfl⟩) ⟨fun a U gg mk q => by obtain ⟨q0, q1, qP, qK, qD⟩ := q; exact ⟨q0, q1, qP, va_K.moved (u := U) (U := U.calling gg mk a) (Vm.Alike.refl U.vm) qK, qD⟩, fun U hU hW => ⟨rfl, by rw [hU], by rw [hU]; exact hPc, va_K.moved hW.alike hK, hDc.weaken (fun _ _ _ _ => trivial)⟩⟩ rfl rfl hl.1 rfl (lv_room (Nat.le_of_ble_eq_true rfl)) dX1_turnedOnce_19 ⟨Nat.zero_le _, Nat.zero_le _⟩) hS (fun q _ h => hFc q h) hFc (fun r_ u_ t H locs ht hvm hw hB hz1 hk1 hS => ?_)
              obtain rfl := hw.symm
              obtain ⟨hP1, -, hD1⟩ := hB
              rw [ht] at hP1
              obtain ⟨hP, hD⟩ := va_join (wr := []) (w1 := []) hP hD [] [] rfl rfl (by decide) (by decide) hk1 hFc hP1 hD1
              have hP := hP.sub (ws' := []) [] rfl
              have hD := hD.sub (ws' := []) [] (by decide) rfl
              clear hPc hDc hFc hP1 hD1 hk1
              obtain ⟨v27, hv, hf⟩ := vbind hf
              have K36 : ∀ (H : Heap) (locs : List Loc) (ls : Array Slot), va_P (dC, dI) vwCl [] H → va_D (A_X1_turnedOnce cI cJ pi s.heap.size) [] → va_S (A_X1_turnedOnce cI cJ pi s.heap.size) s.heap H locs → lv_has ls 4 [(0, .int pi), (1, .int v27), (2, .int y20), (3, .int y26)] → W p l e rm_X1_turnedOnce s m args below meth c H locs 0 0 (MQ below (Q_X1_turnedOnce dC dI cI cJ pi s.heap.size R) args s 0 0 (A_X1_turnedOnce cI cJ pi s.heap.size)) (F0 m 39 ls []) := by
                intro H locs ls hP hD hS hl
                refine lv_iinc (v := (y26 + 1)) (lv' := [(3, .int (y26 + 1)), (0, .int pi), (1, .int v27), (2, .int y20)]) hx hb dX1_turnedOnce_39 hl (k := 3) rfl rfl (by decide) rfl (fun ls hl => ?_)
                refine lv_goto (tgt := 11) hx hb dX1_turnedOnce_42 (by decide) ?_
                exact ih35 _ _ _ _ _ hf hP hD hS (lv_sub hl [1, 2, 3, 0] rfl)
              clear hf; have hf := hv; clear hv
              refine lv_if_eq (tgt := 39) hx hb dX1_turnedOnce_22 (by decide) (fun hc => ?_) (fun hc => ?_)
              · rw [if_pos hc] at hf
                obtain rfl := hf
                exact K36 _ _ _ hP hD hS (lv_sub hl [0, 1, 2, 3] rfl)
              · rw [if_neg hc] at hf
                refine lv_iload_n hx hb dX1_turnedOnce_25 rfl (lv_at hl 1 rfl) ?_
                refine lv_iconst (v := 1) hx hb dX1_turnedOnce_26 (by decide) ?_
                refine lv_iconst (v := 3) hx hb dX1_turnedOnce_27 (by decide) ?_
                refine lv_iload_n hx hb dX1_turnedOnce_28 rfl (lv_at hl 3 rfl) ?_
                refine lv_imul hx hb dX1_turnedOnce_29 ?_
                refine lv_iconst (v := 3) hx hb dX1_turnedOnce_30 (by decide) ?_
                refine lv_iadd hx hb dX1_turnedOnce_31 ?_
                refine lv_iconst (v := 1) hx hb dX1_turnedOnce_32 (by decide) ?_
                refine lv_isub hx hb dX1_turnedOnce_33 ?_
                refine lv_iload_n hx hb dX1_turnedOnce_34 rfl (lv_at hl 2 rfl) ?_
                refine lv_isub hx hb dX1_turnedOnce_35 ?_
                refine lv_ishl hx hb dX1_turnedOnce_36 ?_
                refine lv_ior hx hb dX1_turnedOnce_37 ?_
                refine lv_istore_n (lv' := [(1, .int (y25 ||| (1 <<< (((((3 * y26) + 3) - 1) - y20) &&& 31)))), (0, .int pi), (2, .int y20), (3, .int y26)]) hx hb dX1_turnedOnce_38 rfl hl (by decide) rfl (fun ls hl => ?_)
                obtain rfl := hf
                exact K36 _ _ _ hP hD hS (lv_sub hl [1, 0, 2, 3] rfl)
        exact lp34 100 _ _ _ _ _ hv hP hD hS (lv_sub hl [1, 2, 3, 0] rfl)
  exact lp31 100 _ _ _ _ _ hv hP hD hS (lv_sub hl [2, 1, 0] rfl)
/-! HedgeGliders$Figures.turned(II)I -/
def lp_X1_turned_4 (tu : Int32) : Nat → Int32 → Int32 → Option (Int32)
  | 0, _, _ => none
  | nf + 1, y5, y6 => if tu ≤ y6 then (some y5) else (Option.bind (f_X1_turnedOnce y5) fun r7 => lp_X1_turned_4 tu nf r7 (y6 + 1))
def f_X1_turned (pi : Int32) (tu : Int32) : Option (Int32) := Option.bind (lp_X1_turned_4 tu 100 pi 0) fun v8 => some v8
abbrev rm_X1_turned : Room := ({ frames := 2, cells := 0, slots := 0, locals := 45 } : Room)
abbrev A_X1_turned (cI cJ : ClassId) (pi : Int32) (tu : Int32) (sz : Nat) : Nat → Prop := va_A [] sz
abbrev Q_X1_turned (dC : Nat → ClassId) (dI : Nat → Nat → Nat) (cI cJ : ClassId) (pi : Int32) (tu : Int32) (sz : Nat) (R : Int32) : Array Value → State → Outcome → State → Prop := va_Qi (fun (r : Int32) (_ : Unit) => r = R) (fun u_ t => va_P (dC, dI) vwCl [] t.heap ∧ va_K (dC, dI) vwCl [(cI, .int), (cJ, .long)] t ∧ va_D (A_X1_turned cI cJ pi tu sz) []) (A_X1_turned cI cJ pi tu sz)
set_option maxHeartbeats 4000000 in
set_option maxRecDepth 100000 in
theorem c_X1_turned (l : Launch) (dC : Nat → ClassId) (dI : Nat → Nat → Nat) (cI cJ : ClassId) (sz : Nat) (pi : Int32) (tu : Int32) (R : Int32) (hR : f_X1_turned pi tu = some R) : Met l yX1_turned wsX1_turned rm_X1_turned (va_Pc [.int pi, .int tu] (fun U => U.heap.size = sz ∧ va_P (dC, dI) vwCl [] U.heap ∧ va_K (dC, dI) vwCl [(cI, .int), (cJ, .long)] U ∧ va_D (fun _ => True) [])) (Q_X1_turned dC dI cI cJ pi tu sz R) 0 0 (A_X1_turned cI cJ pi tu sz) := by
  have hf := hR
  refine Met.ofW (cc := cX1_turned) (maxL := 4) (ret := (some .int)) (by decide) rfl ?_
  intro p e s m args below meth c s₁ B hml hv
  obtain ⟨hargs, hsz, hP, hK, hD0⟩ := hv
  have hx := B.exec
  have hb := B.bytes
  have hr := B.returns
  have hts := atoms_spec (ws := wsX1_turned) B.pre
  have hown : s.vm.findClass RX1 = some m.cls := findClass_of_methodNamed B.named
  have hlocks := B.notSynchronized
  subst hsz
  have hD : va_D (A_X1_turned cI cJ pi tu s.heap.size) [] := hD0.self (sz := s.heap.size)
  have hA : ∀ q : Nat, s.heap.size ≤ q → (A_X1_turned cI cJ pi tu s.heap.size) q := fun q h => Or.inr h
  have hS : va_S (A_X1_turned cI cJ pi tu s.heap.size) s.heap s.heap [] := va_S.rf
  have hl := lv_entry ([.int pi, .int tu]) (n := 4) (Nat.le_of_ble_eq_true rfl)
  have he0 : entryFrame m args 4 = entryFrame m ([.int pi, .int tu] : List Value).toArray 4 := by rw [hargs]
  rw [he0, lg_entry_eq]
  generalize (lg_sl ([.int pi, .int tu]) ++ List.replicate (4 - (lg_sl ([.int pi, .int tu])).length) Slot.unset).toArray = ls at hl ⊢
  have hl : lv_has ls 4 [(0, .int pi), (1, .int tu)] := hl
  rw [f_X1_turned] at hf
  refine lv_iload_n hx hb dX1_turned_0 rfl (lv_at hl 0 rfl) ?_
  refine lv_istore_n (lv' := [(2, .int pi), (0, .int pi), (1, .int tu)]) hx hb dX1_turned_1 rfl hl (by decide) rfl (fun ls hl => ?_)
  refine lv_iconst (v := 0) hx hb dX1_turned_2 (by decide) ?_
  refine lv_istore_n (lv' := [(3, .int 0), (2, .int pi), (0, .int pi), (1, .int tu)]) hx hb dX1_turned_3 rfl hl (by decide) rfl (fun ls hl => ?_)
  obtain ⟨v8, hv, hf⟩ := obind hf
  have K9 : ∀ (H : Heap) (locs : List Loc) (ls : Array Slot), va_P (dC, dI) vwCl [] H → va_D (A_X1_turned cI cJ pi tu s.heap.size) [] → va_S (A_X1_turned cI cJ pi tu s.heap.size) s.heap H locs → lv_has ls 4 [(2, .int v8)] → W p l e rm_X1_turned s m args below meth c H locs 0 0 (MQ below (Q_X1_turned dC dI cI cJ pi tu s.heap.size R) args s 0 0 (A_X1_turned cI cJ pi tu s.heap.size)) (F0 m 20 ls []) := by
    intro H locs ls hP hD hS hl
    refine lv_iload_n hx hb dX1_turned_20 rfl (lv_at hl 0 rfl) ?_
    obtain rfl := Option.some.inj hf
    exact W.iret (v := v8) hx hb hr (fun t ht hW => ⟨⟨v8, (), rfl, rfl, by rw [ht]; exact hP, va_K.moved hW.alike hK, hD⟩, hS.F ht⟩) hS.2.2 dX1_turned_21
  have lp10 : ∀ (nf : Nat) (y5 : Int32) (y6 : Int32) (H : Heap) (locs : List Loc) (ls : Array Slot), lp_X1_turned_4 tu nf y5 y6 = some v8 → va_P (dC, dI) vwCl [] H → va_D (A_X1_turned cI cJ pi tu s.heap.size) [] → va_S (A_X1_turned cI cJ pi tu s.heap.size) s.heap H locs → lv_has ls 4 [(1, .int tu), (2, .int y5), (3, .int y6)] → W p l e rm_X1_turned s m args below meth c H locs 0 0 (MQ below (Q_X1_turned dC dI cI cJ pi tu s.heap.size R) args s 0 0 (A_X1_turned cI cJ pi tu s.heap.size)) (F0 m 4 ls []) := by
    intro nf
    induction nf with
    | zero => intro y5 y6 H locs ls h9; exact nomatch h9
    | succ nf ih11 =>
      intro y5 y6 H locs ls hf hP hD hS hl
      rw [lp_X1_turned_4.eq_2] at hf
      refine lv_iload_n hx hb dX1_turned_4 rfl (lv_at hl 2 rfl) ?_
      refine lv_iload_n hx hb dX1_turned_5 rfl (lv_at hl 0 rfl) ?_
      refine lv_icmp_ge (tgt := 20) hx hb dX1_turned_6 (by decide) (fun hc => ?_) (fun hc => ?_)
      · rw [if_pos hc] at hf
        obtain rfl := Option.some.inj hf
        exact K9 _ _ _ hP hD hS (lv_sub hl [1] rfl)
      · rw [if_neg hc] at hf
        refine lv_iload_n hx hb dX1_turned_9 rfl (lv_at hl 1 rfl) ?_
        obtain ⟨r7, hr7, hf⟩ := obind hf
        have hPc := hP.sub (ws' := []) [] rfl
        have hDc := hD.sub (ws' := []) [] (by decide) rfl
        have hFc := va_free (wc := []) hD hS hA [] rfl
        refine va_calli (va_runS (As := [.int y5]) (rest := []) ⟨hx, hb, hml, hown, hts⟩ (c_X1_turnedOnce l dC dI cI cJ  H.size y5 _ hr7) (va_cwS 1 hts gX1_turned_X1_turnedOnce rfl rfl rfl (by decide +kernel) ⟨Nat.le_of_ble_eq_true rfl, Nat.le_of_ble_eq_true rfl⟩) ⟨fun a U gg mk q => by obtain ⟨q0, q1, qP, qK, qD⟩ := q; exact ⟨q0, q1, qP, va_K.moved (u := U) (U := U.calling gg mk a) (Vm.Alike.refl U.vm) qK, qD⟩, fun U hU hW => ⟨rfl, by rw [hU], by rw [hU]; exact hPc, va_K.moved hW.alike hK, hDc.weaken (fun _ _ _ _ => trivial)⟩⟩ rfl rfl hl.1 rfl (lv_room (Nat.le_of_ble_eq_true rfl)) dX1_turned_10 ⟨Nat.zero_le _, Nat.zero_le _⟩) hS (fun q _ h => hFc q h) hFc (fun r_ u_ t H locs ht hvm hw hB hz1 hk1 hS => ?_)
        obtain rfl := hw.symm
        obtain ⟨hP1, -, hD1⟩ := hB
        rw [ht] at hP1
        obtain ⟨hP, hD⟩ := va_join (wr := []) (w1 := []) hP hD [] [] rfl rfl (by decide) (by decide) hk1 hFc hP1 hD1
        have hP := hP.sub (ws' := []) [] rfl
        have hD := hD.sub (ws' := []) [] (by decide) rfl
        clear hPc hDc hFc hP1 hD1 hk1
        refine lv_istore_n (lv' := [(2, .int r7), (1, .int tu), (3, .int y6)]) hx hb dX1_turned_13 rfl hl (by decide) rfl (fun ls hl => ?_)
        refine lv_iinc (v := (y6 + 1)) (lv' := [(3, .int (y6 + 1)), (2, .int r7), (1, .int tu)]) hx hb dX1_turned_14 hl (k := 2) rfl rfl (by decide) rfl (fun ls hl => ?_)
        refine lv_goto (tgt := 4) hx hb dX1_turned_17 (by decide) ?_
        exact ih11 _ _ _ _ _ hf hP hD hS (lv_sub hl [2, 1, 0] rfl)
  exact lp10 100 _ _ _ _ _ hv hP hD hS (lv_sub hl [3, 1, 0] rfl)
/-! HedgeGliders$Figures.fits(IIILHedgeGliders$Ground;)Z -/
def lp_X1_fits_12 (gG : GrS) (pi : Int32) (le : Int32) (tp : Int32) (y8 : Int32) : Nat → Int32 → Option ((Unit) ⊕ (Int32))
  | 0, _ => none
  | nf + 1, y10 => if 3 ≤ y10 then (some (.inl ())) else (if (f_X1_has pi y10 y8) = 0 then (lp_X1_fits_12 gG pi le tp y8 nf (y10 + 1)) else (if (f_X3_has gG (le + y10) (tp + y8)) = 0 then (some (.inr 0)) else (lp_X1_fits_12 gG pi le tp y8 nf (y10 + 1))))
def lp_X1_fits_3 (gG : GrS) (pi : Int32) (le : Int32) (tp : Int32) : Nat → Int32 → Option (Int32)
  | 0, _ => none
  | nf + 1, y8 => if 3 ≤ y8 then (some 1) else (osum (lp_X1_fits_12 gG pi le tp y8 100 0) fun v11 => lp_X1_fits_3 gG pi le tp nf (y8 + 1))
def f_X1_fits (gG : GrS) (pi : Int32) (le : Int32) (tp : Int32) : Option (Int32) := (lp_X1_fits_3 gG pi le tp 100 0)
abbrev rm_X1_fits : Room := ({ frames := 1, cells := 0, slots := 0, locals := 22 } : Room)
abbrev A_X1_fits (cI cJ : ClassId) (zgr : Nat) (gG : GrS) (pi : Int32) (le : Int32) (tp : Int32) (sz : Nat) : Nat → Prop := va_A [(zgr, .inr (2, [.int gG.1, .int gG.2.1, .int (bI gG.2.2.1), .long gG.2.2.2.1, .long gG.2.2.2.2.1, .long gG.2.2.2.2.2.1, .long gG.2.2.2.2.2.2.1, .long gG.2.2.2.2.2.2.2]))] sz
abbrev Q_X1_fits (dC : Nat → ClassId) (dI : Nat → Nat → Nat) (cI cJ : ClassId) (zgr : Nat) (gG : GrS) (pi : Int32) (le : Int32) (tp : Int32) (sz : Nat) (R : Int32) : Array Value → State → Outcome → State → Prop := va_Qi (fun (r : Int32) (_ : Unit) => r = R) (fun u_ t => va_P (dC, dI) vwCl [(zgr, .inr (2, [.int gG.1, .int gG.2.1, .int (bI gG.2.2.1), .long gG.2.2.2.1, .long gG.2.2.2.2.1, .long gG.2.2.2.2.2.1, .long gG.2.2.2.2.2.2.1, .long gG.2.2.2.2.2.2.2]))] t.heap ∧ va_K (dC, dI) vwCl [(cI, .int), (cJ, .long)] t ∧ va_D (A_X1_fits cI cJ zgr gG pi le tp sz) [(zgr, .inr (2, [.int gG.1, .int gG.2.1, .int (bI gG.2.2.1), .long gG.2.2.2.1, .long gG.2.2.2.2.1, .long gG.2.2.2.2.2.1, .long gG.2.2.2.2.2.2.1, .long gG.2.2.2.2.2.2.2]))]) (A_X1_fits cI cJ zgr gG pi le tp sz)
set_option maxHeartbeats 4000000 in
set_option maxRecDepth 100000 in
theorem c_X1_fits (l : Launch) (dC : Nat → ClassId) (dI : Nat → Nat → Nat) (cI cJ : ClassId) (zgr : Nat) (sz : Nat) (gG : GrS) (pi : Int32) (le : Int32) (tp : Int32) (R : Int32) (hR : f_X1_fits gG pi le tp = some R) : Met l yX1_fits wsX1_fits rm_X1_fits (va_Pc [.int pi, .int le, .int tp, .ref zgr] (fun U => U.heap.size = sz ∧ va_P (dC, dI) vwCl [(zgr, .inr (2, [.int gG.1, .int gG.2.1, .int (bI gG.2.2.1), .long gG.2.2.2.1, .long gG.2.2.2.2.1, .long gG.2.2.2.2.2.1, .long gG.2.2.2.2.2.2.1, .long gG.2.2.2.2.2.2.2]))] U.heap ∧ va_K (dC, dI) vwCl [(cI, .int), (cJ, .long)] U ∧ va_D (fun _ => True) [(zgr, .inr (2, [.int gG.1, .int gG.2.1, .int (bI gG.2.2.1), .long gG.2.2.2.1, .long gG.2.2.2.2.1, .long gG.2.2.2.2.2.1, .long gG.2.2.2.2.2.2.1, .long gG.2.2.2.2.2.2.2]))])) (Q_X1_fits dC dI cI cJ zgr gG pi le tp sz R) 0 0 (A_X1_fits cI cJ zgr gG pi le tp sz) := by
  have hf := hR
  refine Met.ofW (cc := cX1_fits) (maxL := 6) (ret := (some .boolean)) (by decide) rfl ?_
  intro p e s m args below meth c s₁ B hml hv
  obtain ⟨hargs, hsz, hP, hK, hD0⟩ := hv
  have hx := B.exec
  have hb := B.bytes
  have hr := B.returns
  have hts := atoms_spec (ws := wsX1_fits) B.pre
  have hown : s.vm.findClass RX1 = some m.cls := findClass_of_methodNamed B.named
  have hlocks := B.notSynchronized
  subst hsz
  have hD : va_D (A_X1_fits cI cJ zgr gG pi le tp s.heap.size) [(zgr, .inr (2, [.int gG.1, .int gG.2.1, .int (bI gG.2.2.1), .long gG.2.2.2.1, .long gG.2.2.2.2.1, .long gG.2.2.2.2.2.1, .long gG.2.2.2.2.2.2.1, .long gG.2.2.2.2.2.2.2]))] := hD0.self (sz := s.heap.size)
  have hA : ∀ q : Nat, s.heap.size ≤ q → (A_X1_fits cI cJ zgr gG pi le tp s.heap.size) q := fun q h => Or.inr h
  have hS : va_S (A_X1_fits cI cJ zgr gG pi le tp s.heap.size) s.heap s.heap [] := va_S.rf
  have hl := lv_entry ([.int pi, .int le, .int tp, .ref zgr]) (n := 6) (Nat.le_of_ble_eq_true rfl)
  have he0 : entryFrame m args 6 = entryFrame m ([.int pi, .int le, .int tp, .ref zgr] : List Value).toArray 6 := by rw [hargs]
  rw [he0, lg_entry_eq]
  generalize (lg_sl ([.int pi, .int le, .int tp, .ref zgr]) ++ List.replicate (6 - (lg_sl ([.int pi, .int le, .int tp, .ref zgr])).length) Slot.unset).toArray = ls at hl ⊢
  have hl : lv_has ls 6 [(0, .int pi), (1, .int le), (2, .int tp), (3, .ref zgr)] := hl
  rw [f_X1_fits] at hf
  refine lv_iconst (v := 0) hx hb dX1_fits_0 (by decide) ?_
  refine lv_istore (lv' := [(4, .int 0), (0, .int pi), (1, .int le), (2, .int tp), (3, .ref zgr)]) hx hb dX1_fits_1 hl (by decide) rfl (fun ls hl => ?_)
  have hv := hf
  have lp13 : ∀ (nf : Nat) (y8 : Int32) (H : Heap) (locs : List Loc) (ls : Array Slot), lp_X1_fits_3 gG pi le tp nf y8 = some R → va_P (dC, dI) vwCl [(zgr, .inr (2, [.int gG.1, .int gG.2.1, .int (bI gG.2.2.1), .long gG.2.2.2.1, .long gG.2.2.2.2.1, .long gG.2.2.2.2.2.1, .long gG.2.2.2.2.2.2.1, .long gG.2.2.2.2.2.2.2]))] H → va_D (A_X1_fits cI cJ zgr gG pi le tp s.heap.size) [(zgr, .inr (2, [.int gG.1, .int gG.2.1, .int (bI gG.2.2.1), .long gG.2.2.2.1, .long gG.2.2.2.2.1, .long gG.2.2.2.2.2.1, .long gG.2.2.2.2.2.2.1, .long gG.2.2.2.2.2.2.2]))] → va_S (A_X1_fits cI cJ zgr gG pi le tp s.heap.size) s.heap H locs → lv_has ls 6 [(0, .int pi), (1, .int le), (2, .int tp), (3, .ref zgr), (4, .int y8)] → W p l e rm_X1_fits s m args below meth c H locs 0 0 (MQ below (Q_X1_fits dC dI cI cJ zgr gG pi le tp s.heap.size R) args s 0 0 (A_X1_fits cI cJ zgr gG pi le tp s.heap.size)) (F0 m 3 ls []) := by
    intro nf
    induction nf with
    | zero => intro y8 H locs ls h9; exact nomatch h9
    | succ nf ih14 =>
      intro y8 H locs ls hf hP hD hS hl
      rw [lp_X1_fits_3.eq_2] at hf
      refine lv_iload hx hb dX1_fits_3 (lv_at hl 4 rfl) ?_
      refine lv_iconst (v := 3) hx hb dX1_fits_5 (by decide) ?_
      refine lv_icmp_ge (tgt := 58) hx hb dX1_fits_6 (by decide) (fun hc => ?_) (fun hc => ?_)
      · rw [if_pos hc] at hf
        refine lv_iconst (v := 1) hx hb dX1_fits_58 (by decide) ?_
        obtain rfl := Option.some.inj hf
        exact W.zret (v := 1) (ty := .boolean) hx hb hr rfl (fun t ht hW => ⟨⟨1, (), rfl, rfl, by rw [ht]; exact hP, va_K.moved hW.alike hK, hD⟩, hS.F ht⟩) hS.2.2 dX1_fits_59
      · rw [if_neg hc] at hf
        refine lv_iconst (v := 0) hx hb dX1_fits_9 (by decide) ?_
        refine lv_istore (lv' := [(5, .int 0), (0, .int pi), (1, .int le), (2, .int tp), (3, .ref zgr), (4, .int y8)]) hx hb dX1_fits_10 hl (by decide) rfl (fun ls hl => ?_)
        obtain ⟨w15, hv, hfi, hfr⟩ := osum_e hf
        have K16 : ∀ (v11 : Unit) (H : Heap) (locs : List Loc) (ls : Array Slot) (he : w15 = .inl v11), va_P (dC, dI) vwCl [(zgr, .inr (2, [.int gG.1, .int gG.2.1, .int (bI gG.2.2.1), .long gG.2.2.2.1, .long gG.2.2.2.2.1, .long gG.2.2.2.2.2.1, .long gG.2.2.2.2.2.2.1, .long gG.2.2.2.2.2.2.2]))] H → va_D (A_X1_fits cI cJ zgr gG pi le tp s.heap.size) [(zgr, .inr (2, [.int gG.1, .int gG.2.1, .int (bI gG.2.2.1), .long gG.2.2.2.1, .long gG.2.2.2.2.1, .long gG.2.2.2.2.2.1, .long gG.2.2.2.2.2.2.1, .long gG.2.2.2.2.2.2.2]))] → va_S (A_X1_fits cI cJ zgr gG pi le tp s.heap.size) s.heap H locs → lv_has ls 6 [(0, .int pi), (1, .int le), (2, .int tp), (3, .ref zgr), (4, .int y8)] → W p l e rm_X1_fits s m args below meth c H locs 0 0 (MQ below (Q_X1_fits dC dI cI cJ zgr gG pi le tp s.heap.size R) args s 0 0 (A_X1_fits cI cJ zgr gG pi le tp s.heap.size)) (F0 m 52 ls []) := by
          intro v11 H locs ls he hP hD hS hl
          have hf := hfi v11 he
          refine lv_iinc (v := (y8 + 1)) (lv' := [(4, .int (y8 + 1)), (0, .int pi), (1, .int le), (2, .int tp), (3, .ref zgr)]) hx hb dX1_fits_52 hl (k := 4) rfl rfl (by decide) rfl (fun ls hl => ?_)
          refine lv_goto (tgt := 3) hx hb dX1_fits_55 (by decide) ?_
          exact ih14 _ _ _ _ hf hP hD hS (lv_sub hl [1, 2, 3, 4, 0] rfl)
        have lp17 : ∀ (nf : Nat) (y10 : Int32) (H : Heap) (locs : List Loc) (ls : Array Slot), lp_X1_fits_12 gG pi le tp y8 nf y10 = some w15 → va_P (dC, dI) vwCl [(zgr, .inr (2, [.int gG.1, .int gG.2.1, .int (bI gG.2.2.1), .long gG.2.2.2.1, .long gG.2.2.2.2.1, .long gG.2.2.2.2.2.1, .long gG.2.2.2.2.2.2.1, .long gG.2.2.2.2.2.2.2]))] H → va_D (A_X1_fits cI cJ zgr gG pi le tp s.heap.size) [(zgr, .inr (2, [.int gG.1, .int gG.2.1, .int (bI gG.2.2.1), .long gG.2.2.2.1, .long gG.2.2.2.2.1, .long gG.2.2.2.2.2.1, .long gG.2.2.2.2.2.2.1, .long gG.2.2.2.2.2.2.2]))] → va_S (A_X1_fits cI cJ zgr gG pi le tp s.heap.size) s.heap H locs → lv_has ls 6 [(0, .int pi), (1, .int le), (2, .int tp), (3, .ref zgr), (4, .int y8), (5, .int y10)] → W p l e rm_X1_fits s m args below meth c H locs 0 0 (MQ below (Q_X1_fits dC dI cI cJ zgr gG pi le tp s.heap.size R) args s 0 0 (A_X1_fits cI cJ zgr gG pi le tp s.heap.size)) (F0 m 12 ls []) := by
          intro nf
          induction nf with
          | zero => intro y10 H locs ls h9; exact nomatch h9
          | succ nf ih18 =>
            intro y10 H locs ls hf hP hD hS hl
            rw [lp_X1_fits_12.eq_2] at hf
            refine lv_iload hx hb dX1_fits_12 (lv_at hl 5 rfl) ?_
            refine lv_iconst (v := 3) hx hb dX1_fits_14 (by decide) ?_
            refine lv_icmp_ge (tgt := 52) hx hb dX1_fits_15 (by decide) (fun hc => ?_) (fun hc => ?_)
            · rw [if_pos hc] at hf
              exact K16 _ _ _ _ (Option.some.inj hf).symm hP hD hS (lv_sub hl [0, 1, 2, 3, 4] rfl)
            · rw [if_neg hc] at hf
              refine lv_iload_n hx hb dX1_fits_18 rfl (lv_at hl 0 rfl) ?_
              refine lv_iload hx hb dX1_fits_19 (lv_at hl 5 rfl) ?_
              refine lv_iload hx hb dX1_fits_21 (lv_at hl 4 rfl) ?_
              have hPc := hP.sub (ws' := []) [] rfl
              have hDc := hD.sub (ws' := []) [] (by decide) rfl
              have hFc := va_free (wc := []) hD hS hA [] rfl
              refine va_calli (va_runS (As := [.int pi, .int y10, .int y8]) (rest := []) ⟨hx, hb, hml, hown, hts⟩ (c_X1_has l dC dI cI cJ  H.size pi y10 y8) (va_cwS 3 hts gX1_fits_X1_has rfl rfl rfl (by decide +kernel) ⟨Nat.le_of_ble_eq_true rfl, Nat.le_of_ble_eq_true rfl⟩) ⟨fun a U gg mk q => by obtain ⟨q0, q1, qP, qK, qD⟩ := q; exact ⟨q0, q1, qP, va_K.moved (u := U) (U := U.calling gg mk a) (Vm.Alike.refl U.vm) qK, qD⟩, fun U hU hW => ⟨rfl, by rw [hU], by rw [hU]; exact hPc, va_K.moved hW.alike hK, hDc.weaken (fun _ _ _ _ => trivial)⟩⟩ rfl rfl hl.1 rfl (lv_room (Nat.le_of_ble_eq_true rfl)) dX1_fits_23 ⟨Nat.zero_le _, Nat.zero_le _⟩) hS (fun q _ h => hFc q h) hFc (fun r_ u_ t H locs ht hvm hw hB hz1 hk1 hS => ?_)
              obtain rfl := hw.symm
              obtain ⟨hP1, -, hD1⟩ := hB
              rw [ht] at hP1
              obtain ⟨hP, hD⟩ := va_join (wr := [(zgr, .inr (2, [.int gG.1, .int gG.2.1, .int (bI gG.2.2.1), .long gG.2.2.2.1, .long gG.2.2.2.2.1, .long gG.2.2.2.2.2.1, .long gG.2.2.2.2.2.2.1, .long gG.2.2.2.2.2.2.2]))]) (w1 := []) hP hD [] [0] rfl rfl (by decide) (by decide) hk1 hFc hP1 hD1
              have hP := hP.sub (ws' := [(zgr, .inr (2, [.int gG.1, .int gG.2.1, .int (bI gG.2.2.1), .long gG.2.2.2.1, .long gG.2.2.2.2.1, .long gG.2.2.2.2.2.1, .long gG.2.2.2.2.2.2.1, .long gG.2.2.2.2.2.2.2]))]) [0] rfl
              have hD := hD.sub (ws' := [(zgr, .inr (2, [.int gG.1, .int gG.2.1, .int (bI gG.2.2.1), .long gG.2.2.2.1, .long gG.2.2.2.2.1, .long gG.2.2.2.2.2.1, .long gG.2.2.2.2.2.2.1, .long gG.2.2.2.2.2.2.2]))]) [0] (by decide) rfl
              clear hPc hDc hFc hP1 hD1 hk1
              refine lv_if_eq (tgt := 46) hx hb dX1_fits_26 (by decide) (fun hc => ?_) (fun hc => ?_)
              · rw [if_pos hc] at hf
                refine lv_iinc (v := (y10 + 1)) (lv' := [(5, .int (y10 + 1)), (0, .int pi), (1, .int le), (2, .int tp), (3, .ref zgr), (4, .int y8)]) hx hb dX1_fits_46 hl (k := 5) rfl rfl (by decide) rfl (fun ls hl => ?_)
                refine lv_goto (tgt := 12) hx hb dX1_fits_49 (by decide) ?_
                exact ih18 _ _ _ _ hf hP hD hS (lv_sub hl [1, 2, 3, 4, 5, 0] rfl)
              · rw [if_neg hc] at hf
                refine lv_aload_n hx hb dX1_fits_29 rfl (lv_at hl 3 rfl) ?_
                refine lv_iload_n hx hb dX1_fits_30 rfl (lv_at hl 1 rfl) ?_
                refine lv_iload hx hb dX1_fits_31 (lv_at hl 5 rfl) ?_
                refine lv_iadd hx hb dX1_fits_33 ?_
                refine lv_iload_n hx hb dX1_fits_34 rfl (lv_at hl 2 rfl) ?_
                refine lv_iload hx hb dX1_fits_35 (lv_at hl 4 rfl) ?_
                refine lv_iadd hx hb dX1_fits_37 ?_
                have hPc := hP.sub (ws' := [(zgr, .inr (2, [.int gG.1, .int gG.2.1, .int (bI gG.2.2.1), .long gG.2.2.2.1, .long gG.2.2.2.2.1, .long gG.2.2.2.2.2.1, .long gG.2.2.2.2.2.2.1, .long gG.2.2.2.2.2.2.2]))]) [0] rfl
                have hDc := hD.sub (ws' := [(zgr, .inr (2, [.int gG.1, .int gG.2.1, .int (bI gG.2.2.1), .long gG.2.2.2.1, .long gG.2.2.2.2.1, .long gG.2.2.2.2.2.1, .long gG.2.2.2.2.2.2.1, .long gG.2.2.2.2.2.2.2]))]) [0] (by decide) rfl
                have hFc := va_free (wc := [(zgr, .inr (2, [.int gG.1, .int gG.2.1, .int (bI gG.2.2.1), .long gG.2.2.2.1, .long gG.2.2.2.2.1, .long gG.2.2.2.2.2.1, .long gG.2.2.2.2.2.2.1, .long gG.2.2.2.2.2.2.2]))]) hD hS hA [0] rfl
                refine va_calli (va_runV (As := [.int (le + y10), .int (tp + y8)]) (rest := []) ⟨hx, hb, hml, hown, hts⟩ (c_X3_has l dC dI cI cJ zgr H.size gG (le + y10) (tp + y8)) (cwV 2 hts gX1_fits_X3_has rfl rfl rfl (by decide +kernel) ⟨Nat.le_of_ble_eq_true rfl, Nat.le_of_ble_eq_true rfl⟩) ⟨fun a U gg mk q => by obtain ⟨q0, q1, qP, qK, qD⟩ := q; exact ⟨q0, q1, qP, va_K.moved (u := U) (U := U.calling gg mk a) (Vm.Alike.refl U.vm) qK, qD⟩, va_recv hK hPc (ci := 2) (q0 := 0) rfl rfl, fun U hU hW => ⟨rfl, by rw [hU], by rw [hU]; exact hPc, va_K.moved hW.alike hK, hDc.weaken (fun _ _ _ _ => trivial)⟩⟩ rfl rfl hl.1 rfl (lv_room (Nat.le_of_ble_eq_true rfl)) dX1_fits_38 ⟨Nat.zero_le _, Nat.zero_le _⟩) hS (fun q _ h => hFc q h) hFc (fun r_ u_ t H locs ht hvm hw hB hz1 hk1 hS => ?_)
                obtain rfl := hw.symm
                obtain ⟨hP1, -, hD1⟩ := hB
                rw [ht] at hP1
                obtain ⟨hP, hD⟩ := va_join (wr := []) (w1 := [(zgr, .inr (2, [.int gG.1, .int gG.2.1, .int (bI gG.2.2.1), .long gG.2.2.2.1, .long gG.2.2.2.2.1, .long gG.2.2.2.2.2.1, .long gG.2.2.2.2.2.2.1, .long gG.2.2.2.2.2.2.2]))]) hP hD [0] [] rfl rfl (by decide) (by decide) hk1 hFc hP1 hD1
                have hP := hP.sub (ws' := [(zgr, .inr (2, [.int gG.1, .int gG.2.1, .int (bI gG.2.2.1), .long gG.2.2.2.1, .long gG.2.2.2.2.1, .long gG.2.2.2.2.2.1, .long gG.2.2.2.2.2.2.1, .long gG.2.2.2.2.2.2.2]))]) [0] rfl
                have hD := hD.sub (ws' := [(zgr, .inr (2, [.int gG.1, .int gG.2.1, .int (bI gG.2.2.1), .long gG.2.2.2.1, .long gG.2.2.2.2.1, .long gG.2.2.2.2.2.1, .long gG.2.2.2.2.2.2.1, .long gG.2.2.2.2.2.2.2]))]) [0] (by decide) rfl
                clear hPc hDc hFc hP1 hD1 hk1
                refine lv_if_ne (tgt := 46) hx hb dX1_fits_41 (by decide) (fun hc => ?_) (fun hc => ?_)
                · rw [if_neg hc] at hf
                  refine lv_iinc (v := (y10 + 1)) (lv' := [(5, .int (y10 + 1)), (0, .int pi), (1, .int le), (2, .int tp), (3, .ref zgr), (4, .int y8)]) hx hb dX1_fits_46 hl (k := 5) rfl rfl (by decide) rfl (fun ls hl => ?_)
                  refine lv_goto (tgt := 12) hx hb dX1_fits_49 (by decide) ?_
                  exact ih18 _ _ _ _ hf hP hD hS (lv_sub hl [1, 2, 3, 4, 5, 0] rfl)
                · rw [if_pos hc] at hf
                  refine lv_iconst (v := 0) hx hb dX1_fits_44 (by decide) ?_
                  have hf := hfr _ (Option.some.inj hf).symm
                  have hf := congrArg some hf
                  obtain rfl := Option.some.inj hf
                  exact W.zret (v := 0) (ty := .boolean) hx hb hr rfl (fun t ht hW => ⟨⟨0, (), rfl, rfl, by rw [ht]; exact hP, va_K.moved hW.alike hK, hD⟩, hS.F ht⟩) hS.2.2 dX1_fits_45
        exact lp17 100 _ _ _ _ hv hP hD hS (lv_sub hl [1, 2, 3, 4, 5, 0] rfl)
  exact lp13 100 _ _ _ _ hv hP hD hS (lv_sub hl [1, 2, 3, 4, 0] rfl)
/-! HedgeGliders$Figures.wrapped(II)I -/
def f_X1_wrapped (pl : Int32) (sd : Int32) : Int32 := if sd ≤ pl then ((pl - sd)) else (pl)
abbrev rm_X1_wrapped : Room := ({ frames := 0, cells := 0, slots := 0, locals := 0 } : Room)
abbrev A_X1_wrapped (cI cJ : ClassId) (pl : Int32) (sd : Int32) (sz : Nat) : Nat → Prop := va_A [] sz
abbrev Q_X1_wrapped (dC : Nat → ClassId) (dI : Nat → Nat → Nat) (cI cJ : ClassId) (pl : Int32) (sd : Int32) (sz : Nat) (R : Int32) : Array Value → State → Outcome → State → Prop := va_Qi (fun (r : Int32) (_ : Unit) => r = R) (fun u_ t => va_P (dC, dI) vwCl [] t.heap ∧ va_K (dC, dI) vwCl [(cI, .int), (cJ, .long)] t ∧ va_D (A_X1_wrapped cI cJ pl sd sz) []) (A_X1_wrapped cI cJ pl sd sz)
set_option maxHeartbeats 4000000 in
set_option maxRecDepth 100000 in
theorem c_X1_wrapped (l : Launch) (dC : Nat → ClassId) (dI : Nat → Nat → Nat) (cI cJ : ClassId) (sz : Nat) (pl : Int32) (sd : Int32) : Met l yX1_wrapped wsX1_wrapped rm_X1_wrapped (va_Pc [.int pl, .int sd] (fun U => U.heap.size = sz ∧ va_P (dC, dI) vwCl [] U.heap ∧ va_K (dC, dI) vwCl [(cI, .int), (cJ, .long)] U ∧ va_D (fun _ => True) [])) (Q_X1_wrapped dC dI cI cJ pl sd sz (f_X1_wrapped pl sd)) 0 0 (A_X1_wrapped cI cJ pl sd sz) := by
  generalize hf : (f_X1_wrapped pl sd) = R
  refine Met.ofW (cc := cX1_wrapped) (maxL := 2) (ret := (some .int)) (by decide) rfl ?_
  intro p e s m args below meth c s₁ B hml hv
  obtain ⟨hargs, hsz, hP, hK, hD0⟩ := hv
  have hx := B.exec
  have hb := B.bytes
  have hr := B.returns
  have hts := atoms_spec (ws := wsX1_wrapped) B.pre
  have hown : s.vm.findClass RX1 = some m.cls := findClass_of_methodNamed B.named
  have hlocks := B.notSynchronized
  subst hsz
  have hD : va_D (A_X1_wrapped cI cJ pl sd s.heap.size) [] := hD0.self (sz := s.heap.size)
  have hA : ∀ q : Nat, s.heap.size ≤ q → (A_X1_wrapped cI cJ pl sd s.heap.size) q := fun q h => Or.inr h
  have hS : va_S (A_X1_wrapped cI cJ pl sd s.heap.size) s.heap s.heap [] := va_S.rf
  have hl := lv_entry ([.int pl, .int sd]) (n := 2) (Nat.le_of_ble_eq_true rfl)
  have he0 : entryFrame m args 2 = entryFrame m ([.int pl, .int sd] : List Value).toArray 2 := by rw [hargs]
  rw [he0, lg_entry_eq]
  generalize (lg_sl ([.int pl, .int sd]) ++ List.replicate (2 - (lg_sl ([.int pl, .int sd])).length) Slot.unset).toArray = ls at hl ⊢
  have hl : lv_has ls 2 [(0, .int pl), (1, .int sd)] := hl
  rw [f_X1_wrapped] at hf
  refine lv_iload_n hx hb dX1_wrapped_0 rfl (lv_at hl 0 rfl) ?_
  refine lv_iload_n hx hb dX1_wrapped_1 rfl (lv_at hl 1 rfl) ?_
  refine lv_icmp_ge (tgt := 9) hx hb dX1_wrapped_2 (by decide) (fun hc => ?_) (fun hc => ?_)
  · rw [if_pos hc] at hf
    refine lv_iload_n hx hb dX1_wrapped_9 rfl (lv_at hl 0 rfl) ?_
    refine lv_iload_n hx hb dX1_wrapped_10 rfl (lv_at hl 1 rfl) ?_
    refine lv_isub hx hb dX1_wrapped_11 ?_
    obtain rfl := hf
    exact W.iret (v := (pl - sd)) hx hb hr (fun t ht hW => ⟨⟨(pl - sd), (), rfl, rfl, by rw [ht]; exact hP, va_K.moved hW.alike hK, hD⟩, hS.F ht⟩) hS.2.2 dX1_wrapped_12
  · rw [if_neg hc] at hf
    refine lv_iload_n hx hb dX1_wrapped_5 rfl (lv_at hl 0 rfl) ?_
    refine lv_goto (tgt := 12) hx hb dX1_wrapped_6 (by decide) ?_
    obtain rfl := hf
    exact W.iret (v := pl) hx hb hr (fun t ht hW => ⟨⟨pl, (), rfl, rfl, by rw [ht]; exact hP, va_K.moved hW.alike hK, hD⟩, hS.F ht⟩) hS.2.2 dX1_wrapped_12
/-! HedgeGliders$Figures.cells(IIILHedgeGliders$Ground;)J -/
def lp_X1_cells_15 (gG : GrS) (pi : Int32) (le : Int32) (tp : Int32) (y26 : Int32) : Nat → Int64 → Int32 → Option (Int64)
  | 0, _, _ => none
  | nf + 1, y33, y34 => if 3 ≤ y34 then (some y33) else (bindv (if (f_X1_has pi y34 y26) = 0 then (y33) else (bindv (y33 ||| (f_X3_cell (f_X1_wrapped (le + y34) (f_X3_wide gG)) (f_X1_wrapped (tp + y26) (f_X3_high gG)))) fun x35 => x35) : Int64) fun v36 => lp_X1_cells_15 gG pi le tp y26 nf v36 (y34 + 1))
def lp_X1_cells_6 (gG : GrS) (pi : Int32) (le : Int32) (tp : Int32) : Nat → Int64 → Int32 → Option (Int64)
  | 0, _, _ => none
  | nf + 1, y25, y26 => if 3 ≤ y26 then (some y25) else (Option.bind (lp_X1_cells_15 gG pi le tp y26 100 y25 0) fun v37 => lp_X1_cells_6 gG pi le tp nf v37 (y26 + 1))
def f_X1_cells (gG : GrS) (pi : Int32) (le : Int32) (tp : Int32) : Option (Int64) := Option.bind (lp_X1_cells_6 gG pi le tp 100 0 0) fun v38 => some v38
abbrev rm_X1_cells : Room := ({ frames := 1, cells := 0, slots := 0, locals := 22 } : Room)
abbrev A_X1_cells (cI cJ : ClassId) (zgr : Nat) (gG : GrS) (pi : Int32) (le : Int32) (tp : Int32) (sz : Nat) : Nat → Prop := va_A [(zgr, .inr (2, [.int gG.1, .int gG.2.1, .int (bI gG.2.2.1), .long gG.2.2.2.1, .long gG.2.2.2.2.1, .long gG.2.2.2.2.2.1, .long gG.2.2.2.2.2.2.1, .long gG.2.2.2.2.2.2.2]))] sz
abbrev Q_X1_cells (dC : Nat → ClassId) (dI : Nat → Nat → Nat) (cI cJ : ClassId) (zgr : Nat) (gG : GrS) (pi : Int32) (le : Int32) (tp : Int32) (sz : Nat) (R : Int64) : Array Value → State → Outcome → State → Prop := va_Ql (fun (r : Int64) (_ : Unit) => r = R) (fun u_ t => va_P (dC, dI) vwCl [(zgr, .inr (2, [.int gG.1, .int gG.2.1, .int (bI gG.2.2.1), .long gG.2.2.2.1, .long gG.2.2.2.2.1, .long gG.2.2.2.2.2.1, .long gG.2.2.2.2.2.2.1, .long gG.2.2.2.2.2.2.2]))] t.heap ∧ va_K (dC, dI) vwCl [(cI, .int), (cJ, .long)] t ∧ va_D (A_X1_cells cI cJ zgr gG pi le tp sz) [(zgr, .inr (2, [.int gG.1, .int gG.2.1, .int (bI gG.2.2.1), .long gG.2.2.2.1, .long gG.2.2.2.2.1, .long gG.2.2.2.2.2.1, .long gG.2.2.2.2.2.2.1, .long gG.2.2.2.2.2.2.2]))]) (A_X1_cells cI cJ zgr gG pi le tp sz)
set_option maxHeartbeats 4000000 in
set_option maxRecDepth 100000 in
theorem c_X1_cells (l : Launch) (dC : Nat → ClassId) (dI : Nat → Nat → Nat) (cI cJ : ClassId) (zgr : Nat) (sz : Nat) (gG : GrS) (pi : Int32) (le : Int32) (tp : Int32) (R : Int64) (hR : f_X1_cells gG pi le tp = some R) : Met l yX1_cells wsX1_cells rm_X1_cells (va_Pc [.int pi, .int le, .int tp, .ref zgr] (fun U => U.heap.size = sz ∧ va_P (dC, dI) vwCl [(zgr, .inr (2, [.int gG.1, .int gG.2.1, .int (bI gG.2.2.1), .long gG.2.2.2.1, .long gG.2.2.2.2.1, .long gG.2.2.2.2.2.1, .long gG.2.2.2.2.2.2.1, .long gG.2.2.2.2.2.2.2]))] U.heap ∧ va_K (dC, dI) vwCl [(cI, .int), (cJ, .long)] U ∧ va_D (fun _ => True) [(zgr, .inr (2, [.int gG.1, .int gG.2.1, .int (bI gG.2.2.1), .long gG.2.2.2.1, .long gG.2.2.2.2.1, .long gG.2.2.2.2.2.1, .long gG.2.2.2.2.2.2.1, .long gG.2.2.2.2.2.2.2]))])) (Q_X1_cells dC dI cI cJ zgr gG pi le tp sz R) 0 0 (A_X1_cells cI cJ zgr gG pi le tp sz) := by
  have hf := hR
  refine Met.ofW (cc := cX1_cells) (maxL := 8) (ret := (some .long)) (by decide) rfl ?_
  intro p e s m args below meth c s₁ B hml hv
  obtain ⟨hargs, hsz, hP, hK, hD0⟩ := hv
  have hx := B.exec
  have hb := B.bytes
  have hr := B.returns
  have hts := atoms_spec (ws := wsX1_cells) B.pre
  have hown : s.vm.findClass RX1 = some m.cls := findClass_of_methodNamed B.named
  have hlocks := B.notSynchronized
  subst hsz
  have hD : va_D (A_X1_cells cI cJ zgr gG pi le tp s.heap.size) [(zgr, .inr (2, [.int gG.1, .int gG.2.1, .int (bI gG.2.2.1), .long gG.2.2.2.1, .long gG.2.2.2.2.1, .long gG.2.2.2.2.2.1, .long gG.2.2.2.2.2.2.1, .long gG.2.2.2.2.2.2.2]))] := hD0.self (sz := s.heap.size)
  have hA : ∀ q : Nat, s.heap.size ≤ q → (A_X1_cells cI cJ zgr gG pi le tp s.heap.size) q := fun q h => Or.inr h
  have hS : va_S (A_X1_cells cI cJ zgr gG pi le tp s.heap.size) s.heap s.heap [] := va_S.rf
  have hl := lv_entry ([.int pi, .int le, .int tp, .ref zgr]) (n := 8) (Nat.le_of_ble_eq_true rfl)
  have he0 : entryFrame m args 8 = entryFrame m ([.int pi, .int le, .int tp, .ref zgr] : List Value).toArray 8 := by rw [hargs]
  rw [he0, lg_entry_eq]
  generalize (lg_sl ([.int pi, .int le, .int tp, .ref zgr]) ++ List.replicate (8 - (lg_sl ([.int pi, .int le, .int tp, .ref zgr])).length) Slot.unset).toArray = ls at hl ⊢
  have hl : lv_has ls 8 [(0, .int pi), (1, .int le), (2, .int tp), (3, .ref zgr)] := hl
  rw [f_X1_cells] at hf
  refine lv_lconst (v := 0) hx hb dX1_cells_0 (by decide) ?_
  refine lv_lstore (lv' := [(4, .long 0), (0, .int pi), (1, .int le), (2, .int tp), (3, .ref zgr)]) hx hb dX1_cells_1 hl (by decide) rfl (fun ls hl => ?_)
  refine lv_iconst (v := 0) hx hb dX1_cells_3 (by decide) ?_
  refine lv_istore (lv' := [(6, .int 0), (4, .long 0), (0, .int pi), (1, .int le), (2, .int tp), (3, .ref zgr)]) hx hb dX1_cells_4 hl (by decide) rfl (fun ls hl => ?_)
  obtain ⟨v38, hv, hf⟩ := obind hf
  have K39 : ∀ (H : Heap) (locs : List Loc) (ls : Array Slot), va_P (dC, dI) vwCl [(zgr, .inr (2, [.int gG.1, .int gG.2.1, .int (bI gG.2.2.1), .long gG.2.2.2.1, .long gG.2.2.2.2.1, .long gG.2.2.2.2.2.1, .long gG.2.2.2.2.2.2.1, .long gG.2.2.2.2.2.2.2]))] H → va_D (A_X1_cells cI cJ zgr gG pi le tp s.heap.size) [(zgr, .inr (2, [.int gG.1, .int gG.2.1, .int (bI gG.2.2.1), .long gG.2.2.2.1, .long gG.2.2.2.2.1, .long gG.2.2.2.2.2.1, .long gG.2.2.2.2.2.2.1, .long gG.2.2.2.2.2.2.2]))] → va_S (A_X1_cells cI cJ zgr gG pi le tp s.heap.size) s.heap H locs → lv_has ls 8 [(4, .long v38)] → W p l e rm_X1_cells s m args below meth c H locs 0 0 (MQ below (Q_X1_cells dC dI cI cJ zgr gG pi le tp s.heap.size R) args s 0 0 (A_X1_cells cI cJ zgr gG pi le tp s.heap.size)) (F0 m 74 ls []) := by
    intro H locs ls hP hD hS hl
    refine lv_lload hx hb dX1_cells_74 (lv_at hl 0 rfl) ?_
    obtain rfl := Option.some.inj hf
    exact W.lret (v := v38) hx hb hr (fun t ht hW => ⟨⟨v38, (), rfl, rfl, by rw [ht]; exact hP, va_K.moved hW.alike hK, hD⟩, hS.F ht⟩) hS.2.2 dX1_cells_76
  have lp40 : ∀ (nf : Nat) (y25 : Int64) (y26 : Int32) (H : Heap) (locs : List Loc) (ls : Array Slot), lp_X1_cells_6 gG pi le tp nf y25 y26 = some v38 → va_P (dC, dI) vwCl [(zgr, .inr (2, [.int gG.1, .int gG.2.1, .int (bI gG.2.2.1), .long gG.2.2.2.1, .long gG.2.2.2.2.1, .long gG.2.2.2.2.2.1, .long gG.2.2.2.2.2.2.1, .long gG.2.2.2.2.2.2.2]))] H → va_D (A_X1_cells cI cJ zgr gG pi le tp s.heap.size) [(zgr, .inr (2, [.int gG.1, .int gG.2.1, .int (bI gG.2.2.1), .long gG.2.2.2.1, .long gG.2.2.2.2.1, .long gG.2.2.2.2.2.1, .long gG.2.2.2.2.2.2.1, .long gG.2.2.2.2.2.2.2]))] → va_S (A_X1_cells cI cJ zgr gG pi le tp s.heap.size) s.heap H locs → lv_has ls 8 [(0, .int pi), (1, .int le), (2, .int tp), (3, .ref zgr), (4, .long y25), (6, .int y26)] → W p l e rm_X1_cells s m args below meth c H locs 0 0 (MQ below (Q_X1_cells dC dI cI cJ zgr gG pi le tp s.heap.size R) args s 0 0 (A_X1_cells cI cJ zgr gG pi le tp s.heap.size)) (F0 m 6 ls []) := by
    intro nf
    induction nf with
    | zero => intro y25 y26 H locs ls h9; exact nomatch h9
    | succ nf ih41 =>
      intro y25 y26 H locs ls hf hP hD hS hl
      rw [lp_X1_cells_6.eq_2] at hf
      refine lv_iload hx hb dX1_cells_6 (lv_at hl 5 rfl) ?_
      refine lv_iconst (v := 3) hx hb dX1_cells_8 (by decide) ?_
      refine lv_icmp_ge (tgt := 74) hx hb dX1_cells_9 (by decide) (fun hc => ?_) (fun hc => ?_)
      · rw [if_pos hc] at hf
        obtain rfl := Option.some.inj hf
        exact K39 _ _ _ hP hD hS (lv_sub hl [4] rfl)
      · rw [if_neg hc] at hf
        refine lv_iconst (v := 0) hx hb dX1_cells_12 (by decide) ?_
        refine lv_istore (lv' := [(7, .int 0), (0, .int pi), (1, .int le), (2, .int tp), (3, .ref zgr), (4, .long y25), (6, .int y26)]) hx hb dX1_cells_13 hl (by decide) rfl (fun ls hl => ?_)
        obtain ⟨v37, hv, hf⟩ := obind hf
        have K42 : ∀ (H : Heap) (locs : List Loc) (ls : Array Slot), va_P (dC, dI) vwCl [(zgr, .inr (2, [.int gG.1, .int gG.2.1, .int (bI gG.2.2.1), .long gG.2.2.2.1, .long gG.2.2.2.2.1, .long gG.2.2.2.2.2.1, .long gG.2.2.2.2.2.2.1, .long gG.2.2.2.2.2.2.2]))] H → va_D (A_X1_cells cI cJ zgr gG pi le tp s.heap.size) [(zgr, .inr (2, [.int gG.1, .int gG.2.1, .int (bI gG.2.2.1), .long gG.2.2.2.1, .long gG.2.2.2.2.1, .long gG.2.2.2.2.2.1, .long gG.2.2.2.2.2.2.1, .long gG.2.2.2.2.2.2.2]))] → va_S (A_X1_cells cI cJ zgr gG pi le tp s.heap.size) s.heap H locs → lv_has ls 8 [(0, .int pi), (1, .int le), (2, .int tp), (3, .ref zgr), (4, .long v37), (6, .int y26)] → W p l e rm_X1_cells s m args below meth c H locs 0 0 (MQ below (Q_X1_cells dC dI cI cJ zgr gG pi le tp s.heap.size R) args s 0 0 (A_X1_cells cI cJ zgr gG pi le tp s.heap.size)) (F0 m 68 ls []) := by
          intro H locs ls hP hD hS hl
          refine lv_iinc (v := (y26 + 1)) (lv' := [(6, .int (y26 + 1)), (0, .int pi), (1, .int le), (2, .int tp), (3, .ref zgr), (4, .long v37)]) hx hb dX1_cells_68 hl (k := 5) rfl rfl (by decide) rfl (fun ls hl => ?_)
          refine lv_goto (tgt := 6) hx hb dX1_cells_71 (by decide) ?_
          exact ih41 _ _ _ _ _ hf hP hD hS (lv_sub hl [1, 2, 3, 4, 5, 0] rfl)
        have lp43 : ∀ (nf : Nat) (y33 : Int64) (y34 : Int32) (H : Heap) (locs : List Loc) (ls : Array Slot), lp_X1_cells_15 gG pi le tp y26 nf y33 y34 = some v37 → va_P (dC, dI) vwCl [(zgr, .inr (2, [.int gG.1, .int gG.2.1, .int (bI gG.2.2.1), .long gG.2.2.2.1, .long gG.2.2.2.2.1, .long gG.2.2.2.2.2.1, .long gG.2.2.2.2.2.2.1, .long gG.2.2.2.2.2.2.2]))] H → va_D (A_X1_cells cI cJ zgr gG pi le tp s.heap.size) [(zgr, .inr (2, [.int gG.1, .int gG.2.1, .int (bI gG.2.2.1), .long gG.2.2.2.1, .long gG.2.2.2.2.1, .long gG.2.2.2.2.2.1, .long gG.2.2.2.2.2.2.1, .long gG.2.2.2.2.2.2.2]))] → va_S (A_X1_cells cI cJ zgr gG pi le tp s.heap.size) s.heap H locs → lv_has ls 8 [(0, .int pi), (1, .int le), (2, .int tp), (3, .ref zgr), (4, .long y33), (6, .int y26), (7, .int y34)] → W p l e rm_X1_cells s m args below meth c H locs 0 0 (MQ below (Q_X1_cells dC dI cI cJ zgr gG pi le tp s.heap.size R) args s 0 0 (A_X1_cells cI cJ zgr gG pi le tp s.heap.size)) (F0 m 15 ls []) := by
          intro nf
          induction nf with
          | zero => intro y33 y34 H locs ls h9; exact nomatch h9
          | succ nf ih44 =>
            intro y33 y34 H locs ls hf hP hD hS hl
            rw [lp_X1_cells_15.eq_2] at hf
            refine lv_iload hx hb dX1_cells_15 (lv_at hl 6 rfl) ?_
            refine lv_iconst (v := 3) hx hb dX1_cells_17 (by decide) ?_
            refine lv_icmp_ge (tgt := 68) hx hb dX1_cells_18 (by decide) (fun hc => ?_) (fun hc => ?_)
            · rw [if_pos hc] at hf
              obtain rfl := Option.some.inj hf
              exact K42 _ _ _ hP hD hS (lv_sub hl [0, 1, 2, 3, 4, 5] rfl)
            · rw [if_neg hc] at hf
              refine lv_iload_n hx hb dX1_cells_21 rfl (lv_at hl 0 rfl) ?_
              refine lv_iload hx hb dX1_cells_22 (lv_at hl 6 rfl) ?_
              refine lv_iload hx hb dX1_cells_24 (lv_at hl 5 rfl) ?_
              have hPc := hP.sub (ws' := []) [] rfl
              have hDc := hD.sub (ws' := []) [] (by decide) rfl
              have hFc := va_free (wc := []) hD hS hA [] rfl
              refine va_calli (va_runS (As := [.int pi, .int y34, .int y26]) (rest := []) ⟨hx, hb, hml, hown, hts⟩ (c_X1_has l dC dI cI cJ  H.size pi y34 y26) (va_cwS 3 hts gX1_cells_X1_has rfl rfl rfl (by decide +kernel) ⟨Nat.le_of_ble_eq_true rfl, Nat.le_of_ble_eq_true rfl⟩) ⟨fun a U gg mk q => by obtain ⟨q0, q1, qP, qK, qD⟩ := q; exact ⟨q0, q1, qP, va_K.moved (u := U) (U := U.calling gg mk a) (Vm.Alike.refl U.vm) qK, qD⟩, fun U hU hW => ⟨rfl, by rw [hU], by rw [hU]; exact hPc, va_K.moved hW.alike hK, hDc.weaken (fun _ _ _ _ => trivial)⟩⟩ rfl rfl hl.1 rfl (lv_room (Nat.le_of_ble_eq_true rfl)) dX1_cells_26 ⟨Nat.zero_le _, Nat.zero_le _⟩) hS (fun q _ h => hFc q h) hFc (fun r_ u_ t H locs ht hvm hw hB hz1 hk1 hS => ?_)
              obtain rfl := hw.symm
              obtain ⟨hP1, -, hD1⟩ := hB
              rw [ht] at hP1
              obtain ⟨hP, hD⟩ := va_join (wr := [(zgr, .inr (2, [.int gG.1, .int gG.2.1, .int (bI gG.2.2.1), .long gG.2.2.2.1, .long gG.2.2.2.2.1, .long gG.2.2.2.2.2.1, .long gG.2.2.2.2.2.2.1, .long gG.2.2.2.2.2.2.2]))]) (w1 := []) hP hD [] [0] rfl rfl (by decide) (by decide) hk1 hFc hP1 hD1
              have hP := hP.sub (ws' := [(zgr, .inr (2, [.int gG.1, .int gG.2.1, .int (bI gG.2.2.1), .long gG.2.2.2.1, .long gG.2.2.2.2.1, .long gG.2.2.2.2.2.1, .long gG.2.2.2.2.2.2.1, .long gG.2.2.2.2.2.2.2]))]) [0] rfl
              have hD := hD.sub (ws' := [(zgr, .inr (2, [.int gG.1, .int gG.2.1, .int (bI gG.2.2.1), .long gG.2.2.2.1, .long gG.2.2.2.2.1, .long gG.2.2.2.2.2.1, .long gG.2.2.2.2.2.2.1, .long gG.2.2.2.2.2.2.2]))]) [0] (by decide) rfl
              clear hPc hDc hFc hP1 hD1 hk1
              obtain ⟨v36, hv, hf⟩ := vbind hf
              have K45 : ∀ (H : Heap) (locs : List Loc) (ls : Array Slot), va_P (dC, dI) vwCl [(zgr, .inr (2, [.int gG.1, .int gG.2.1, .int (bI gG.2.2.1), .long gG.2.2.2.1, .long gG.2.2.2.2.1, .long gG.2.2.2.2.2.1, .long gG.2.2.2.2.2.2.1, .long gG.2.2.2.2.2.2.2]))] H → va_D (A_X1_cells cI cJ zgr gG pi le tp s.heap.size) [(zgr, .inr (2, [.int gG.1, .int gG.2.1, .int (bI gG.2.2.1), .long gG.2.2.2.1, .long gG.2.2.2.2.1, .long gG.2.2.2.2.2.1, .long gG.2.2.2.2.2.2.1, .long gG.2.2.2.2.2.2.2]))] → va_S (A_X1_cells cI cJ zgr gG pi le tp s.heap.size) s.heap H locs → lv_has ls 8 [(0, .int pi), (1, .int le), (2, .int tp), (3, .ref zgr), (4, .long v36), (6, .int y26), (7, .int y34)] → W p l e rm_X1_cells s m args below meth c H locs 0 0 (MQ below (Q_X1_cells dC dI cI cJ zgr gG pi le tp s.heap.size R) args s 0 0 (A_X1_cells cI cJ zgr gG pi le tp s.heap.size)) (F0 m 62 ls []) := by
                intro H locs ls hP hD hS hl
                refine lv_iinc (v := (y34 + 1)) (lv' := [(7, .int (y34 + 1)), (0, .int pi), (1, .int le), (2, .int tp), (3, .ref zgr), (4, .long v36), (6, .int y26)]) hx hb dX1_cells_62 hl (k := 6) rfl rfl (by decide) rfl (fun ls hl => ?_)
                refine lv_goto (tgt := 15) hx hb dX1_cells_65 (by decide) ?_
                exact ih44 _ _ _ _ _ hf hP hD hS (lv_sub hl [1, 2, 3, 4, 5, 6, 0] rfl)
              clear hf; have hf := hv; clear hv
              refine lv_if_eq (tgt := 62) hx hb dX1_cells_29 (by decide) (fun hc => ?_) (fun hc => ?_)
              · rw [if_pos hc] at hf
                obtain rfl := hf
                exact K45 _ _ _ hP hD hS (lv_sub hl [0, 1, 2, 3, 4, 5, 6] rfl)
              · rw [if_neg hc] at hf
                refine lv_lload hx hb dX1_cells_32 (lv_at hl 4 rfl) ?_
                refine lv_iload_n hx hb dX1_cells_34 rfl (lv_at hl 1 rfl) ?_
                refine lv_iload hx hb dX1_cells_35 (lv_at hl 6 rfl) ?_
                refine lv_iadd hx hb dX1_cells_37 ?_
                refine lv_aload_n hx hb dX1_cells_38 rfl (lv_at hl 3 rfl) ?_
                have hPc := hP.sub (ws' := [(zgr, .inr (2, [.int gG.1, .int gG.2.1, .int (bI gG.2.2.1), .long gG.2.2.2.1, .long gG.2.2.2.2.1, .long gG.2.2.2.2.2.1, .long gG.2.2.2.2.2.2.1, .long gG.2.2.2.2.2.2.2]))]) [0] rfl
                have hDc := hD.sub (ws' := [(zgr, .inr (2, [.int gG.1, .int gG.2.1, .int (bI gG.2.2.1), .long gG.2.2.2.1, .long gG.2.2.2.2.1, .long gG.2.2.2.2.2.1, .long gG.2.2.2.2.2.2.1, .long gG.2.2.2.2.2.2.2]))]) [0] (by decide) rfl
                have hFc := va_free (wc := [(zgr, .inr (2, [.int gG.1, .int gG.2.1, .int (bI gG.2.2.1), .long gG.2.2.2.1, .long gG.2.2.2.2.1, .long gG.2.2.2.2.2.1, .long gG.2.2.2.2.2.2.1, .long gG.2.2.2.2.2.2.2]))]) hD hS hA [0] rfl
                refine va_calli (va_runV (As := []) (rest := [.int (le + y34), .long y33]) ⟨hx, hb, hml, hown, hts⟩ (c_X3_wide l dC dI cI cJ zgr H.size gG) (cwV 0 hts gX1_cells_X3_wide rfl rfl rfl (by decide +kernel) ⟨Nat.le_of_ble_eq_true rfl, Nat.le_of_ble_eq_true rfl⟩) ⟨fun a U gg mk q => by obtain ⟨q0, q1, qP, qK, qD⟩ := q; exact ⟨q0, q1, qP, va_K.moved (u := U) (U := U.calling gg mk a) (Vm.Alike.refl U.vm) qK, qD⟩, va_recv hK hPc (ci := 2) (q0 := 0) rfl rfl, fun U hU hW => ⟨rfl, by rw [hU], by rw [hU]; exact hPc, va_K.moved hW.alike hK, hDc.weaken (fun _ _ _ _ => trivial)⟩⟩ rfl rfl hl.1 rfl (lv_room (Nat.le_of_ble_eq_true rfl)) dX1_cells_39 ⟨Nat.zero_le _, Nat.zero_le _⟩) hS (fun q _ h => hFc q h) hFc (fun r_ u_ t H locs ht hvm hw hB hz1 hk1 hS => ?_)
                obtain rfl := hw.symm
                obtain ⟨hP1, -, hD1⟩ := hB
                rw [ht] at hP1
                obtain ⟨hP, hD⟩ := va_join (wr := []) (w1 := [(zgr, .inr (2, [.int gG.1, .int gG.2.1, .int (bI gG.2.2.1), .long gG.2.2.2.1, .long gG.2.2.2.2.1, .long gG.2.2.2.2.2.1, .long gG.2.2.2.2.2.2.1, .long gG.2.2.2.2.2.2.2]))]) hP hD [0] [] rfl rfl (by decide) (by decide) hk1 hFc hP1 hD1
                have hP := hP.sub (ws' := [(zgr, .inr (2, [.int gG.1, .int gG.2.1, .int (bI gG.2.2.1), .long gG.2.2.2.1, .long gG.2.2.2.2.1, .long gG.2.2.2.2.2.1, .long gG.2.2.2.2.2.2.1, .long gG.2.2.2.2.2.2.2]))]) [0] rfl
                have hD := hD.sub (ws' := [(zgr, .inr (2, [.int gG.1, .int gG.2.1, .int (bI gG.2.2.1), .long gG.2.2.2.1, .long gG.2.2.2.2.1, .long gG.2.2.2.2.2.1, .long gG.2.2.2.2.2.2.1, .long gG.2.2.2.2.2.2.2]))]) [0] (by decide) rfl
                clear hPc hDc hFc hP1 hD1 hk1
                have hPc := hP.sub (ws' := []) [] rfl
                have hDc := hD.sub (ws' := []) [] (by decide) rfl
                have hFc := va_free (wc := []) hD hS hA [] rfl
                refine va_calli (va_runS (As := [.int (le + y34), .int (f_X3_wide gG)]) (rest := [.long y33]) ⟨hx, hb, hml, hown, hts⟩ (c_X1_wrapped l dC dI cI cJ  H.size (le + y34) (f_X3_wide gG)) (va_cwS 2 hts gX1_cells_X1_wrapped rfl rfl rfl (by decide +kernel) ⟨Nat.le_of_ble_eq_true rfl, Nat.le_of_ble_eq_true rfl⟩) ⟨fun a U gg mk q => by obtain ⟨q0, q1, qP, qK, qD⟩ := q; exact ⟨q0, q1, qP, va_K.moved (u := U) (U := U.calling gg mk a) (Vm.Alike.refl U.vm) qK, qD⟩, fun U hU hW => ⟨rfl, by rw [hU], by rw [hU]; exact hPc, va_K.moved hW.alike hK, hDc.weaken (fun _ _ _ _ => trivial)⟩⟩ rfl rfl hl.1 rfl (lv_room (Nat.le_of_ble_eq_true rfl)) dX1_cells_42 ⟨Nat.zero_le _, Nat.zero_le _⟩) hS (fun q _ h => hFc q h) hFc (fun r_ u_ t H locs ht hvm hw hB hz1 hk1 hS => ?_)
                obtain rfl := hw.symm
                obtain ⟨hP1, -, hD1⟩ := hB
                rw [ht] at hP1
                obtain ⟨hP, hD⟩ := va_join (wr := [(zgr, .inr (2, [.int gG.1, .int gG.2.1, .int (bI gG.2.2.1), .long gG.2.2.2.1, .long gG.2.2.2.2.1, .long gG.2.2.2.2.2.1, .long gG.2.2.2.2.2.2.1, .long gG.2.2.2.2.2.2.2]))]) (w1 := []) hP hD [] [0] rfl rfl (by decide) (by decide) hk1 hFc hP1 hD1
                have hP := hP.sub (ws' := [(zgr, .inr (2, [.int gG.1, .int gG.2.1, .int (bI gG.2.2.1), .long gG.2.2.2.1, .long gG.2.2.2.2.1, .long gG.2.2.2.2.2.1, .long gG.2.2.2.2.2.2.1, .long gG.2.2.2.2.2.2.2]))]) [0] rfl
                have hD := hD.sub (ws' := [(zgr, .inr (2, [.int gG.1, .int gG.2.1, .int (bI gG.2.2.1), .long gG.2.2.2.1, .long gG.2.2.2.2.1, .long gG.2.2.2.2.2.1, .long gG.2.2.2.2.2.2.1, .long gG.2.2.2.2.2.2.2]))]) [0] (by decide) rfl
                clear hPc hDc hFc hP1 hD1 hk1
                refine lv_iload_n hx hb dX1_cells_45 rfl (lv_at hl 2 rfl) ?_
                refine lv_iload hx hb dX1_cells_46 (lv_at hl 5 rfl) ?_
                refine lv_iadd hx hb dX1_cells_48 ?_
                refine lv_aload_n hx hb dX1_cells_49 rfl (lv_at hl 3 rfl) ?_
                have hPc := hP.sub (ws' := [(zgr, .inr (2, [.int gG.1, .int gG.2.1, .int (bI gG.2.2.1), .long gG.2.2.2.1, .long gG.2.2.2.2.1, .long gG.2.2.2.2.2.1, .long gG.2.2.2.2.2.2.1, .long gG.2.2.2.2.2.2.2]))]) [0] rfl
                have hDc := hD.sub (ws' := [(zgr, .inr (2, [.int gG.1, .int gG.2.1, .int (bI gG.2.2.1), .long gG.2.2.2.1, .long gG.2.2.2.2.1, .long gG.2.2.2.2.2.1, .long gG.2.2.2.2.2.2.1, .long gG.2.2.2.2.2.2.2]))]) [0] (by decide) rfl
                have hFc := va_free (wc := [(zgr, .inr (2, [.int gG.1, .int gG.2.1, .int (bI gG.2.2.1), .long gG.2.2.2.1, .long gG.2.2.2.2.1, .long gG.2.2.2.2.2.1, .long gG.2.2.2.2.2.2.1, .long gG.2.2.2.2.2.2.2]))]) hD hS hA [0] rfl
                refine va_calli (va_runV (As := []) (rest := [.int (tp + y26), .int (f_X1_wrapped (le + y34) (f_X3_wide gG)), .long y33]) ⟨hx, hb, hml, hown, hts⟩ (c_X3_high l dC dI cI cJ zgr H.size gG) (cwV 0 hts gX1_cells_X3_high rfl rfl rfl (by decide +kernel) ⟨Nat.le_of_ble_eq_true rfl, Nat.le_of_ble_eq_true rfl⟩) ⟨fun a U gg mk q => by obtain ⟨q0, q1, qP, qK, qD⟩ := q; exact ⟨q0, q1, qP, va_K.moved (u := U) (U := U.calling gg mk a) (Vm.Alike.refl U.vm) qK, qD⟩, va_recv hK hPc (ci := 2) (q0 := 0) rfl rfl, fun U hU hW => ⟨rfl, by rw [hU], by rw [hU]; exact hPc, va_K.moved hW.alike hK, hDc.weaken (fun _ _ _ _ => trivial)⟩⟩ rfl rfl hl.1 rfl (lv_room (Nat.le_of_ble_eq_true rfl)) dX1_cells_50 ⟨Nat.zero_le _, Nat.zero_le _⟩) hS (fun q _ h => hFc q h) hFc (fun r_ u_ t H locs ht hvm hw hB hz1 hk1 hS => ?_)
                obtain rfl := hw.symm
                obtain ⟨hP1, -, hD1⟩ := hB
                rw [ht] at hP1
                obtain ⟨hP, hD⟩ := va_join (wr := []) (w1 := [(zgr, .inr (2, [.int gG.1, .int gG.2.1, .int (bI gG.2.2.1), .long gG.2.2.2.1, .long gG.2.2.2.2.1, .long gG.2.2.2.2.2.1, .long gG.2.2.2.2.2.2.1, .long gG.2.2.2.2.2.2.2]))]) hP hD [0] [] rfl rfl (by decide) (by decide) hk1 hFc hP1 hD1
                have hP := hP.sub (ws' := [(zgr, .inr (2, [.int gG.1, .int gG.2.1, .int (bI gG.2.2.1), .long gG.2.2.2.1, .long gG.2.2.2.2.1, .long gG.2.2.2.2.2.1, .long gG.2.2.2.2.2.2.1, .long gG.2.2.2.2.2.2.2]))]) [0] rfl
                have hD := hD.sub (ws' := [(zgr, .inr (2, [.int gG.1, .int gG.2.1, .int (bI gG.2.2.1), .long gG.2.2.2.1, .long gG.2.2.2.2.1, .long gG.2.2.2.2.2.1, .long gG.2.2.2.2.2.2.1, .long gG.2.2.2.2.2.2.2]))]) [0] (by decide) rfl
                clear hPc hDc hFc hP1 hD1 hk1
                have hPc := hP.sub (ws' := []) [] rfl
                have hDc := hD.sub (ws' := []) [] (by decide) rfl
                have hFc := va_free (wc := []) hD hS hA [] rfl
                refine va_calli (va_runS (As := [.int (tp + y26), .int (f_X3_high gG)]) (rest := [.int (f_X1_wrapped (le + y34) (f_X3_wide gG)), .long y33]) ⟨hx, hb, hml, hown, hts⟩ (c_X1_wrapped l dC dI cI cJ  H.size (tp + y26) (f_X3_high gG)) (va_cwS 2 hts gX1_cells_X1_wrapped rfl rfl rfl (by decide +kernel) ⟨Nat.le_of_ble_eq_true rfl, Nat.le_of_ble_eq_true rfl⟩) ⟨fun a U gg mk q => by obtain ⟨q0, q1, qP, qK, qD⟩ := q; exact ⟨q0, q1, qP, va_K.moved (u := U) (U := U.calling gg mk a) (Vm.Alike.refl U.vm) qK, qD⟩, fun U hU hW => ⟨rfl, by rw [hU], by rw [hU]; exact hPc, va_K.moved hW.alike hK, hDc.weaken (fun _ _ _ _ => trivial)⟩⟩ rfl rfl hl.1 rfl (lv_room (Nat.le_of_ble_eq_true rfl)) dX1_cells_53 ⟨Nat.zero_le _, Nat.zero_le _⟩) hS (fun q _ h => hFc q h) hFc (fun r_ u_ t H locs ht hvm hw hB hz1 hk1 hS => ?_)
                obtain rfl := hw.symm
                obtain ⟨hP1, -, hD1⟩ := hB
                rw [ht] at hP1
                obtain ⟨hP, hD⟩ := va_join (wr := [(zgr, .inr (2, [.int gG.1, .int gG.2.1, .int (bI gG.2.2.1), .long gG.2.2.2.1, .long gG.2.2.2.2.1, .long gG.2.2.2.2.2.1, .long gG.2.2.2.2.2.2.1, .long gG.2.2.2.2.2.2.2]))]) (w1 := []) hP hD [] [0] rfl rfl (by decide) (by decide) hk1 hFc hP1 hD1
                have hP := hP.sub (ws' := [(zgr, .inr (2, [.int gG.1, .int gG.2.1, .int (bI gG.2.2.1), .long gG.2.2.2.1, .long gG.2.2.2.2.1, .long gG.2.2.2.2.2.1, .long gG.2.2.2.2.2.2.1, .long gG.2.2.2.2.2.2.2]))]) [0] rfl
                have hD := hD.sub (ws' := [(zgr, .inr (2, [.int gG.1, .int gG.2.1, .int (bI gG.2.2.1), .long gG.2.2.2.1, .long gG.2.2.2.2.1, .long gG.2.2.2.2.2.1, .long gG.2.2.2.2.2.2.1, .long gG.2.2.2.2.2.2.2]))]) [0] (by decide) rfl
                clear hPc hDc hFc hP1 hD1 hk1
                have hPc := hP.sub (ws' := []) [] rfl
                have hDc := hD.sub (ws' := []) [] (by decide) rfl
                have hFc := va_free (wc := []) hD hS hA [] rfl
                refine va_calll (va_runS (As := [.int (f_X1_wrapped (le + y34) (f_X3_wide gG)), .int (f_X1_wrapped (tp + y26) (f_X3_high gG))]) (rest := [.long y33]) ⟨hx, hb, hml, hown, hts⟩ (c_X3_cell l dC dI cI cJ  H.size (f_X1_wrapped (le + y34) (f_X3_wide gG)) (f_X1_wrapped (tp + y26) (f_X3_high gG))) (va_cwS 2 hts gX1_cells_X3_cell rfl rfl rfl (by decide +kernel) ⟨Nat.le_of_ble_eq_true rfl, Nat.le_of_ble_eq_true rfl⟩) ⟨fun a U gg mk q => by obtain ⟨q0, q1, qP, qK, qD⟩ := q; exact ⟨q0, q1, qP, va_K.moved (u := U) (U := U.calling gg mk a) (Vm.Alike.refl U.vm) qK, qD⟩, fun U hU hW => ⟨rfl, by rw [hU], by rw [hU]; exact hPc, va_K.moved hW.alike hK, hDc.weaken (fun _ _ _ _ => trivial)⟩⟩ rfl rfl hl.1 rfl (lv_room (Nat.le_of_ble_eq_true rfl)) dX1_cells_56 ⟨Nat.zero_le _, Nat.zero_le _⟩) hS (fun q _ h => hFc q h) hFc (fun r_ u_ t H locs ht hvm hw hB hz1 hk1 hS => ?_)
                obtain rfl := hw.symm
                obtain ⟨hP1, -, hD1⟩ := hB
                rw [ht] at hP1
                obtain ⟨hP, hD⟩ := va_join (wr := [(zgr, .inr (2, [.int gG.1, .int gG.2.1, .int (bI gG.2.2.1), .long gG.2.2.2.1, .long gG.2.2.2.2.1, .long gG.2.2.2.2.2.1, .long gG.2.2.2.2.2.2.1, .long gG.2.2.2.2.2.2.2]))]) (w1 := []) hP hD [] [0] rfl rfl (by decide) (by decide) hk1 hFc hP1 hD1
                have hP := hP.sub (ws' := [(zgr, .inr (2, [.int gG.1, .int gG.2.1, .int (bI gG.2.2.1), .long gG.2.2.2.1, .long gG.2.2.2.2.1, .long gG.2.2.2.2.2.1, .long gG.2.2.2.2.2.2.1, .long gG.2.2.2.2.2.2.2]))]) [0] rfl
                have hD := hD.sub (ws' := [(zgr, .inr (2, [.int gG.1, .int gG.2.1, .int (bI gG.2.2.1), .long gG.2.2.2.1, .long gG.2.2.2.2.1, .long gG.2.2.2.2.2.1, .long gG.2.2.2.2.2.2.1, .long gG.2.2.2.2.2.2.2]))]) [0] (by decide) rfl
                clear hPc hDc hFc hP1 hD1 hk1
                refine lv_lor hx hb dX1_cells_59 ?_
                obtain ⟨x35, hx35, hf⟩ := vbind hf
                refine topl_e hx35 ?_
                refine lv_lstore (lv' := [(4, .long x35), (0, .int pi), (1, .int le), (2, .int tp), (3, .ref zgr), (6, .int y26), (7, .int y34)]) hx hb dX1_cells_60 hl (by decide) rfl (fun ls hl => ?_)
                obtain rfl := hf
                exact K45 _ _ _ hP hD hS (lv_sub hl [1, 2, 3, 4, 0, 5, 6] rfl)
        exact lp43 100 _ _ _ _ _ hv hP hD hS (lv_sub hl [1, 2, 3, 4, 5, 6, 0] rfl)
  exact lp40 100 _ _ _ _ _ hv hP hD hS (lv_sub hl [2, 3, 4, 5, 1, 0] rfl)
