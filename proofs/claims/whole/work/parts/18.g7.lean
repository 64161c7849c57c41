/-! java/lang/Integer.numberOfTrailingZeros(I)I -/
def f_J6_numberOfTrailingZeros_0f7a4 (xi : Int32) : Int32 := if 0 < ((xi ^^^ (-1)) &&& (xi - 1)) then (bindv (if ((xi ^^^ (-1)) &&& (xi - 1)) ≤ 65536 then ((((xi ^^^ (-1)) &&& (xi - 1)), 1)) else (((jiushr ((xi ^^^ (-1)) &&& (xi - 1)) 16), (1 + 16))) : Int32 × Int32) fun v1 => bindv (if v1.1 ≤ 256 then ((v1.1, v1.2)) else (((jiushr v1.1 8), (v1.2 + 8))) : Int32 × Int32) fun v2 => bindv (if v2.1 ≤ 16 then ((v2.1, v2.2)) else (((jiushr v2.1 4), (v2.2 + 4))) : Int32 × Int32) fun v3 => bindv (if v3.1 ≤ 4 then ((v3.1, v3.2)) else (((jiushr v3.1 2), (v3.2 + 2))) : Int32 × Int32) fun v4 => (v4.2 + (jiushr v4.1 1))) else ((((xi ^^^ (-1)) &&& (xi - 1)) &&& 32))
abbrev rm_J6_numberOfTrailingZeros_0f7a4 : Room := ({ frames := 0, cells := 0, slots := 0, locals := 0 } : Room)
abbrev A_J6_numberOfTrailingZeros_0f7a4 (cI cJ : ClassId) (xi : Int32) (sz : Nat) : Nat → Prop := va_A [] sz
abbrev Q_J6_numberOfTrailingZeros_0f7a4 (dC : Nat → ClassId) (dI : Nat → Nat → Nat) (cI cJ : ClassId) (xi : Int32) (sz : Nat) (R : Int32) : Array Value → State → Outcome → State → Prop := va_Qi (fun (r : Int32) (_ : Unit) => r = R) (fun u_ t => va_P (dC, dI) vwCl [] t.heap ∧ va_K (dC, dI) vwCl [(cI, .int), (cJ, .long)] t ∧ va_D (A_J6_numberOfTrailingZeros_0f7a4 cI cJ xi sz) []) (A_J6_numberOfTrailingZeros_0f7a4 cI cJ xi sz)
set_option maxHeartbeats 4000000 in
set_option maxRecDepth 100000 in
theorem c_J6_numberOfTrailingZeros_0f7a4 (l : Launch) (dC : Nat → ClassId) (dI : Nat → Nat → Nat) (cI cJ : ClassId) (sz : Nat) (xi : Int32) : Met l yJ6_numberOfTrailingZeros_0f7a4 wsJ6_numberOfTrailingZeros_0f7a4 rm_J6_numberOfTrailingZeros_0f7a4 (va_Pc [.int xi] (fun U => U.heap.size = sz ∧ va_P (dC, dI) vwCl [] U.heap ∧ va_K (dC, dI) vwCl [(cI, .int), (cJ, .long)] U ∧ va_D (fun _ => True) [])) (Q_J6_numberOfTrailingZeros_0f7a4 dC dI cI cJ xi sz (f_J6_numberOfTrailingZeros_0f7a4 xi)) 0 0 (A_J6_numberOfTrailingZeros_0f7a4 cI cJ xi sz) := by
  generalize hf : (f_J6_numberOfTrailingZeros_0f7a4 xi) = R
  refine Met.ofW (cc := cJ6_numberOfTrailingZeros_0f7a4) (maxL := 2) (ret := (some .int)) (by decide) rfl ?_
  intro p e s m args below meth c s₁ B hml hv
  obtain ⟨hargs, hsz, hP, hK, hD0⟩ := hv
  have hx := B.exec
  have hb := B.bytes
  have hr := B.returns
  have hts := atoms_spec (ws := wsJ6_numberOfTrailingZeros_0f7a4) B.pre
  have hown : s.vm.findClass RJ6 = some m.cls := findClass_of_methodNamed B.named
  have hlocks := B.notSynchronized
  subst hsz
  have hD : va_D (A_J6_numberOfTrailingZeros_0f7a4 cI cJ xi s.heap.size) [] := hD0.self (sz := s.heap.size)
  have hA : ∀ q : Nat, s.heap.size ≤ q → (A_J6_numberOfTrailingZeros_0f7a4 cI cJ xi s.heap.size) q := fun q h => Or.inr h
  have hS : va_S (A_J6_numberOfTrailingZeros_0f7a4 cI cJ xi s.heap.size) s.heap s.heap [] := va_S.rf
  have hw0 := hts (.constant RJ6 264 (65536)) (by decide +kernel)
  have hl := lv_entry ([.int xi]) (n := 2) (Nat.le_of_ble_eq_true rfl)
  have he0 : entryFrame m args 2 = entryFrame m ([.int xi] : List Value).toArray 2 := by rw [hargs]
  rw [he0, lg_entry_eq]
  generalize (lg_sl ([.int xi]) ++ List.replicate (2 - (lg_sl ([.int xi])).length) Slot.unset).toArray = ls at hl ⊢
  have hl : lv_has ls 2 [(0, .int xi)] := hl
  rw [f_J6_numberOfTrailingZeros_0f7a4] at hf
  refine lv_iload_n hx hb dJ6_numberOfTrailingZeros_0f7a4_0 rfl (lv_at hl 0 rfl) ?_
  refine lv_iconst (v := (-1)) hx hb dJ6_numberOfTrailingZeros_0f7a4_1 (by decide) ?_
  refine lv_ixor hx hb dJ6_numberOfTrailingZeros_0f7a4_2 ?_
  refine lv_iload_n hx hb dJ6_numberOfTrailingZeros_0f7a4_3 rfl (lv_at hl 0 rfl) ?_
  refine lv_iconst (v := 1) hx hb dJ6_numberOfTrailingZeros_0f7a4_4 (by decide) ?_
  refine lv_isub hx hb dJ6_numberOfTrailingZeros_0f7a4_5 ?_
  refine lv_iand hx hb dJ6_numberOfTrailingZeros_0f7a4_6 ?_
  refine lv_istore_n (lv' := [(0, .int ((xi ^^^ (-1)) &&& (xi - 1)))]) hx hb dJ6_numberOfTrailingZeros_0f7a4_7 rfl hl (by decide) rfl (fun ls hl => ?_)
  refine lv_iload_n hx hb dJ6_numberOfTrailingZeros_0f7a4_8 rfl (lv_at hl 0 rfl) ?_
  refine lv_if_gt (tgt := 17) hx hb dJ6_numberOfTrailingZeros_0f7a4_9 (by decide) (fun hc => ?_) (fun hc => ?_)
  · rw [if_pos hc] at hf
    refine lv_iconst (v := 1) hx hb dJ6_numberOfTrailingZeros_0f7a4_17 (by decide) ?_
    refine lv_istore_n (lv' := [(1, .int 1), (0, .int ((xi ^^^ (-1)) &&& (xi - 1)))]) hx hb dJ6_numberOfTrailingZeros_0f7a4_18 rfl hl (by decide) rfl (fun ls hl => ?_)
    refine lv_iload_n hx hb dJ6_numberOfTrailingZeros_0f7a4_19 rfl (lv_at hl 1 rfl) ?_
    refine lv_ldcw (v := 65536) hx hb hown hw0 dJ6_numberOfTrailingZeros_0f7a4_20 ?_
    obtain ⟨v1, hv, hf⟩ := vbind hf
    have K5 : ∀ (H : Heap) (locs : List Loc) (ls : Array Slot), va_P (dC, dI) vwCl [] H → va_D (A_J6_numberOfTrailingZeros_0f7a4 cI cJ xi s.heap.size) [] → va_S (A_J6_numberOfTrailingZeros_0f7a4 cI cJ xi s.heap.size) s.heap H locs → lv_has ls 2 [(0, .int v1.1), (1, .int v1.2)] → W p l e rm_J6_numberOfTrailingZeros_0f7a4 s m args below meth c H locs 0 0 (MQ below (Q_J6_numberOfTrailingZeros_0f7a4 dC dI cI cJ xi s.heap.size R) args s 0 0 (A_J6_numberOfTrailingZeros_0f7a4 cI cJ xi s.heap.size)) (F0 m 34 ls []) := by
      intro H locs ls hP hD hS hl
      refine lv_iload_n hx hb dJ6_numberOfTrailingZeros_0f7a4_34 rfl (lv_at hl 0 rfl) ?_
      refine lv_sipush (v := 256) hx hb dJ6_numberOfTrailingZeros_0f7a4_35 (by decide) ?_
      obtain ⟨v2, hv, hf⟩ := vbind hf
      have K6 : ∀ (H : Heap) (locs : List Loc) (ls : Array Slot), va_P (dC, dI) vwCl [] H → va_D (A_J6_numberOfTrailingZeros_0f7a4 cI cJ xi s.heap.size) [] → va_S (A_J6_numberOfTrailingZeros_0f7a4 cI cJ xi s.heap.size) s.heap H locs → lv_has ls 2 [(0, .int v2.1), (1, .int v2.2)] → W p l e rm_J6_numberOfTrailingZeros_0f7a4 s m args below meth c H locs 0 0 (MQ below (Q_J6_numberOfTrailingZeros_0f7a4 dC dI cI cJ xi s.heap.size R) args s 0 0 (A_J6_numberOfTrailingZeros_0f7a4 cI cJ xi s.heap.size)) (F0 m 49 ls []) := by
        intro H locs ls hP hD hS hl
        refine lv_iload_n hx hb dJ6_numberOfTrailingZeros_0f7a4_49 rfl (lv_at hl 0 rfl) ?_
        refine lv_bipush (v := 16) hx hb dJ6_numberOfTrailingZeros_0f7a4_50 (by decide) ?_
        obtain ⟨v3, hv, hf⟩ := vbind hf
        have K7 : ∀ (H : Heap) (locs : List Loc) (ls : Array Slot), va_P (dC, dI) vwCl [] H → va_D (A_J6_numberOfTrailingZeros_0f7a4 cI cJ xi s.heap.size) [] → va_S (A_J6_numberOfTrailingZeros_0f7a4 cI cJ xi s.heap.size) s.heap H locs → lv_has ls 2 [(0, .int v3.1), (1, .int v3.2)] → W p l e rm_J6_numberOfTrailingZeros_0f7a4 s m args below meth c H locs 0 0 (MQ below (Q_J6_numberOfTrailingZeros_0f7a4 dC dI cI cJ xi s.heap.size R) args s 0 0 (A_J6_numberOfTrailingZeros_0f7a4 cI cJ xi s.heap.size)) (F0 m 62 ls []) := by
          intro H locs ls hP hD hS hl
          refine lv_iload_n hx hb dJ6_numberOfTrailingZeros_0f7a4_62 rfl (lv_at hl 0 rfl) ?_
          refine lv_iconst (v := 4) hx hb dJ6_numberOfTrailingZeros_0f7a4_63 (by decide) ?_
          obtain ⟨v4, hv, hf⟩ := vbind hf
          have K8 : ∀ (H : Heap) (locs : List Loc) (ls : Array Slot), va_P (dC, dI) vwCl [] H → va_D (A_J6_numberOfTrailingZeros_0f7a4 cI cJ xi s.heap.size) [] → va_S (A_J6_numberOfTrailingZeros_0f7a4 cI cJ xi s.heap.size) s.heap H locs → lv_has ls 2 [(0, .int v4.1), (1, .int v4.2)] → W p l e rm_J6_numberOfTrailingZeros_0f7a4 s m args below meth c H locs 0 0 (MQ below (Q_J6_numberOfTrailingZeros_0f7a4 dC dI cI cJ xi s.heap.size R) args s 0 0 (A_J6_numberOfTrailingZeros_0f7a4 cI cJ xi s.heap.size)) (F0 m 74 ls []) := by
            intro H locs ls hP hD hS hl
            refine lv_iload_n hx hb dJ6_numberOfTrailingZeros_0f7a4_74 rfl (lv_at hl 1 rfl) ?_
            refine lv_iload_n hx hb dJ6_numberOfTrailingZeros_0f7a4_75 rfl (lv_at hl 0 rfl) ?_
            refine lv_iconst (v := 1) hx hb dJ6_numberOfTrailingZeros_0f7a4_76 (by decide) ?_
            refine lv_iushr (v := (jiushr v4.1 1)) hx hb dJ6_numberOfTrailingZeros_0f7a4_77 rfl ?_
            refine lv_iadd hx hb dJ6_numberOfTrailingZeros_0f7a4_78 ?_
            obtain rfl := hf
            exact W.iret (v := (v4.2 + (jiushr v4.1 1))) hx hb hr (fun t ht hW => ⟨⟨(v4.2 + (jiushr v4.1 1)), (), rfl, rfl, by rw [ht]; exact hP, va_K.moved hW.alike hK, hD⟩, hS.F ht⟩) hS.2.2 dJ6_numberOfTrailingZeros_0f7a4_79
          clear hf; have hf := hv; clear hv
          refine lv_icmp_le (tgt := 74) hx hb dJ6_numberOfTrailingZeros_0f7a4_64 (by decide) (fun hc => ?_) (fun hc => ?_)
          · rw [if_pos hc] at hf
            obtain rfl := hf
            exact K8 _ _ _ hP hD hS (lv_sub hl [0, 1] rfl)
          · rw [if_neg hc] at hf
            refine lv_iinc (v := (v3.2 + 2)) (lv' := [(1, .int (v3.2 + 2)), (0, .int v3.1)]) hx hb dJ6_numberOfTrailingZeros_0f7a4_67 hl (k := 1) rfl rfl (by decide) rfl (fun ls hl => ?_)
            refine lv_iload_n hx hb dJ6_numberOfTrailingZeros_0f7a4_70 rfl (lv_at hl 1 rfl) ?_
            refine lv_iconst (v := 2) hx hb dJ6_numberOfTrailingZeros_0f7a4_71 (by decide) ?_
            refine lv_iushr (v := (jiushr v3.1 2)) hx hb dJ6_numberOfTrailingZeros_0f7a4_72 rfl ?_
            refine lv_istore_n (lv' := [(0, .int (jiushr v3.1 2)), (1, .int (v3.2 + 2))]) hx hb dJ6_numberOfTrailingZeros_0f7a4_73 rfl hl (by decide) rfl (fun ls hl => ?_)
            obtain rfl := hf
            exact K8 _ _ _ hP hD hS (lv_sub hl [0, 1] rfl)
        clear hf; have hf := hv; clear hv
        refine lv_icmp_le (tgt := 62) hx hb dJ6_numberOfTrailingZeros_0f7a4_52 (by decide) (fun hc => ?_) (fun hc => ?_)
        · rw [if_pos hc] at hf
          obtain rfl := hf
          exact K7 _ _ _ hP hD hS (lv_sub hl [0, 1] rfl)
        · rw [if_neg hc] at hf
          refine lv_iinc (v := (v2.2 + 4)) (lv' := [(1, .int (v2.2 + 4)), (0, .int v2.1)]) hx hb dJ6_numberOfTrailingZeros_0f7a4_55 hl (k := 1) rfl rfl (by decide) rfl (fun ls hl => ?_)
          refine lv_iload_n hx hb dJ6_numberOfTrailingZeros_0f7a4_58 rfl (lv_at hl 1 rfl) ?_
          refine lv_iconst (v := 4) hx hb dJ6_numberOfTrailingZeros_0f7a4_59 (by decide) ?_
          refine lv_iushr (v := (jiushr v2.1 4)) hx hb dJ6_numberOfTrailingZeros_0f7a4_60 rfl ?_
          refine lv_istore_n (lv' := [(0, .int (jiushr v2.1 4)), (1, .int (v2.2 + 4))]) hx hb dJ6_numberOfTrailingZeros_0f7a4_61 rfl hl (by decide) rfl (fun ls hl => ?_)
          obtain rfl := hf
          exact K7 _ _ _ hP hD hS (lv_sub hl [0, 1] rfl)
      clear hf; have hf := hv; clear hv
      refine lv_icmp_le (tgt := 49) hx hb dJ6_numberOfTrailingZeros_0f7a4_38 (by decide) (fun hc => ?_) (fun hc => ?_)
      · rw [if_pos hc] at hf
        obtain rfl := hf
        exact K6 _ _ _ hP hD hS (lv_sub hl [0, 1] rfl)
      · rw [if_neg hc] at hf
        refine lv_iinc (v := (v1.2 + 8)) (lv' := [(1, .int (v1.2 + 8)), (0, .int v1.1)]) hx hb dJ6_numberOfTrailingZeros_0f7a4_41 hl (k := 1) rfl rfl (by decide) rfl (fun ls hl => ?_)
        refine lv_iload_n hx hb dJ6_numberOfTrailingZeros_0f7a4_44 rfl (lv_at hl 1 rfl) ?_
        refine lv_bipush (v := 8) hx hb dJ6_numberOfTrailingZeros_0f7a4_45 (by decide) ?_
        refine lv_iushr (v := (jiushr v1.1 8)) hx hb dJ6_numberOfTrailingZeros_0f7a4_47 rfl ?_
        refine lv_istore_n (lv' := [(0, .int (jiushr v1.1 8)), (1, .int (v1.2 + 8))]) hx hb dJ6_numberOfTrailingZeros_0f7a4_48 rfl hl (by decide) rfl (fun ls hl => ?_)
        obtain rfl := hf
        exact K6 _ _ _ hP hD hS (lv_sub hl [0, 1] rfl)
    clear hf; have hf := hv; clear hv
    refine lv_icmp_le (tgt := 34) hx hb dJ6_numberOfTrailingZeros_0f7a4_23 (by decide) (fun hc => ?_) (fun hc => ?_)
    · rw [if_pos hc] at hf
      obtain rfl := hf
      exact K5 _ _ _ hP hD hS (lv_sub hl [1, 0] rfl)
    · rw [if_neg hc] at hf
      refine lv_iinc (v := (1 + 16)) (lv' := [(1, .int (1 + 16)), (0, .int ((xi ^^^ (-1)) &&& (xi - 1)))]) hx hb dJ6_numberOfTrailingZeros_0f7a4_26 hl (k := 0) rfl rfl (by decide) rfl (fun ls hl => ?_)
      refine lv_iload_n hx hb dJ6_numberOfTrailingZeros_0f7a4_29 rfl (lv_at hl 1 rfl) ?_
      refine lv_bipush (v := 16) hx hb dJ6_numberOfTrailingZeros_0f7a4_30 (by decide) ?_
      refine lv_iushr (v := (jiushr ((xi ^^^ (-1)) &&& (xi - 1)) 16)) hx hb dJ6_numberOfTrailingZeros_0f7a4_32 rfl ?_
      refine lv_istore_n (lv' := [(0, .int (jiushr ((xi ^^^ (-1)) &&& (xi - 1)) 16)), (1, .int (1 + 16))]) hx hb dJ6_numberOfTrailingZeros_0f7a4_33 rfl hl (by decide) rfl (fun ls hl => ?_)
      obtain rfl := hf
      exact K5 _ _ _ hP hD hS (lv_sub hl [0, 1] rfl)
  · rw [if_neg hc] at hf
    refine lv_iload_n hx hb dJ6_numberOfTrailingZeros_0f7a4_12 rfl (lv_at hl 0 rfl) ?_
    refine lv_bipush (v := 32) hx hb dJ6_numberOfTrailingZeros_0f7a4_13 (by decide) ?_
    refine lv_iand hx hb dJ6_numberOfTrailingZeros_0f7a4_15 ?_
    obtain rfl := hf
    exact W.iret (v := (((xi ^^^ (-1)) &&& (xi - 1)) &&& 32)) hx hb hr (fun t ht hW => ⟨⟨(((xi ^^^ (-1)) &&& (xi - 1)) &&& 32), (), rfl, rfl, by rw [ht]; exact hP, va_K.moved hW.alike hK, hD⟩, hS.F ht⟩) hS.2.2 dJ6_numberOfTrailingZeros_0f7a4_16
/-! java/lang/Long.numberOfTrailingZeros(J)I -/
def f_J13_numberOfTrailingZeros_95d88 (xb : Int64) : Int32 := if (Int64.toInt32 xb) = 0 then ((32 + (f_J6_numberOfTrailingZeros_0f7a4 (Int64.toInt32 (jushr xb 32))))) else ((f_J6_numberOfTrailingZeros_0f7a4 (Int64.toInt32 xb)))
abbrev rm_J13_numberOfTrailingZeros_95d88 : Room := ({ frames := 1, cells := 0, slots := 0, locals := 21 } : Room)
abbrev A_J13_numberOfTrailingZeros_95d88 (cI cJ : ClassId) (xb : Int64) (sz : Nat) : Nat → Prop := va_A [] sz
abbrev Q_J13_numberOfTrailingZeros_95d88 (dC : Nat → ClassId) (dI : Nat → Nat → Nat) (cI cJ : ClassId) (xb : Int64) (sz : Nat) (R : Int32) : Array Value → State → Outcome → State → Prop := va_Qi (fun (r : Int32) (_ : Unit) => r = R) (fun u_ t => va_P (dC, dI) vwCl [] t.heap ∧ va_K (dC, dI) vwCl [(cI, .int), (cJ, .long)] t ∧ va_D (A_J13_numberOfTrailingZeros_95d88 cI cJ xb sz) []) (A_J13_numberOfTrailingZeros_95d88 cI cJ xb sz)
set_option maxHeartbeats 4000000 in
set_option maxRecDepth 100000 in
theorem c_J13_numberOfTrailingZeros_95d88 (l : Launch) (dC : Nat → ClassId) (dI : Nat → Nat → Nat) (cI cJ : ClassId) (sz : Nat) (xb : Int64) : Met l yJ13_numberOfTrailingZeros_95d88 wsJ13_numberOfTrailingZeros_95d88 rm_J13_numberOfTrailingZeros_95d88 (va_Pc [.long xb] (fun U => U.heap.size = sz ∧ va_P (dC, dI) vwCl [] U.heap ∧ va_K (dC, dI) vwCl [(cI, .int), (cJ, .long)] U ∧ va_D (fun _ => True) [])) (Q_J13_numberOfTrailingZeros_95d88 dC dI cI cJ xb sz (f_J13_numberOfTrailingZeros_95d88 xb)) 0 0 (A_J13_numberOfTrailingZeros_95d88 cI cJ xb sz) := by
  generalize hf : (f_J13_numberOfTrailingZeros_95d88 xb) = R
  refine Met.ofW (cc := cJ13_numberOfTrailingZeros_95d88) (maxL := 3) (ret := (some .int)) (by decide) rfl ?_
  intro p e s m args below meth c s₁ B hml hv
  obtain ⟨hargs, hsz, hP, hK, hD0⟩ := hv
  have hx := B.exec
  have hb := B.bytes
  have hr := B.returns
  have hts := atoms_spec (ws := wsJ13_numberOfTrailingZeros_95d88) B.pre
  have hown : s.vm.findClass RJ13 = some m.cls := findClass_of_methodNamed B.named
  have hlocks := B.notSynchronized
  subst hsz
  have hD : va_D (A_J13_numberOfTrailingZeros_95d88 cI cJ xb s.heap.size) [] := hD0.self (sz := s.heap.size)
  have hA : ∀ q : Nat, s.heap.size ≤ q → (A_J13_numberOfTrailingZeros_95d88 cI cJ xb s.heap.size) q := fun q h => Or.inr h
  have hS : va_S (A_J13_numberOfTrailingZeros_95d88 cI cJ xb s.heap.size) s.heap s.heap [] := va_S.rf
  have hl := lv_entry ([.long xb]) (n := 3) (Nat.le_of_ble_eq_true rfl)
  have he0 : entryFrame m args 3 = entryFrame m ([.long xb] : List Value).toArray 3 := by rw [hargs]
  rw [he0, lg_entry_eq]
  generalize (lg_sl ([.long xb]) ++ List.replicate (3 - (lg_sl ([.long xb])).length) Slot.unset).toArray = ls at hl ⊢
  have hl : lv_has ls 3 [(0, .long xb)] := hl
  rw [f_J13_numberOfTrailingZeros_95d88] at hf
  refine lv_lload_n hx hb dJ13_numberOfTrailingZeros_95d88_0 rfl (lv_at hl 0 rfl) ?_
  refine lv_l2i (v := (Int64.toInt32 xb)) hx hb dJ13_numberOfTrailingZeros_95d88_1 rfl ?_
  refine lv_istore_n (lv' := [(2, .int (Int64.toInt32 xb)), (0, .long xb)]) hx hb dJ13_numberOfTrailingZeros_95d88_2 rfl hl (by decide) rfl (fun ls hl => ?_)
  refine lv_iload_n hx hb dJ13_numberOfTrailingZeros_95d88_3 rfl (lv_at hl 0 rfl) ?_
  refine lv_if_ne (tgt := 21) hx hb dJ13_numberOfTrailingZeros_95d88_4 (by decide) (fun hc => ?_) (fun hc => ?_)
  · rw [if_neg hc] at hf
    refine lv_iload_n hx hb dJ13_numberOfTrailingZeros_95d88_21 rfl (lv_at hl 0 rfl) ?_
    have hPc := hP.sub (ws' := []) [] rfl
    have hDc := hD.sub (ws' := []) [] (by decide) rfl
    have hFc := va_free (wc := []) hD hS hA [] rfl
    refine va_calli (va_runS (As := [.int (Int64.toInt32 xb)]) (rest := []) ⟨hx, hb, hml, hown, hts⟩ (c_J6_numberOfTrailingZeros_0f7a4 l dC dI cI cJ  s.heap.size (Int64.toInt32 xb)) (va_cwS 1 hts gJ13_numberOfTrailingZeros_95d88_J6_numberOfTrailingZeros_0f7a4 rfl rfl rfl (by decide +kernel) ⟨Nat.le_of_ble_eq_true rfl, Nat.le_of_ble_eq_true rfl⟩) ⟨fun a U gg mk q => by obtain ⟨q0, q1, qP, qK, qD⟩ := q; exact ⟨q0, q1, qP, va_K.moved (u := U) (U := U.calling gg mk a) (Vm.Alike.refl U.vm) qK, qD⟩, fun U hU hW => ⟨rfl, by rw [hU], by rw [hU]; exact hPc, va_K.moved hW.alike hK, hDc.weaken (fun _ _ _ _ => trivial)⟩⟩ rfl rfl hl.1 rfl (lv_room (Nat.le_of_ble_eq_true rfl)) dJ13_numberOfTrailingZeros_95d88_22 ⟨Nat.zero_le _, Nat.zero_le _⟩) hS (fun q _ h => hFc q h) hFc (fun r_ u_ t H locs ht hvm hw hB hz1 hk1 hS => ?_)
    obtain rfl := hw.symm
    obtain ⟨hP1, -, hD1⟩ := hB
    rw [ht] at hP1
    obtain ⟨hP, hD⟩ := va_join (wr := []) (w1 := []) hP hD [] [] rfl rfl (by decide) (by decide) hk1 hFc hP1 hD1
    have hP := hP.sub (ws' := []) [] rfl
    have hD := hD.sub (ws' := []) [] (by decide) rfl
    clear hPc hDc hFc hP1 hD1 hk1
    obtain rfl := hf
    exact W.iret (v := (f_J6_numberOfTrailingZeros_0f7a4 (Int64.toInt32 xb))) hx hb hr (fun t ht hW => ⟨⟨(f_J6_numberOfTrailingZeros_0f7a4 (Int64.toInt32 xb)), (), rfl, rfl, by rw [ht]; exact hP, va_K.moved hW.alike hK, hD⟩, hS.F ht⟩) hS.2.2 dJ13_numberOfTrailingZeros_95d88_25
  · rw [if_pos hc] at hf
    refine lv_bipush (v := 32) hx hb dJ13_numberOfTrailingZeros_95d88_7 (by decide) ?_
    refine lv_lload_n hx hb dJ13_numberOfTrailingZeros_95d88_9 rfl (lv_at hl 1 rfl) ?_
    refine lv_bipush (v := 32) hx hb dJ13_numberOfTrailingZeros_95d88_10 (by decide) ?_
    refine lv_lushr (v := (jushr xb 32)) hx hb dJ13_numberOfTrailingZeros_95d88_12 rfl ?_
    refine lv_l2i (v := (Int64.toInt32 (jushr xb 32))) hx hb dJ13_numberOfTrailingZeros_95d88_13 rfl ?_
    have hPc := hP.sub (ws' := []) [] rfl
    have hDc := hD.sub (ws' := []) [] (by decide) rfl
    have hFc := va_free (wc := []) hD hS hA [] rfl
    refine va_calli (va_runS (As := [.int (Int64.toInt32 (jushr xb 32))]) (rest := [.int 32]) ⟨hx, hb, hml, hown, hts⟩ (c_J6_numberOfTrailingZeros_0f7a4 l dC dI cI cJ  s.heap.size (Int64.toInt32 (jushr xb 32))) (va_cwS 1 hts gJ13_numberOfTrailingZeros_95d88_J6_numberOfTrailingZeros_0f7a4 rfl rfl rfl (by decide +kernel) ⟨Nat.le_of_ble_eq_true rfl, Nat.le_of_ble_eq_true rfl⟩) ⟨fun a U gg mk q => by obtain ⟨q0, q1, qP, qK, qD⟩ := q; exact ⟨q0, q1, qP, va_K.moved (u := U) (U := U.calling gg mk a) (Vm.Alike.refl U.vm) qK, qD⟩, fun U hU hW => ⟨rfl, by rw [hU], by rw [hU]; exact hPc, va_K.moved hW.alike hK, hDc.weaken (fun _ _ _ _ => trivial)⟩⟩ rfl rfl hl.1 rfl (lv_room (Nat.le_of_ble_eq_true rfl)) dJ13_numberOfTrailingZeros_95d88_14 ⟨Nat.zero_le _, Nat.zero_le _⟩) hS (fun q _ h => hFc q h) hFc (fun r_ u_ t H locs ht hvm hw hB hz1 hk1 hS => ?_)
    obtain rfl := hw.symm
    obtain ⟨hP1, -, hD1⟩ := hB
    rw [ht] at hP1
    obtain ⟨hP, hD⟩ := va_join (wr := []) (w1 := []) hP hD [] [] rfl rfl (by decide) (by decide) hk1 hFc hP1 hD1
    have hP := hP.sub (ws' := []) [] rfl
    have hD := hD.sub (ws' := []) [] (by decide) rfl
    clear hPc hDc hFc hP1 hD1 hk1
    refine lv_iadd hx hb dJ13_numberOfTrailingZeros_95d88_17 ?_
    refine lv_goto (tgt := 25) hx hb dJ13_numberOfTrailingZeros_95d88_18 (by decide) ?_
    obtain rfl := hf
    exact W.iret (v := (32 + (f_J6_numberOfTrailingZeros_0f7a4 (Int64.toInt32 (jushr xb 32))))) hx hb hr (fun t ht hW => ⟨⟨(32 + (f_J6_numberOfTrailingZeros_0f7a4 (Int64.toInt32 (jushr xb 32)))), (), rfl, rfl, by rw [ht]; exact hP, va_K.moved hW.alike hK, hD⟩, hS.F ht⟩) hS.2.2 dJ13_numberOfTrailingZeros_95d88_25
/-! HedgeGlidersModel$State.has(I)Z -/
def f_X6_has (sS : StS) (ce : Int32) : Int32 := if ((jshr sS.2.2.2 ce) &&& 1) = 1 then (1) else (0)
abbrev rm_X6_has : Room := ({ frames := 0, cells := 0, slots := 0, locals := 0 } : Room)
abbrev A_X6_has (cI cJ : ClassId) (zst zsa : Nat) (sS : StS) (ce : Int32) (sz : Nat) : Nat → Prop := va_A [(zst, .inr (5, [.int sS.1, .int sS.2.1, .int sS.2.2.1, .long sS.2.2.2, .ref zsa]))] sz
abbrev Q_X6_has (dC : Nat → ClassId) (dI : Nat → Nat → Nat) (cI cJ : ClassId) (zst zsa : Nat) (sS : StS) (ce : Int32) (sz : Nat) (R : Int32) : Array Value → State → Outcome → State → Prop := va_Qi (fun (r : Int32) (_ : Unit) => r = R) (fun u_ t => va_P (dC, dI) vwCl [(zst, .inr (5, [.int sS.1, .int sS.2.1, .int sS.2.2.1, .long sS.2.2.2, .ref zsa]))] t.heap ∧ va_K (dC, dI) vwCl [(cI, .int), (cJ, .long)] t ∧ va_D (A_X6_has cI cJ zst zsa sS ce sz) [(zst, .inr (5, [.int sS.1, .int sS.2.1, .int sS.2.2.1, .long sS.2.2.2, .ref zsa]))]) (A_X6_has cI cJ zst zsa sS ce sz)
set_option maxHeartbeats 4000000 in
set_option maxRecDepth 100000 in
theorem c_X6_has (l : Launch) (dC : Nat → ClassId) (dI : Nat → Nat → Nat) (cI cJ : ClassId) (zst zsa : Nat) (sz : Nat) (sS : StS) (ce : Int32) : Met l yX6_has wsX6_has rm_X6_has (va_Pc [.ref zst, .int ce] (fun U => U.heap.size = sz ∧ va_P (dC, dI) vwCl [(zst, .inr (5, [.int sS.1, .int sS.2.1, .int sS.2.2.1, .long sS.2.2.2, .ref zsa]))] U.heap ∧ va_K (dC, dI) vwCl [(cI, .int), (cJ, .long)] U ∧ va_D (fun _ => True) [(zst, .inr (5, [.int sS.1, .int sS.2.1, .int sS.2.2.1, .long sS.2.2.2, .ref zsa]))])) (Q_X6_has dC dI cI cJ zst zsa sS ce sz (f_X6_has sS ce)) 0 0 (A_X6_has cI cJ zst zsa sS ce sz) := by
  generalize hf : (f_X6_has sS ce) = R
  refine Met.ofW (cc := cX6_has) (maxL := 2) (ret := (some .boolean)) (by decide) rfl ?_
  intro p e s m args below meth c s₁ B hml hv
  obtain ⟨hargs, hsz, hP, hK, hD0⟩ := hv
  have hx := B.exec
  have hb := B.bytes
  have hr := B.returns
  have hts := atoms_spec (ws := wsX6_has) B.pre
  have hown : s.vm.findClass RX6 = some m.cls := findClass_of_methodNamed B.named
  have hlocks := B.notSynchronized
  subst hsz
  have hD : va_D (A_X6_has cI cJ zst zsa sS ce s.heap.size) [(zst, .inr (5, [.int sS.1, .int sS.2.1, .int sS.2.2.1, .long sS.2.2.2, .ref zsa]))] := hD0.self (sz := s.heap.size)
  have hA : ∀ q : Nat, s.heap.size ≤ q → (A_X6_has cI cJ zst zsa sS ce s.heap.size) q := fun q h => Or.inr h
  have hS : va_S (A_X6_has cI cJ zst zsa sS ce s.heap.size) s.heap s.heap [] := va_S.rf
  have hinX6 : ∀ w ∈ wsX60, w ∈ wsX6_has := by decide +kernel
  have hw0 := hts (.fieldLink RX6 25 "HedgeGlidersModel$State" "hedges" "J") (by decide +kernel)
  have hl := lv_entry ([.ref zst, .int ce]) (n := 2) (Nat.le_of_ble_eq_true rfl)
  have he0 : entryFrame m args 2 = entryFrame m ([.ref zst, .int ce] : List Value).toArray 2 := by rw [hargs]
  rw [he0, lg_entry_eq]
  generalize (lg_sl ([.ref zst, .int ce]) ++ List.replicate (2 - (lg_sl ([.ref zst, .int ce])).length) Slot.unset).toArray = ls at hl ⊢
  have hl : lv_has ls 2 [(0, .ref zst), (1, .int ce)] := hl
  rw [f_X6_has] at hf
  refine lv_aload_n hx hb dX6_has_0 rfl (lv_at hl 0 rfl) ?_
  refine va_get (D := (dC, dI)) (ci := 5) (v := .long sS.2.2.2) (C := RX6) (T := TX6) (N := 5) hx hb hts hinX6 hown hK hP 0 rfl rfl 3 (by decide) hw0 (fun _ h9 => h9) rfl dX6_has_1 ?_
  refine lv_iload_n hx hb dX6_has_4 rfl (lv_at hl 1 rfl) ?_
  refine lv_lshr (v := (jshr sS.2.2.2 ce)) hx hb dX6_has_5 rfl ?_
  refine lv_lconst (v := 1) hx hb dX6_has_6 (by decide) ?_
  refine lv_land hx hb dX6_has_7 ?_
  refine lv_lconst (v := 1) hx hb dX6_has_8 (by decide) ?_
  refine W.lcmp hx hb dX6_has_9 ?_
  refine lv_if_ne (tgt := 17) hx hb dX6_has_10 (by decide) (fun hc => ?_) (fun hc => ?_)
  · have hc := fun h9 => hc (lgz.mpr h9)
    rw [if_neg hc] at hf
    refine lv_iconst (v := 0) hx hb dX6_has_17 (by decide) ?_
    obtain rfl := hf
    exact W.zret (v := 0) (ty := .boolean) hx hb hr rfl (fun t ht hW => ⟨⟨0, (), rfl, rfl, by rw [ht]; exact hP, va_K.moved hW.alike hK, hD⟩, hS.F ht⟩) hS.2.2 dX6_has_18
  · have hc := lgz.mp hc
    rw [if_pos hc] at hf
    refine lv_iconst (v := 1) hx hb dX6_has_13 (by decide) ?_
    refine lv_goto (tgt := 18) hx hb dX6_has_14 (by decide) ?_
    obtain rfl := hf
    exact W.zret (v := 1) (ty := .boolean) hx hb hr rfl (fun t ht hW => ⟨⟨1, (), rfl, rfl, by rw [ht]; exact hP, va_K.moved hW.alike hK, hD⟩, hS.F ht⟩) hS.2.2 dX6_has_18
/-! HedgeGlidersModel$State.plant(I)V -/
def f_X6_plant (sS : StS) (aS : Nat → Int32) (ce : Int32) : Option (StS × (Nat → Int32)) := if ce < 0 ∨ 64 ≤ ce.toNatClampNeg then none else some ((sS.1, sS.2.1, sS.2.2.1, (sS.2.2.2 ||| (jshl 1 ce))), (upd aS ce.toNatClampNeg 0))
abbrev rm_X6_plant : Room := ({ frames := 0, cells := 0, slots := 0, locals := 0 } : Room)
abbrev A_X6_plant (cI cJ : ClassId) (zst zsa : Nat) (sS : StS) (aS : Nat → Int32) (ce : Int32) (sz : Nat) : Nat → Prop := va_A [(zst, .inr (5, [.int sS.1, .int sS.2.1, .int sS.2.2.1, .long sS.2.2.2, .ref zsa])), (zsa, .inl (cI, 64, .inl aS))] sz
abbrev Q_X6_plant (dC : Nat → ClassId) (dI : Nat → Nat → Nat) (cI cJ : ClassId) (zst zsa : Nat) (sS : StS) (aS : Nat → Int32) (ce : Int32) (sz : Nat) (R : StS × (Nat → Int32)) : Array Value → State → Outcome → State → Prop := va_Qv (fun _ : Unit => True) (fun u_ t => va_P (dC, dI) vwCl [(zst, .inr (5, [.int R.1.1, .int R.1.2.1, .int R.1.2.2.1, .long R.1.2.2.2, .ref zsa])), (zsa, .inl (cI, 64, .inl R.2))] t.heap ∧ va_K (dC, dI) vwCl [(cI, .int), (cJ, .long)] t ∧ va_D (A_X6_plant cI cJ zst zsa sS aS ce sz) [(zst, .inr (5, [.int R.1.1, .int R.1.2.1, .int R.1.2.2.1, .long R.1.2.2.2, .ref zsa])), (zsa, .inl (cI, 64, .inl R.2))]) (A_X6_plant cI cJ zst zsa sS aS ce sz)
set_option maxHeartbeats 4000000 in
set_option maxRecDepth 100000 in
theorem c_X6_plant (l : Launch) (dC : Nat → ClassId) (dI : Nat → Nat → Nat) (cI cJ : ClassId) (zst zsa : Nat) (sz : Nat) (sS : StS) (aS : Nat → Int32) (ce : Int32) (R : StS × (Nat → Int32)) (hR : f_X6_plant sS aS ce = some R) : Met l yX6_plant wsX6_plant rm_X6_plant (va_Pc [.ref zst, .int ce] (fun U => U.heap.size = sz ∧ va_P (dC, dI) vwCl [(zst, .inr (5, [.int sS.1, .int sS.2.1, .int sS.2.2.1, .long sS.2.2.2, .ref zsa])), (zsa, .inl (cI, 64, .inl aS))] U.heap ∧ va_K (dC, dI) vwCl [(cI, .int), (cJ, .long)] U ∧ va_D (fun _ => True) [(zst, .inr (5, [.int sS.1, .int sS.2.1, .int sS.2.2.1, .long sS.2.2.2, .ref zsa])), (zsa, .inl (cI, 64, .inl aS))])) (Q_X6_plant dC dI cI cJ zst zsa sS aS ce sz R) 0 0 (A_X6_plant cI cJ zst zsa sS aS ce sz) := by
  have hf := hR
  refine Met.ofW (cc := cX6_plant) (maxL := 2) (ret := none) (by decide) rfl ?_
  intro p e s m args below meth c s₁ B hml hv
  obtain ⟨hargs, hsz, hP, hK, hD0⟩ := hv
  have hx := B.exec
  have hb := B.bytes
  have hr := B.returns
  have hts := atoms_spec (ws := wsX6_plant) B.pre
  have hown : s.vm.findClass RX6 = some m.cls := findClass_of_methodNamed B.named
  have hlocks := B.notSynchronized
  subst hsz
  have hD : va_D (A_X6_plant cI cJ zst zsa sS aS ce s.heap.size) [(zst, .inr (5, [.int sS.1, .int sS.2.1, .int sS.2.2.1, .long sS.2.2.2, .ref zsa])), (zsa, .inl (cI, 64, .inl aS))] := hD0.self (sz := s.heap.size)
  have hA : ∀ q : Nat, s.heap.size ≤ q → (A_X6_plant cI cJ zst zsa sS aS ce s.heap.size) q := fun q h => Or.inr h
  have hS : va_S (A_X6_plant cI cJ zst zsa sS aS ce s.heap.size) s.heap s.heap [] := va_S.rf
  have hinX6 : ∀ w ∈ wsX60, w ∈ wsX6_plant := by decide +kernel
  have hw0 := hts (.fieldLink RX6 25 "HedgeGlidersModel$State" "hedges" "J") (by decide +kernel)
  have hw1 := hts (.fieldLink RX6 9 "HedgeGlidersModel$State" "ages" "[I") (by decide +kernel)
  have hl := lv_entry ([.ref zst, .int ce]) (n := 2) (Nat.le_of_ble_eq_true rfl)
  have he0 : entryFrame m args 2 = entryFrame m ([.ref zst, .int ce] : List Value).toArray 2 := by rw [hargs]
  rw [he0, lg_entry_eq]
  generalize (lg_sl ([.ref zst, .int ce]) ++ List.replicate (2 - (lg_sl ([.ref zst, .int ce])).length) Slot.unset).toArray = ls at hl ⊢
  have hl : lv_has ls 2 [(0, .ref zst), (1, .int ce)] := hl
  rw [f_X6_plant] at hf
  refine lv_aload_n hx hb dX6_plant_0 rfl (lv_at hl 0 rfl) ?_
  refine lv_dup hx hb dX6_plant_1 rfl ?_
  refine va_get (D := (dC, dI)) (ci := 5) (v := .long sS.2.2.2) (C := RX6) (T := TX6) (N := 5) hx hb hts hinX6 hown hK hP 0 rfl rfl 3 (by decide) hw0 (fun _ h9 => h9) rfl dX6_plant_2 ?_
  refine lv_lconst (v := 1) hx hb dX6_plant_5 (by decide) ?_
  refine lv_iload_n hx hb dX6_plant_6 rfl (lv_at hl 1 rfl) ?_
  refine lv_lshl (v := (jshl 1 ce)) hx hb dX6_plant_7 rfl ?_
  refine lv_lor hx hb dX6_plant_8 ?_
  refine va_put (D := (dC, dI)) (ci := 5) (v := .long (sS.2.2.2 ||| (jshl 1 ce))) (ty := .long) (C := RX6) (T := TX6) (N := 5) hx hb hts hinX6 tyX6 tyX6_ok nmX6 hown hK hP hD hS 0 rfl rfl 3 (by decide) hw0 (fun _ h9 => h9) rfl (by decide +kernel) rfl rfl (Nat.le_of_ble_eq_true rfl) dX6_plant_9 (fun H locs hP hD hS => ?_)
  have hP : va_P (dC, dI) vwCl [(zst, .inr (5, [.int sS.1, .int sS.2.1, .int sS.2.2.1, .long (sS.2.2.2 ||| (jshl 1 ce)), .ref zsa])), (zsa, .inl (cI, 64, .inl aS))] H := hP
  have hD : va_D (A_X6_plant cI cJ zst zsa sS aS ce s.heap.size) [(zst, .inr (5, [.int sS.1, .int sS.2.1, .int sS.2.2.1, .long (sS.2.2.2 ||| (jshl 1 ce)), .ref zsa])), (zsa, .inl (cI, 64, .inl aS))] := hD
  refine lv_aload_n hx hb dX6_plant_12 rfl (lv_at hl 0 rfl) ?_
  refine va_get (D := (dC, dI)) (ci := 5) (v := .ref zsa) (C := RX6) (T := TX6) (N := 5) hx hb hts hinX6 hown hK hP 0 rfl rfl 4 (by decide) hw1 (fun _ h9 => h9) rfl dX6_plant_13 ?_
  refine lv_iload_n hx hb dX6_plant_16 rfl (lv_at hl 1 rfl) ?_
  refine lv_iconst (v := 0) hx hb dX6_plant_17 (by decide) ?_
  have hg0 : ¬ (ce < 0 ∨ 64 ≤ ce.toNatClampNeg) := fun hq => by rw [if_pos hq] at hf; exact nomatch hf
  rw [if_neg hg0] at hf
  have hg : vp_in ce 64 := hg0
  refine va_iast hx hb hK hP hD hS 1 0 rfl rfl hg dX6_plant_18 (fun H locs hP hD hS => ?_)
  have hP : va_P (dC, dI) vwCl [(zst, .inr (5, [.int sS.1, .int sS.2.1, .int sS.2.2.1, .long (sS.2.2.2 ||| (jshl 1 ce)), .ref zsa])), (zsa, .inl (cI, 64, .inl (upd aS ce.toNatClampNeg 0)))] H := hP
  have hD : va_D (A_X6_plant cI cJ zst zsa sS aS ce s.heap.size) [(zst, .inr (5, [.int sS.1, .int sS.2.1, .int sS.2.2.1, .long (sS.2.2.2 ||| (jshl 1 ce)), .ref zsa])), (zsa, .inl (cI, 64, .inl (upd aS ce.toNatClampNeg 0)))] := hD
  obtain rfl := Option.some.inj hf
  exact W.vret hx hb hr (fun t ht hW => ⟨⟨(), rfl, trivial, by rw [ht]; exact hP, va_K.moved hW.alike hK, hD⟩, hS.F ht⟩) hS.2.2 dX6_plant_19
/-! HedgeGlidersModel$State.become(LHedgeGlidersModel$State;)LHedgeGlidersModel$State; -/
def f_X6_become (sS : StS) (aS : Nat → Int32) (sW : StS) (aW : Nat → Int32) : StS × (Nat → Int32) := (sW, (va_cpy aW aS 0 0 64))
abbrev rm_X6_become : Room := ({ frames := 1, cells := 0, slots := 0, locals := 60 } : Room)
abbrev A_X6_become (cI cJ : ClassId) (zst zsa zwo zwq : Nat) (sS : StS) (aS : Nat → Int32) (sW : StS) (aW : Nat → Int32) (sz : Nat) : Nat → Prop := va_A [(zst, .inr (5, [.int sS.1, .int sS.2.1, .int sS.2.2.1, .long sS.2.2.2, .ref zsa])), (zsa, .inl (cI, 64, .inl aS)), (zwo, .inr (5, [.int sW.1, .int sW.2.1, .int sW.2.2.1, .long sW.2.2.2, .ref zwq])), (zwq, .inl (cI, 64, .inl aW))] sz
abbrev Q_X6_become (dC : Nat → ClassId) (dI : Nat → Nat → Nat) (cI cJ : ClassId) (zst zsa zwo zwq : Nat) (sS : StS) (aS : Nat → Int32) (sW : StS) (aW : Nat → Int32) (sz : Nat) (R : StS × (Nat → Int32)) : Array Value → State → Outcome → State → Prop := va_Qr (fun _ : Unit => True) (fun u_ ra t => ra = zst ∧ va_P (dC, dI) vwCl [(zst, .inr (5, [.int R.1.1, .int R.1.2.1, .int R.1.2.2.1, .long R.1.2.2.2, .ref zsa])), (zsa, .inl (cI, 64, .inl R.2)), (zwo, .inr (5, [.int sW.1, .int sW.2.1, .int sW.2.2.1, .long sW.2.2.2, .ref zwq])), (zwq, .inl (cI, 64, .inl aW))] t.heap ∧ va_K (dC, dI) vwCl [(cI, .int), (cJ, .long)] t ∧ va_D (A_X6_become cI cJ zst zsa zwo zwq sS aS sW aW sz) [(zst, .inr (5, [.int R.1.1, .int R.1.2.1, .int R.1.2.2.1, .long R.1.2.2.2, .ref zsa])), (zsa, .inl (cI, 64, .inl R.2)), (zwo, .inr (5, [.int sW.1, .int sW.2.1, .int sW.2.2.1, .long sW.2.2.2, .ref zwq])), (zwq, .inl (cI, 64, .inl aW))]) (A_X6_become cI cJ zst zsa zwo zwq sS aS sW aW sz)
set_option maxHeartbeats 4000000 in
set_option maxRecDepth 100000 in
theorem c_X6_become (l : Launch) (dC : Nat → ClassId) (dI : Nat → Nat → Nat) (cI cJ : ClassId) (zst zsa zwo zwq : Nat) (sz : Nat) (sS : StS) (aS : Nat → Int32) (sW : StS) (aW : Nat → Int32) : Met l yX6_become wsX6_become rm_X6_become (va_Pc [.ref zst, .ref zwo] (fun U => U.heap.size = sz ∧ va_P (dC, dI) vwCl [(zst, .inr (5, [.int sS.1, .int sS.2.1, .int sS.2.2.1, .long sS.2.2.2, .ref zsa])), (zsa, .inl (cI, 64, .inl aS)), (zwo, .inr (5, [.int sW.1, .int sW.2.1, .int sW.2.2.1, .long sW.2.2.2, .ref zwq])), (zwq, .inl (cI, 64, .inl aW))] U.heap ∧ va_K (dC, dI) vwCl [(cI, .int), (cJ, .long)] U ∧ va_D (fun _ => True) [(zst, .inr (5, [.int sS.1, .int sS.2.1, .int sS.2.2.1, .long sS.2.2.2, .ref zsa])), (zsa, .inl (cI, 64, .inl aS)), (zwo, .inr (5, [.int sW.1, .int sW.2.1, .int sW.2.2.1, .long sW.2.2.2, .ref zwq])), (zwq, .inl (cI, 64, .inl aW))])) (Q_X6_become dC dI cI cJ zst zsa zwo zwq sS aS sW aW sz (f_X6_become sS aS sW aW)) 0 0 (A_X6_become cI cJ zst zsa zwo zwq sS aS sW aW sz) := by
  generalize hf : (f_X6_become sS aS sW aW) = R
  refine Met.ofW (cc := cX6_become) (maxL := 2) (ret := (some (.object "HedgeGlidersModel$State"))) (by decide) rfl ?_
  intro p e s m args below meth c s₁ B hml hv
  obtain ⟨hargs, hsz, hP, hK, hD0⟩ := hv
  have hx := B.exec
  have hb := B.bytes
  have hr := B.returns
  have hts := atoms_spec (ws := wsX6_become) B.pre
  have hown : s.vm.findClass RX6 = some m.cls := findClass_of_methodNamed B.named
  have hlocks := B.notSynchronized
  subst hsz
  have hD : va_D (A_X6_become cI cJ zst zsa zwo zwq sS aS sW aW s.heap.size) [(zst, .inr (5, [.int sS.1, .int sS.2.1, .int sS.2.2.1, .long sS.2.2.2, .ref zsa])), (zsa, .inl (cI, 64, .inl aS)), (zwo, .inr (5, [.int sW.1, .int sW.2.1, .int sW.2.2.1, .long sW.2.2.2, .ref zwq])), (zwq, .inl (cI, 64, .inl aW))] := hD0.self (sz := s.heap.size)
  have hA : ∀ q : Nat, s.heap.size ≤ q → (A_X6_become cI cJ zst zsa zwo zwq sS aS sW aW s.heap.size) q := fun q h => Or.inr h
  have hS : va_S (A_X6_become cI cJ zst zsa zwo zwq sS aS sW aW s.heap.size) s.heap s.heap [] := va_S.rf
  have hinX6 : ∀ w ∈ wsX60, w ∈ wsX6_become := by decide +kernel
  have hw0 := hts (.fieldLink RX6 15 "HedgeGlidersModel$State" "year" "I") (by decide +kernel)
  have hw1 := hts (.fieldLink RX6 19 "HedgeGlidersModel$State" "born" "I") (by decide +kernel)
  have hw2 := hts (.fieldLink RX6 22 "HedgeGlidersModel$State" "dead" "I") (by decide +kernel)
  have hw3 := hts (.fieldLink RX6 25 "HedgeGlidersModel$State" "hedges" "J") (by decide +kernel)
  have hw4 := hts (.fieldLink RX6 9 "HedgeGlidersModel$State" "ages" "[I") (by decide +kernel)
  have hw5 := hts (.methodLink RX6 29 arraycopyName) (by decide +kernel)
  have hw6 := hts (.native arraycopyName) (by decide +kernel)
  have hw7 := hts (.static arraycopyName) (by decide +kernel)
  have hw8 := hts (.initialized "java/lang/System") (by decide +kernel)
  have hl := lv_entry ([.ref zst, .ref zwo]) (n := 2) (Nat.le_of_ble_eq_true rfl)
  have he0 : entryFrame m args 2 = entryFrame m ([.ref zst, .ref zwo] : List Value).toArray 2 := by rw [hargs]
  rw [he0, lg_entry_eq]
  generalize (lg_sl ([.ref zst, .ref zwo]) ++ List.replicate (2 - (lg_sl ([.ref zst, .ref zwo])).length) Slot.unset).toArray = ls at hl ⊢
  have hl : lv_has ls 2 [(0, .ref zst), (1, .ref zwo)] := hl
  rw [f_X6_become] at hf
  refine lv_aload_n hx hb dX6_become_0 rfl (lv_at hl 0 rfl) ?_
  refine lv_aload_n hx hb dX6_become_1 rfl (lv_at hl 1 rfl) ?_
  refine va_get (D := (dC, dI)) (ci := 5) (v := .int sW.1) (C := RX6) (T := TX6) (N := 5) hx hb hts hinX6 hown hK hP 2 rfl rfl 0 (by decide) hw0 (fun _ h9 => h9) rfl dX6_become_2 ?_
  refine va_put (D := (dC, dI)) (ci := 5) (v := .int sW.1) (ty := .int) (C := RX6) (T := TX6) (N := 5) hx hb hts hinX6 tyX6 tyX6_ok nmX6 hown hK hP hD hS 0 rfl rfl 0 (by decide) hw0 (fun _ h9 => h9) rfl (by decide +kernel) rfl rfl (Nat.le_of_ble_eq_true rfl) dX6_become_5 (fun H locs hP hD hS => ?_)
  have hP : va_P (dC, dI) vwCl [(zst, .inr (5, [.int sW.1, .int sS.2.1, .int sS.2.2.1, .long sS.2.2.2, .ref zsa])), (zsa, .inl (cI, 64, .inl aS)), (zwo, .inr (5, [.int sW.1, .int sW.2.1, .int sW.2.2.1, .long sW.2.2.2, .ref zwq])), (zwq, .inl (cI, 64, .inl aW))] H := hP
  have hD : va_D (A_X6_become cI cJ zst zsa zwo zwq sS aS sW aW s.heap.size) [(zst, .inr (5, [.int sW.1, .int sS.2.1, .int sS.2.2.1, .long sS.2.2.2, .ref zsa])), (zsa, .inl (cI, 64, .inl aS)), (zwo, .inr (5, [.int sW.1, .int sW.2.1, .int sW.2.2.1, .long sW.2.2.2, .ref zwq])), (zwq, .inl (cI, 64, .inl aW))] := hD
  refine lv_aload_n hx hb dX6_become_8 rfl (lv_at hl 0 rfl) ?_
  refine lv_aload_n hx hb dX6_become_9 rfl (lv_at hl 1 rfl) ?_
  refine va_get (D := (dC, dI)) (ci := 5) (v := .int sW.2.1) (C := RX6) (T := TX6) (N := 5) hx hb hts hinX6 hown hK hP 2 rfl rfl 1 (by decide) hw1 (fun _ h9 => h9) rfl dX6_become_10 ?_
  refine va_put (D := (dC, dI)) (ci := 5) (v := .int sW.2.1) (ty := .int) (C := RX6) (T := TX6) (N := 5) hx hb hts hinX6 tyX6 tyX6_ok nmX6 hown hK hP hD hS 0 rfl rfl 1 (by decide) hw1 (fun _ h9 => h9) rfl (by decide +kernel) rfl rfl (Nat.le_of_ble_eq_true rfl) dX6_become_13 (fun H locs hP hD hS => ?_)
  have hP : va_P (dC, dI) vwCl [(zst, .inr (5, [.int sW.1, .int sW.2.1, .int sS.2.2.1, .long sS.2.2.2, .ref zsa])), (zsa, .inl (cI, 64, .inl aS)), (zwo, .inr (5, [.int sW.1, .int sW.2.1, .int sW.2.2.1, .long sW.2.2.2, .ref zwq])), (zwq, .inl (cI, 64, .inl aW))] H := hP
  have hD : va_D (A_X6_become cI cJ zst zsa zwo zwq sS aS sW aW s.heap.size) [(zst, .inr (5, [.int sW.1, .int sW.2.1, .int sS.2.2.1, .long sS.2.2.2, .ref zsa])), (zsa, .inl (cI, 64, .inl aS)), (zwo, .inr (5, [.int sW.1, .int sW.2.1, .int sW.2.2.1, .long sW.2.2.2, .ref zwq])), (zwq, .inl (cI, 64, .inl aW))] := hD
  refine lv_aload_n hx hb dX6_become_16 rfl (lv_at hl 0 rfl) ?_
  refine lv_aload_n hx hb dX6_become_17 rfl (lv_at hl 1 rfl) ?_
  refine va_get (D := (dC, dI)) (ci := 5) (v := .int sW.2.2.1) (C := RX6) (T := TX6) (N := 5) hx hb hts hinX6 hown hK hP 2 rfl rfl 2 (by decide) hw2 (fun _ h9 => h9) rfl dX6_become_18 ?_
  refine va_put (D := (dC, dI)) (ci := 5) (v := .int sW.2.2.1) (ty := .int) (C := RX6) (T := TX6) (N := 5) hx hb hts hinX6 tyX6 tyX6_ok nmX6 hown hK hP hD hS 0 rfl rfl 2 (by decide) hw2 (fun _ h9 => h9) rfl (by decide +kernel) rfl rfl (Nat.le_of_ble_eq_true rfl) dX6_become_21 (fun H locs hP hD hS => ?_)
  have hP : va_P (dC, dI) vwCl [(zst, .inr (5, [.int sW.1, .int sW.2.1, .int sW.2.2.1, .long sS.2.2.2, .ref zsa])), (zsa, .inl (cI, 64, .inl aS)), (zwo, .inr (5, [.int sW.1, .int sW.2.1, .int sW.2.2.1, .long sW.2.2.2, .ref zwq])), (zwq, .inl (cI, 64, .inl aW))] H := hP
  have hD : va_D (A_X6_become cI cJ zst zsa zwo zwq sS aS sW aW s.heap.size) [(zst, .inr (5, [.int sW.1, .int sW.2.1, .int sW.2.2.1, .long sS.2.2.2, .ref zsa])), (zsa, .inl (cI, 64, .inl aS)), (zwo, .inr (5, [.int sW.1, .int sW.2.1, .int sW.2.2.1, .long sW.2.2.2, .ref zwq])), (zwq, .inl (cI, 64, .inl aW))] := hD
  refine lv_aload_n hx hb dX6_become_24 rfl (lv_at hl 0 rfl) ?_
  refine lv_aload_n hx hb dX6_become_25 rfl (lv_at hl 1 rfl) ?_
  refine va_get (D := (dC, dI)) (ci := 5) (v := .long sW.2.2.2) (C := RX6) (T := TX6) (N := 5) hx hb hts hinX6 hown hK hP 2 rfl rfl 3 (by decide) hw3 (fun _ h9 => h9) rfl dX6_become_26 ?_
  refine va_put (D := (dC, dI)) (ci := 5) (v := .long sW.2.2.2) (ty := .long) (C := RX6) (T := TX6) (N := 5) hx hb hts hinX6 tyX6 tyX6_ok nmX6 hown hK hP hD hS 0 rfl rfl 3 (by decide) hw3 (fun _ h9 => h9) rfl (by decide +kernel) rfl rfl (Nat.le_of_ble_eq_true rfl) dX6_become_29 (fun H locs hP hD hS => ?_)
  have hP : va_P (dC, dI) vwCl [(zst, .inr (5, [.int sW.1, .int sW.2.1, .int sW.2.2.1, .long sW.2.2.2, .ref zsa])), (zsa, .inl (cI, 64, .inl aS)), (zwo, .inr (5, [.int sW.1, .int sW.2.1, .int sW.2.2.1, .long sW.2.2.2, .ref zwq])), (zwq, .inl (cI, 64, .inl aW))] H := hP
  have hD : va_D (A_X6_become cI cJ zst zsa zwo zwq sS aS sW aW s.heap.size) [(zst, .inr (5, [.int sW.1, .int sW.2.1, .int sW.2.2.1, .long sW.2.2.2, .ref zsa])), (zsa, .inl (cI, 64, .inl aS)), (zwo, .inr (5, [.int sW.1, .int sW.2.1, .int sW.2.2.1, .long sW.2.2.2, .ref zwq])), (zwq, .inl (cI, 64, .inl aW))] := hD
  refine lv_aload_n hx hb dX6_become_32 rfl (lv_at hl 1 rfl) ?_
  refine va_get (D := (dC, dI)) (ci := 5) (v := .ref zwq) (C := RX6) (T := TX6) (N := 5) hx hb hts hinX6 hown hK hP 2 rfl rfl 4 (by decide) hw4 (fun _ h9 => h9) rfl dX6_become_33 ?_
  refine lv_iconst (v := 0) hx hb dX6_become_36 (by decide) ?_
  refine lv_aload_n hx hb dX6_become_37 rfl (lv_at hl 0 rfl) ?_
  refine va_get (D := (dC, dI)) (ci := 5) (v := .ref zsa) (C := RX6) (T := TX6) (N := 5) hx hb hts hinX6 hown hK hP 0 rfl rfl 4 (by decide) hw4 (fun _ h9 => h9) rfl dX6_become_38 ?_
  refine lv_iconst (v := 0) hx hb dX6_become_41 (by decide) ?_
  refine lv_bipush (v := 64) hx hb dX6_become_42 (by decide) ?_
  refine va_copyi (sp := 0) (dp := 0) (n := 64) hx hb (hml.trans hl.1.symm) hown hw5 hw6 hw7 hw8 hK hP hD hS 3 1 0 0 rfl rfl rfl rfl rfl (by decide) (by decide) (by decide) (by decide) (by decide) (fun _ _ => rfl) (Nat.le_of_ble_eq_true rfl) (Nat.le_of_ble_eq_true rfl) dX6_become_44 (fun H locs hP hD hS => ?_)
  have hP : va_P (dC, dI) vwCl [(zst, .inr (5, [.int sW.1, .int sW.2.1, .int sW.2.2.1, .long sW.2.2.2, .ref zsa])), (zsa, .inl (cI, 64, .inl (va_cpy aW aS 0 0 64))), (zwo, .inr (5, [.int sW.1, .int sW.2.1, .int sW.2.2.1, .long sW.2.2.2, .ref zwq])), (zwq, .inl (cI, 64, .inl aW))] H := hP
  have hD : va_D (A_X6_become cI cJ zst zsa zwo zwq sS aS sW aW s.heap.size) [(zst, .inr (5, [.int sW.1, .int sW.2.1, .int sW.2.2.1, .long sW.2.2.2, .ref zsa])), (zsa, .inl (cI, 64, .inl (va_cpy aW aS 0 0 64))), (zwo, .inr (5, [.int sW.1, .int sW.2.1, .int sW.2.2.1, .long sW.2.2.2, .ref zwq])), (zwq, .inl (cI, 64, .inl aW))] := hD
  refine lv_aload_n hx hb dX6_become_47 rfl (lv_at hl 0 rfl) ?_
  obtain rfl := hf
  exact W.aret hx hb hr (Or.inl ⟨_, rfl⟩) (Or.inr ⟨_, rfl⟩) (fun t ht hW => ⟨⟨(), zst, rfl, trivial, rfl, by rw [ht]; exact hP, va_K.moved hW.alike hK, hD⟩, hS.F ht⟩) hS.2.2 dX6_become_48
/-! HedgeGlidersModel.thrown()I -/
def f_X7_thrown (mM : MoS) : Int32 := mM.1
abbrev rm_X7_thrown : Room := ({ frames := 0, cells := 0, slots := 0, locals := 0 } : Room)
abbrev A_X7_thrown (cI cJ : ClassId) (zmo zar zbe zst zah zgd : Nat) (mM : MoS) (sz : Nat) : Nat → Prop := va_A [(zmo, .inr (6, [.int mM.1, .int mM.2.1, .int mM.2.2.1, .int (bI mM.2.2.2.1), .int mM.2.2.2.2.1, .int mM.2.2.2.2.2, .ref zar, .ref zbe, .ref zst, .ref zah, .ref zgd]))] sz
abbrev Q_X7_thrown (dC : Nat → ClassId) (dI : Nat → Nat → Nat) (cI cJ : ClassId) (zmo zar zbe zst zah zgd : Nat) (mM : MoS) (sz : Nat) (R : Int32) : Array Value → State → Outcome → State → Prop := va_Qi (fun (r : Int32) (_ : Unit) => r = R) (fun u_ t => va_P (dC, dI) vwCl [(zmo, .inr (6, [.int mM.1, .int mM.2.1, .int mM.2.2.1, .int (bI mM.2.2.2.1), .int mM.2.2.2.2.1, .int mM.2.2.2.2.2, .ref zar, .ref zbe, .ref zst, .ref zah, .ref zgd]))] t.heap ∧ va_K (dC, dI) vwCl [(cI, .int), (cJ, .long)] t ∧ va_D (A_X7_thrown cI cJ zmo zar zbe zst zah zgd mM sz) [(zmo, .inr (6, [.int mM.1, .int mM.2.1, .int mM.2.2.1, .int (bI mM.2.2.2.1), .int mM.2.2.2.2.1, .int mM.2.2.2.2.2, .ref zar, .ref zbe, .ref zst, .ref zah, .ref zgd]))]) (A_X7_thrown cI cJ zmo zar zbe zst zah zgd mM sz)
set_option maxHeartbeats 4000000 in
set_option maxRecDepth 100000 in
theorem c_X7_thrown (l : Launch) (dC : Nat → ClassId) (dI : Nat → Nat → Nat) (cI cJ : ClassId) (zmo zar zbe zst zah zgd : Nat) (sz : Nat) (mM : MoS) : Met l yX7_thrown wsX7_thrown rm_X7_thrown (va_Pc [.ref zmo] (fun U => U.heap.size = sz ∧ va_P (dC, dI) vwCl [(zmo, .inr (6, [.int mM.1, .int mM.2.1, .int mM.2.2.1, .int (bI mM.2.2.2.1), .int mM.2.2.2.2.1, .int mM.2.2.2.2.2, .ref zar, .ref zbe, .ref zst, .ref zah, .ref zgd]))] U.heap ∧ va_K (dC, dI) vwCl [(cI, .int), (cJ, .long)] U ∧ va_D (fun _ => True) [(zmo, .inr (6, [.int mM.1, .int mM.2.1, .int mM.2.2.1, .int (bI mM.2.2.2.1), .int mM.2.2.2.2.1, .int mM.2.2.2.2.2, .ref zar, .ref zbe, .ref zst, .ref zah, .ref zgd]))])) (Q_X7_thrown dC dI cI cJ zmo zar zbe zst zah zgd mM sz (f_X7_thrown mM)) 0 0 (A_X7_thrown cI cJ zmo zar zbe zst zah zgd mM sz) := by
  generalize hf : (f_X7_thrown mM) = R
  refine Met.ofW (cc := cX7_thrown) (maxL := 1) (ret := (some .int)) (by decide) rfl ?_
  intro p e s m args below meth c s₁ B hml hv
  obtain ⟨hargs, hsz, hP, hK, hD0⟩ := hv
  have hx := B.exec
  have hb := B.bytes
  have hr := B.returns
  have hts := atoms_spec (ws := wsX7_thrown) B.pre
  have hown : s.vm.findClass RX7 = some m.cls := findClass_of_methodNamed B.named
  have hlocks := B.notSynchronized
  subst hsz
  have hD : va_D (A_X7_thrown cI cJ zmo zar zbe zst zah zgd mM s.heap.size) [(zmo, .inr (6, [.int mM.1, .int mM.2.1, .int mM.2.2.1, .int (bI mM.2.2.2.1), .int mM.2.2.2.2.1, .int mM.2.2.2.2.2, .ref zar, .ref zbe, .ref zst, .ref zah, .ref zgd]))] := hD0.self (sz := s.heap.size)
  have hA : ∀ q : Nat, s.heap.size ≤ q → (A_X7_thrown cI cJ zmo zar zbe zst zah zgd mM s.heap.size) q := fun q h => Or.inr h
  have hS : va_S (A_X7_thrown cI cJ zmo zar zbe zst zah zgd mM s.heap.size) s.heap s.heap [] := va_S.rf
  have hinX7 : ∀ w ∈ wsX70, w ∈ wsX7_thrown := by decide +kernel
  have hw0 := hts (.fieldLink RX7 45 "HedgeGlidersModel" "thrown" "I") (by decide +kernel)
  have hl := lv_entry ([.ref zmo]) (n := 1) (Nat.le_of_ble_eq_true rfl)
  have he0 : entryFrame m args 1 = entryFrame m ([.ref zmo] : List Value).toArray 1 := by rw [hargs]
  rw [he0, lg_entry_eq]
  generalize (lg_sl ([.ref zmo]) ++ List.replicate (1 - (lg_sl ([.ref zmo])).length) Slot.unset).toArray = ls at hl ⊢
  have hl : lv_has ls 1 [(0, .ref zmo)] := hl
  rw [f_X7_thrown] at hf
  refine lv_aload_n hx hb dX7_thrown_0 rfl (lv_at hl 0 rfl) ?_
  refine va_get (D := (dC, dI)) (ci := 6) (v := .int mM.1) (C := RX7) (T := TX7) (N := 11) hx hb hts hinX7 hown hK hP 0 rfl rfl 0 (by decide) hw0 (fun _ h9 => h9) rfl dX7_thrown_1 ?_
  obtain rfl := hf
  exact W.iret (v := mM.1) hx hb hr (fun t ht hW => ⟨⟨mM.1, (), rfl, rfl, by rw [ht]; exact hP, va_K.moved hW.alike hK, hD⟩, hS.F ht⟩) hS.2.2 dX7_thrown_4
/-! HedgeGlidersModel.no(I)I -/
def f_X7_no (mM : MoS) (nu : Int32) : Int32 × MoS := (0, (nu, mM.2.1, mM.2.2.1, mM.2.2.2.1, mM.2.2.2.2.1, mM.2.2.2.2.2))
abbrev rm_X7_no : Room := ({ frames := 0, cells := 0, slots := 0, locals := 0 } : Room)
abbrev A_X7_no (cI cJ : ClassId) (zmo zar zbe zst zah zgd : Nat) (mM : MoS) (nu : Int32) (sz : Nat) : Nat → Prop := va_A [(zmo, .inr (6, [.int mM.1, .int mM.2.1, .int mM.2.2.1, .int (bI mM.2.2.2.1), .int mM.2.2.2.2.1, .int mM.2.2.2.2.2, .ref zar, .ref zbe, .ref zst, .ref zah, .ref zgd]))] sz
abbrev Q_X7_no (dC : Nat → ClassId) (dI : Nat → Nat → Nat) (cI cJ : ClassId) (zmo zar zbe zst zah zgd : Nat) (mM : MoS) (nu : Int32) (sz : Nat) (R : Int32 × MoS) : Array Value → State → Outcome → State → Prop := va_Qi (fun (r : Int32) (_ : Unit) => r = R.1) (fun u_ t => va_P (dC, dI) vwCl [(zmo, .inr (6, [.int R.2.1, .int R.2.2.1, .int R.2.2.2.1, .int (bI R.2.2.2.2.1), .int R.2.2.2.2.2.1, .int R.2.2.2.2.2.2, .ref zar, .ref zbe, .ref zst, .ref zah, .ref zgd]))] t.heap ∧ va_K (dC, dI) vwCl [(cI, .int), (cJ, .long)] t ∧ va_D (A_X7_no cI cJ zmo zar zbe zst zah zgd mM nu sz) [(zmo, .inr (6, [.int R.2.1, .int R.2.2.1, .int R.2.2.2.1, .int (bI R.2.2.2.2.1), .int R.2.2.2.2.2.1, .int R.2.2.2.2.2.2, .ref zar, .ref zbe, .ref zst, .ref zah, .ref zgd]))]) (A_X7_no cI cJ zmo zar zbe zst zah zgd mM nu sz)
set_option maxHeartbeats 4000000 in
set_option maxRecDepth 100000 in
theorem c_X7_no (l : Launch) (dC : Nat → ClassId) (dI : Nat → Nat → Nat) (cI cJ : ClassId) (zmo zar zbe zst zah zgd : Nat) (sz : Nat) (mM : MoS) (nu : Int32) : Met l yX7_no wsX7_no rm_X7_no (va_Pc [.ref zmo, .int nu] (fun U => U.heap.size = sz ∧ va_P (dC, dI) vwCl [(zmo, .inr (6, [.int mM.1, .int mM.2.1, .int mM.2.2.1, .int (bI mM.2.2.2.1), .int mM.2.2.2.2.1, .int mM.2.2.2.2.2, .ref zar, .ref zbe, .ref zst, .ref zah, .ref zgd]))] U.heap ∧ va_K (dC, dI) vwCl [(cI, .int), (cJ, .long)] U ∧ va_D (fun _ => True) [(zmo, .inr (6, [.int mM.1, .int mM.2.1, .int mM.2.2.1, .int (bI mM.2.2.2.1), .int mM.2.2.2.2.1, .int mM.2.2.2.2.2, .ref zar, .ref zbe, .ref zst, .ref zah, .ref zgd]))])) (Q_X7_no dC dI cI cJ zmo zar zbe zst zah zgd mM nu sz (f_X7_no mM nu)) 0 0 (A_X7_no cI cJ zmo zar zbe zst zah zgd mM nu sz) := by
  generalize hf : (f_X7_no mM nu) = R
  refine Met.ofW (cc := cX7_no) (maxL := 2) (ret := (some .int)) (by decide) rfl ?_
  intro p e s m args below meth c s₁ B hml hv
  obtain ⟨hargs, hsz, hP, hK, hD0⟩ := hv
  have hx := B.exec
  have hb := B.bytes
  have hr := B.returns
  have hts := atoms_spec (ws := wsX7_no) B.pre
  have hown : s.vm.findClass RX7 = some m.cls := findClass_of_methodNamed B.named
  have hlocks := B.notSynchronized
  subst hsz
  have hD : va_D (A_X7_no cI cJ zmo zar zbe zst zah zgd mM nu s.heap.size) [(zmo, .inr (6, [.int mM.1, .int mM.2.1, .int mM.2.2.1, .int (bI mM.2.2.2.1), .int mM.2.2.2.2.1, .int mM.2.2.2.2.2, .ref zar, .ref zbe, .ref zst, .ref zah, .ref zgd]))] := hD0.self (sz := s.heap.size)
  have hA : ∀ q : Nat, s.heap.size ≤ q → (A_X7_no cI cJ zmo zar zbe zst zah zgd mM nu s.heap.size) q := fun q h => Or.inr h
  have hS : va_S (A_X7_no cI cJ zmo zar zbe zst zah zgd mM nu s.heap.size) s.heap s.heap [] := va_S.rf
  have hinX7 : ∀ w ∈ wsX70, w ∈ wsX7_no := by decide +kernel
  have hw0 := hts (.fieldLink RX7 45 "HedgeGlidersModel" "thrown" "I") (by decide +kernel)
  have hl := lv_entry ([.ref zmo, .int nu]) (n := 2) (Nat.le_of_ble_eq_true rfl)
  have he0 : entryFrame m args 2 = entryFrame m ([.ref zmo, .int nu] : List Value).toArray 2 := by rw [hargs]
  rw [he0, lg_entry_eq]
  generalize (lg_sl ([.ref zmo, .int nu]) ++ List.replicate (2 - (lg_sl ([.ref zmo, .int nu])).length) Slot.unset).toArray = ls at hl ⊢
  have hl : lv_has ls 2 [(0, .ref zmo), (1, .int nu)] := hl
  rw [f_X7_no] at hf
  refine lv_aload_n hx hb dX7_no_0 rfl (lv_at hl 0 rfl) ?_
  refine lv_iload_n hx hb dX7_no_1 rfl (lv_at hl 1 rfl) ?_
  refine va_put (D := (dC, dI)) (ci := 6) (v := .int nu) (ty := .int) (C := RX7) (T := TX7) (N := 11) hx hb hts hinX7 tyX7 tyX7_ok nmX7 hown hK hP hD hS 0 rfl rfl 0 (by decide) hw0 (fun _ h9 => h9) rfl (by decide +kernel) rfl rfl (Nat.le_of_ble_eq_true rfl) dX7_no_2 (fun H locs hP hD hS => ?_)
  have hP : va_P (dC, dI) vwCl [(zmo, .inr (6, [.int nu, .int mM.2.1, .int mM.2.2.1, .int (bI mM.2.2.2.1), .int mM.2.2.2.2.1, .int mM.2.2.2.2.2, .ref zar, .ref zbe, .ref zst, .ref zah, .ref zgd]))] H := hP
  have hD : va_D (A_X7_no cI cJ zmo zar zbe zst zah zgd mM nu s.heap.size) [(zmo, .inr (6, [.int nu, .int mM.2.1, .int mM.2.2.1, .int (bI mM.2.2.2.1), .int mM.2.2.2.2.1, .int mM.2.2.2.2.2, .ref zar, .ref zbe, .ref zst, .ref zah, .ref zgd]))] := hD
  refine lv_iconst (v := 0) hx hb dX7_no_5 (by decide) ?_
  obtain rfl := hf
  exact W.iret (v := 0) hx hb hr (fun t ht hW => ⟨⟨0, (), rfl, rfl, by rw [ht]; exact hP, va_K.moved hW.alike hK, hD⟩, hS.F ht⟩) hS.2.2 dX7_no_6
/-! HedgeGlidersModel.isIn(III)Z -/
def f_X7_isIn (vn : Int32) (lo : Int32) (hi : Int32) : Int32 := if vn < lo then (0) else (if hi < vn then (0) else (1))
abbrev rm_X7_isIn : Room := ({ frames := 0, cells := 0, slots := 0, locals := 0 } : Room)
abbrev A_X7_isIn (cI cJ : ClassId) (vn : Int32) (lo : Int32) (hi : Int32) (sz : Nat) : Nat → Prop := va_A [] sz
abbrev Q_X7_isIn (dC : Nat → ClassId) (dI : Nat → Nat → Nat) (cI cJ : ClassId) (vn : Int32) (lo : Int32) (hi : Int32) (sz : Nat) (R : Int32) : Array Value → State → Outcome → State → Prop := va_Qi (fun (r : Int32) (_ : Unit) => r = R) (fun u_ t => va_P (dC, dI) vwCl [] t.heap ∧ va_K (dC, dI) vwCl [(cI, .int), (cJ, .long)] t ∧ va_D (A_X7_isIn cI cJ vn lo hi sz) []) (A_X7_isIn cI cJ vn lo hi sz)
set_option maxHeartbeats 4000000 in
set_option maxRecDepth 100000 in
theorem c_X7_isIn (l : Launch) (dC : Nat → ClassId) (dI : Nat → Nat → Nat) (cI cJ : ClassId) (sz : Nat) (vn : Int32) (lo : Int32) (hi : Int32) : Met l yX7_isIn wsX7_isIn rm_X7_isIn (va_Pc [.int vn, .int lo, .int hi] (fun U => U.heap.size = sz ∧ va_P (dC, dI) vwCl [] U.heap ∧ va_K (dC, dI) vwCl [(cI, .int), (cJ, .long)] U ∧ va_D (fun _ => True) [])) (Q_X7_isIn dC dI cI cJ vn lo hi sz (f_X7_isIn vn lo hi)) 0 0 (A_X7_isIn cI cJ vn lo hi sz) := by
  generalize hf : (f_X7_isIn vn lo hi) = R
  refine Met.ofW (cc := cX7_isIn) (maxL := 3) (ret := (some .boolean)) (by decide) rfl ?_
  intro p e s m args below meth c s₁ B hml hv
  obtain ⟨hargs, hsz, hP, hK, hD0⟩ := hv
  have hx := B.exec
  have hb := B.bytes
  have hr := B.returns
  have hts := atoms_spec (ws := wsX7_isIn) B.pre
  have hown : s.vm.findClass RX7 = some m.cls := findClass_of_methodNamed B.named
  have hlocks := B.notSynchronized
  subst hsz
  have hD : va_D (A_X7_isIn cI cJ vn lo hi s.heap.size) [] := hD0.self (sz := s.heap.size)
  have hA : ∀ q : Nat, s.heap.size ≤ q → (A_X7_isIn cI cJ vn lo hi s.heap.size) q := fun q h => Or.inr h
  have hS : va_S (A_X7_isIn cI cJ vn lo hi s.heap.size) s.heap s.heap [] := va_S.rf
  have hl := lv_entry ([.int vn, .int lo, .int hi]) (n := 3) (Nat.le_of_ble_eq_true rfl)
  have he0 : entryFrame m args 3 = entryFrame m ([.int vn, .int lo, .int hi] : List Value).toArray 3 := by rw [hargs]
  rw [he0, lg_entry_eq]
  generalize (lg_sl ([.int vn, .int lo, .int hi]) ++ List.replicate (3 - (lg_sl ([.int vn, .int lo, .int hi])).length) Slot.unset).toArray = ls at hl ⊢
  have hl : lv_has ls 3 [(0, .int vn), (1, .int lo), (2, .int hi)] := hl
  rw [f_X7_isIn] at hf
  refine lv_iload_n hx hb dX7_isIn_0 rfl (lv_at hl 0 rfl) ?_
  refine lv_iload_n hx hb dX7_isIn_1 rfl (lv_at hl 1 rfl) ?_
  refine lv_icmp_lt (tgt := 14) hx hb dX7_isIn_2 (by decide) (fun hc => ?_) (fun hc => ?_)
  · rw [if_pos hc] at hf
    refine lv_iconst (v := 0) hx hb dX7_isIn_14 (by decide) ?_
    obtain rfl := hf
    exact W.zret (v := 0) (ty := .boolean) hx hb hr rfl (fun t ht hW => ⟨⟨0, (), rfl, rfl, by rw [ht]; exact hP, va_K.moved hW.alike hK, hD⟩, hS.F ht⟩) hS.2.2 dX7_isIn_15
  · rw [if_neg hc] at hf
    refine lv_iload_n hx hb dX7_isIn_5 rfl (lv_at hl 0 rfl) ?_
    refine lv_iload_n hx hb dX7_isIn_6 rfl (lv_at hl 2 rfl) ?_
    refine lv_icmp_gt (tgt := 14) hx hb dX7_isIn_7 (by decide) (fun hc => ?_) (fun hc => ?_)
    · rw [if_pos hc] at hf
      refine lv_iconst (v := 0) hx hb dX7_isIn_14 (by decide) ?_
      obtain rfl := hf
      exact W.zret (v := 0) (ty := .boolean) hx hb hr rfl (fun t ht hW => ⟨⟨0, (), rfl, rfl, by rw [ht]; exact hP, va_K.moved hW.alike hK, hD⟩, hS.F ht⟩) hS.2.2 dX7_isIn_15
    · rw [if_neg hc] at hf
      refine lv_iconst (v := 1) hx hb dX7_isIn_10 (by decide) ?_
      refine lv_goto (tgt := 15) hx hb dX7_isIn_11 (by decide) ?_
      obtain rfl := hf
      exact W.zret (v := 1) (ty := .boolean) hx hb hr rfl (fun t ht hW => ⟨⟨1, (), rfl, rfl, by rw [ht]; exact hP, va_K.moved hW.alike hK, hD⟩, hS.F ht⟩) hS.2.2 dX7_isIn_15
/-! HedgeGlidersModel.isCell(II)Z -/
def f_X7_isCell (mM : MoS) (cx : Int32) (cy : Int32) : Int32 := if (f_X7_isIn cx 0 (mM.2.1 - 1)) = 0 then (0) else (if (f_X7_isIn cy 0 (mM.2.2.1 - 1)) = 0 then (0) else (1))
abbrev rm_X7_isCell : Room := ({ frames := 1, cells := 0, slots := 0, locals := 22 } : Room)
abbrev A_X7_isCell (cI cJ : ClassId) (zmo zar zbe zst zah zgd : Nat) (mM : MoS) (cx : Int32) (cy : Int32) (sz : Nat) : Nat → Prop := va_A [(zmo, .inr (6, [.int mM.1, .int mM.2.1, .int mM.2.2.1, .int (bI mM.2.2.2.1), .int mM.2.2.2.2.1, .int mM.2.2.2.2.2, .ref zar, .ref zbe, .ref zst, .ref zah, .ref zgd]))] sz
abbrev Q_X7_isCell (dC : Nat → ClassId) (dI : Nat → Nat → Nat) (cI cJ : ClassId) (zmo zar zbe zst zah zgd : Nat) (mM : MoS) (cx : Int32) (cy : Int32) (sz : Nat) (R : Int32) : Array Value → State → Outcome → State → Prop := va_Qi (fun (r : Int32) (_ : Unit) => r = R) (fun u_ t => va_P (dC, dI) vwCl [(zmo, .inr (6, [.int mM.1, .int mM.2.1, .int mM.2.2.1, .int (bI mM.2.2.2.1), .int mM.2.2.2.2.1, .int mM.2.2.2.2.2, .ref zar, .ref zbe, .ref zst, .ref zah, .ref zgd]))] t.heap ∧ va_K (dC, dI) vwCl [(cI, .int), (cJ, .long)] t ∧ va_D (A_X7_isCell cI cJ zmo zar zbe zst zah zgd mM cx cy sz) [(zmo, .inr (6, [.int mM.1, .int mM.2.1, .int mM.2.2.1, .int (bI mM.2.2.2.1), .int mM.2.2.2.2.1, .int mM.2.2.2.2.2, .ref zar, .ref zbe, .ref zst, .ref zah, .ref zgd]))]) (A_X7_isCell cI cJ zmo zar zbe zst zah zgd mM cx cy sz)
set_option maxHeartbeats 4000000 in
set_option maxRecDepth 100000 in
theorem c_X7_isCell (l : Launch) (dC : Nat → ClassId) (dI : Nat → Nat → Nat) (cI cJ : ClassId) (zmo zar zbe zst zah zgd : Nat) (sz : Nat) (mM : MoS) (cx : Int32) (cy : Int32) : Met l yX7_isCell wsX7_isCell rm_X7_isCell (va_Pc [.ref zmo, .int cx, .int cy] (fun U => U.heap.size = sz ∧ va_P (dC, dI) vwCl [(zmo, .inr (6, [.int mM.1, .int mM.2.1, .int mM.2.2.1, .int (bI mM.2.2.2.1), .int mM.2.2.2.2.1, .int mM.2.2.2.2.2, .ref zar, .ref zbe, .ref zst, .ref zah, .ref zgd]))] U.heap ∧ va_K (dC, dI) vwCl [(cI, .int), (cJ, .long)] U ∧ va_D (fun _ => True) [(zmo, .inr (6, [.int mM.1, .int mM.2.1, .int mM.2.2.1, .int (bI mM.2.2.2.1), .int mM.2.2.2.2.1, .int mM.2.2.2.2.2, .ref zar, .ref zbe, .ref zst, .ref zah, .ref zgd]))])) (Q_X7_isCell dC dI cI cJ zmo zar zbe zst zah zgd mM cx cy sz (f_X7_isCell mM cx cy)) 0 0 (A_X7_isCell cI cJ zmo zar zbe zst zah zgd mM cx cy sz) := by
  generalize hf : (f_X7_isCell mM cx cy) = R
  refine Met.ofW (cc := cX7_isCell) (maxL := 3) (ret := (some .boolean)) (by decide) rfl ?_
  intro p e s m args below meth c s₁ B hml hv
  obtain ⟨hargs, hsz, hP, hK, hD0⟩ := hv
  have hx := B.exec
  have hb := B.bytes
  have hr := B.returns
  have hts := atoms_spec (ws := wsX7_isCell) B.pre
  have hown : s.vm.findClass RX7 = some m.cls := findClass_of_methodNamed B.named
  have hlocks := B.notSynchronized
  subst hsz
  have hD : va_D (A_X7_isCell cI cJ zmo zar zbe zst zah zgd mM cx cy s.heap.size) [(zmo, .inr (6, [.int mM.1, .int mM.2.1, .int mM.2.2.1, .int (bI mM.2.2.2.1), .int mM.2.2.2.2.1, .int mM.2.2.2.2.2, .ref zar, .ref zbe, .ref zst, .ref zah, .ref zgd]))] := hD0.self (sz := s.heap.size)
  have hA : ∀ q : Nat, s.heap.size ≤ q → (A_X7_isCell cI cJ zmo zar zbe zst zah zgd mM cx cy s.heap.size) q := fun q h => Or.inr h
  have hS : va_S (A_X7_isCell cI cJ zmo zar zbe zst zah zgd mM cx cy s.heap.size) s.heap s.heap [] := va_S.rf
  have hinX7 : ∀ w ∈ wsX70, w ∈ wsX7_isCell := by decide +kernel
  have hw0 := hts (.fieldLink RX7 9 "HedgeGlidersModel" "w" "I") (by decide +kernel)
  have hw1 := hts (.fieldLink RX7 13 "HedgeGlidersModel" "h" "I") (by decide +kernel)
  have hl := lv_entry ([.ref zmo, .int cx, .int cy]) (n := 3) (Nat.le_of_ble_eq_true rfl)
  have he0 : entryFrame m args 3 = entryFrame m ([.ref zmo, .int cx, .int cy] : List Value).toArray 3 := by rw [hargs]
  rw [he0, lg_entry_eq]
  generalize (lg_sl ([.ref zmo, .int cx, .int cy]) ++ List.replicate (3 - (lg_sl ([.ref zmo, .int cx, .int cy])).length) Slot.unset).toArray = ls at hl ⊢
  have hl : lv_has ls 3 [(0, .ref zmo), (1, .int cx), (2, .int cy)] := hl
  rw [f_X7_isCell] at hf
  refine lv_iload_n hx hb dX7_isCell_0 rfl (lv_at hl 1 rfl) ?_
  refine lv_iconst (v := 0) hx hb dX7_isCell_1 (by decide) ?_
  refine lv_aload_n hx hb dX7_isCell_2 rfl (lv_at hl 0 rfl) ?_
  refine va_get (D := (dC, dI)) (ci := 6) (v := .int mM.2.1) (C := RX7) (T := TX7) (N := 11) hx hb hts hinX7 hown hK hP 0 rfl rfl 1 (by decide) hw0 (fun _ h9 => h9) rfl dX7_isCell_3 ?_
  refine lv_iconst (v := 1) hx hb dX7_isCell_6 (by decide) ?_
  refine lv_isub hx hb dX7_isCell_7 ?_
  have hPc := hP.sub (ws' := []) [] rfl
  have hDc := hD.sub (ws' := []) [] (by decide) rfl
  have hFc := va_free (wc := []) hD hS hA [] rfl
  refine va_calli (va_runS (As := [.int cx, .int 0, .int (mM.2.1 - 1)]) (rest := []) ⟨hx, hb, hml, hown, hts⟩ (c_X7_isIn l dC dI cI cJ  s.heap.size cx 0 (mM.2.1 - 1)) (va_cwS 3 hts gX7_isCell_X7_isIn rfl rfl rfl (by decide +kernel) ⟨Nat.le_of_ble_eq_true rfl, Nat.le_of_ble_eq_true rfl⟩) ⟨fun a U gg mk q => by obtain ⟨q0, q1, qP, qK, qD⟩ := q; exact ⟨q0, q1, qP, va_K.moved (u := U) (U := U.calling gg mk a) (Vm.Alike.refl U.vm) qK, qD⟩, fun U hU hW => ⟨rfl, by rw [hU], by rw [hU]; exact hPc, va_K.moved hW.alike hK, hDc.weaken (fun _ _ _ _ => trivial)⟩⟩ rfl rfl hl.1 rfl (lv_room (Nat.le_of_ble_eq_true rfl)) dX7_isCell_8 ⟨Nat.zero_le _, Nat.zero_le _⟩) hS (fun q _ h => hFc q h) hFc (fun r_ u_ t H locs ht hvm hw hB hz1 hk1 hS => ?_)
  obtain rfl := hw.symm
  obtain ⟨hP1, -, hD1⟩ := hB
  rw [ht] at hP1
  obtain ⟨hP, hD⟩ := va_join (wr := [(zmo, .inr (6, [.int mM.1, .int mM.2.1, .int mM.2.2.1, .int (bI mM.2.2.2.1), .int mM.2.2.2.2.1, .int mM.2.2.2.2.2, .ref zar, .ref zbe, .ref zst, .ref zah, .ref zgd]))]) (w1 := []) hP hD [] [0] rfl rfl (by decide) (by decide) hk1 hFc hP1 hD1
  have hP := hP.sub (ws' := [(zmo, .inr (6, [.int mM.1, .int mM.2.1, .int mM.2.2.1, .int (bI mM.2.2.2.1), .int mM.2.2.2.2.1, .int mM.2.2.2.2.2, .ref zar, .ref zbe, .ref zst, .ref zah, .ref zgd]))]) [0] rfl
  have hD := hD.sub (ws' := [(zmo, .inr (6, [.int mM.1, .int mM.2.1, .int mM.2.2.1, .int (bI mM.2.2.2.1), .int mM.2.2.2.2.1, .int mM.2.2.2.2.2, .ref zar, .ref zbe, .ref zst, .ref zah, .ref zgd]))]) [0] (by decide) rfl
  clear hPc hDc hFc hP1 hD1 hk1
  refine lv_if_eq (tgt := 32) hx hb dX7_isCell_11 (by decide) (fun hc => ?_) (fun hc => ?_)
  · rw [if_pos hc] at hf
    refine lv_iconst (v := 0) hx hb dX7_isCell_32 (by decide) ?_
    obtain rfl := hf
    exact W.zret (v := 0) (ty := .boolean) hx hb hr rfl (fun t ht hW => ⟨⟨0, (), rfl, rfl, by rw [ht]; exact hP, va_K.moved hW.alike hK, hD⟩, hS.F ht⟩) hS.2.2 dX7_isCell_33
  · rw [if_neg hc] at hf
    refine lv_iload_n hx hb dX7_isCell_14 rfl (lv_at hl 2 rfl) ?_
    refine lv_iconst (v := 0) hx hb dX7_isCell_15 (by decide) ?_
    refine lv_aload_n hx hb dX7_isCell_16 rfl (lv_at hl 0 rfl) ?_
    refine va_get (D := (dC, dI)) (ci := 6) (v := .int mM.2.2.1) (C := RX7) (T := TX7) (N := 11) hx hb hts hinX7 hown hK hP 0 rfl rfl 2 (by decide) hw1 (fun _ h9 => h9) rfl dX7_isCell_17 ?_
    refine lv_iconst (v := 1) hx hb dX7_isCell_20 (by decide) ?_
    refine lv_isub hx hb dX7_isCell_21 ?_
    have hPc := hP.sub (ws' := []) [] rfl
    have hDc := hD.sub (ws' := []) [] (by decide) rfl
    have hFc := va_free (wc := []) hD hS hA [] rfl
    refine va_calli (va_runS (As := [.int cy, .int 0, .int (mM.2.2.1 - 1)]) (rest := []) ⟨hx, hb, hml, hown, hts⟩ (c_X7_isIn l dC dI cI cJ  H.size cy 0 (mM.2.2.1 - 1)) (va_cwS 3 hts gX7_isCell_X7_isIn rfl rfl rfl (by decide +kernel) ⟨Nat.le_of_ble_eq_true rfl, Nat.le_of_ble_eq_true rfl⟩) ⟨fun a U gg mk q => by obtain ⟨q0, q1, qP, qK, qD⟩ := q; exact ⟨q0, q1, qP, va_K.moved (u := U) (U := U.calling gg mk a) (Vm.Alike.refl U.vm) qK, qD⟩, fun U hU hW => ⟨rfl, by rw [hU], by rw [hU]; exact hPc, va_K.moved hW.alike hK, hDc.weaken (fun _ _ _ _ => trivial)⟩⟩ rfl rfl hl.1 rfl (lv_room (Nat.le_of_ble_eq_true rfl)) dX7_isCell_22 ⟨Nat.zero_le _, Nat.zero_le _⟩) hS (fun q _ h => hFc q h) hFc (fun r_ u_ t H locs ht hvm hw hB hz1 hk1 hS => ?_)
    obtain rfl := hw.symm
    obtain ⟨hP1, -, hD1⟩ := hB
    rw [ht] at hP1
    obtain ⟨hP, hD⟩ := va_join (wr := [(zmo, .inr (6, [.int mM.1, .int mM.2.1, .int mM.2.2.1, .int (bI mM.2.2.2.1), .int mM.2.2.2.2.1, .int mM.2.2.2.2.2, .ref zar, .ref zbe, .ref zst, .ref zah, .ref zgd]))]) (w1 := []) hP hD [] [0] rfl rfl (by decide) (by decide) hk1 hFc hP1 hD1
    have hP := hP.sub (ws' := [(zmo, .inr (6, [.int mM.1, .int mM.2.1, .int mM.2.2.1, .int (bI mM.2.2.2.1), .int mM.2.2.2.2.1, .int mM.2.2.2.2.2, .ref zar, .ref zbe, .ref zst, .ref zah, .ref zgd]))]) [0] rfl
    have hD := hD.sub (ws' := [(zmo, .inr (6, [.int mM.1, .int mM.2.1, .int mM.2.2.1, .int (bI mM.2.2.2.1), .int mM.2.2.2.2.1, .int mM.2.2.2.2.2, .ref zar, .ref zbe, .ref zst, .ref zah, .ref zgd]))]) [0] (by decide) rfl
    clear hPc hDc hFc hP1 hD1 hk1
    refine lv_if_eq (tgt := 32) hx hb dX7_isCell_25 (by decide) (fun hc => ?_) (fun hc => ?_)
    · rw [if_pos hc] at hf
      refine lv_iconst (v := 0) hx hb dX7_isCell_32 (by decide) ?_
      obtain rfl := hf
      exact W.zret (v := 0) (ty := .boolean) hx hb hr rfl (fun t ht hW => ⟨⟨0, (), rfl, rfl, by rw [ht]; exact hP, va_K.moved hW.alike hK, hD⟩, hS.F ht⟩) hS.2.2 dX7_isCell_33
    · rw [if_neg hc] at hf
      refine lv_iconst (v := 1) hx hb dX7_isCell_28 (by decide) ?_
      refine lv_goto (tgt := 33) hx hb dX7_isCell_29 (by decide) ?_
      obtain rfl := hf
      exact W.zret (v := 1) (ty := .boolean) hx hb hr rfl (fun t ht hW => ⟨⟨1, (), rfl, rfl, by rw [ht]; exact hP, va_K.moved hW.alike hK, hD⟩, hS.F ht⟩) hS.2.2 dX7_isCell_33
/-! HedgeGlidersModel.at(II)I -/
def f_X7_at (mM : MoS) (cx : Int32) (cy : Int32) : Option (Int32) := if (f_X7_isCell mM cx cy) = 0 then (if (bI mM.2.2.2.1) = 0 then (some (-1)) else (if mM.2.2.1 = 0 then none else if mM.2.1 = 0 then none else some ((mM.2.1 * ((cy + mM.2.2.1) - (cy + mM.2.2.1) / mM.2.2.1 * mM.2.2.1)) + ((cx + mM.2.1) - (cx + mM.2.1) / mM.2.1 * mM.2.1)))) else (some ((mM.2.1 * cy) + cx))
abbrev rm_X7_at : Room := ({ frames := 2, cells := 0, slots := 0, locals := 44 } : Room)
abbrev A_X7_at (cI cJ : ClassId) (zmo zar zbe zst zah zgd : Nat) (mM : MoS) (cx : Int32) (cy : Int32) (sz : Nat) : Nat → Prop := va_A [(zmo, .inr (6, [.int mM.1, .int mM.2.1, .int mM.2.2.1, .int (bI mM.2.2.2.1), .int mM.2.2.2.2.1, .int mM.2.2.2.2.2, .ref zar, .ref zbe, .ref zst, .ref zah, .ref zgd]))] sz
abbrev Q_X7_at (dC : Nat → ClassId) (dI : Nat → Nat → Nat) (cI cJ : ClassId) (zmo zar zbe zst zah zgd : Nat) (mM : MoS) (cx : Int32) (cy : Int32) (sz : Nat) (R : Int32) : Array Value → State → Outcome → State → Prop := va_Qi (fun (r : Int32) (_ : Unit) => r = R) (fun u_ t => va_P (dC, dI) vwCl [(zmo, .inr (6, [.int mM.1, .int mM.2.1, .int mM.2.2.1, .int (bI mM.2.2.2.1), .int mM.2.2.2.2.1, .int mM.2.2.2.2.2, .ref zar, .ref zbe, .ref zst, .ref zah, .ref zgd]))] t.heap ∧ va_K (dC, dI) vwCl [(cI, .int), (cJ, .long)] t ∧ va_D (A_X7_at cI cJ zmo zar zbe zst zah zgd mM cx cy sz) [(zmo, .inr (6, [.int mM.1, .int mM.2.1, .int mM.2.2.1, .int (bI mM.2.2.2.1), .int mM.2.2.2.2.1, .int mM.2.2.2.2.2, .ref zar, .ref zbe, .ref zst, .ref zah, .ref zgd]))]) (A_X7_at cI cJ zmo zar zbe zst zah zgd mM cx cy sz)
set_option maxHeartbeats 4000000 in
set_option maxRecDepth 100000 in
theorem c_X7_at (l : Launch) (dC : Nat → ClassId) (dI : Nat → Nat → Nat) (cI cJ : ClassId) (zmo zar zbe zst zah zgd : Nat) (sz : Nat) (mM : MoS) (cx : Int32) (cy : Int32) (R : Int32) (hR : f_X7_at mM cx cy = some R) : Met l yX7_at wsX7_at rm_X7_at (va_Pc [.ref zmo, .int cx, .int cy] (fun U => U.heap.size = sz ∧ va_P (dC, dI) vwCl [(zmo, .inr (6, [.int mM.1, .int mM.2.1, .int mM.2.2.1, .int (bI mM.2.2.2.1), .int mM.2.2.2.2.1, .int mM.2.2.2.2.2, .ref zar, .ref zbe, .ref zst, .ref zah, .ref zgd]))] U.heap ∧ va_K (dC, dI) vwCl [(cI, .int), (cJ, .long)] U ∧ va_D (fun _ => True) [(zmo, .inr (6, [.int mM.1, .int mM.2.1, .int mM.2.2.1, .int (bI mM.2.2.2.1), .int mM.2.2.2.2.1, .int mM.2.2.2.2.2, .ref zar, .ref zbe, .ref zst, .ref zah, .ref zgd]))])) (Q_X7_at dC dI cI cJ zmo zar zbe zst zah zgd mM cx cy sz R) 0 0 (A_X7_at cI cJ zmo zar zbe zst zah zgd mM cx cy sz) := by
  have hf := hR
  refine Met.ofW (cc := cX7_at) (maxL := 3) (ret := (some .int)) (by decide) rfl ?_
  intro p e s m args below meth c s₁ B hml hv
  obtain ⟨hargs, hsz, hP, hK, hD0⟩ := hv
  have hx := B.exec
  have hb := B.bytes
  have hr := B.returns
  have hts := atoms_spec (ws := wsX7_at) B.pre
  have hown : s.vm.findClass RX7 = some m.cls := findClass_of_methodNamed B.named
  have hlocks := B.notSynchronized
  subst hsz
  have hD : va_D (A_X7_at cI cJ zmo zar zbe zst zah zgd mM cx cy s.heap.size) [(zmo, .inr (6, [.int mM.1, .int mM.2.1, .int mM.2.2.1, .int (bI mM.2.2.2.1), .int mM.2.2.2.2.1, .int mM.2.2.2.2.2, .ref zar, .ref zbe, .ref zst, .ref zah, .ref zgd]))] := hD0.self (sz := s.heap.size)
  have hA : ∀ q : Nat, s.heap.size ≤ q → (A_X7_at cI cJ zmo zar zbe zst zah zgd mM cx cy s.heap.size) q := fun q h => Or.inr h
  have hS : va_S (A_X7_at cI cJ zmo zar zbe zst zah zgd mM cx cy s.heap.size) s.heap s.heap [] := va_S.rf
  have hinX7 : ∀ w ∈ wsX70, w ∈ wsX7_at := by decide +kernel
  have hw0 := hts (.fieldLink RX7 56 "HedgeGlidersModel" "isRound" "Z") (by decide +kernel)
  have hw1 := hts (.fieldLink RX7 9 "HedgeGlidersModel" "w" "I") (by decide +kernel)
  have hw2 := hts (.fieldLink RX7 13 "HedgeGlidersModel" "h" "I") (by decide +kernel)
  have hl := lv_entry ([.ref zmo, .int cx, .int cy]) (n := 3) (Nat.le_of_ble_eq_true rfl)
  have he0 : entryFrame m args 3 = entryFrame m ([.ref zmo, .int cx, .int cy] : List Value).toArray 3 := by rw [hargs]
  rw [he0, lg_entry_eq]
  generalize (lg_sl ([.ref zmo, .int cx, .int cy]) ++ List.replicate (3 - (lg_sl ([.ref zmo, .int cx, .int cy])).length) Slot.unset).toArray = ls at hl ⊢
  have hl : lv_has ls 3 [(0, .ref zmo), (1, .int cx), (2, .int cy)] := hl
  rw [f_X7_at] at hf
  refine lv_aload_n hx hb dX7_at_0 rfl (lv_at hl 0 rfl) ?_
  refine lv_iload_n hx hb dX7_at_1 rfl (lv_at hl 1 rfl) ?_
  refine lv_iload_n hx hb dX7_at_2 rfl (lv_at hl 2 rfl) ?_
  have hPc := hP.sub (ws' := [(zmo, .inr (6, [.int mM.1, .int mM.2.1, .int mM.2.2.1, .int (bI mM.2.2.2.1), .int mM.2.2.2.2.1, .int mM.2.2.2.2.2, .ref zar, .ref zbe, .ref zst, .ref zah, .ref zgd]))]) [0] rfl
  have hDc := hD.sub (ws' := [(zmo, .inr (6, [.int mM.1, .int mM.2.1, .int mM.2.2.1, .int (bI mM.2.2.2.1), .int mM.2.2.2.2.1, .int mM.2.2.2.2.2, .ref zar, .ref zbe, .ref zst, .ref zah, .ref zgd]))]) [0] (by decide) rfl
  have hFc := va_free (wc := [(zmo, .inr (6, [.int mM.1, .int mM.2.1, .int mM.2.2.1, .int (bI mM.2.2.2.1), .int mM.2.2.2.2.1, .int mM.2.2.2.2.2, .ref zar, .ref zbe, .ref zst, .ref zah, .ref zgd]))]) hD hS hA [0] rfl
  refine va_calli (va_runV (As := [.int cx, .int cy]) (rest := []) ⟨hx, hb, hml, hown, hts⟩ (c_X7_isCell l dC dI cI cJ zmo zar zbe zst zah zgd s.heap.size mM cx cy) (cwV 2 hts gX7_at_X7_isCell rfl rfl rfl (by decide +kernel) ⟨Nat.le_of_ble_eq_true rfl, Nat.le_of_ble_eq_true rfl⟩) ⟨fun a U gg mk q => by obtain ⟨q0, q1, qP, qK, qD⟩ := q; exact ⟨q0, q1, qP, va_K.moved (u := U) (U := U.calling gg mk a) (Vm.Alike.refl U.vm) qK, qD⟩, va_recv hK hPc (ci := 6) (q0 := 0) rfl rfl, fun U hU hW => ⟨rfl, by rw [hU], by rw [hU]; exact hPc, va_K.moved hW.alike hK, hDc.weaken (fun _ _ _ _ => trivial)⟩⟩ rfl rfl hl.1 rfl (lv_room (Nat.le_of_ble_eq_true rfl)) dX7_at_3 ⟨Nat.zero_le _, Nat.zero_le _⟩) hS (fun q _ h => hFc q h) hFc (fun r_ u_ t H locs ht hvm hw hB hz1 hk1 hS => ?_)
  obtain rfl := hw.symm
  obtain ⟨hP1, -, hD1⟩ := hB
  rw [ht] at hP1
  obtain ⟨hP, hD⟩ := va_join (wr := []) (w1 := [(zmo, .inr (6, [.int mM.1, .int mM.2.1, .int mM.2.2.1, .int (bI mM.2.2.2.1), .int mM.2.2.2.2.1, .int mM.2.2.2.2.2, .ref zar, .ref zbe, .ref zst, .ref zah, .ref zgd]))]) hP hD [0] [] rfl rfl (by decide) (by decide) hk1 hFc hP1 hD1
  have hP := hP.sub (ws' := [(zmo, .inr (6, [.int mM.1, .int mM.2.1, .int mM.2.2.1, .int (bI mM.2.2.2.1), .int mM.2.2.2.2.1, .int mM.2.2.2.2.2, .ref zar, .ref zbe, .ref zst, .ref zah, .ref zgd]))]) [0] rfl
  have hD := hD.sub (ws' := [(zmo, .inr (6, [.int mM.1, .int mM.2.1, .int mM.2.2.1, .int (bI mM.2.2.2.1), .int mM.2.2.2.2.1, .int mM.2.2.2.2.2, .ref zar, .ref zbe, .ref zst, .ref zah, .ref zgd]))]) [0] (by decide) rfl
  clear hPc hDc hFc hP1 hD1 hk1
  refine lv_if_eq (tgt := 18) hx hb dX7_at_6 (by decide) (fun hc => ?_) (fun hc => ?_)
  · rw [if_pos hc] at hf
    refine lv_aload_n hx hb dX7_at_18 rfl (lv_at hl 0 rfl) ?_
    refine va_get (D := (dC, dI)) (ci := 6) (v := .int (bI mM.2.2.2.1)) (C := RX7) (T := TX7) (N := 11) hx hb hts hinX7 hown hK hP 0 rfl rfl 3 (by decide) hw0 (fun _ h9 => h9) rfl dX7_at_19 ?_
    refine lv_if_eq (tgt := 56) hx hb dX7_at_22 (by decide) (fun hc => ?_) (fun hc => ?_)
    · rw [if_pos hc] at hf
      refine lv_iconst (v := (-1)) hx hb dX7_at_56 (by decide) ?_
      obtain rfl := Option.some.inj hf
      exact W.iret (v := (-1)) hx hb hr (fun t ht hW => ⟨⟨(-1), (), rfl, rfl, by rw [ht]; exact hP, va_K.moved hW.alike hK, hD⟩, hS.F ht⟩) hS.2.2 dX7_at_57
    · rw [if_neg hc] at hf
      refine lv_aload_n hx hb dX7_at_25 rfl (lv_at hl 0 rfl) ?_
      refine va_get (D := (dC, dI)) (ci := 6) (v := .int mM.2.1) (C := RX7) (T := TX7) (N := 11) hx hb hts hinX7 hown hK hP 0 rfl rfl 1 (by decide) hw1 (fun _ h9 => h9) rfl dX7_at_26 ?_
      refine lv_iload_n hx hb dX7_at_29 rfl (lv_at hl 2 rfl) ?_
      refine lv_aload_n hx hb dX7_at_30 rfl (lv_at hl 0 rfl) ?_
      refine va_get (D := (dC, dI)) (ci := 6) (v := .int mM.2.2.1) (C := RX7) (T := TX7) (N := 11) hx hb hts hinX7 hown hK hP 0 rfl rfl 2 (by decide) hw2 (fun _ h9 => h9) rfl dX7_at_31 ?_
      refine lv_iadd hx hb dX7_at_34 ?_
      refine lv_aload_n hx hb dX7_at_35 rfl (lv_at hl 0 rfl) ?_
      refine va_get (D := (dC, dI)) (ci := 6) (v := .int mM.2.2.1) (C := RX7) (T := TX7) (N := 11) hx hb hts hinX7 hown hK hP 0 rfl rfl 2 (by decide) hw2 (fun _ h9 => h9) rfl dX7_at_36 ?_
      have hg0 : ¬ (mM.2.2.1 = 0) := fun hq => by rw [if_pos hq] at hf; exact nomatch hf
      rw [if_neg hg0] at hf
      have hg := hg0
      refine lv_irem hx hb dX7_at_39 hg ?_
      refine lv_imul hx hb dX7_at_40 ?_
      refine lv_iload_n hx hb dX7_at_41 rfl (lv_at hl 1 rfl) ?_
      refine lv_aload_n hx hb dX7_at_42 rfl (lv_at hl 0 rfl) ?_
      refine va_get (D := (dC, dI)) (ci := 6) (v := .int mM.2.1) (C := RX7) (T := TX7) (N := 11) hx hb hts hinX7 hown hK hP 0 rfl rfl 1 (by decide) hw1 (fun _ h9 => h9) rfl dX7_at_43 ?_
      refine lv_iadd hx hb dX7_at_46 ?_
      refine lv_aload_n hx hb dX7_at_47 rfl (lv_at hl 0 rfl) ?_
      refine va_get (D := (dC, dI)) (ci := 6) (v := .int mM.2.1) (C := RX7) (T := TX7) (N := 11) hx hb hts hinX7 hown hK hP 0 rfl rfl 1 (by decide) hw1 (fun _ h9 => h9) rfl dX7_at_48 ?_
      have hg0 : ¬ (mM.2.1 = 0) := fun hq => by rw [if_pos hq] at hf; exact nomatch hf
      rw [if_neg hg0] at hf
      have hg := hg0
      refine lv_irem hx hb dX7_at_51 hg ?_
      refine lv_iadd hx hb dX7_at_52 ?_
      refine lv_goto (tgt := 57) hx hb dX7_at_53 (by decide) ?_
      obtain rfl := Option.some.inj hf
      exact W.iret (v := ((mM.2.1 * ((cy + mM.2.2.1) - (cy + mM.2.2.1) / mM.2.2.1 * mM.2.2.1)) + ((cx + mM.2.1) - (cx + mM.2.1) / mM.2.1 * mM.2.1))) hx hb hr (fun t ht hW => ⟨⟨((mM.2.1 * ((cy + mM.2.2.1) - (cy + mM.2.2.1) / mM.2.2.1 * mM.2.2.1)) + ((cx + mM.2.1) - (cx + mM.2.1) / mM.2.1 * mM.2.1)), (), rfl, rfl, by rw [ht]; exact hP, va_K.moved hW.alike hK, hD⟩, hS.F ht⟩) hS.2.2 dX7_at_57
  · rw [if_neg hc] at hf
    refine lv_aload_n hx hb dX7_at_9 rfl (lv_at hl 0 rfl) ?_
    refine va_get (D := (dC, dI)) (ci := 6) (v := .int mM.2.1) (C := RX7) (T := TX7) (N := 11) hx hb hts hinX7 hown hK hP 0 rfl rfl 1 (by decide) hw1 (fun _ h9 => h9) rfl dX7_at_10 ?_
    refine lv_iload_n hx hb dX7_at_13 rfl (lv_at hl 2 rfl) ?_
    refine lv_imul hx hb dX7_at_14 ?_
    refine lv_iload_n hx hb dX7_at_15 rfl (lv_at hl 1 rfl) ?_
    refine lv_iadd hx hb dX7_at_16 ?_
    obtain rfl := Option.some.inj hf
    exact W.iret (v := ((mM.2.1 * cy) + cx)) hx hb hr (fun t ht hW => ⟨⟨((mM.2.1 * cy) + cx), (), rfl, rfl, by rw [ht]; exact hP, va_K.moved hW.alike hK, hD⟩, hS.F ht⟩) hS.2.2 dX7_at_17
/-! HedgeGlidersModel.bit(I)J -/
def f_X7_bit (ce : Int32) : Int64 := if ce = (-1) then (0) else ((jshl 1 ce))
abbrev rm_X7_bit : Room := ({ frames := 0, cells := 0, slots := 0, locals := 0 } : Room)
abbrev A_X7_bit (cI cJ : ClassId) (ce : Int32) (sz : Nat) : Nat → Prop := va_A [] sz
abbrev Q_X7_bit (dC : Nat → ClassId) (dI : Nat → Nat → Nat) (cI cJ : ClassId) (ce : Int32) (sz : Nat) (R : Int64) : Array Value → State → Outcome → State → Prop := va_Ql (fun (r : Int64) (_ : Unit) => r = R) (fun u_ t => va_P (dC, dI) vwCl [] t.heap ∧ va_K (dC, dI) vwCl [(cI, .int), (cJ, .long)] t ∧ va_D (A_X7_bit cI cJ ce sz) []) (A_X7_bit cI cJ ce sz)
set_option maxHeartbeats 4000000 in
set_option maxRecDepth 100000 in
theorem c_X7_bit (l : Launch) (dC : Nat → ClassId) (dI : Nat → Nat → Nat) (cI cJ : ClassId) (sz : Nat) (ce : Int32) : Met l yX7_bit wsX7_bit rm_X7_bit (va_Pc [.int ce] (fun U => U.heap.size = sz ∧ va_P (dC, dI) vwCl [] U.heap ∧ va_K (dC, dI) vwCl [(cI, .int), (cJ, .long)] U ∧ va_D (fun _ => True) [])) (Q_X7_bit dC dI cI cJ ce sz (f_X7_bit ce)) 0 0 (A_X7_bit cI cJ ce sz) := by
  generalize hf : (f_X7_bit ce) = R
  refine Met.ofW (cc := cX7_bit) (maxL := 1) (ret := (some .long)) (by decide) rfl ?_
  intro p e s m args below meth c s₁ B hml hv
  obtain ⟨hargs, hsz, hP, hK, hD0⟩ := hv
  have hx := B.exec
  have hb := B.bytes
  have hr := B.returns
  have hts := atoms_spec (ws := wsX7_bit) B.pre
  have hown : s.vm.findClass RX7 = some m.cls := findClass_of_methodNamed B.named
  have hlocks := B.notSynchronized
  subst hsz
  have hD : va_D (A_X7_bit cI cJ ce s.heap.size) [] := hD0.self (sz := s.heap.size)
  have hA : ∀ q : Nat, s.heap.size ≤ q → (A_X7_bit cI cJ ce s.heap.size) q := fun q h => Or.inr h
  have hS : va_S (A_X7_bit cI cJ ce s.heap.size) s.heap s.heap [] := va_S.rf
  have hl := lv_entry ([.int ce]) (n := 1) (Nat.le_of_ble_eq_true rfl)
  have he0 : entryFrame m args 1 = entryFrame m ([.int ce] : List Value).toArray 1 := by rw [hargs]
  rw [he0, lg_entry_eq]
  generalize (lg_sl ([.int ce]) ++ List.replicate (1 - (lg_sl ([.int ce])).length) Slot.unset).toArray = ls at hl ⊢
  have hl : lv_has ls 1 [(0, .int ce)] := hl
  rw [f_X7_bit] at hf
  refine lv_iload_n hx hb dX7_bit_0 rfl (lv_at hl 0 rfl) ?_
  refine lv_iconst (v := (-1)) hx hb dX7_bit_1 (by decide) ?_
  refine lv_icmp_ne (tgt := 9) hx hb dX7_bit_2 (by decide) (fun hc => ?_) (fun hc => ?_)
  · rw [if_neg hc] at hf
    refine lv_lconst (v := 1) hx hb dX7_bit_9 (by decide) ?_
    refine lv_iload_n hx hb dX7_bit_10 rfl (lv_at hl 0 rfl) ?_
    refine lv_lshl (v := (jshl 1 ce)) hx hb dX7_bit_11 rfl ?_
    obtain rfl := hf
    exact W.lret (v := (jshl 1 ce)) hx hb hr (fun t ht hW => ⟨⟨(jshl 1 ce), (), rfl, rfl, by rw [ht]; exact hP, va_K.moved hW.alike hK, hD⟩, hS.F ht⟩) hS.2.2 dX7_bit_12
  · rw [if_pos hc] at hf
    refine lv_lconst (v := 0) hx hb dX7_bit_5 (by decide) ?_
    refine lv_goto (tgt := 12) hx hb dX7_bit_6 (by decide) ?_
    obtain rfl := hf
    exact W.lret (v := 0) hx hb hr (fun t ht hW => ⟨⟨0, (), rfl, rfl, by rw [ht]; exact hP, va_K.moved hW.alike hK, hD⟩, hS.F ht⟩) hS.2.2 dX7_bit_12
/-! HedgeGlidersModel.link()V -/
def lp_X7_link_2 (mM : MoS) : Nat → Int32 → (Nat → Int64) → (Nat → Int64) → Option ((Nat → Int64) × (Nat → Int64))
  | 0, _, _, _ => none
  | nf + 1, y20, y21, y22 => if (mM.2.1 * mM.2.2.1) ≤ y20 then (some (y21, y22)) else (if mM.2.1 = 0 then none else if mM.2.1 = 0 then none else Option.bind (f_X7_at mM ((y20 - y20 / mM.2.1 * mM.2.1) - 1) (y20 / mM.2.1)) fun r23 => Option.bind (f_X7_at mM ((y20 - y20 / mM.2.1 * mM.2.1) + 1) (y20 / mM.2.1)) fun r24 => Option.bind (f_X7_at mM (y20 - y20 / mM.2.1 * mM.2.1) ((y20 / mM.2.1) - 1)) fun r25 => Option.bind (f_X7_at mM (y20 - y20 / mM.2.1 * mM.2.1) ((y20 / mM.2.1) + 1)) fun r26 => if y20 < 0 ∨ 64 ≤ y20.toNatClampNeg then none else if y20 < 0 ∨ 64 ≤ y20.toNatClampNeg then none else Option.bind (f_X7_at mM ((y20 - y20 / mM.2.1 * mM.2.1) - 1) ((y20 / mM.2.1) - 1)) fun r27 => Option.bind (f_X7_at mM ((y20 - y20 / mM.2.1 * mM.2.1) + 1) ((y20 / mM.2.1) - 1)) fun r28 => Option.bind (f_X7_at mM ((y20 - y20 / mM.2.1 * mM.2.1) - 1) ((y20 / mM.2.1) + 1)) fun r29 => Option.bind (f_X7_at mM ((y20 - y20 / mM.2.1 * mM.2.1) + 1) ((y20 / mM.2.1) + 1)) fun r30 => if y20 < 0 ∨ 64 ≤ y20.toNatClampNeg then none else lp_X7_link_2 mM nf (y20 + 1) (vp_updL y21 y20.toNatClampNeg ((((((vp_updL y22 y20.toNatClampNeg ((((f_X7_bit r23) ||| (f_X7_bit r24)) ||| (f_X7_bit r25)) ||| (f_X7_bit r26))) y20.toNatClampNeg) ||| (f_X7_bit r27)) ||| (f_X7_bit r28)) ||| (f_X7_bit r29)) ||| (f_X7_bit r30))) (vp_updL y22 y20.toNatClampNeg ((((f_X7_bit r23) ||| (f_X7_bit r24)) ||| (f_X7_bit r25)) ||| (f_X7_bit r26))))
def f_X7_link (mM : MoS) (fR : Nat → Int64) (fB : Nat → Int64) : Option ((Nat → Int64) × (Nat → Int64)) := Option.bind (lp_X7_link_2 mM 100 0 fR fB) fun v31 => some (v31.1, v31.2)
abbrev rm_X7_link : Room := ({ frames := 3, cells := 0, slots := 0, locals := 66 } : Room)
abbrev A_X7_link (cI cJ : ClassId) (zmo zar zbe zst zah zgd : Nat) (mM : MoS) (fR : Nat → Int64) (fB : Nat → Int64) (sz : Nat) : Nat → Prop := va_A [(zmo, .inr (6, [.int mM.1, .int mM.2.1, .int mM.2.2.1, .int (bI mM.2.2.2.1), .int mM.2.2.2.2.1, .int mM.2.2.2.2.2, .ref zar, .ref zbe, .ref zst, .ref zah, .ref zgd])), (zar, .inl (cJ, 64, .inr (.inl fR))), (zbe, .inl (cJ, 64, .inr (.inl fB)))] sz
abbrev Q_X7_link (dC : Nat → ClassId) (dI : Nat → Nat → Nat) (cI cJ : ClassId) (zmo zar zbe zst zah zgd : Nat) (mM : MoS) (fR : Nat → Int64) (fB : Nat → Int64) (sz : Nat) (R : (Nat → Int64) × (Nat → Int64)) : Array Value → State → Outcome → State → Prop := va_Qv (fun _ : Unit => True) (fun u_ t => va_P (dC, dI) vwCl [(zmo, .inr (6, [.int mM.1, .int mM.2.1, .int mM.2.2.1, .int (bI mM.2.2.2.1), .int mM.2.2.2.2.1, .int mM.2.2.2.2.2, .ref zar, .ref zbe, .ref zst, .ref zah, .ref zgd])), (zar, .inl (cJ, 64, .inr (.inl R.1))), (zbe, .inl (cJ, 64, .inr (.inl R.2)))] t.heap ∧ va_K (dC, dI) vwCl [(cI, .int), (cJ, .long)] t ∧ va_D (A_X7_link cI cJ zmo zar zbe zst zah zgd mM fR fB sz) [(zmo, .inr (6, [.int mM.1, .int mM.2.1, .int mM.2.2.1, .int (bI mM.2.2.2.1), .int mM.2.2.2.2.1, .int mM.2.2.2.2.2, .ref zar, .ref zbe, .ref zst, .ref zah, .ref zgd])), (zar, .inl (cJ, 64, .inr (.inl R.1))), (zbe, .inl (cJ, 64, .inr (.inl R.2)))]) (A_X7_link cI cJ zmo zar zbe zst zah zgd mM fR fB sz)
set_option maxHeartbeats 4000000 in
set_option maxRecDepth 100000 in
theorem c_X7_link (l : Launch) (dC : Nat → ClassId) (dI : Nat → Nat → Nat) (cI cJ : ClassId) (zmo zar zbe zst zah zgd : Nat) (sz : Nat) (mM : MoS) (fR : Nat → Int64) (fB : Nat → Int64) (R : (Nat → Int64) × (Nat → Int64)) (hR : f_X7_link mM fR fB = some R) : Met l yX7_link wsX7_link rm_X7_link (va_Pc [.ref zmo] (fun U => U.heap.size = sz ∧ va_P (dC, dI) vwCl [(zmo, .inr (6, [.int mM.1, .int mM.2.1, .int mM.2.2.1, .int (bI mM.2.2.2.1), .int mM.2.2.2.2.1, .int mM.2.2.2.2.2, .ref zar, .ref zbe, .ref zst, .ref zah, .ref zgd])), (zar, .inl (cJ, 64, .inr (.inl fR))), (zbe, .inl (cJ, 64, .inr (.inl fB)))] U.heap ∧ va_K (dC, dI) vwCl [(cI, .int), (cJ, .long)] U ∧ va_D (fun _ => True) [(zmo, .inr (6, [.int mM.1, .int mM.2.1, .int mM.2.2.1, .int (bI mM.2.2.2.1), .int mM.2.2.2.2.1, .int mM.2.2.2.2.2, .ref zar, .ref zbe, .ref zst, .ref zah, .ref zgd])), (zar, .inl (cJ, 64, .inr (.inl fR))), (zbe, .inl (cJ, 64, .inr (.inl fB)))])) (Q_X7_link dC dI cI cJ zmo zar zbe zst zah zgd mM fR fB sz R) 0 0 (A_X7_link cI cJ zmo zar zbe zst zah zgd mM fR fB sz) := by
  have hf := hR
  refine Met.ofW (cc := cX7_link) (maxL := 4) (ret := none) (by decide) rfl ?_
  intro p e s m args below meth c s₁ B hml hv
  obtain ⟨hargs, hsz, hP, hK, hD0⟩ := hv
  have hx := B.exec
  have hb := B.bytes
  have hr := B.returns
  have hts := atoms_spec (ws := wsX7_link) B.pre
  have hown : s.vm.findClass RX7 = some m.cls := findClass_of_methodNamed B.named
  have hlocks := B.notSynchronized
  subst hsz
  have hD : va_D (A_X7_link cI cJ zmo zar zbe zst zah zgd mM fR fB s.heap.size) [(zmo, .inr (6, [.int mM.1, .int mM.2.1, .int mM.2.2.1, .int (bI mM.2.2.2.1), .int mM.2.2.2.2.1, .int mM.2.2.2.2.2, .ref zar, .ref zbe, .ref zst, .ref zah, .ref zgd])), (zar, .inl (cJ, 64, .inr (.inl fR))), (zbe, .inl (cJ, 64, .inr (.inl fB)))] := hD0.self (sz := s.heap.size)
  have hA : ∀ q : Nat, s.heap.size ≤ q → (A_X7_link cI cJ zmo zar zbe zst zah zgd mM fR fB s.heap.size) q := fun q h => Or.inr h
  have hS : va_S (A_X7_link cI cJ zmo zar zbe zst zah zgd mM fR fB s.heap.size) s.heap s.heap [] := va_S.rf
  have hinX7 : ∀ w ∈ wsX70, w ∈ wsX7_link := by decide +kernel
  have hw0 := hts (.fieldLink RX7 9 "HedgeGlidersModel" "w" "I") (by decide +kernel)
  have hw1 := hts (.fieldLink RX7 13 "HedgeGlidersModel" "h" "I") (by decide +kernel)
  have hw2 := hts (.fieldLink RX7 26 "HedgeGlidersModel" "beside" "[J") (by decide +kernel)
  have hw3 := hts (.fieldLink RX7 22 "HedgeGlidersModel" "around" "[J") (by decide +kernel)
  have hl := lv_entry ([.ref zmo]) (n := 4) (Nat.le_of_ble_eq_true rfl)
  have he0 : entryFrame m args 4 = entryFrame m ([.ref zmo] : List Value).toArray 4 := by rw [hargs]
  rw [he0, lg_entry_eq]
  generalize (lg_sl ([.ref zmo]) ++ List.replicate (4 - (lg_sl ([.ref zmo])).length) Slot.unset).toArray = ls at hl ⊢
  have hl : lv_has ls 4 [(0, .ref zmo)] := hl
  rw [f_X7_link] at hf
  refine lv_iconst (v := 0) hx hb dX7_link_0 (by decide) ?_
  refine lv_istore_n (lv' := [(1, .int 0), (0, .ref zmo)]) hx hb dX7_link_1 rfl hl (by decide) rfl (fun ls hl => ?_)
  obtain ⟨v31, hv, hf⟩ := obind hf
  have K32 : ∀ (H : Heap) (locs : List Loc) (ls : Array Slot), va_P (dC, dI) vwCl [(zmo, .inr (6, [.int mM.1, .int mM.2.1, .int mM.2.2.1, .int (bI mM.2.2.2.1), .int mM.2.2.2.2.1, .int mM.2.2.2.2.2, .ref zar, .ref zbe, .ref zst, .ref zah, .ref zgd])), (zar, .inl (cJ, 64, .inr (.inl v31.1))), (zbe, .inl (cJ, 64, .inr (.inl v31.2)))] H → va_D (A_X7_link cI cJ zmo zar zbe zst zah zgd mM fR fB s.heap.size) [(zmo, .inr (6, [.int mM.1, .int mM.2.1, .int mM.2.2.1, .int (bI mM.2.2.2.1), .int mM.2.2.2.2.1, .int mM.2.2.2.2.2, .ref zar, .ref zbe, .ref zst, .ref zah, .ref zgd])), (zar, .inl (cJ, 64, .inr (.inl v31.1))), (zbe, .inl (cJ, 64, .inr (.inl v31.2)))] → va_S (A_X7_link cI cJ zmo zar zbe zst zah zgd mM fR fB s.heap.size) s.heap H locs → lv_has ls 4 [] → W p l e rm_X7_link s m args below meth c H locs 0 0 (MQ below (Q_X7_link dC dI cI cJ zmo zar zbe zst zah zgd mM fR fB s.heap.size R) args s 0 0 (A_X7_link cI cJ zmo zar zbe zst zah zgd mM fR fB s.heap.size)) (F0 m 156 ls []) := by
    intro H locs ls hP hD hS hl
    obtain rfl := Option.some.inj hf
    exact W.vret hx hb hr (fun t ht hW => ⟨⟨(), rfl, trivial, by rw [ht]; exact hP, va_K.moved hW.alike hK, hD⟩, hS.F ht⟩) hS.2.2 dX7_link_156
  have lp33 : ∀ (nf : Nat) (y20 : Int32) (y21 : Nat → Int64) (y22 : Nat → Int64) (H : Heap) (locs : List Loc) (ls : Array Slot), lp_X7_link_2 mM nf y20 y21 y22 = some v31 → va_P (dC, dI) vwCl [(zmo, .inr (6, [.int mM.1, .int mM.2.1, .int mM.2.2.1, .int (bI mM.2.2.2.1), .int mM.2.2.2.2.1, .int mM.2.2.2.2.2, .ref zar, .ref zbe, .ref zst, .ref zah, .ref zgd])), (zar, .inl (cJ, 64, .inr (.inl y21))), (zbe, .inl (cJ, 64, .inr (.inl y22)))] H → va_D (A_X7_link cI cJ zmo zar zbe zst zah zgd mM fR fB s.heap.size) [(zmo, .inr (6, [.int mM.1, .int mM.2.1, .int mM.2.2.1, .int (bI mM.2.2.2.1), .int mM.2.2.2.2.1, .int mM.2.2.2.2.2, .ref zar, .ref zbe, .ref zst, .ref zah, .ref zgd])), (zar, .inl (cJ, 64, .inr (.inl y21))), (zbe, .inl (cJ, 64, .inr (.inl y22)))] → va_S (A_X7_link cI cJ zmo zar zbe zst zah zgd mM fR fB s.heap.size) s.heap H locs → lv_has ls 4 [(0, .ref zmo), (1, .int y20)] → W p l e rm_X7_link s m args below meth c H locs 0 0 (MQ below (Q_X7_link dC dI cI cJ zmo zar zbe zst zah zgd mM fR fB s.heap.size R) args s 0 0 (A_X7_link cI cJ zmo zar zbe zst zah zgd mM fR fB s.heap.size)) (F0 m 2 ls []) := by
    intro nf
    induction nf with
    | zero => intro y20 y21 y22 H locs ls h9; exact nomatch h9
    | succ nf ih34 =>
      intro y20 y21 y22 H locs ls hf hP hD hS hl
      rw [lp_X7_link_2.eq_2] at hf
      refine lv_iload_n hx hb dX7_link_2 rfl (lv_at hl 1 rfl) ?_
      refine lv_aload_n hx hb dX7_link_3 rfl (lv_at hl 0 rfl) ?_
      refine va_get (D := (dC, dI)) (ci := 6) (v := .int mM.2.1) (C := RX7) (T := TX7) (N := 11) hx hb hts hinX7 hown hK hP 0 rfl rfl 1 (by decide) hw0 (fun _ h9 => h9) rfl dX7_link_4 ?_
      refine lv_aload_n hx hb dX7_link_7 rfl (lv_at hl 0 rfl) ?_
      refine va_get (D := (dC, dI)) (ci := 6) (v := .int mM.2.2.1) (C := RX7) (T := TX7) (N := 11) hx hb hts hinX7 hown hK hP 0 rfl rfl 2 (by decide) hw1 (fun _ h9 => h9) rfl dX7_link_8 ?_
      refine lv_imul hx hb dX7_link_11 ?_
      refine lv_icmp_ge (tgt := 156) hx hb dX7_link_12 (by decide) (fun hc => ?_) (fun hc => ?_)
      · rw [if_pos hc] at hf
        obtain rfl := Option.some.inj hf
        exact K32 _ _ _ hP hD hS (lv_sub hl [] rfl)
      · rw [if_neg hc] at hf
        refine lv_iload_n hx hb dX7_link_15 rfl (lv_at hl 1 rfl) ?_
        refine lv_aload_n hx hb dX7_link_16 rfl (lv_at hl 0 rfl) ?_
        refine va_get (D := (dC, dI)) (ci := 6) (v := .int mM.2.1) (C := RX7) (T := TX7) (N := 11) hx hb hts hinX7 hown hK hP 0 rfl rfl 1 (by decide) hw0 (fun _ h9 => h9) rfl dX7_link_17 ?_
        have hg0 : ¬ (mM.2.1 = 0) := fun hq => by rw [if_pos hq] at hf; exact nomatch hf
        rw [if_neg hg0] at hf
        have hg := hg0
        refine lv_irem hx hb dX7_link_20 hg ?_
        refine lv_istore_n (lv' := [(2, .int (y20 - y20 / mM.2.1 * mM.2.1)), (0, .ref zmo), (1, .int y20)]) hx hb dX7_link_21 rfl hl (by decide) rfl (fun ls hl => ?_)
        refine lv_iload_n hx hb dX7_link_22 rfl (lv_at hl 2 rfl) ?_
        refine lv_aload_n hx hb dX7_link_23 rfl (lv_at hl 1 rfl) ?_
        refine va_get (D := (dC, dI)) (ci := 6) (v := .int mM.2.1) (C := RX7) (T := TX7) (N := 11) hx hb hts hinX7 hown hK hP 0 rfl rfl 1 (by decide) hw0 (fun _ h9 => h9) rfl dX7_link_24 ?_
        have hg0 : ¬ (mM.2.1 = 0) := fun hq => by rw [if_pos hq] at hf; exact nomatch hf
        rw [if_neg hg0] at hf
        have hg := hg0
        refine lv_idiv hx hb dX7_link_27 hg ?_
        refine lv_istore_n (lv' := [(3, .int (y20 / mM.2.1)), (2, .int (y20 - y20 / mM.2.1 * mM.2.1)), (0, .ref zmo), (1, .int y20)]) hx hb dX7_link_28 rfl hl (by decide) rfl (fun ls hl => ?_)
        refine lv_aload_n hx hb dX7_link_29 rfl (lv_at hl 2 rfl) ?_
        refine va_get (D := (dC, dI)) (ci := 6) (v := .ref zbe) (C := RX7) (T := TX7) (N := 11) hx hb hts hinX7 hown hK hP 0 rfl rfl 7 (by decide) hw2 (fun _ h9 => h9) rfl dX7_link_30 ?_
        refine lv_iload_n hx hb dX7_link_33 rfl (lv_at hl 3 rfl) ?_
        refine lv_aload_n hx hb dX7_link_34 rfl (lv_at hl 2 rfl) ?_
        refine lv_iload_n hx hb dX7_link_35 rfl (lv_at hl 1 rfl) ?_
        refine lv_iconst (v := 1) hx hb dX7_link_36 (by decide) ?_
        refine lv_isub hx hb dX7_link_37 ?_
        refine lv_iload_n hx hb dX7_link_38 rfl (lv_at hl 0 rfl) ?_
        obtain ⟨r23, hr23, hf⟩ := obind hf
        have hPc := hP.sub (ws' := [(zmo, .inr (6, [.int mM.1, .int mM.2.1, .int mM.2.2.1, .int (bI mM.2.2.2.1), .int mM.2.2.2.2.1, .int mM.2.2.2.2.2, .ref zar, .ref zbe, .ref zst, .ref zah, .ref zgd]))]) [0] rfl
        have hDc := hD.sub (ws' := [(zmo, .inr (6, [.int mM.1, .int mM.2.1, .int mM.2.2.1, .int (bI mM.2.2.2.1), .int mM.2.2.2.2.1, .int mM.2.2.2.2.2, .ref zar, .ref zbe, .ref zst, .ref zah, .ref zgd]))]) [0] (by decide) rfl
        have hFc := va_free (wc := [(zmo, .inr (6, [.int mM.1, .int mM.2.1, .int mM.2.2.1, .int (bI mM.2.2.2.1), .int mM.2.2.2.2.1, .int mM.2.2.2.2.2, .ref zar, .ref zbe, .ref zst, .ref zah, .ref zgd]))]) hD hS hA [0] rfl
        refine va_calli (va_runV (As := [.int ((y20 - y20 / mM.2.1 * mM.2.1) - 1), .int (y20 / mM.2.1)]) (rest := [.int y20, .ref zbe]) ⟨hx, hb, hml, hown, hts⟩ (c_X7_at l dC dI cI cJ zmo zar zbe zst zah zgd H.size mM ((y20 - y20 / mM.2.1 * mM.2.1) - 1) (y20 / mM.2.1) _ hr23) (cwV 2 hts gX7_link_X7_at rfl rfl rfl (by decide +kernel) ⟨Nat.le_of_ble_eq_true rfl, Nat.le_of_ble_eq_true rfl⟩) ⟨fun a U gg mk q => by obtain ⟨q0, q1, qP, qK, qD⟩ := q; exact ⟨q0, q1, qP, va_K.moved (u := U) (U := U.calling gg mk a) (Vm.Alike.refl U.vm) qK, qD⟩, va_recv hK hPc (ci := 6) (q0 := 0) rfl rfl, fun U hU hW => ⟨rfl, by rw [hU], by rw [hU]; exact hPc, va_K.moved hW.alike hK, hDc.weaken (fun _ _ _ _ => trivial)⟩⟩ rfl rfl hl.1 rfl (lv_room (Nat.le_of_ble_eq_true rfl)) dX7_link_39 ⟨Nat.zero_le _, Nat.zero_le _⟩) hS (fun q _ h => hFc q h) hFc (fun r_ u_ t H locs ht hvm hw hB hz1 hk1 hS => ?_)
        obtain rfl := hw.symm
        obtain ⟨hP1, -, hD1⟩ := hB
        rw [ht] at hP1
        obtain ⟨hP, hD⟩ := va_join (wr := [(zar, .inl (cJ, 64, .inr (.inl y21))), (zbe, .inl (cJ, 64, .inr (.inl y22)))]) (w1 := [(zmo, .inr (6, [.int mM.1, .int mM.2.1, .int mM.2.2.1, .int (bI mM.2.2.2.1), .int mM.2.2.2.2.1, .int mM.2.2.2.2.2, .ref zar, .ref zbe, .ref zst, .ref zah, .ref zgd]))]) hP hD [0] [1, 2] rfl rfl (by decide) (by decide) hk1 hFc hP1 hD1
        have hP := hP.sub (ws' := [(zmo, .inr (6, [.int mM.1, .int mM.2.1, .int mM.2.2.1, .int (bI mM.2.2.2.1), .int mM.2.2.2.2.1, .int mM.2.2.2.2.2, .ref zar, .ref zbe, .ref zst, .ref zah, .ref zgd])), (zar, .inl (cJ, 64, .inr (.inl y21))), (zbe, .inl (cJ, 64, .inr (.inl y22)))]) [2, 0, 1] rfl
        have hD := hD.sub (ws' := [(zmo, .inr (6, [.int mM.1, .int mM.2.1, .int mM.2.2.1, .int (bI mM.2.2.2.1), .int mM.2.2.2.2.1, .int mM.2.2.2.2.2, .ref zar, .ref zbe, .ref zst, .ref zah, .ref zgd])), (zar, .inl (cJ, 64, .inr (.inl y21))), (zbe, .inl (cJ, 64, .inr (.inl y22)))]) [2, 0, 1] (by decide) rfl
        clear hPc hDc hFc hP1 hD1 hk1
        have hPc := hP.sub (ws' := []) [] rfl
        have hDc := hD.sub (ws' := []) [] (by decide) rfl
        have hFc := va_free (wc := []) hD hS hA [] rfl
        refine va_calll (va_runS (As := [.int r23]) (rest := [.int y20, .ref zbe]) ⟨hx, hb, hml, hown, hts⟩ (c_X7_bit l dC dI cI cJ  H.size r23) (va_cwS 1 hts gX7_link_X7_bit rfl rfl rfl (by decide +kernel) ⟨Nat.le_of_ble_eq_true rfl, Nat.le_of_ble_eq_true rfl⟩) ⟨fun a U gg mk q => by obtain ⟨q0, q1, qP, qK, qD⟩ := q; exact ⟨q0, q1, qP, va_K.moved (u := U) (U := U.calling gg mk a) (Vm.Alike.refl U.vm) qK, qD⟩, fun U hU hW => ⟨rfl, by rw [hU], by rw [hU]; exact hPc, va_K.moved hW.alike hK, hDc.weaken (fun _ _ _ _ => trivial)⟩⟩ rfl rfl hl.1 rfl (lv_room (Nat.le_of_ble_eq_true rfl)) dX7_link_42 ⟨Nat.zero_le _, Nat.zero_le _⟩) hS (fun q _ h => hFc q h) hFc (fun r_ u_ t H locs ht hvm hw hB hz1 hk1 hS => ?_)
        obtain rfl := hw.symm
        obtain ⟨hP1, -, hD1⟩ := hB
        rw [ht] at hP1
        obtain ⟨hP, hD⟩ := va_join (wr := [(zmo, .inr (6, [.int mM.1, .int mM.2.1, .int mM.2.2.1, .int (bI mM.2.2.2.1), .int mM.2.2.2.2.1, .int mM.2.2.2.2.2, .ref zar, .ref zbe, .ref zst, .ref zah, .ref zgd])), (zar, .inl (cJ, 64, .inr (.inl y21))), (zbe, .inl (cJ, 64, .inr (.inl y22)))]) (w1 := []) hP hD [] [0, 1, 2] rfl rfl (by decide) (by decide) hk1 hFc hP1 hD1
        have hP := hP.sub (ws' := [(zmo, .inr (6, [.int mM.1, .int mM.2.1, .int mM.2.2.1, .int (bI mM.2.2.2.1), .int mM.2.2.2.2.1, .int mM.2.2.2.2.2, .ref zar, .ref zbe, .ref zst, .ref zah, .ref zgd])), (zar, .inl (cJ, 64, .inr (.inl y21))), (zbe, .inl (cJ, 64, .inr (.inl y22)))]) [0, 1, 2] rfl
        have hD := hD.sub (ws' := [(zmo, .inr (6, [.int mM.1, .int mM.2.1, .int mM.2.2.1, .int (bI mM.2.2.2.1), .int mM.2.2.2.2.1, .int mM.2.2.2.2.2, .ref zar, .ref zbe, .ref zst, .ref zah, .ref zgd])), (zar, .inl (cJ, 64, .inr (.inl y21))), (zbe, .inl (cJ, 64, .inr (.inl y22)))]) [0, 1, 2] (by decide) rfl
        clear hPc hDc hFc hP1 hD1 hk1
        refine lv_aload_n hx hb dX7_link_45 rfl (lv_at hl 2 rfl) ?_
        refine lv_iload_n hx hb dX7_link_46 rfl (lv_at hl 1 rfl) ?_
        refine lv_iconst (v := 1) hx hb dX7_link_47 (by decide) ?_
        refine lv_iadd hx hb dX7_link_48 ?_
        refine lv_iload_n hx hb dX7_link_49 rfl (lv_at hl 0 rfl) ?_
        obtain ⟨r24, hr24, hf⟩ := obind hf
        have hPc := hP.sub (ws' := [(zmo, .inr (6, [.int mM.1, .int mM.2.1, .int mM.2.2.1, .int (bI mM.2.2.2.1), .int mM.2.2.2.2.1, .int mM.2.2.2.2.2, .ref zar, .ref zbe, .ref zst, .ref zah, .ref zgd]))]) [0] rfl
        have hDc := hD.sub (ws' := [(zmo, .inr (6, [.int mM.1, .int mM.2.1, .int mM.2.2.1, .int (bI mM.2.2.2.1), .int mM.2.2.2.2.1, .int mM.2.2.2.2.2, .ref zar, .ref zbe, .ref zst, .ref zah, .ref zgd]))]) [0] (by decide) rfl
        have hFc := va_free (wc := [(zmo, .inr (6, [.int mM.1, .int mM.2.1, .int mM.2.2.1, .int (bI mM.2.2.2.1), .int mM.2.2.2.2.1, .int mM.2.2.2.2.2, .ref zar, .ref zbe, .ref zst, .ref zah, .ref zgd]))]) hD hS hA [0] rfl
        refine va_calli (va_runV (As := [.int ((y20 - y20 / mM.2.1 * mM.2.1) + 1), .int (y20 / mM.2.1)]) (rest := [.long (f_X7_bit r23), .int y20, .ref zbe]) ⟨hx, hb, hml, hown, hts⟩ (c_X7_at l dC dI cI cJ zmo zar zbe zst zah zgd H.size mM ((y20 - y20 / mM.2.1 * mM.2.1) + 1) (y20 / mM.2.1) _ hr24) (cwV 2 hts gX7_link_X7_at rfl rfl rfl (by decide +kernel) ⟨Nat.le_of_ble_eq_true rfl, Nat.le_of_ble_eq_true rfl⟩) ⟨fun a U gg mk q => by obtain ⟨q0, q1, qP, qK, qD⟩ := q; exact ⟨q0, q1, qP, va_K.moved (u := U) (U := U.calling gg mk a) (Vm.Alike.refl U.vm) qK, qD⟩, va_recv hK hPc (ci := 6) (q0 := 0) rfl rfl, fun U hU hW => ⟨rfl, by rw [hU], by rw [hU]; exact hPc, va_K.moved hW.alike hK, hDc.weaken (fun _ _ _ _ => trivial)⟩⟩ rfl rfl hl.1 rfl (lv_room (Nat.le_of_ble_eq_true rfl)) dX7_link_50 ⟨Nat.zero_le _, Nat.zero_le _⟩) hS (fun q _ h => hFc q h) hFc (fun r_ u_ t H locs ht hvm hw hB hz1 hk1 hS => ?_)
        obtain rfl := hw.symm
        obtain ⟨hP1, -, hD1⟩ := hB
        rw [ht] at hP1
        obtain ⟨hP, hD⟩ := va_join (wr := [(zar, .inl (cJ, 64, .inr (.inl y21))), (zbe, .inl (cJ, 64, .inr (.inl y22)))]) (w1 := [(zmo, .inr (6, [.int mM.1, .int mM.2.1, .int mM.2.2.1, .int (bI mM.2.2.2.1), .int mM.2.2.2.2.1, .int mM.2.2.2.2.2, .ref zar, .ref zbe, .ref zst, .ref zah, .ref zgd]))]) hP hD [0] [1, 2] rfl rfl (by decide) (by decide) hk1 hFc hP1 hD1
        have hP := hP.sub (ws' := [(zmo, .inr (6, [.int mM.1, .int mM.2.1, .int mM.2.2.1, .int (bI mM.2.2.2.1), .int mM.2.2.2.2.1, .int mM.2.2.2.2.2, .ref zar, .ref zbe, .ref zst, .ref zah, .ref zgd])), (zar, .inl (cJ, 64, .inr (.inl y21))), (zbe, .inl (cJ, 64, .inr (.inl y22)))]) [2, 0, 1] rfl
        have hD := hD.sub (ws' := [(zmo, .inr (6, [.int mM.1, .int mM.2.1, .int mM.2.2.1, .int (bI mM.2.2.2.1), .int mM.2.2.2.2.1, .int mM.2.2.2.2.2, .ref zar, .ref zbe, .ref zst, .ref zah, .ref zgd])), (zar, .inl (cJ, 64, .inr (.inl y21))), (zbe, .inl (cJ, 64, .inr (.inl y22)))]) [2, 0, 1] (by decide) rfl
        clear hPc hDc hFc hP1 hD1 hk1
        have hPc := hP.sub (ws' := []) [] rfl
        have hDc := hD.sub (ws' := []) [] (by decide) rfl
        have hFc := va_free (wc := []) hD hS hA [] rfl
        refine va_calll (va_runS (As := [.int r24]) (rest := [.long (f_X7_bit r23), .int y20, .ref zbe]) ⟨hx, hb, hml, hown, hts⟩ (c_X7_bit l dC dI cI cJ  H.size r24) (va_cwS 1 hts gX7_link_X7_bit rfl rfl rfl (by decide +kernel) ⟨Nat.le_of_ble_eq_true rfl, Nat.le_of_ble_eq_true rfl⟩) ⟨fun a U gg mk q => by obtain ⟨q0, q1, qP, qK, qD⟩ := q; exact ⟨q0, q1, qP, va_K.moved (u := U) (U := U.calling gg mk a) (Vm.Alike.refl U.vm) qK, qD⟩, fun U hU hW => ⟨rfl, by rw [hU], by rw [hU]; exact hPc, va_K.moved hW.alike hK, hDc.weaken (fun _ _ _ _ => trivial)⟩⟩ rfl rfl hl.1 rfl (lv_room (Nat.le_of_ble_eq_true rfl)) dX7_link_53 ⟨Nat.zero_le _, Nat.zero_le _⟩) hS (fun q _ h => hFc q h) hFc (fun r_ u_ t H locs ht hvm hw hB hz1 hk1 hS => ?_)
        obtain rfl := hw.symm
        obtain ⟨hP1, -, hD1⟩ := hB
        rw [ht] at hP1
        obtain ⟨hP, hD⟩ := va_join (wr := [(zmo, .inr (6, [.int mM.1, .int mM.2.1, .int mM.2.2.1, .int (bI mM.2.2.2.1), .int mM.2.2.2.2.1, .int mM.2.2.2.2.2, .ref zar, .ref zbe, .ref zst, .ref zah, .ref zgd])), (zar, .inl (cJ, 64, .inr (.inl y21))), (zbe, .inl (cJ, 64, .inr (.inl y22)))]) (w1 := []) hP hD [] [0, 1, 2] rfl rfl (by decide) (by decide) hk1 hFc hP1 hD1
        have hP := hP.sub (ws' := [(zmo, .inr (6, [.int mM.1, .int mM.2.1, .int mM.2.2.1, .int (bI mM.2.2.2.1), .int mM.2.2.2.2.1, .int mM.2.2.2.2.2, .ref zar, .ref zbe, .ref zst, .ref zah, .ref zgd])), (zar, .inl (cJ, 64, .inr (.inl y21))), (zbe, .inl (cJ, 64, .inr (.inl y22)))]) [0, 1, 2] rfl
        have hD := hD.sub (ws' := [(zmo, .inr (6, [.int mM.1, .int mM.2.1, .int mM.2.2.1, .int (bI mM.2.2.2.1), .int mM.2.2.2.2.1, .int mM.2.2.2.2.2, .ref zar, .ref zbe, .ref zst, .ref zah, .ref zgd])), (zar, .inl (cJ, 64, .inr (.inl y21))), (zbe, .inl (cJ, 64, .inr (.inl y22)))]) [0, 1, 2] (by decide) rfl
        clear hPc hDc hFc hP1 hD1 hk1
        refine lv_lor hx hb dX7_link_56 ?_
        refine lv_aload_n hx hb dX7_link_57 rfl (lv_at hl 2 rfl) ?_
        refine lv_iload_n hx hb dX7_link_58 rfl (lv_at hl 1 rfl) ?_
        refine lv_iload_n hx hb dX7_link_59 rfl (lv_at hl 0 rfl) ?_
        refine lv_iconst (v := 1) hx hb dX7_link_60 (by decide) ?_
        refine lv_isub hx hb dX7_link_61 ?_
        obtain ⟨r25, hr25, hf⟩ := obind hf
        have hPc := hP.sub (ws' := [(zmo, .inr (6, [.int mM.1, .int mM.2.1, .int mM.2.2.1, .int (bI mM.2.2.2.1), .int mM.2.2.2.2.1, .int mM.2.2.2.2.2, .ref zar, .ref zbe, .ref zst, .ref zah, .ref zgd]))]) [0] rfl
        have hDc := hD.sub (ws' := [(zmo, .inr (6, [.int mM.1, .int mM.2.1, .int mM.2.2.1, .int (bI mM.2.2.2.1), .int mM.2.2.2.2.1, .int mM.2.2.2.2.2, .ref zar, .ref zbe, .ref zst, .ref zah, .ref zgd]))]) [0] (by decide) rfl
        have hFc := va_free (wc := [(zmo, .inr (6, [.int mM.1, .int mM.2.1, .int mM.2.2.1, .int (bI mM.2.2.2.1), .int mM.2.2.2.2.1, .int mM.2.2.2.2.2, .ref zar, .ref zbe, .ref zst, .ref zah, .ref zgd]))]) hD hS hA [0] rfl
        refine va_calli (va_runV (As := [.int (y20 - y20 / mM.2.1 * mM.2.1), .int ((y20 / mM.2.1) - 1)]) (rest := [.long ((f_X7_bit r23) ||| (f_X7_bit r24)), .int y20, .ref zbe]) ⟨hx, hb, hml, hown, hts⟩ (c_X7_at l dC dI cI cJ zmo zar zbe zst zah zgd H.size mM (y20 - y20 / mM.2.1 * mM.2.1) ((y20 / mM.2.1) - 1) _ hr25) (cwV 2 hts gX7_link_X7_at rfl rfl rfl (by decide +kernel) ⟨Nat.le_of_ble_eq_true rfl, Nat.le_of_ble_eq_true rfl⟩) ⟨fun a U gg mk q => by obtain ⟨q0, q1, qP, qK, qD⟩ := q; exact ⟨q0, q1, qP, va_K.moved (u := U) (U := U.calling gg mk a) (Vm.Alike.refl U.vm) qK, qD⟩, va_recv hK hPc (ci := 6) (q0 := 0) rfl rfl, fun U hU hW => ⟨rfl, by rw [hU], by rw [hU]; exact hPc, va_K.moved hW.alike hK, hDc.weaken (fun _ _ _ _ => trivial)⟩⟩ rfl rfl hl.1 rfl (lv_room (Nat.le_of_ble_eq_true rfl)) dX7_link_62 ⟨Nat.zero_le _, Nat.zero_le _⟩) hS (fun q _ h => hFc q h) hFc (fun r_ u_ t H locs ht hvm hw hB hz1 hk1 hS => ?_)
        obtain rfl := hw.symm
        obtain ⟨hP1, -, hD1⟩ := hB
        rw [ht] at hP1
        obtain ⟨hP, hD⟩ := va_join (wr := [(zar, .inl (cJ, 64, .inr (.inl y21))), (zbe, .inl (cJ, 64, .inr (.inl y22)))]) (w1 := [(zmo, .inr (6, [.int mM.1, .int mM.2.1, .int mM.2.2.1, .int (bI mM.2.2.2.1), .int mM.2.2.2.2.1, .int mM.2.2.2.2.2, .ref zar, .ref zbe, .ref zst, .ref zah, .ref zgd]))]) hP hD [0] [1, 2] rfl rfl (by decide) (by decide) hk1 hFc hP1 hD1
        have hP := hP.sub (ws' := [(zmo, .inr (6, [.int mM.1, .int mM.2.1, .int mM.2.2.1, .int (bI mM.2.2.2.1), .int mM.2.2.2.2.1, .int mM.2.2.2.2.2, .ref zar, .ref zbe, .ref zst, .ref zah, .ref zgd])), (zar, .inl (cJ, 64, .inr (.inl y21))), (zbe, .inl (cJ, 64, .inr (.inl y22)))]) [2, 0, 1] rfl
        have hD := hD.sub (ws' := [(zmo, .inr (6, [.int mM.1, .int mM.2.1, .int mM.2.2.1, .int (bI mM.2.2.2.1), .int mM.2.2.2.2.1, .int mM.2.2.2.2.2, .ref zar, .ref zbe, .ref zst, .ref zah, .ref zgd])), (zar, .inl (cJ, 64, .inr (.inl y21))), (zbe, .inl (cJ, 64, .inr (.inl y22)))]) [2, 0, 1] (by decide) rfl
        clear hPc hDc hFc hP1 hD1 hk1
        have hPc := hP.sub (ws' := []) [] rfl
        have hDc := hD.sub (ws' := []) [] (by decide) rfl
        have hFc := va_free (wc := []) hD hS hA [] rfl
        refine va_calll (va_runS (As := [.int r25]) (rest := [.long ((f_X7_bit r23) ||| (f_X7_bit r24)), .int y20, .ref zbe]) ⟨hx, hb, hml, hown, hts⟩ (c_X7_bit l dC dI cI cJ  H.size r25) (va_cwS 1 hts gX7_link_X7_bit rfl rfl rfl (by decide +kernel) ⟨Nat.le_of_ble_eq_true rfl, Nat.le_of_ble_eq_true rfl⟩) ⟨fun a U gg mk q => by obtain ⟨q0, q1, qP, qK, qD⟩ := q; exact ⟨q0, q1, qP, va_K.moved (u := U) (U := U.calling gg mk a) (Vm.Alike.refl U.vm) qK, qD⟩, fun U hU hW => ⟨rfl, by rw [hU], by rw [hU]; exact hPc, va_K.moved hW.alike hK, hDc.weaken (fun _ _ _ _ => trivial)⟩⟩ rfl rfl hl.1 rfl (lv_room (Nat.le_of_ble_eq_true rfl)) dX7_link_65 ⟨Nat.zero_le _, Nat.zero_le _⟩) hS (fun q _ h => hFc q h) hFc (fun r_ u_ t H locs ht hvm hw hB hz1 hk1 hS => ?_)
        obtain rfl := hw.symm
        obtain ⟨hP1, -, hD1⟩ := hB
        rw [ht] at hP1
        obtain ⟨hP, hD⟩ := va_join (wr := [(zmo, .inr (6, [.int mM.1, .int mM.2.1, .int mM.2.2.1, .int (bI mM.2.2.2.1), .int mM.2.2.2.2.1, .int mM.2.2.2.2.2, .ref zar, .ref zbe, .ref zst, .ref zah, .ref zgd])), (zar, .inl (cJ, 64, .inr (.inl y21))), (zbe, .inl (cJ, 64, .inr (.inl y22)))]) (w1 := []) hP hD [] [0, 1, 2] rfl rfl (by decide) (by decide) hk1 hFc hP1 hD1
        have hP := hP.sub (ws' := [(zmo, .inr (6, [.int mM.1, .int mM.2.1, .int mM.2.2.1, .int (bI mM.2.2.2.1), .int mM.2.2.2.2.1, .int mM.2.2.2.2.2, .ref zar, .ref zbe, .ref zst, .ref zah, .ref zgd])), (zar, .inl (cJ, 64, .inr (.inl y21))), (zbe, .inl (cJ, 64, .inr (.inl y22)))]) [0, 1, 2] rfl
        have hD := hD.sub (ws' := [(zmo, .inr (6, [.int mM.1, .int mM.2.1, .int mM.2.2.1, .int (bI mM.2.2.2.1), .int mM.2.2.2.2.1, .int mM.2.2.2.2.2, .ref zar, .ref zbe, .ref zst, .ref zah, .ref zgd])), (zar, .inl (cJ, 64, .inr (.inl y21))), (zbe, .inl (cJ, 64, .inr (.inl y22)))]) [0, 1, 2] (by decide) rfl
        clear hPc hDc hFc hP1 hD1 hk1
        refine lv_lor hx hb dX7_link_68 ?_
        refine lv_aload_n hx hb dX7_link_69 rfl (lv_at hl 2 rfl) ?_
        refine lv_iload_n hx hb dX7_link_70 rfl (lv_at hl 1 rfl) ?_
        refine lv_iload_n hx hb dX7_link_71 rfl (lv_at hl 0 rfl) ?_
        refine lv_iconst (v := 1) hx hb dX7_link_72 (by decide) ?_
        refine lv_iadd hx hb dX7_link_73 ?_
        obtain ⟨r26, hr26, hf⟩ := obind hf
        have hPc := hP.sub (ws' := [(zmo, .inr (6, [.int mM.1, .int mM.2.1, .int mM.2.2.1, .int (bI mM.2.2.2.1), .int mM.2.2.2.2.1, .int mM.2.2.2.2.2, .ref zar, .ref zbe, .ref zst, .ref zah, .ref zgd]))]) [0] rfl
        have hDc := hD.sub (ws' := [(zmo, .inr (6, [.int mM.1, .int mM.2.1, .int mM.2.2.1, .int (bI mM.2.2.2.1), .int mM.2.2.2.2.1, .int mM.2.2.2.2.2, .ref zar, .ref zbe, .ref zst, .ref zah, .ref zgd]))]) [0] (by decide) rfl
        have hFc := va_free (wc := [(zmo, .inr (6, [.int mM.1, .int mM.2.1, .int mM.2.2.1, .int (bI mM.2.2.2.1), .int mM.2.2.2.2.1, .int mM.2.2.2.2.2, .ref zar, .ref zbe, .ref zst, .ref zah, .ref zgd]))]) hD hS hA [0] rfl
        refine va_calli (va_runV (As := [.int (y20 - y20 / mM.2.1 * mM.2.1), .int ((y20 / mM.2.1) + 1)]) (rest := [.long (((f_X7_bit r23) ||| (f_X7_bit r24)) ||| (f_X7_bit r25)), .int y20, .ref zbe]) ⟨hx, hb, hml, hown, hts⟩ (c_X7_at l dC dI cI cJ zmo zar zbe zst zah zgd H.size mM (y20 - y20 / mM.2.1 * mM.2.1) ((y20 / mM.2.1) + 1) _ hr26) (cwV 2 hts gX7_link_X7_at rfl rfl rfl (by decide +kernel) ⟨Nat.le_of_ble_eq_true rfl, Nat.le_of_ble_eq_true rfl⟩) ⟨fun a U gg mk q => by obtain ⟨q0, q1, qP, qK, qD⟩ := q; exact ⟨q0, q1, qP, va_K.moved (u := U) (U := U.calling gg mk a) (Vm.Alike.refl U.vm) qK, qD⟩, va_recv hK hPc (ci := 6) (q0 := 0) rfl rfl, fun U hU hW => ⟨rfl, by rw [hU], by rw [hU]; exact hPc, va_K.moved hW.alike hK, hDc.weaken (fun _ _ _ _ => trivial)⟩⟩ rfl rfl hl.1 rfl (lv_room (Nat.le_of_ble_eq_true rfl)) dX7_link_74 ⟨Nat.zero_le _, Nat.zero_le _⟩) hS (fun q _ h => hFc q h) hFc (fun r_ u_ t H locs ht hvm hw hB hz1 hk1 hS => ?_)
        obtain rfl := hw.symm
        obtain ⟨hP1, -, hD1⟩ := hB
        rw [ht] at hP1
        obtain ⟨hP, hD⟩ := va_join (wr := [(zar, .inl (cJ, 64, .inr (.inl y21))), (zbe, .inl (cJ, 64, .inr (.inl y22)))]) (w1 := [(zmo, .inr (6, [.int mM.1, .int mM.2.1, .int mM.2.2.1, .int (bI mM.2.2.2.1), .int mM.2.2.2.2.1, .int mM.2.2.2.2.2, .ref zar, .ref zbe, .ref zst, .ref zah, .ref zgd]))]) hP hD [0] [1, 2] rfl rfl (by decide) (by decide) hk1 hFc hP1 hD1
        have hP := hP.sub (ws' := [(zmo, .inr (6, [.int mM.1, .int mM.2.1, .int mM.2.2.1, .int (bI mM.2.2.2.1), .int mM.2.2.2.2.1, .int mM.2.2.2.2.2, .ref zar, .ref zbe, .ref zst, .ref zah, .ref zgd])), (zar, .inl (cJ, 64, .inr (.inl y21))), (zbe, .inl (cJ, 64, .inr (.inl y22)))]) [2, 0, 1] rfl
        have hD := hD.sub (ws' := [(zmo, .inr (6, [.int mM.1, .int mM.2.1, .int mM.2.2.1, .int (bI mM.2.2.2.1), .int mM.2.2.2.2.1, .int mM.2.2.2.2.2, .ref zar, .ref zbe, .ref zst, .ref zah, .ref zgd])), (zar, .inl (cJ, 64, .inr (.inl y21))), (zbe, .inl (cJ, 64, .inr (.inl y22)))]) [2, 0, 1] (by decide) rfl
        clear hPc hDc hFc hP1 hD1 hk1
        have hPc := hP.sub (ws' := []) [] rfl
        have hDc := hD.sub (ws' := []) [] (by decide) rfl
        have hFc := va_free (wc := []) hD hS hA [] rfl
        refine va_calll (va_runS (As := [.int r26]) (rest := [.long (((f_X7_bit r23) ||| (f_X7_bit r24)) ||| (f_X7_bit r25)), .int y20, .ref zbe]) ⟨hx, hb, hml, hown, hts⟩ (c_X7_bit l dC dI cI cJ  H.size r26) (va_cwS 1 hts gX7_link_X7_bit rfl rfl rfl (by decide +kernel) ⟨Nat.le_of_ble_eq_true rfl, Nat.le_of_ble_eq_true rfl⟩) ⟨fun a U gg mk q => by obtain ⟨q0, q1, qP, qK, qD⟩ := q; exact ⟨q0, q1, qP, va_K.moved (u := U) (U := U.calling gg mk a) (Vm.Alike.refl U.vm) qK, qD⟩, fun U hU hW => ⟨rfl, by rw [hU], by rw [hU]; exact hPc, va_K.moved hW.alike hK, hDc.weaken (fun _ _ _ _ => trivial)⟩⟩ rfl rfl hl.1 rfl (lv_room (Nat.le_of_ble_eq_true rfl)) dX7_link_77 ⟨Nat.zero_le _, Nat.zero_le _⟩) hS (fun q _ h => hFc q h) hFc (fun r_ u_ t H locs ht hvm hw hB hz1 hk1 hS => ?_)
        obtain rfl := hw.symm
        obtain ⟨hP1, -, hD1⟩ := hB
        rw [ht] at hP1
        obtain ⟨hP, hD⟩ := va_join (wr := [(zmo, .inr (6, [.int mM.1, .int mM.2.1, .int mM.2.2.1, .int (bI mM.2.2.2.1), .int mM.2.2.2.2.1, .int mM.2.2.2.2.2, .ref zar, .ref zbe, .ref zst, .ref zah, .ref zgd])), (zar, .inl (cJ, 64, .inr (.inl y21))), (zbe, .inl (cJ, 64, .inr (.inl y22)))]) (w1 := []) hP hD [] [0, 1, 2] rfl rfl (by decide) (by decide) hk1 hFc hP1 hD1
        have hP := hP.sub (ws' := [(zmo, .inr (6, [.int mM.1, .int mM.2.1, .int mM.2.2.1, .int (bI mM.2.2.2.1), .int mM.2.2.2.2.1, .int mM.2.2.2.2.2, .ref zar, .ref zbe, .ref zst, .ref zah, .ref zgd])), (zar, .inl (cJ, 64, .inr (.inl y21))), (zbe, .inl (cJ, 64, .inr (.inl y22)))]) [0, 1, 2] rfl
        have hD := hD.sub (ws' := [(zmo, .inr (6, [.int mM.1, .int mM.2.1, .int mM.2.2.1, .int (bI mM.2.2.2.1), .int mM.2.2.2.2.1, .int mM.2.2.2.2.2, .ref zar, .ref zbe, .ref zst, .ref zah, .ref zgd])), (zar, .inl (cJ, 64, .inr (.inl y21))), (zbe, .inl (cJ, 64, .inr (.inl y22)))]) [0, 1, 2] (by decide) rfl
        clear hPc hDc hFc hP1 hD1 hk1
        refine lv_lor hx hb dX7_link_80 ?_
        have hg0 : ¬ (y20 < 0 ∨ 64 ≤ y20.toNatClampNeg) := fun hq => by rw [if_pos hq] at hf; exact nomatch hf
        rw [if_neg hg0] at hf
        have hg : vp_in y20 64 := hg0
        refine va_last hx hb hK hP hD hS 2 1 rfl rfl hg dX7_link_81 (fun H locs hP hD hS => ?_)
        have hP : va_P (dC, dI) vwCl [(zmo, .inr (6, [.int mM.1, .int mM.2.1, .int mM.2.2.1, .int (bI mM.2.2.2.1), .int mM.2.2.2.2.1, .int mM.2.2.2.2.2, .ref zar, .ref zbe, .ref zst, .ref zah, .ref zgd])), (zar, .inl (cJ, 64, .inr (.inl y21))), (zbe, .inl (cJ, 64, .inr (.inl (vp_updL y22 y20.toNatClampNeg ((((f_X7_bit r23) ||| (f_X7_bit r24)) ||| (f_X7_bit r25)) ||| (f_X7_bit r26))))))] H := hP
        have hD : va_D (A_X7_link cI cJ zmo zar zbe zst zah zgd mM fR fB s.heap.size) [(zmo, .inr (6, [.int mM.1, .int mM.2.1, .int mM.2.2.1, .int (bI mM.2.2.2.1), .int mM.2.2.2.2.1, .int mM.2.2.2.2.2, .ref zar, .ref zbe, .ref zst, .ref zah, .ref zgd])), (zar, .inl (cJ, 64, .inr (.inl y21))), (zbe, .inl (cJ, 64, .inr (.inl (vp_updL y22 y20.toNatClampNeg ((((f_X7_bit r23) ||| (f_X7_bit r24)) ||| (f_X7_bit r25)) ||| (f_X7_bit r26))))))] := hD
        refine lv_aload_n hx hb dX7_link_82 rfl (lv_at hl 2 rfl) ?_
        refine va_get (D := (dC, dI)) (ci := 6) (v := .ref zar) (C := RX7) (T := TX7) (N := 11) hx hb hts hinX7 hown hK hP 0 rfl rfl 6 (by decide) hw3 (fun _ h9 => h9) rfl dX7_link_83 ?_
        refine lv_iload_n hx hb dX7_link_86 rfl (lv_at hl 3 rfl) ?_
        refine lv_aload_n hx hb dX7_link_87 rfl (lv_at hl 2 rfl) ?_
        refine va_get (D := (dC, dI)) (ci := 6) (v := .ref zbe) (C := RX7) (T := TX7) (N := 11) hx hb hts hinX7 hown hK hP 0 rfl rfl 7 (by decide) hw2 (fun _ h9 => h9) rfl dX7_link_88 ?_
        refine lv_iload_n hx hb dX7_link_91 rfl (lv_at hl 3 rfl) ?_
        have hg0 : ¬ (y20 < 0 ∨ 64 ≤ y20.toNatClampNeg) := fun hq => by rw [if_pos hq] at hf; exact nomatch hf
        rw [if_neg hg0] at hf
        have hg : vp_in y20 64 := hg0
        refine va_lald hx hb hK hP 2 1 rfl rfl hg dX7_link_92 ?_
        refine lv_aload_n hx hb dX7_link_93 rfl (lv_at hl 2 rfl) ?_
        refine lv_iload_n hx hb dX7_link_94 rfl (lv_at hl 1 rfl) ?_
        refine lv_iconst (v := 1) hx hb dX7_link_95 (by decide) ?_
        refine lv_isub hx hb dX7_link_96 ?_
        refine lv_iload_n hx hb dX7_link_97 rfl (lv_at hl 0 rfl) ?_
        refine lv_iconst (v := 1) hx hb dX7_link_98 (by decide) ?_
        refine lv_isub hx hb dX7_link_99 ?_
        obtain ⟨r27, hr27, hf⟩ := obind hf
        have hPc := hP.sub (ws' := [(zmo, .inr (6, [.int mM.1, .int mM.2.1, .int mM.2.2.1, .int (bI mM.2.2.2.1), .int mM.2.2.2.2.1, .int mM.2.2.2.2.2, .ref zar, .ref zbe, .ref zst, .ref zah, .ref zgd]))]) [0] rfl
        have hDc := hD.sub (ws' := [(zmo, .inr (6, [.int mM.1, .int mM.2.1, .int mM.2.2.1, .int (bI mM.2.2.2.1), .int mM.2.2.2.2.1, .int mM.2.2.2.2.2, .ref zar, .ref zbe, .ref zst, .ref zah, .ref zgd]))]) [0] (by decide) rfl
        have hFc := va_free (wc := [(zmo, .inr (6, [.int mM.1, .int mM.2.1, .int mM.2.2.1, .int (bI mM.2.2.2.1), .int mM.2.2.2.2.1, .int mM.2.2.2.2.2, .ref zar, .ref zbe, .ref zst, .ref zah, .ref zgd]))]) hD hS hA [0] rfl
        refine va_calli (va_runV (As := [.int ((y20 - y20 / mM.2.1 * mM.2.1) - 1), .int ((y20 / mM.2.1) - 1)]) (rest := [.long ((vp_updL y22 y20.toNatClampNeg ((((f_X7_bit r23) ||| (f_X7_bit r24)) ||| (f_X7_bit r25)) ||| (f_X7_bit r26))) y20.toNatClampNeg), .int y20, .ref zar]) ⟨hx, hb, hml, hown, hts⟩ (c_X7_at l dC dI cI cJ zmo zar zbe zst zah zgd H.size mM ((y20 - y20 / mM.2.1 * mM.2.1) - 1) ((y20 / mM.2.1) - 1) _ hr27) (cwV 2 hts gX7_link_X7_at rfl rfl rfl (by decide +kernel) ⟨Nat.le_of_ble_eq_true rfl, Nat.le_of_ble_eq_true rfl⟩) ⟨fun a U gg mk q => by obtain ⟨q0, q1, qP, qK, qD⟩ := q; exact ⟨q0, q1, qP, va_K.moved (u := U) (U := U.calling gg mk a) (Vm.Alike.refl U.vm) qK, qD⟩, va_recv hK hPc (ci := 6) (q0 := 0) rfl rfl, fun U hU hW => ⟨rfl, by rw [hU], by rw [hU]; exact hPc, va_K.moved hW.alike hK, hDc.weaken (fun _ _ _ _ => trivial)⟩⟩ rfl rfl hl.1 rfl (lv_room (Nat.le_of_ble_eq_true rfl)) dX7_link_100 ⟨Nat.zero_le _, Nat.zero_le _⟩) hS (fun q _ h => hFc q h) hFc (fun r_ u_ t H locs ht hvm hw hB hz1 hk1 hS => ?_)
        obtain rfl := hw.symm
        obtain ⟨hP1, -, hD1⟩ := hB
        rw [ht] at hP1
        obtain ⟨hP, hD⟩ := va_join (wr := [(zar, .inl (cJ, 64, .inr (.inl y21))), (zbe, .inl (cJ, 64, .inr (.inl (vp_updL y22 y20.toNatClampNeg ((((f_X7_bit r23) ||| (f_X7_bit r24)) ||| (f_X7_bit r25)) ||| (f_X7_bit r26))))))]) (w1 := [(zmo, .inr (6, [.int mM.1, .int mM.2.1, .int mM.2.2.1, .int (bI mM.2.2.2.1), .int mM.2.2.2.2.1, .int mM.2.2.2.2.2, .ref zar, .ref zbe, .ref zst, .ref zah, .ref zgd]))]) hP hD [0] [1, 2] rfl rfl (by decide) (by decide) hk1 hFc hP1 hD1
        have hP := hP.sub (ws' := [(zmo, .inr (6, [.int mM.1, .int mM.2.1, .int mM.2.2.1, .int (bI mM.2.2.2.1), .int mM.2.2.2.2.1, .int mM.2.2.2.2.2, .ref zar, .ref zbe, .ref zst, .ref zah, .ref zgd])), (zar, .inl (cJ, 64, .inr (.inl y21))), (zbe, .inl (cJ, 64, .inr (.inl (vp_updL y22 y20.toNatClampNeg ((((f_X7_bit r23) ||| (f_X7_bit r24)) ||| (f_X7_bit r25)) ||| (f_X7_bit r26))))))]) [2, 0, 1] rfl
        have hD := hD.sub (ws' := [(zmo, .inr (6, [.int mM.1, .int mM.2.1, .int mM.2.2.1, .int (bI mM.2.2.2.1), .int mM.2.2.2.2.1, .int mM.2.2.2.2.2, .ref zar, .ref zbe, .ref zst, .ref zah, .ref zgd])), (zar, .inl (cJ, 64, .inr (.inl y21))), (zbe, .inl (cJ, 64, .inr (.inl (vp_updL y22 y20.toNatClampNeg ((((f_X7_bit r23) ||| (f_X7_bit r24)) ||| (f_X7_bit r25)) ||| (f_X7_bit r26))))))]) [2, 0, 1] (by decide) rfl
        clear hPc hDc hFc hP1 hD1 hk1
        have hPc := hP.sub (ws' := []) [] rfl
        have hDc := hD.sub (ws' := []) [] (by decide) rfl
        have hFc := va_free (wc := []) hD hS hA [] rfl
        refine va_calll (va_runS (As := [.int r27]) (rest := [.long ((vp_updL y22 y20.toNatClampNeg ((((f_X7_bit r23) ||| (f_X7_bit r24)) ||| (f_X7_bit r25)) ||| (f_X7_bit r26))) y20.toNatClampNeg), .int y20, .ref zar]) ⟨hx, hb, hml, hown, hts⟩ (c_X7_bit l dC dI cI cJ  H.size r27) (va_cwS 1 hts gX7_link_X7_bit rfl rfl rfl (by decide +kernel) ⟨Nat.le_of_ble_eq_true rfl, Nat.le_of_ble_eq_true rfl⟩) ⟨fun a U gg mk q => by obtain ⟨q0, q1, qP, qK, qD⟩ := q; exact ⟨q0, q1, qP, va_K.moved (u := U) (U := U.calling gg mk a) (Vm.Alike.refl U.vm) qK, qD⟩, fun U hU hW => ⟨rfl, by rw [hU], by rw [hU]; exact hPc, va_K.moved hW.alike hK, hDc.weaken (fun _ _ _ _ => trivial)⟩⟩ rfl rfl hl.1 rfl (lv_room (Nat.le_of_ble_eq_true rfl)) dX7_link_103 ⟨Nat.zero_le _, Nat.zero_le _⟩) hS (fun q _ h => hFc q h) hFc (fun r_ u_ t H locs ht hvm hw hB hz1 hk1 hS => ?_)
        obtain rfl := hw.symm
        obtain ⟨hP1, -, hD1⟩ := hB
        rw [ht] at hP1
        obtain ⟨hP, hD⟩ := va_join (wr := [(zmo, .inr (6, [.int mM.1, .int mM.2.1, .int mM.2.2.1, .int (bI mM.2.2.2.1), .int mM.2.2.2.2.1, .int mM.2.2.2.2.2, .ref zar, .ref zbe, .ref zst, .ref zah, .ref zgd])), (zar, .inl (cJ, 64, .inr (.inl y21))), (zbe, .inl (cJ, 64, .inr (.inl (vp_updL y22 y20.toNatClampNeg ((((f_X7_bit r23) ||| (f_X7_bit r24)) ||| (f_X7_bit r25)) ||| (f_X7_bit r26))))))]) (w1 := []) hP hD [] [0, 1, 2] rfl rfl (by decide) (by decide) hk1 hFc hP1 hD1
        have hP := hP.sub (ws' := [(zmo, .inr (6, [.int mM.1, .int mM.2.1, .int mM.2.2.1, .int (bI mM.2.2.2.1), .int mM.2.2.2.2.1, .int mM.2.2.2.2.2, .ref zar, .ref zbe, .ref zst, .ref zah, .ref zgd])), (zar, .inl (cJ, 64, .inr (.inl y21))), (zbe, .inl (cJ, 64, .inr (.inl (vp_updL y22 y20.toNatClampNeg ((((f_X7_bit r23) ||| (f_X7_bit r24)) ||| (f_X7_bit r25)) ||| (f_X7_bit r26))))))]) [0, 1, 2] rfl
        have hD := hD.sub (ws' := [(zmo, .inr (6, [.int mM.1, .int mM.2.1, .int mM.2.2.1, .int (bI mM.2.2.2.1), .int mM.2.2.2.2.1, .int mM.2.2.2.2.2, .ref zar, .ref zbe, .ref zst, .ref zah, .ref zgd])), (zar, .inl (cJ, 64, .inr (.inl y21))), (zbe, .inl (cJ, 64, .inr (.inl (vp_updL y22 y20.toNatClampNeg ((((f_X7_bit r23) ||| (f_X7_bit r24)) ||| (f_X7_bit r25)) ||| (f_X7_bit r26))))))]) [0, 1, 2] (by decide) rfl
        clear hPc hDc hFc hP1 hD1 hk1
        refine lv_lor hx hb dX7_link_106 ?_
        refine lv_aload_n hx hb dX7_link_107 rfl (lv_at hl 2 rfl) ?_
        refine lv_iload_n hx hb dX7_link_108 rfl (lv_at hl 1 rfl) ?_
        refine lv_iconst (v := 1) hx hb dX7_link_109 (by decide) ?_
        refine lv_iadd hx hb dX7_link_110 ?_
        refine lv_iload_n hx hb dX7_link_111 rfl (lv_at hl 0 rfl) ?_
        refine lv_iconst (v := 1) hx hb dX7_link_112 (by decide) ?_
        refine lv_isub hx hb dX7_link_113 ?_
        obtain ⟨r28, hr28, hf⟩ := obind hf
        have hPc := hP.sub (ws' := [(zmo, .inr (6, [.int mM.1, .int mM.2.1, .int mM.2.2.1, .int (bI mM.2.2.2.1), .int mM.2.2.2.2.1, .int mM.2.2.2.2.2, .ref zar, .ref zbe, .ref zst, .ref zah, .ref zgd]))]) [0] rfl
        have hDc := hD.sub (ws' := [(zmo, .inr (6, [.int mM.1, .int mM.2.1, .int mM.2.2.1, .int (bI mM.2.2.2.1), .int mM.2.2.2.2.1, .int mM.2.2.2.2.2, .ref zar, .ref zbe, .ref zst, .ref zah, .ref zgd]))]) [0] (by decide) rfl
        have hFc := va_free (wc := [(zmo, .inr (6, [.int mM.1, .int mM.2.1, .int mM.2.2.1, .int (bI mM.2.2.2.1), .int mM.2.2.2.2.1, .int mM.2.2.2.2.2, .ref zar, .ref zbe, .ref zst, .ref zah, .ref zgd]))]) hD hS hA [0] rfl
        refine va_calli (va_runV (As := [.int ((y20 - y20 / mM.2.1 * mM.2.1) + 1), .int ((y20 / mM.2.1) - 1)]) (rest := [.long (((vp_updL y22 y20.toNatClampNeg ((((f_X7_bit r23) ||| (f_X7_bit r24)) ||| (f_X7_bit r25)) ||| (f_X7_bit r26))) y20.toNatClampNeg) ||| (f_X7_bit r27)), .int y20, .ref zar]) ⟨hx, hb, hml, hown, hts⟩ (c_X7_at l dC dI cI cJ zmo zar zbe zst zah zgd H.size mM ((y20 - y20 / mM.2.1 * mM.2.1) + 1) ((y20 / mM.2.1) - 1) _ hr28) (cwV 2 hts gX7_link_X7_at rfl rfl rfl (by decide +kernel) ⟨Nat.le_of_ble_eq_true rfl, Nat.le_of_ble_eq_true rfl⟩) ⟨fun a U gg mk q => by obtain ⟨q0, q1, qP, qK, qD⟩ := q; exact ⟨q0, q1, qP, va_K.moved (u := U) (U := U.calling gg mk a) (Vm.Alike.refl U.vm) qK, qD⟩, va_recv hK hPc (ci := 6) (q0 := 0) rfl rfl, fun U hU hW => ⟨rfl, by rw [hU], by rw [hU]; exact hPc, va_K.moved hW.alike hK, hDc.weaken (fun _ _ _ _ => trivial)⟩⟩ rfl rfl hl.1 rfl (lv_room (Nat.le_of_ble_eq_true rfl)) dX7_link_114 ⟨Nat.zero_le _, Nat.zero_le _⟩) hS (fun q _ h => hFc q h) hFc (fun r_ u_ t H locs ht hvm hw hB hz1 hk1 hS => ?_)
        obtain rfl := hw.symm
        obtain ⟨hP1, -, hD1⟩ := hB
        rw [ht] at hP1
        obtain ⟨hP, hD⟩ := va_join (wr := [(zar, .inl (cJ, 64, .inr (.inl y21))), (zbe, .inl (cJ, 64, .inr (.inl (vp_updL y22 y20.toNatClampNeg ((((f_X7_bit r23) ||| (f_X7_bit r24)) ||| (f_X7_bit r25)) ||| (f_X7_bit r26))))))]) (w1 := [(zmo, .inr (6, [.int mM.1, .int mM.2.1, .int mM.2.2.1, .int (bI mM.2.2.2.1), .int mM.2.2.2.2.1, .int mM.2.2.2.2.2, .ref zar, .ref zbe, .ref zst, .ref zah, .ref zgd]))]) hP hD [0] [1, 2] rfl rfl (by decide) (by decide) hk1 hFc hP1 hD1
        have hP := hP.sub (ws' := [(zmo, .inr (6, [.int mM.1, .int mM.2.1, .int mM.2.2.1, .int (bI mM.2.2.2.1), .int mM.2.2.2.2.1, .int mM.2.2.2.2.2, .ref zar, .ref zbe, .ref zst, .ref zah, .ref zgd])), (zar, .inl (cJ, 64, .inr (.inl y21))), (zbe, .inl (cJ, 64, .inr (.inl (vp_updL y22 y20.toNatClampNeg ((((f_X7_bit r23) ||| (f_X7_bit r24)) ||| (f_X7_bit r25)) ||| (f_X7_bit r26))))))]) [2, 0, 1] rfl
        have hD := hD.sub (ws' := [(zmo, .inr (6, [.int mM.1, .int mM.2.1, .int mM.2.2.1, .int (bI mM.2.2.2.1), .int mM.2.2.2.2.1, .int mM.2.2.2.2.2, .ref zar, .ref zbe, .ref zst, .ref zah, .ref zgd])), (zar, .inl (cJ, 64, .inr (.inl y21))), (zbe, .inl (cJ, 64, .inr (.inl (vp_updL y22 y20.toNatClampNeg ((((f_X7_bit r23) ||| (f_X7_bit r24)) ||| (f_X7_bit r25)) ||| (f_X7_bit r26))))))]) [2, 0, 1] (by decide) rfl
        clear hPc hDc hFc hP1 hD1 hk1
        have hPc := hP.sub (ws' := []) [] rfl
        have hDc := hD.sub (ws' := []) [] (by decide) rfl
        have hFc := va_free (wc := []) hD hS hA [] rfl
        refine va_calll (va_runS (As := [.int r28]) (rest := [.long (((vp_updL y22 y20.toNatClampNeg ((((f_X7_bit r23) ||| (f_X7_bit r24)) ||| (f_X7_bit r25)) ||| (f_X7_bit r26))) y20.toNatClampNeg) ||| (f_X7_bit r27)), .int y20, .ref zar]) ⟨hx, hb, hml, hown, hts⟩ (c_X7_bit l dC dI cI cJ  H.size r28) (va_cwS 1 hts gX7_link_X7_bit rfl rfl rfl (by decide +kernel) ⟨Nat.le_of_ble_eq_true rfl, Nat.le_of_ble_eq_true rfl⟩) ⟨fun a U gg mk q => by obtain ⟨q0, q1, qP, qK, qD⟩ := q; exact ⟨q0, q1, qP, va_K.moved (u := U) (U := U.calling gg mk a) (Vm.Alike.refl U.vm) qK, qD⟩, fun U hU hW => ⟨rfl, by rw [hU], by rw [hU]; exact hPc, va_K.moved hW.alike hK, hDc.weaken (fun _ _ _ _ => trivial)⟩⟩ rfl rfl hl.1 rfl (lv_room (Nat.le_of_ble_eq_true rfl)) dX7_link_117 ⟨Nat.zero_le _, Nat.zero_le _⟩) hS (fun q _ h => hFc q h) hFc (fun r_ u_ t H locs ht hvm hw hB hz1 hk1 hS => ?_)
        obtain rfl := hw.symm
        obtain ⟨hP1, -, hD1⟩ := hB
        rw [ht] at hP1
        obtain ⟨hP, hD⟩ := va_join (wr := [(zmo, .inr (6, [.int mM.1, .int mM.2.1, .int mM.2.2.1, .int (bI mM.2.2.2.1), .int mM.2.2.2.2.1, .int mM.2.2.2.2.2, .ref zar, .ref zbe, .ref zst, .ref zah, .ref zgd])), (zar, .inl (cJ, 64, .inr (.inl y21))), (zbe, .inl (cJ, 64, .inr (.inl (vp_updL y22 y20.toNatClampNeg ((((f_X7_bit r23) ||| (f_X7_bit r24)) ||| (f_X7_bit r25)) ||| (f_X7_bit r26))))))]) (w1 := []) hP hD [] [0, 1, 2] rfl rfl (by decide) (by decide) hk1 hFc hP1 hD1
        have hP := hP.sub (ws' := [(zmo, .inr (6, [.int mM.1, .int mM.2.1, .int mM.2.2.1, .int (bI mM.2.2.2.1), .int mM.2.2.2.2.1, .int mM.2.2.2.2.2, .ref zar, .ref zbe, .ref zst, .ref zah, .ref zgd])), (zar, .inl (cJ, 64, .inr (.inl y21))), (zbe, .inl (cJ, 64, .inr (.inl (vp_updL y22 y20.toNatClampNeg ((((f_X7_bit r23) ||| (f_X7_bit r24)) ||| (f_X7_bit r25)) ||| (f_X7_bit r26))))))]) [0, 1, 2] rfl
        have hD := hD.sub (ws' := [(zmo, .inr (6, [.int mM.1, .int mM.2.1, .int mM.2.2.1, .int (bI mM.2.2.2.1), .int mM.2.2.2.2.1, .int mM.2.2.2.2.2, .ref zar, .ref zbe, .ref zst, .ref zah, .ref zgd])), (zar, .inl (cJ, 64, .inr (.inl y21))), (zbe, .inl (cJ, 64, .inr (.inl (vp_updL y22 y20.toNatClampNeg ((((f_X7_bit r23) ||| (f_X7_bit r24)) ||| (f_X7_bit r25)) ||| (f_X7_bit r26))))))]) [0, 1, 2] (by decide) rfl
        clear hPc hDc hFc hP1 hD1 hk1
        refine lv_lor hx hb dX7_link_120 ?_
        refine lv_aload_n hx hb dX7_link_121 rfl (lv_at hl 2 rfl) ?_
        refine lv_iload_n hx hb dX7_link_122 rfl (lv_at hl 1 rfl) ?_
        refine lv_iconst (v := 1) hx hb dX7_link_123 (by decide) ?_
        refine lv_isub hx hb dX7_link_124 ?_
        refine lv_iload_n hx hb dX7_link_125 rfl (lv_at hl 0 rfl) ?_
        refine lv_iconst (v := 1) hx hb dX7_link_126 (by decide) ?_
        refine lv_iadd hx hb dX7_link_127 ?_
        obtain ⟨r29, hr29, hf⟩ := obind hf
        have hPc := hP.sub (ws' := [(zmo, .inr (6, [.int mM.1, .int mM.2.1, .int mM.2.2.1, .int (bI mM.2.2.2.1), .int mM.2.2.2.2.1, .int mM.2.2.2.2.2, .ref zar, .ref zbe, .ref zst, .ref zah, .ref zgd]))]) [0] rfl
        have hDc := hD.sub (ws' := [(zmo, .inr (6, [.int mM.1, .int mM.2.1, .int mM.2.2.1, .int (bI mM.2.2.2.1), .int mM.2.2.2.2.1, .int mM.2.2.2.2.2, .ref zar, .ref zbe, .ref zst, .ref zah, .ref zgd]))]) [0] (by decide) rfl
        have hFc := va_free (wc := [(zmo, .inr (6, [.int mM.1, .int mM.2.1, .int mM.2.2.1, .int (bI mM.2.2.2.1), .int mM.2.2.2.2.1, .int mM.2.2.2.2.2, .ref zar, .ref zbe, .ref zst, .ref zah, .ref zgd]))]) hD hS hA [0] rfl
        refine va_calli (va_runV (As := [.int ((y20 - y20 / mM.2.1 * mM.2.1) - 1), .int ((y20 / mM.2.1) + 1)]) (rest := [.long ((((vp_updL y22 y20.toNatClampNeg ((((f_X7_bit r23) ||| (f_X7_bit r24)) ||| (f_X7_bit r25)) ||| (f_X7_bit r26))) y20.toNatClampNeg) ||| (f_X7_bit r27)) ||| (f_X7_bit r28)), .int y20, .ref zar]) ⟨hx, hb, hml, hown, hts⟩ (c_X7_at l dC dI cI cJ zmo zar zbe zst zah zgd H.size mM ((y20 - y20 / mM.2.1 * mM.2.1) - 1) ((y20 / mM.2.1) + 1) _ hr29) (cwV 2 hts gX7_link_X7_at rfl rfl rfl (by decide +kernel) ⟨Nat.le_of_ble_eq_true rfl, Nat.le_of_ble_eq_true rfl⟩) ⟨fun a U gg mk q => by obtain ⟨q0, q1, qP, qK, qD⟩ := q; exact ⟨q0, q1, qP, va_K.moved (u := U) (U := U.calling gg mk a) (Vm.Alike.refl U.vm) qK, qD⟩, va_recv hK hPc (ci := 6) (q0 := 0) rfl rfl, fun U hU hW => ⟨rfl, by rw [hU], by rw [hU]; exact hPc, va_K.moved hW.alike hK, hDc.weaken (fun _ _ _ _ => trivial)⟩⟩ rfl rfl hl.1 rfl (lv_room (Nat.le_of_ble_eq_true rfl)) dX7_link_128 ⟨Nat.zero_le _, Nat.zero_le _⟩) hS (fun q _ h => hFc q h) hFc (fun r_ u_ t H locs ht hvm hw hB hz1 hk1 hS => ?_)
        obtain rfl := hw.symm
        obtain ⟨hP1, -, hD1⟩ := hB
        rw [ht] at hP1
        obtain ⟨hP, hD⟩ := va_join (wr := [(zar, .inl (cJ, 64, .inr (.inl y21))), (zbe, .inl (cJ, 64, .inr (.inl (vp_updL y22 y20.toNatClampNeg ((((f_X7_bit r23) ||| (f_X7_bit r24)) ||| (f_X7_bit r25)) ||| (f_X7_bit r26))))))]) (w1 := [(zmo, .inr (6, [.int mM.1, .int mM.2.1, .int mM.2.2.1, .int (bI mM.2.2.2.1), .int mM.2.2.2.2.1, .int mM.2.2.2.2.2, .ref zar, .ref zbe, .ref zst, .ref zah, .ref zgd]))]) hP hD [0] [1, 2] rfl rfl (by decide) (by decide) hk1 hFc hP1 hD1
        have hP := hP.sub (ws' := [(zmo, .inr (6, [.int mM.1, .int mM.2.1, .int mM.2.2.1, .int (bI mM.2.2.2.1), .int mM.2.2.2.2.1, .int mM.2.2.2.2.2, .ref zar, .ref zbe, .ref zst, .ref zah, .ref zgd])), (zar, .inl (cJ, 64, .inr (.inl y21))), (zbe, .inl (cJ, 64, .inr (.inl (vp_updL y22 y20.toNatClampNeg ((((f_X7_bit r23) ||| (f_X7_bit r24)) ||| (f_X7_bit r25)) ||| (f_X7_bit r26))))))]) [2, 0, 1] rfl
        have hD := hD.sub (ws' := [(zmo, .inr (6, [.int mM.1, .int mM.2.1, .int mM.2.2.1, .int (bI mM.2.2.2.1), .int mM.2.2.2.2.1, .int mM.2.2.2.2.2, .ref zar, .ref zbe, .ref zst, .ref zah, .ref zgd])), (zar, .inl (cJ, 64, .inr (.inl y21))), (zbe, .inl (cJ, 64, .inr (.inl (vp_updL y22 y20.toNatClampNeg ((((f_X7_bit r23) ||| (f_X7_bit r24)) ||| (f_X7_bit r25)) ||| (f_X7_bit r26))))))]) [2, 0, 1] (by decide) rfl
        clear hPc hDc hFc hP1 hD1 hk1
        have hPc := hP.sub (ws' := []) [] rfl
        have hDc := hD.sub (ws' := []) [] (by decide) rfl
        have hFc := va_free (wc := []) hD hS hA [] rfl
        refine va_calll (va_runS (As := [.int r29]) (rest := [.long ((((vp_updL y22 y20.toNatClampNeg ((((f_X7_bit r23) ||| (f_X7_bit r24)) ||| (f_X7_bit r25)) ||| (f_X7_bit r26))) y20.toNatClampNeg) ||| (f_X7_bit r27)) ||| (f_X7_bit r28)), .int y20, .ref zar]) ⟨hx, hb, hml, hown, hts⟩ (c_X7_bit l dC dI cI cJ  H.size r29) (va_cwS 1 hts gX7_link_X7_bit rfl rfl rfl (by decide +kernel) ⟨Nat.le_of_ble_eq_true rfl, Nat.le_of_ble_eq_true rfl⟩) ⟨fun a U gg mk q => by obtain ⟨q0, q1, qP, qK, qD⟩ := q; exact ⟨q0, q1, qP, va_K.moved (u := U) (U := U.calling gg mk a) (Vm.Alike.refl U.vm) qK, qD⟩, fun U hU hW => ⟨rfl, by rw [hU], by rw [hU]; exact hPc, va_K.moved hW.alike hK, hDc.weaken (fun _ _ _ _ => trivial)⟩⟩ rfl rfl hl.1 rfl (lv_room (Nat.le_of_ble_eq_true rfl)) dX7_link_131 ⟨Nat.zero_le _, Nat.zero_le _⟩) hS (fun q _ h => hFc q h) hFc (fun r_ u_ t H locs ht hvm hw hB hz1 hk1 hS => ?_)
        obtain rfl := hw.symm
        obtain ⟨hP1, -, hD1⟩ := hB
        rw [ht] at hP1
        obtain ⟨hP, hD⟩ := va_join (wr := [(zmo, .inr (6, [.int mM.1, .int mM.2.1, .int mM.2.2.1, .int (bI mM.2.2.2.1), .int mM.2.2.2.2.1, .int mM.2.2.2.2.2, .ref zar, .ref zbe, .ref zst, .ref zah, .ref zgd])), (zar, .inl (cJ, 64, .inr (.inl y21))), (zbe, .inl (cJ, 64, .inr (.inl (vp_updL y22 y20.toNatClampNeg ((((f_X7_bit r23) ||| (f_X7_bit r24)) ||| (f_X7_bit r25)) ||| (f_X7_bit r26))))))]) (w1 := []) hP hD [] [0, 1, 2] rfl rfl (by decide) (by decide) hk1 hFc hP1 hD1
        have hP := hP.sub (ws' := [(zmo, .inr (6, [.int mM.1, .int mM.2.1, .int mM.2.2.1, .int (bI mM.2.2.2.1), .int mM.2.2.2.2.1, .int mM.2.2.2.2.2, .ref zar, .ref zbe, .ref zst, .ref zah, .ref zgd])), (zar, .inl (cJ, 64, .inr (.inl y21))), (zbe, .inl (cJ, 64, .inr (.inl (vp_updL y22 y20.toNatClampNeg ((((f_X7_bit r23) ||| (f_X7_bit r24)) ||| (f_X7_bit r25)) ||| (f_X7_bit r26))))))]) [0, 1, 2] rfl
        have hD := hD.sub (ws' := [(zmo, .inr (6, [.int mM.1, .int mM.2.1, .int mM.2.2.1, .int (bI mM.2.2.2.1), .int mM.2.2.2.2.1, .int mM.2.2.2.2.2, .ref zar, .ref zbe, .ref zst, .ref zah, .ref zgd])), (zar, .inl (cJ, 64, .inr (.inl y21))), (zbe, .inl (cJ, 64, .inr (.inl (vp_updL y22 y20.toNatClampNeg ((((f_X7_bit r23) ||| (f_X7_bit r24)) ||| (f_X7_bit r25)) ||| (f_X7_bit r26))))))]) [0, 1, 2] (by decide) rfl
        clear hPc hDc hFc hP1 hD1 hk1
        refine lv_lor hx hb dX7_link_134 ?_
        refine lv_aload_n hx hb dX7_link_135 rfl (lv_at hl 2 rfl) ?_
        refine lv_iload_n hx hb dX7_link_136 rfl (lv_at hl 1 rfl) ?_
        refine lv_iconst (v := 1) hx hb dX7_link_137 (by decide) ?_
        refine lv_iadd hx hb dX7_link_138 ?_
        refine lv_iload_n hx hb dX7_link_139 rfl (lv_at hl 0 rfl) ?_
        refine lv_iconst (v := 1) hx hb dX7_link_140 (by decide) ?_
        refine lv_iadd hx hb dX7_link_141 ?_
        obtain ⟨r30, hr30, hf⟩ := obind hf
        have hPc := hP.sub (ws' := [(zmo, .inr (6, [.int mM.1, .int mM.2.1, .int mM.2.2.1, .int (bI mM.2.2.2.1), .int mM.2.2.2.2.1, .int mM.2.2.2.2.2, .ref zar, .ref zbe, .ref zst, .ref zah, .ref zgd]))]) [0] rfl
        have hDc := hD.sub (ws' := [(zmo, .inr (6, [.int mM.1, .int mM.2.1, .int mM.2.2.1, .int (bI mM.2.2.2.1), .int mM.2.2.2.2.1, .int mM.2.2.2.2.2, .ref zar, .ref zbe, .ref zst, .ref zah, .ref zgd]))]) [0] (by decide) rfl
        have hFc := va_free (wc := [(zmo, .inr (6, [.int mM.1, .int mM.2.1, .int mM.2.2.1, .int (bI mM.2.2.2.1), .int mM.2.2.2.2.1, .int mM.2.2.2.2.2, .ref zar, .ref zbe, .ref zst, .ref zah, .ref zgd]))]) hD hS hA [0] rfl
        refine va_calli (va_runV (As := [.int ((y20 - y20 / mM.2.1 * mM.2.1) + 1), .int ((y20 / mM.2.1) + 1)]) (rest := [.long (((((vp_updL y22 y20.toNatClampNeg ((((f_X7_bit r23) ||| (f_X7_bit r24)) ||| (f_X7_bit r25)) ||| (f_X7_bit r26))) y20.toNatClampNeg) ||| (f_X7_bit r27)) ||| (f_X7_bit r28)) ||| (f_X7_bit r29)), .int y20, .ref zar]) ⟨hx, hb, hml, hown, hts⟩ (c_X7_at l dC dI cI cJ zmo zar zbe zst zah zgd H.size mM ((y20 - y20 / mM.2.1 * mM.2.1) + 1) ((y20 / mM.2.1) + 1) _ hr30) (cwV 2 hts gX7_link_X7_at rfl rfl rfl (by decide +kernel) ⟨Nat.le_of_ble_eq_true rfl, Nat.le_of_ble_eq_true rfl⟩) ⟨fun a U gg mk q => by obtain ⟨q0, q1, qP, qK, qD⟩ := q; exact ⟨q0, q1, qP, va_K.moved (u := U) (U := U.calling gg mk a) (Vm.Alike.refl U.vm) qK, qD⟩, va_recv hK hPc (ci := 6) (q0 := 0) rfl rfl, fun U hU hW => ⟨rfl, by rw [hU], by rw [hU]; exact hPc, va_K.moved hW.alike hK, hDc.weaken (fun _ _ _ _ => trivial)⟩⟩ rfl rfl hl.1 rfl (lv_room (Nat.le_of_ble_eq_true rfl)) dX7_link_142 ⟨Nat.zero_le _, Nat.zero_le _⟩) hS (fun q _ h => hFc q h) hFc (fun r_ u_ t H locs ht hvm hw hB hz1 hk1 hS => ?_)
        obtain rfl := hw.symm
        obtain ⟨hP1, -, hD1⟩ := hB
        rw [ht] at hP1
        obtain ⟨hP, hD⟩ := va_join (wr := [(zar, .inl (cJ, 64, .inr (.inl y21))), (zbe, .inl (cJ, 64, .inr (.inl (vp_updL y22 y20.toNatClampNeg ((((f_X7_bit r23) ||| (f_X7_bit r24)) ||| (f_X7_bit r25)) ||| (f_X7_bit r26))))))]) (w1 := [(zmo, .inr (6, [.int mM.1, .int mM.2.1, .int mM.2.2.1, .int (bI mM.2.2.2.1), .int mM.2.2.2.2.1, .int mM.2.2.2.2.2, .ref zar, .ref zbe, .ref zst, .ref zah, .ref zgd]))]) hP hD [0] [1, 2] rfl rfl (by decide) (by decide) hk1 hFc hP1 hD1
        have hP := hP.sub (ws' := [(zmo, .inr (6, [.int mM.1, .int mM.2.1, .int mM.2.2.1, .int (bI mM.2.2.2.1), .int mM.2.2.2.2.1, .int mM.2.2.2.2.2, .ref zar, .ref zbe, .ref zst, .ref zah, .ref zgd])), (zar, .inl (cJ, 64, .inr (.inl y21))), (zbe, .inl (cJ, 64, .inr (.inl (vp_updL y22 y20.toNatClampNeg ((((f_X7_bit r23) ||| (f_X7_bit r24)) ||| (f_X7_bit r25)) ||| (f_X7_bit r26))))))]) [2, 0, 1] rfl
        have hD := hD.sub (ws' := [(zmo, .inr (6, [.int mM.1, .int mM.2.1, .int mM.2.2.1, .int (bI mM.2.2.2.1), .int mM.2.2.2.2.1, .int mM.2.2.2.2.2, .ref zar, .ref zbe, .ref zst, .ref zah, .ref zgd])), (zar, .inl (cJ, 64, .inr (.inl y21))), (zbe, .inl (cJ, 64, .inr (.inl (vp_updL y22 y20.toNatClampNeg ((((f_X7_bit r23) ||| (f_X7_bit r24)) ||| (f_X7_bit r25)) ||| (f_X7_bit r26))))))]) [2, 0, 1] (by decide) rfl
        clear hPc hDc hFc hP1 hD1 hk1
        have hPc := hP.sub (ws' := []) [] rfl
        have hDc := hD.sub (ws' := []) [] (by decide) rfl
        have hFc := va_free (wc := []) hD hS hA [] rfl
        refine va_calll (va_runS (As := [.int r30]) (rest := [.long (((((vp_updL y22 y20.toNatClampNeg ((((f_X7_bit r23) ||| (f_X7_bit r24)) ||| (f_X7_bit r25)) ||| (f_X7_bit r26))) y20.toNatClampNeg) ||| (f_X7_bit r27)) ||| (f_X7_bit r28)) ||| (f_X7_bit r29)), .int y20, .ref zar]) ⟨hx, hb, hml, hown, hts⟩ (c_X7_bit l dC dI cI cJ  H.size r30) (va_cwS 1 hts gX7_link_X7_bit rfl rfl rfl (by decide +kernel) ⟨Nat.le_of_ble_eq_true rfl, Nat.le_of_ble_eq_true rfl⟩) ⟨fun a U gg mk q => by obtain ⟨q0, q1, qP, qK, qD⟩ := q; exact ⟨q0, q1, qP, va_K.moved (u := U) (U := U.calling gg mk a) (Vm.Alike.refl U.vm) qK, qD⟩, fun U hU hW => ⟨rfl, by rw [hU], by rw [hU]; exact hPc, va_K.moved hW.alike hK, hDc.weaken (fun _ _ _ _ => trivial)⟩⟩ rfl rfl hl.1 rfl (lv_room (Nat.le_of_ble_eq_true rfl)) dX7_link_145 ⟨Nat.zero_le _, Nat.zero_le _⟩) hS (fun q _ h => hFc q h) hFc (fun r_ u_ t H locs ht hvm hw hB hz1 hk1 hS => ?_)
        obtain rfl := hw.symm
        obtain ⟨hP1, -, hD1⟩ := hB
        rw [ht] at hP1
        obtain ⟨hP, hD⟩ := va_join (wr := [(zmo, .inr (6, [.int mM.1, .int mM.2.1, .int mM.2.2.1, .int (bI mM.2.2.2.1), .int mM.2.2.2.2.1, .int mM.2.2.2.2.2, .ref zar, .ref zbe, .ref zst, .ref zah, .ref zgd])), (zar, .inl (cJ, 64, .inr (.inl y21))), (zbe, .inl (cJ, 64, .inr (.inl (vp_updL y22 y20.toNatClampNeg ((((f_X7_bit r23) ||| (f_X7_bit r24)) ||| (f_X7_bit r25)) ||| (f_X7_bit r26))))))]) (w1 := []) hP hD [] [0, 1, 2] rfl rfl (by decide) (by decide) hk1 hFc hP1 hD1
        have hP := hP.sub (ws' := [(zmo, .inr (6, [.int mM.1, .int mM.2.1, .int mM.2.2.1, .int (bI mM.2.2.2.1), .int mM.2.2.2.2.1, .int mM.2.2.2.2.2, .ref zar, .ref zbe, .ref zst, .ref zah, .ref zgd])), (zar, .inl (cJ, 64, .inr (.inl y21))), (zbe, .inl (cJ, 64, .inr (.inl (vp_updL y22 y20.toNatClampNeg ((((f_X7_bit r23) ||| (f_X7_bit r24)) ||| (f_X7_bit r25)) ||| (f_X7_bit r26))))))]) [0, 1, 2] rfl
        have hD := hD.sub (ws' := [(zmo, .inr (6, [.int mM.1, .int mM.2.1, .int mM.2.2.1, .int (bI mM.2.2.2.1), .int mM.2.2.2.2.1, .int mM.2.2.2.2.2, .ref zar, .ref zbe, .ref zst, .ref zah, .ref zgd])), (zar, .inl (cJ, 64, .inr (.inl y21))), (zbe, .inl (cJ, 64, .inr (.inl (vp_updL y22 y20.toNatClampNeg ((((f_X7_bit r23) ||| (f_X7_bit r24)) ||| (f_X7_bit r25)) ||| (f_X7_bit r26))))))]) [0, 1, 2] (by decide) rfl
        clear hPc hDc hFc hP1 hD1 hk1
        refine lv_lor hx hb dX7_link_148 ?_
        have hg0 : ¬ (y20 < 0 ∨ 64 ≤ y20.toNatClampNeg) := fun hq => by rw [if_pos hq] at hf; exact nomatch hf
        rw [if_neg hg0] at hf
        have hg : vp_in y20 64 := hg0
        refine va_last hx hb hK hP hD hS 1 1 rfl rfl hg dX7_link_149 (fun H locs hP hD hS => ?_)
        have hP : va_P (dC, dI) vwCl [(zmo, .inr (6, [.int mM.1, .int mM.2.1, .int mM.2.2.1, .int (bI mM.2.2.2.1), .int mM.2.2.2.2.1, .int mM.2.2.2.2.2, .ref zar, .ref zbe, .ref zst, .ref zah, .ref zgd])), (zar, .inl (cJ, 64, .inr (.inl (vp_updL y21 y20.toNatClampNeg ((((((vp_updL y22 y20.toNatClampNeg ((((f_X7_bit r23) ||| (f_X7_bit r24)) ||| (f_X7_bit r25)) ||| (f_X7_bit r26))) y20.toNatClampNeg) ||| (f_X7_bit r27)) ||| (f_X7_bit r28)) ||| (f_X7_bit r29)) ||| (f_X7_bit r30)))))), (zbe, .inl (cJ, 64, .inr (.inl (vp_updL y22 y20.toNatClampNeg ((((f_X7_bit r23) ||| (f_X7_bit r24)) ||| (f_X7_bit r25)) ||| (f_X7_bit r26))))))] H := hP
        have hD : va_D (A_X7_link cI cJ zmo zar zbe zst zah zgd mM fR fB s.heap.size) [(zmo, .inr (6, [.int mM.1, .int mM.2.1, .int mM.2.2.1, .int (bI mM.2.2.2.1), .int mM.2.2.2.2.1, .int mM.2.2.2.2.2, .ref zar, .ref zbe, .ref zst, .ref zah, .ref zgd])), (zar, .inl (cJ, 64, .inr (.inl (vp_updL y21 y20.toNatClampNeg ((((((vp_updL y22 y20.toNatClampNeg ((((f_X7_bit r23) ||| (f_X7_bit r24)) ||| (f_X7_bit r25)) ||| (f_X7_bit r26))) y20.toNatClampNeg) ||| (f_X7_bit r27)) ||| (f_X7_bit r28)) ||| (f_X7_bit r29)) ||| (f_X7_bit r30)))))), (zbe, .inl (cJ, 64, .inr (.inl (vp_updL y22 y20.toNatClampNeg ((((f_X7_bit r23) ||| (f_X7_bit r24)) ||| (f_X7_bit r25)) ||| (f_X7_bit r26))))))] := hD
        refine lv_iinc (v := (y20 + 1)) (lv' := [(1, .int (y20 + 1)), (3, .int (y20 / mM.2.1)), (2, .int (y20 - y20 / mM.2.1 * mM.2.1)), (0, .ref zmo)]) hx hb dX7_link_150 hl (k := 3) rfl rfl (by decide) rfl (fun ls hl => ?_)
        refine lv_goto (tgt := 2) hx hb dX7_link_153 (by decide) ?_
        exact ih34 _ _ _ _ _ _ hf hP hD hS (lv_sub hl [3, 0] rfl)
  exact lp33 100 _ _ _ _ _ _ hv hP hD hS (lv_sub hl [1, 0] rfl)
/-! HedgeGlidersModel.comes(JI)Z -/
def f_X7_comes (mM : MoS) (fR : Nat → Int64) (hs : Int64) (ce : Int32) : Option (Int32) := if ce < 0 ∨ 64 ≤ ce.toNatClampNeg then none else bindv (if ((jshr hs ce) &&& 1) = 1 then (mM.2.2.2.2.2) else (mM.2.2.2.2.1) : Int32) fun v1 => if ((v1 >>> ((f_J13_bitCount_95d88 (hs &&& (fR ce.toNatClampNeg))) &&& 31)) &&& 1) = 1 then (some 1) else (some 0)
abbrev rm_X7_comes : Room := ({ frames := 1, cells := 0, slots := 0, locals := 21 } : Room)
abbrev A_X7_comes (cI cJ : ClassId) (zmo zar zbe zst zah zgd : Nat) (mM : MoS) (fR : Nat → Int64) (hs : Int64) (ce : Int32) (sz : Nat) : Nat → Prop := va_A [(zmo, .inr (6, [.int mM.1, .int mM.2.1, .int mM.2.2.1, .int (bI mM.2.2.2.1), .int mM.2.2.2.2.1, .int mM.2.2.2.2.2, .ref zar, .ref zbe, .ref zst, .ref zah, .ref zgd])), (zar, .inl (cJ, 64, .inr (.inl fR)))] sz
abbrev Q_X7_comes (dC : Nat → ClassId) (dI : Nat → Nat → Nat) (cI cJ : ClassId) (zmo zar zbe zst zah zgd : Nat) (mM : MoS) (fR : Nat → Int64) (hs : Int64) (ce : Int32) (sz : Nat) (R : Int32) : Array Value → State → Outcome → State → Prop := va_Qi (fun (r : Int32) (_ : Unit) => r = R) (fun u_ t => va_P (dC, dI) vwCl [(zmo, .inr (6, [.int mM.1, .int mM.2.1, .int mM.2.2.1, .int (bI mM.2.2.2.1), .int mM.2.2.2.2.1, .int mM.2.2.2.2.2, .ref zar, .ref zbe, .ref zst, .ref zah, .ref zgd])), (zar, .inl (cJ, 64, .inr (.inl fR)))] t.heap ∧ va_K (dC, dI) vwCl [(cI, .int), (cJ, .long)] t ∧ va_D (A_X7_comes cI cJ zmo zar zbe zst zah zgd mM fR hs ce sz) [(zmo, .inr (6, [.int mM.1, .int mM.2.1, .int mM.2.2.1, .int (bI mM.2.2.2.1), .int mM.2.2.2.2.1, .int mM.2.2.2.2.2, .ref zar, .ref zbe, .ref zst, .ref zah, .ref zgd])), (zar, .inl (cJ, 64, .inr (.inl fR)))]) (A_X7_comes cI cJ zmo zar zbe zst zah zgd mM fR hs ce sz)
set_option maxHeartbeats 4000000 in
set_option maxRecDepth 100000 in
theorem c_X7_comes (l : Launch) (dC : Nat → ClassId) (dI : Nat → Nat → Nat) (cI cJ : ClassId) (zmo zar zbe zst zah zgd : Nat) (sz : Nat) (mM : MoS) (fR : Nat → Int64) (hs : Int64) (ce : Int32) (R : Int32) (hR : f_X7_comes mM fR hs ce = some R) : Met l yX7_comes wsX7_comes rm_X7_comes (va_Pc [.ref zmo, .long hs, .int ce] (fun U => U.heap.size = sz ∧ va_P (dC, dI) vwCl [(zmo, .inr (6, [.int mM.1, .int mM.2.1, .int mM.2.2.1, .int (bI mM.2.2.2.1), .int mM.2.2.2.2.1, .int mM.2.2.2.2.2, .ref zar, .ref zbe, .ref zst, .ref zah, .ref zgd])), (zar, .inl (cJ, 64, .inr (.inl fR)))] U.heap ∧ va_K (dC, dI) vwCl [(cI, .int), (cJ, .long)] U ∧ va_D (fun _ => True) [(zmo, .inr (6, [.int mM.1, .int mM.2.1, .int mM.2.2.1, .int (bI mM.2.2.2.1), .int mM.2.2.2.2.1, .int mM.2.2.2.2.2, .ref zar, .ref zbe, .ref zst, .ref zah, .ref zgd])), (zar, .inl (cJ, 64, .inr (.inl fR)))])) (Q_X7_comes dC dI cI cJ zmo zar zbe zst zah zgd mM fR hs ce sz R) 0 0 (A_X7_comes cI cJ zmo zar zbe zst zah zgd mM fR hs ce sz) := by
  have hf := hR
  refine Met.ofW (cc := cX7_comes) (maxL := 6) (ret := (some .boolean)) (by decide) rfl ?_
  intro p e s m args below meth c s₁ B hml hv
  obtain ⟨hargs, hsz, hP, hK, hD0⟩ := hv
  have hx := B.exec
  have hb := B.bytes
  have hr := B.returns
  have hts := atoms_spec (ws := wsX7_comes) B.pre
  have hown : s.vm.findClass RX7 = some m.cls := findClass_of_methodNamed B.named
  have hlocks := B.notSynchronized
  subst hsz
  have hD : va_D (A_X7_comes cI cJ zmo zar zbe zst zah zgd mM fR hs ce s.heap.size) [(zmo, .inr (6, [.int mM.1, .int mM.2.1, .int mM.2.2.1, .int (bI mM.2.2.2.1), .int mM.2.2.2.2.1, .int mM.2.2.2.2.2, .ref zar, .ref zbe, .ref zst, .ref zah, .ref zgd])), (zar, .inl (cJ, 64, .inr (.inl fR)))] := hD0.self (sz := s.heap.size)
  have hA : ∀ q : Nat, s.heap.size ≤ q → (A_X7_comes cI cJ zmo zar zbe zst zah zgd mM fR hs ce s.heap.size) q := fun q h => Or.inr h
  have hS : va_S (A_X7_comes cI cJ zmo zar zbe zst zah zgd mM fR hs ce s.heap.size) s.heap s.heap [] := va_S.rf
  have hinX7 : ∀ w ∈ wsX70, w ∈ wsX7_comes := by decide +kernel
  have hw0 := hts (.fieldLink RX7 22 "HedgeGlidersModel" "around" "[J") (by decide +kernel)
  have hw1 := hts (.fieldLink RX7 16 "HedgeGlidersModel" "births" "I") (by decide +kernel)
  have hw2 := hts (.fieldLink RX7 19 "HedgeGlidersModel" "stays" "I") (by decide +kernel)
  have hl := lv_entry ([.ref zmo, .long hs, .int ce]) (n := 6) (Nat.le_of_ble_eq_true rfl)
  have he0 : entryFrame m args 6 = entryFrame m ([.ref zmo, .long hs, .int ce] : List Value).toArray 6 := by rw [hargs]
  rw [he0, lg_entry_eq]
  generalize (lg_sl ([.ref zmo, .long hs, .int ce]) ++ List.replicate (6 - (lg_sl ([.ref zmo, .long hs, .int ce])).length) Slot.unset).toArray = ls at hl ⊢
  have hl : lv_has ls 6 [(0, .ref zmo), (1, .long hs), (3, .int ce)] := hl
  rw [f_X7_comes] at hf
  refine lv_lload_n hx hb dX7_comes_0 rfl (lv_at hl 1 rfl) ?_
  refine lv_aload_n hx hb dX7_comes_1 rfl (lv_at hl 0 rfl) ?_
  refine va_get (D := (dC, dI)) (ci := 6) (v := .ref zar) (C := RX7) (T := TX7) (N := 11) hx hb hts hinX7 hown hK hP 0 rfl rfl 6 (by decide) hw0 (fun _ h9 => h9) rfl dX7_comes_2 ?_
  refine lv_iload_n hx hb dX7_comes_5 rfl (lv_at hl 2 rfl) ?_
  have hg0 : ¬ (ce < 0 ∨ 64 ≤ ce.toNatClampNeg) := fun hq => by rw [if_pos hq] at hf; exact nomatch hf
  rw [if_neg hg0] at hf
  have hg : vp_in ce 64 := hg0
  refine va_lald hx hb hK hP 1 1 rfl rfl hg dX7_comes_6 ?_
  refine lv_land hx hb dX7_comes_7 ?_
  have hPc := hP.sub (ws' := []) [] rfl
  have hDc := hD.sub (ws' := []) [] (by decide) rfl
  have hFc := va_free (wc := []) hD hS hA [] rfl
  refine va_calli (va_runS (As := [.long (hs &&& (fR ce.toNatClampNeg))]) (rest := []) ⟨hx, hb, hml, hown, hts⟩ (c_J13_bitCount_95d88 l dC dI cI cJ  s.heap.size (hs &&& (fR ce.toNatClampNeg))) (va_cwS 1 hts gX7_comes_J13_bitCount_95d88 rfl rfl rfl (by decide +kernel) ⟨Nat.le_of_ble_eq_true rfl, Nat.le_of_ble_eq_true rfl⟩) ⟨fun a U gg mk q => by obtain ⟨q0, q1, qP, qK, qD⟩ := q; exact ⟨q0, q1, qP, va_K.moved (u := U) (U := U.calling gg mk a) (Vm.Alike.refl U.vm) qK, qD⟩, fun U hU hW => ⟨rfl, by rw [hU], by rw [hU]; exact hPc, va_K.moved hW.alike hK, hDc.weaken (fun _ _ _ _ => trivial)⟩⟩ rfl rfl hl.1 rfl (lv_room (Nat.le_of_ble_eq_true rfl)) dX7_comes_8 ⟨Nat.zero_le _, Nat.zero_le _⟩) hS (fun q _ h => hFc q h) hFc (fun r_ u_ t H locs ht hvm hw hB hz1 hk1 hS => ?_)
  obtain rfl := hw.symm
  obtain ⟨hP1, -, hD1⟩ := hB
  rw [ht] at hP1
  obtain ⟨hP, hD⟩ := va_join (wr := [(zmo, .inr (6, [.int mM.1, .int mM.2.1, .int mM.2.2.1, .int (bI mM.2.2.2.1), .int mM.2.2.2.2.1, .int mM.2.2.2.2.2, .ref zar, .ref zbe, .ref zst, .ref zah, .ref zgd])), (zar, .inl (cJ, 64, .inr (.inl fR)))]) (w1 := []) hP hD [] [0, 1] rfl rfl (by decide) (by decide) hk1 hFc hP1 hD1
  have hP := hP.sub (ws' := [(zmo, .inr (6, [.int mM.1, .int mM.2.1, .int mM.2.2.1, .int (bI mM.2.2.2.1), .int mM.2.2.2.2.1, .int mM.2.2.2.2.2, .ref zar, .ref zbe, .ref zst, .ref zah, .ref zgd])), (zar, .inl (cJ, 64, .inr (.inl fR)))]) [0, 1] rfl
  have hD := hD.sub (ws' := [(zmo, .inr (6, [.int mM.1, .int mM.2.1, .int mM.2.2.1, .int (bI mM.2.2.2.1), .int mM.2.2.2.2.1, .int mM.2.2.2.2.2, .ref zar, .ref zbe, .ref zst, .ref zah, .ref zgd])), (zar, .inl (cJ, 64, .inr (.inl fR)))]) [0, 1] (by decide) rfl
  clear hPc hDc hFc hP1 hD1 hk1
  refine lv_istore (lv' := [(4, .int (f_J13_bitCount_95d88 (hs &&& (fR ce.toNatClampNeg)))), (0, .ref zmo), (1, .long hs), (3, .int ce)]) hx hb dX7_comes_11 hl (by decide) rfl (fun ls hl => ?_)
  refine lv_lload_n hx hb dX7_comes_13 rfl (lv_at hl 2 rfl) ?_
  refine lv_iload_n hx hb dX7_comes_14 rfl (lv_at hl 3 rfl) ?_
  refine lv_lshr (v := (jshr hs ce)) hx hb dX7_comes_15 rfl ?_
  refine lv_lconst (v := 1) hx hb dX7_comes_16 (by decide) ?_
  refine lv_land hx hb dX7_comes_17 ?_
  refine lv_lconst (v := 1) hx hb dX7_comes_18 (by decide) ?_
  refine W.lcmp hx hb dX7_comes_19 ?_
  obtain ⟨v1, hv, hf⟩ := vbind hf
  have K2 : ∀ (H : Heap) (locs : List Loc) (ls : Array Slot), va_P (dC, dI) vwCl [(zmo, .inr (6, [.int mM.1, .int mM.2.1, .int mM.2.2.1, .int (bI mM.2.2.2.1), .int mM.2.2.2.2.1, .int mM.2.2.2.2.2, .ref zar, .ref zbe, .ref zst, .ref zah, .ref zgd])), (zar, .inl (cJ, 64, .inr (.inl fR)))] H → va_D (A_X7_comes cI cJ zmo zar zbe zst zah zgd mM fR hs ce s.heap.size) [(zmo, .inr (6, [.int mM.1, .int mM.2.1, .int mM.2.2.1, .int (bI mM.2.2.2.1), .int mM.2.2.2.2.1, .int mM.2.2.2.2.2, .ref zar, .ref zbe, .ref zst, .ref zah, .ref zgd])), (zar, .inl (cJ, 64, .inr (.inl fR)))] → va_S (A_X7_comes cI cJ zmo zar zbe zst zah zgd mM fR hs ce s.heap.size) s.heap H locs → lv_has ls 6 [(4, .int (f_J13_bitCount_95d88 (hs &&& (fR ce.toNatClampNeg))))] → W p l e rm_X7_comes s m args below meth c H locs 0 0 (MQ below (Q_X7_comes dC dI cI cJ zmo zar zbe zst zah zgd mM fR hs ce s.heap.size R) args s 0 0 (A_X7_comes cI cJ zmo zar zbe zst zah zgd mM fR hs ce s.heap.size)) (F0 m 34 ls [.int v1]) := by
    intro H locs ls hP hD hS hl
    refine lv_istore (lv' := [(5, .int v1), (4, .int (f_J13_bitCount_95d88 (hs &&& (fR ce.toNatClampNeg))))]) hx hb dX7_comes_34 hl (by decide) rfl (fun ls hl => ?_)
    refine lv_iload hx hb dX7_comes_36 (lv_at hl 0 rfl) ?_
    refine lv_iload hx hb dX7_comes_38 (lv_at hl 1 rfl) ?_
    refine lv_ishr hx hb dX7_comes_40 ?_
    refine lv_iconst (v := 1) hx hb dX7_comes_41 (by decide) ?_
    refine lv_iand hx hb dX7_comes_42 ?_
    refine lv_iconst (v := 1) hx hb dX7_comes_43 (by decide) ?_
    refine lv_icmp_ne (tgt := 51) hx hb dX7_comes_44 (by decide) (fun hc => ?_) (fun hc => ?_)
    · rw [if_neg hc] at hf
      refine lv_iconst (v := 0) hx hb dX7_comes_51 (by decide) ?_
      obtain rfl := Option.some.inj hf
      exact W.zret (v := 0) (ty := .boolean) hx hb hr rfl (fun t ht hW => ⟨⟨0, (), rfl, rfl, by rw [ht]; exact hP, va_K.moved hW.alike hK, hD⟩, hS.F ht⟩) hS.2.2 dX7_comes_52
    · rw [if_pos hc] at hf
      refine lv_iconst (v := 1) hx hb dX7_comes_47 (by decide) ?_
      refine lv_goto (tgt := 52) hx hb dX7_comes_48 (by decide) ?_
      obtain rfl := Option.some.inj hf
      exact W.zret (v := 1) (ty := .boolean) hx hb hr rfl (fun t ht hW => ⟨⟨1, (), rfl, rfl, by rw [ht]; exact hP, va_K.moved hW.alike hK, hD⟩, hS.F ht⟩) hS.2.2 dX7_comes_52
  clear hf; have hf := hv; clear hv
  refine lv_if_ne (tgt := 30) hx hb dX7_comes_20 (by decide) (fun hc => ?_) (fun hc => ?_)
  · have hc := fun h9 => hc (lgz.mpr h9)
    rw [if_neg hc] at hf
    refine lv_aload_n hx hb dX7_comes_30 rfl (lv_at hl 1 rfl) ?_
    refine va_get (D := (dC, dI)) (ci := 6) (v := .int mM.2.2.2.2.1) (C := RX7) (T := TX7) (N := 11) hx hb hts hinX7 hown hK hP 0 rfl rfl 4 (by decide) hw1 (fun _ h9 => h9) rfl dX7_comes_31 ?_
    obtain rfl := hf
    exact K2 _ _ _ hP hD hS (lv_sub hl [0] rfl)
  · have hc := lgz.mp hc
    rw [if_pos hc] at hf
    refine lv_aload_n hx hb dX7_comes_23 rfl (lv_at hl 1 rfl) ?_
    refine va_get (D := (dC, dI)) (ci := 6) (v := .int mM.2.2.2.2.2) (C := RX7) (T := TX7) (N := 11) hx hb hts hinX7 hown hK hP 0 rfl rfl 5 (by decide) hw2 (fun _ h9 => h9) rfl dX7_comes_24 ?_
    refine lv_goto (tgt := 34) hx hb dX7_comes_27 (by decide) ?_
    obtain rfl := hf
    exact K2 _ _ _ hP hD hS (lv_sub hl [0] rfl)
/-! HedgeGlidersModel.next(J)J -/
def lp_X7_next_5 (mM : MoS) (fR : Nat → Int64) (hs : Int64) : Nat → Int64 → Int32 → Option (Int64)
  | 0, _, _ => none
  | nf + 1, y7, y8 => if (mM.2.1 * mM.2.2.1) ≤ y8 then (some y7) else (Option.bind (f_X7_comes mM fR hs y8) fun r9 => bindv (if r9 = 0 then (y7) else ((y7 ||| (jshl 1 y8))) : Int64) fun v10 => lp_X7_next_5 mM fR hs nf v10 (y8 + 1))
def f_X7_next (mM : MoS) (fR : Nat → Int64) (hs : Int64) : Option (Int64) := Option.bind (lp_X7_next_5 mM fR hs 100 0 0) fun v11 => some v11
abbrev rm_X7_next : Room := ({ frames := 2, cells := 0, slots := 0, locals := 46 } : Room)
abbrev A_X7_next (cI cJ : ClassId) (zmo zar zbe zst zah zgd : Nat) (mM : MoS) (fR : Nat → Int64) (hs : Int64) (sz : Nat) : Nat → Prop := va_A [(zmo, .inr (6, [.int mM.1, .int mM.2.1, .int mM.2.2.1, .int (bI mM.2.2.2.1), .int mM.2.2.2.2.1, .int mM.2.2.2.2.2, .ref zar, .ref zbe, .ref zst, .ref zah, .ref zgd])), (zar, .inl (cJ, 64, .inr (.inl fR)))] sz
abbrev Q_X7_next (dC : Nat → ClassId) (dI : Nat → Nat → Nat) (cI cJ : ClassId) (zmo zar zbe zst zah zgd : Nat) (mM : MoS) (fR : Nat → Int64) (hs : Int64) (sz : Nat) (R : Int64) : Array Value → State → Outcome → State → Prop := va_Ql (fun (r : Int64) (_ : Unit) => r = R) (fun u_ t => va_P (dC, dI) vwCl [(zmo, .inr (6, [.int mM.1, .int mM.2.1, .int mM.2.2.1, .int (bI mM.2.2.2.1), .int mM.2.2.2.2.1, .int mM.2.2.2.2.2, .ref zar, .ref zbe, .ref zst, .ref zah, .ref zgd])), (zar, .inl (cJ, 64, .inr (.inl fR)))] t.heap ∧ va_K (dC, dI) vwCl [(cI, .int), (cJ, .long)] t ∧ va_D (A_X7_next cI cJ zmo zar zbe zst zah zgd mM fR hs sz) [(zmo, .inr (6, [.int mM.1, .int mM.2.1, .int mM.2.2.1, .int (bI mM.2.2.2.1), .int mM.2.2.2.2.1, .int mM.2.2.2.2.2, .ref zar, .ref zbe, .ref zst, .ref zah, .ref zgd])), (zar, .inl (cJ, 64, .inr (.inl fR)))]) (A_X7_next cI cJ zmo zar zbe zst zah zgd mM fR hs sz)
set_option maxHeartbeats 4000000 in
set_option maxRecDepth 100000 in
theorem c_X7_next (l : Launch) (dC : Nat → ClassId) (dI : Nat → Nat → Nat) (cI cJ : ClassId) (zmo zar zbe zst zah zgd : Nat) (sz : Nat) (mM : MoS) (fR : Nat → Int64) (hs : Int64) (R : Int64) (hR : f_X7_next mM fR hs = some R) : Met l yX7_next wsX7_next rm_X7_next (va_Pc [.ref zmo, .long hs] (fun U => U.heap.size = sz ∧ va_P (dC, dI) vwCl [(zmo, .inr (6, [.int mM.1, .int mM.2.1, .int mM.2.2.1, .int (bI mM.2.2.2.1), .int mM.2.2.2.2.1, .int mM.2.2.2.2.2, .ref zar, .ref zbe, .ref zst, .ref zah, .ref zgd])), (zar, .inl (cJ, 64, .inr (.inl fR)))] U.heap ∧ va_K (dC, dI) vwCl [(cI, .int), (cJ, .long)] U ∧ va_D (fun _ => True) [(zmo, .inr (6, [.int mM.1, .int mM.2.1, .int mM.2.2.1, .int (bI mM.2.2.2.1), .int mM.2.2.2.2.1, .int mM.2.2.2.2.2, .ref zar, .ref zbe, .ref zst, .ref zah, .ref zgd])), (zar, .inl (cJ, 64, .inr (.inl fR)))])) (Q_X7_next dC dI cI cJ zmo zar zbe zst zah zgd mM fR hs sz R) 0 0 (A_X7_next cI cJ zmo zar zbe zst zah zgd mM fR hs sz) := by
  have hf := hR
  refine Met.ofW (cc := cX7_next) (maxL := 6) (ret := (some .long)) (by decide) rfl ?_
  intro p e s m args below meth c s₁ B hml hv
  obtain ⟨hargs, hsz, hP, hK, hD0⟩ := hv
  have hx := B.exec
  have hb := B.bytes
  have hr := B.returns
  have hts := atoms_spec (ws := wsX7_next) B.pre
  have hown : s.vm.findClass RX7 = some m.cls := findClass_of_methodNamed B.named
  have hlocks := B.notSynchronized
  subst hsz
  have hD : va_D (A_X7_next cI cJ zmo zar zbe zst zah zgd mM fR hs s.heap.size) [(zmo, .inr (6, [.int mM.1, .int mM.2.1, .int mM.2.2.1, .int (bI mM.2.2.2.1), .int mM.2.2.2.2.1, .int mM.2.2.2.2.2, .ref zar, .ref zbe, .ref zst, .ref zah, .ref zgd])), (zar, .inl (cJ, 64, .inr (.inl fR)))] := hD0.self (sz := s.heap.size)
  have hA : ∀ q : Nat, s.heap.size ≤ q → (A_X7_next cI cJ zmo zar zbe zst zah zgd mM fR hs s.heap.size) q := fun q h => Or.inr h
  have hS : va_S (A_X7_next cI cJ zmo zar zbe zst zah zgd mM fR hs s.heap.size) s.heap s.heap [] := va_S.rf
  have hinX7 : ∀ w ∈ wsX70, w ∈ wsX7_next := by decide +kernel
  have hw0 := hts (.fieldLink RX7 9 "HedgeGlidersModel" "w" "I") (by decide +kernel)
  have hw1 := hts (.fieldLink RX7 13 "HedgeGlidersModel" "h" "I") (by decide +kernel)
  have hl := lv_entry ([.ref zmo, .long hs]) (n := 6) (Nat.le_of_ble_eq_true rfl)
  have he0 : entryFrame m args 6 = entryFrame m ([.ref zmo, .long hs] : List Value).toArray 6 := by rw [hargs]
  rw [he0, lg_entry_eq]
  generalize (lg_sl ([.ref zmo, .long hs]) ++ List.replicate (6 - (lg_sl ([.ref zmo, .long hs])).length) Slot.unset).toArray = ls at hl ⊢
  have hl : lv_has ls 6 [(0, .ref zmo), (1, .long hs)] := hl
  rw [f_X7_next] at hf
  refine lv_lconst (v := 0) hx hb dX7_next_0 (by decide) ?_
  refine lv_lstore_n (lv' := [(3, .long 0), (0, .ref zmo), (1, .long hs)]) hx hb dX7_next_1 rfl hl (by decide) rfl (fun ls hl => ?_)
  refine lv_iconst (v := 0) hx hb dX7_next_2 (by decide) ?_
  refine lv_istore (lv' := [(5, .int 0), (3, .long 0), (0, .ref zmo), (1, .long hs)]) hx hb dX7_next_3 hl (by decide) rfl (fun ls hl => ?_)
  obtain ⟨v11, hv, hf⟩ := obind hf
  have K12 : ∀ (H : Heap) (locs : List Loc) (ls : Array Slot), va_P (dC, dI) vwCl [(zmo, .inr (6, [.int mM.1, .int mM.2.1, .int mM.2.2.1, .int (bI mM.2.2.2.1), .int mM.2.2.2.2.1, .int mM.2.2.2.2.2, .ref zar, .ref zbe, .ref zst, .ref zah, .ref zgd])), (zar, .inl (cJ, 64, .inr (.inl fR)))] H → va_D (A_X7_next cI cJ zmo zar zbe zst zah zgd mM fR hs s.heap.size) [(zmo, .inr (6, [.int mM.1, .int mM.2.1, .int mM.2.2.1, .int (bI mM.2.2.2.1), .int mM.2.2.2.2.1, .int mM.2.2.2.2.2, .ref zar, .ref zbe, .ref zst, .ref zah, .ref zgd])), (zar, .inl (cJ, 64, .inr (.inl fR)))] → va_S (A_X7_next cI cJ zmo zar zbe zst zah zgd mM fR hs s.heap.size) s.heap H locs → lv_has ls 6 [(3, .long v11)] → W p l e rm_X7_next s m args below meth c H locs 0 0 (MQ below (Q_X7_next dC dI cI cJ zmo zar zbe zst zah zgd mM fR hs s.heap.size R) args s 0 0 (A_X7_next cI cJ zmo zar zbe zst zah zgd mM fR hs s.heap.size)) (F0 m 42 ls []) := by
    intro H locs ls hP hD hS hl
    refine lv_lload_n hx hb dX7_next_42 rfl (lv_at hl 0 rfl) ?_
    obtain rfl := Option.some.inj hf
    exact W.lret (v := v11) hx hb hr (fun t ht hW => ⟨⟨v11, (), rfl, rfl, by rw [ht]; exact hP, va_K.moved hW.alike hK, hD⟩, hS.F ht⟩) hS.2.2 dX7_next_43
  have lp13 : ∀ (nf : Nat) (y7 : Int64) (y8 : Int32) (H : Heap) (locs : List Loc) (ls : Array Slot), lp_X7_next_5 mM fR hs nf y7 y8 = some v11 → va_P (dC, dI) vwCl [(zmo, .inr (6, [.int mM.1, .int mM.2.1, .int mM.2.2.1, .int (bI mM.2.2.2.1), .int mM.2.2.2.2.1, .int mM.2.2.2.2.2, .ref zar, .ref zbe, .ref zst, .ref zah, .ref zgd])), (zar, .inl (cJ, 64, .inr (.inl fR)))] H → va_D (A_X7_next cI cJ zmo zar zbe zst zah zgd mM fR hs s.heap.size) [(zmo, .inr (6, [.int mM.1, .int mM.2.1, .int mM.2.2.1, .int (bI mM.2.2.2.1), .int mM.2.2.2.2.1, .int mM.2.2.2.2.2, .ref zar, .ref zbe, .ref zst, .ref zah, .ref zgd])), (zar, .inl (cJ, 64, .inr (.inl fR)))] → va_S (A_X7_next cI cJ zmo zar zbe zst zah zgd mM fR hs s.heap.size) s.heap H locs → lv_has ls 6 [(0, .ref zmo), (1, .long hs), (3, .long y7), (5, .int y8)] → W p l e rm_X7_next s m args below meth c H locs 0 0 (MQ below (Q_X7_next dC dI cI cJ zmo zar zbe zst zah zgd mM fR hs s.heap.size R) args s 0 0 (A_X7_next cI cJ zmo zar zbe zst zah zgd mM fR hs s.heap.size)) (F0 m 5 ls []) := by
    intro nf
    induction nf with
    | zero => intro y7 y8 H locs ls h9; exact nomatch h9
    | succ nf ih14 =>
      intro y7 y8 H locs ls hf hP hD hS hl
      rw [lp_X7_next_5.eq_2] at hf
      refine lv_iload hx hb dX7_next_5 (lv_at hl 3 rfl) ?_
      refine lv_aload_n hx hb dX7_next_7 rfl (lv_at hl 0 rfl) ?_
      refine va_get (D := (dC, dI)) (ci := 6) (v := .int mM.2.1) (C := RX7) (T := TX7) (N := 11) hx hb hts hinX7 hown hK hP 0 rfl rfl 1 (by decide) hw0 (fun _ h9 => h9) rfl dX7_next_8 ?_
      refine lv_aload_n hx hb dX7_next_11 rfl (lv_at hl 0 rfl) ?_
      refine va_get (D := (dC, dI)) (ci := 6) (v := .int mM.2.2.1) (C := RX7) (T := TX7) (N := 11) hx hb hts hinX7 hown hK hP 0 rfl rfl 2 (by decide) hw1 (fun _ h9 => h9) rfl dX7_next_12 ?_
      refine lv_imul hx hb dX7_next_15 ?_
      refine lv_icmp_ge (tgt := 42) hx hb dX7_next_16 (by decide) (fun hc => ?_) (fun hc => ?_)
      · rw [if_pos hc] at hf
        obtain rfl := Option.some.inj hf
        exact K12 _ _ _ hP hD hS (lv_sub hl [2] rfl)
      · rw [if_neg hc] at hf
        refine lv_aload_n hx hb dX7_next_19 rfl (lv_at hl 0 rfl) ?_
        refine lv_lload_n hx hb dX7_next_20 rfl (lv_at hl 1 rfl) ?_
        refine lv_iload hx hb dX7_next_21 (lv_at hl 3 rfl) ?_
        obtain ⟨r9, hr9, hf⟩ := obind hf
        have hPc := hP.sub (ws' := [(zmo, .inr (6, [.int mM.1, .int mM.2.1, .int mM.2.2.1, .int (bI mM.2.2.2.1), .int mM.2.2.2.2.1, .int mM.2.2.2.2.2, .ref zar, .ref zbe, .ref zst, .ref zah, .ref zgd])), (zar, .inl (cJ, 64, .inr (.inl fR)))]) [0, 1] rfl
        have hDc := hD.sub (ws' := [(zmo, .inr (6, [.int mM.1, .int mM.2.1, .int mM.2.2.1, .int (bI mM.2.2.2.1), .int mM.2.2.2.2.1, .int mM.2.2.2.2.2, .ref zar, .ref zbe, .ref zst, .ref zah, .ref zgd])), (zar, .inl (cJ, 64, .inr (.inl fR)))]) [0, 1] (by decide) rfl
        have hFc := va_free (wc := [(zmo, .inr (6, [.int mM.1, .int mM.2.1, .int mM.2.2.1, .int (bI mM.2.2.2.1), .int mM.2.2.2.2.1, .int mM.2.2.2.2.2, .ref zar, .ref zbe, .ref zst, .ref zah, .ref zgd])), (zar, .inl (cJ, 64, .inr (.inl fR)))]) hD hS hA [0, 1] rfl
        refine va_calli (va_runV (As := [.long hs, .int y8]) (rest := []) ⟨hx, hb, hml, hown, hts⟩ (c_X7_comes l dC dI cI cJ zmo zar zbe zst zah zgd H.size mM fR hs y8 _ hr9) (cwV 2 hts gX7_next_X7_comes rfl rfl rfl (by decide +kernel) ⟨Nat.le_of_ble_eq_true rfl, Nat.le_of_ble_eq_true rfl⟩) ⟨fun a U gg mk q => by obtain ⟨q0, q1, qP, qK, qD⟩ := q; exact ⟨q0, q1, qP, va_K.moved (u := U) (U := U.calling gg mk a) (Vm.Alike.refl U.vm) qK, qD⟩, va_recv hK hPc (ci := 6) (q0 := 0) rfl rfl, fun U hU hW => ⟨rfl, by rw [hU], by rw [hU]; exact hPc, va_K.moved hW.alike hK, hDc.weaken (fun _ _ _ _ => trivial)⟩⟩ rfl rfl hl.1 rfl (lv_room (Nat.le_of_ble_eq_true rfl)) dX7_next_23 ⟨Nat.zero_le _, Nat.zero_le _⟩) hS (fun q _ h => hFc q h) hFc (fun r_ u_ t H locs ht hvm hw hB hz1 hk1 hS => ?_)
        obtain rfl := hw.symm
        obtain ⟨hP1, -, hD1⟩ := hB
        rw [ht] at hP1
        obtain ⟨hP, hD⟩ := va_join (wr := []) (w1 := [(zmo, .inr (6, [.int mM.1, .int mM.2.1, .int mM.2.2.1, .int (bI mM.2.2.2.1), .int mM.2.2.2.2.1, .int mM.2.2.2.2.2, .ref zar, .ref zbe, .ref zst, .ref zah, .ref zgd])), (zar, .inl (cJ, 64, .inr (.inl fR)))]) hP hD [0, 1] [] rfl rfl (by decide) (by decide) hk1 hFc hP1 hD1
        have hP := hP.sub (ws' := [(zmo, .inr (6, [.int mM.1, .int mM.2.1, .int mM.2.2.1, .int (bI mM.2.2.2.1), .int mM.2.2.2.2.1, .int mM.2.2.2.2.2, .ref zar, .ref zbe, .ref zst, .ref zah, .ref zgd])), (zar, .inl (cJ, 64, .inr (.inl fR)))]) [0, 1] rfl
        have hD := hD.sub (ws' := [(zmo, .inr (6, [.int mM.1, .int mM.2.1, .int mM.2.2.1, .int (bI mM.2.2.2.1), .int mM.2.2.2.2.1, .int mM.2.2.2.2.2, .ref zar, .ref zbe, .ref zst, .ref zah, .ref zgd])), (zar, .inl (cJ, 64, .inr (.inl fR)))]) [0, 1] (by decide) rfl
        clear hPc hDc hFc hP1 hD1 hk1
        obtain ⟨v10, hv, hf⟩ := vbind hf
        have K15 : ∀ (H : Heap) (locs : List Loc) (ls : Array Slot), va_P (dC, dI) vwCl [(zmo, .inr (6, [.int mM.1, .int mM.2.1, .int mM.2.2.1, .int (bI mM.2.2.2.1), .int mM.2.2.2.2.1, .int mM.2.2.2.2.2, .ref zar, .ref zbe, .ref zst, .ref zah, .ref zgd])), (zar, .inl (cJ, 64, .inr (.inl fR)))] H → va_D (A_X7_next cI cJ zmo zar zbe zst zah zgd mM fR hs s.heap.size) [(zmo, .inr (6, [.int mM.1, .int mM.2.1, .int mM.2.2.1, .int (bI mM.2.2.2.1), .int mM.2.2.2.2.1, .int mM.2.2.2.2.2, .ref zar, .ref zbe, .ref zst, .ref zah, .ref zgd])), (zar, .inl (cJ, 64, .inr (.inl fR)))] → va_S (A_X7_next cI cJ zmo zar zbe zst zah zgd mM fR hs s.heap.size) s.heap H locs → lv_has ls 6 [(0, .ref zmo), (1, .long hs), (3, .long v10), (5, .int y8)] → W p l e rm_X7_next s m args below meth c H locs 0 0 (MQ below (Q_X7_next dC dI cI cJ zmo zar zbe zst zah zgd mM fR hs s.heap.size R) args s 0 0 (A_X7_next cI cJ zmo zar zbe zst zah zgd mM fR hs s.heap.size)) (F0 m 36 ls []) := by
          intro H locs ls hP hD hS hl
          refine lv_iinc (v := (y8 + 1)) (lv' := [(5, .int (y8 + 1)), (0, .ref zmo), (1, .long hs), (3, .long v10)]) hx hb dX7_next_36 hl (k := 3) rfl rfl (by decide) rfl (fun ls hl => ?_)
          refine lv_goto (tgt := 5) hx hb dX7_next_39 (by decide) ?_
          exact ih14 _ _ _ _ _ hf hP hD hS (lv_sub hl [1, 2, 3, 0] rfl)
        clear hf; have hf := hv; clear hv
        refine lv_if_eq (tgt := 36) hx hb dX7_next_26 (by decide) (fun hc => ?_) (fun hc => ?_)
        · rw [if_pos hc] at hf
          obtain rfl := hf
          exact K15 _ _ _ hP hD hS (lv_sub hl [0, 1, 2, 3] rfl)
        · rw [if_neg hc] at hf
          refine lv_lload_n hx hb dX7_next_29 rfl (lv_at hl 2 rfl) ?_
          refine lv_lconst (v := 1) hx hb dX7_next_30 (by decide) ?_
          refine lv_iload hx hb dX7_next_31 (lv_at hl 3 rfl) ?_
          refine lv_lshl (v := (jshl 1 y8)) hx hb dX7_next_33 rfl ?_
          refine lv_lor hx hb dX7_next_34 ?_
          refine lv_lstore_n (lv' := [(3, .long (y7 ||| (jshl 1 y8))), (0, .ref zmo), (1, .long hs), (5, .int y8)]) hx hb dX7_next_35 rfl hl (by decide) rfl (fun ls hl => ?_)
          obtain rfl := hf
          exact K15 _ _ _ hP hD hS (lv_sub hl [1, 2, 0, 3] rfl)
  exact lp13 100 _ _ _ _ _ hv hP hD hS (lv_sub hl [2, 3, 1, 0] rfl)
/-! HedgeGlidersModel.pass(LHedgeGlidersModel$State;I)LHedgeGlidersModel$State; -/
def lp_X7_pass_20 (mM : MoS) (y27 : Int32) (y28 : Int32) (y29 : Int32) (y30 : Int64) : Nat → Int32 → (Nat → Int32) → Option ((Nat → Int32))
  | 0, _, _ => none
  | nf + 1, y36, y37 => if (mM.2.1 * mM.2.2.1) ≤ y36 then (some y37) else (Option.bind (if (f_X6_has (y27, y28, y29, y30) y36) = 0 then (some 0) else (if y36 < 0 ∨ 64 ≤ y36.toNatClampNeg then none else some ((y37 y36.toNatClampNeg) + 1)) : Option (Int32)) fun v38 => if y36 < 0 ∨ 64 ≤ y36.toNatClampNeg then none else lp_X7_pass_20 mM y27 y28 y29 y30 nf (y36 + 1) (upd y37 y36.toNatClampNeg v38))
def lp_X7_pass_2 (mM : MoS) (fR : Nat → Int64) (yr : Int32) : Nat → Int32 → (Nat → Int32) → Int32 → Int32 → Int32 → Int64 → Option ((Nat → Int32) × Int32 × Int32 × Int32 × Int64)
  | 0, _, _, _, _, _, _ => none
  | nf + 1, y25, y26, y27, y28, y29, y30 => if yr ≤ y25 then (some (y26, y27, y28, y29, y30)) else (Option.bind (f_X7_next mM fR y30) fun r31 => Option.bind (lp_X7_pass_20 mM y27 y28 y29 y30 100 0 y26) fun v39 => lp_X7_pass_2 mM fR yr nf (y25 + 1) v39 (y27 + 1) (y28 + (f_J13_bitCount_95d88 (r31 &&& (y30 ^^^ (-1))))) (y29 + (f_J13_bitCount_95d88 (y30 &&& (r31 ^^^ (-1))))) r31)
def f_X7_pass (mM : MoS) (fR : Nat → Int64) (sW : StS) (aW : Nat → Int32) (yr : Int32) : Option (StS × (Nat → Int32)) := Option.bind (lp_X7_pass_2 mM fR yr 100 0 aW sW.1 sW.2.1 sW.2.2.1 sW.2.2.2) fun v40 => some (v40.2, v40.1)
abbrev rm_X7_pass : Room := ({ frames := 3, cells := 0, slots := 0, locals := 71 } : Room)
abbrev A_X7_pass (cI cJ : ClassId) (zmo zar zwo zwq zbe zst zah zgd : Nat) (mM : MoS) (fR : Nat → Int64) (sW : StS) (aW : Nat → Int32) (yr : Int32) (sz : Nat) : Nat → Prop := va_A [(zmo, .inr (6, [.int mM.1, .int mM.2.1, .int mM.2.2.1, .int (bI mM.2.2.2.1), .int mM.2.2.2.2.1, .int mM.2.2.2.2.2, .ref zar, .ref zbe, .ref zst, .ref zah, .ref zgd])), (zar, .inl (cJ, 64, .inr (.inl fR))), (zwo, .inr (5, [.int sW.1, .int sW.2.1, .int sW.2.2.1, .long sW.2.2.2, .ref zwq])), (zwq, .inl (cI, 64, .inl aW))] sz
abbrev Q_X7_pass (dC : Nat → ClassId) (dI : Nat → Nat → Nat) (cI cJ : ClassId) (zmo zar zwo zwq zbe zst zah zgd : Nat) (mM : MoS) (fR : Nat → Int64) (sW : StS) (aW : Nat → Int32) (yr : Int32) (sz : Nat) (R : StS × (Nat → Int32)) : Array Value → State → Outcome → State → Prop := va_Qr (fun _ : Unit => True) (fun u_ ra t => ra = zwo ∧ va_P (dC, dI) vwCl [(zmo, .inr (6, [.int mM.1, .int mM.2.1, .int mM.2.2.1, .int (bI mM.2.2.2.1), .int mM.2.2.2.2.1, .int mM.2.2.2.2.2, .ref zar, .ref zbe, .ref zst, .ref zah, .ref zgd])), (zar, .inl (cJ, 64, .inr (.inl fR))), (zwo, .inr (5, [.int R.1.1, .int R.1.2.1, .int R.1.2.2.1, .long R.1.2.2.2, .ref zwq])), (zwq, .inl (cI, 64, .inl R.2))] t.heap ∧ va_K (dC, dI) vwCl [(cI, .int), (cJ, .long)] t ∧ va_D (A_X7_pass cI cJ zmo zar zwo zwq zbe zst zah zgd mM fR sW aW yr sz) [(zmo, .inr (6, [.int mM.1, .int mM.2.1, .int mM.2.2.1, .int (bI mM.2.2.2.1), .int mM.2.2.2.2.1, .int mM.2.2.2.2.2, .ref zar, .ref zbe, .ref zst, .ref zah, .ref zgd])), (zar, .inl (cJ, 64, .inr (.inl fR))), (zwo, .inr (5, [.int R.1.1, .int R.1.2.1, .int R.1.2.2.1, .long R.1.2.2.2, .ref zwq])), (zwq, .inl (cI, 64, .inl R.2))]) (A_X7_pass cI cJ zmo zar zwo zwq zbe zst zah zgd mM fR sW aW yr sz)
set_option maxHeartbeats 4000000 in
set_option maxRecDepth 100000 in
theorem c_X7_pass (l : Launch) (dC : Nat → ClassId) (dI : Nat → Nat → Nat) (cI cJ : ClassId) (zmo zar zwo zwq zbe zst zah zgd : Nat) (sz : Nat) (mM : MoS) (fR : Nat → Int64) (sW : StS) (aW : Nat → Int32) (yr : Int32) (R : StS × (Nat → Int32)) (hR : f_X7_pass mM fR sW aW yr = some R) : Met l yX7_pass wsX7_pass rm_X7_pass (va_Pc [.ref zmo, .ref zwo, .int yr] (fun U => U.heap.size = sz ∧ va_P (dC, dI) vwCl [(zmo, .inr (6, [.int mM.1, .int mM.2.1, .int mM.2.2.1, .int (bI mM.2.2.2.1), .int mM.2.2.2.2.1, .int mM.2.2.2.2.2, .ref zar, .ref zbe, .ref zst, .ref zah, .ref zgd])), (zar, .inl (cJ, 64, .inr (.inl fR))), (zwo, .inr (5, [.int sW.1, .int sW.2.1, .int sW.2.2.1, .long sW.2.2.2, .ref zwq])), (zwq, .inl (cI, 64, .inl aW))] U.heap ∧ va_K (dC, dI) vwCl [(cI, .int), (cJ, .long)] U ∧ va_D (fun _ => True) [(zmo, .inr (6, [.int mM.1, .int mM.2.1, .int mM.2.2.1, .int (bI mM.2.2.2.1), .int mM.2.2.2.2.1, .int mM.2.2.2.2.2, .ref zar, .ref zbe, .ref zst, .ref zah, .ref zgd])), (zar, .inl (cJ, 64, .inr (.inl fR))), (zwo, .inr (5, [.int sW.1, .int sW.2.1, .int sW.2.2.1, .long sW.2.2.2, .ref zwq])), (zwq, .inl (cI, 64, .inl aW))] ∧ nwM U)) (Q_X7_pass dC dI cI cJ zmo zar zwo zwq zbe zst zah zgd mM fR sW aW yr sz R) 0 0 (A_X7_pass cI cJ zmo zar zwo zwq zbe zst zah zgd mM fR sW aW yr sz) := by
  have hf := hR
  refine Met.ofW (cc := cX7_pass) (maxL := 7) (ret := (some (.object "HedgeGlidersModel$State"))) (by decide) rfl ?_
  intro p e s m args below meth c s₁ B hml hv
  obtain ⟨hargs, hsz, hP, hK, hD0, hnw⟩ := hv
  have hx := B.exec
  have hb := B.bytes
  have hr := B.returns
  have hts := atoms_spec (ws := wsX7_pass) B.pre
  have hown : s.vm.findClass RX7 = some m.cls := findClass_of_methodNamed B.named
  have hlocks := B.notSynchronized
  subst hsz
  obtain ⟨hnw_hedges, hnw_ages, hnw_born, hnw_dead, hnw_year⟩ := id hnw
  have hD : va_D (A_X7_pass cI cJ zmo zar zwo zwq zbe zst zah zgd mM fR sW aW yr s.heap.size) [(zmo, .inr (6, [.int mM.1, .int mM.2.1, .int mM.2.2.1, .int (bI mM.2.2.2.1), .int mM.2.2.2.2.1, .int mM.2.2.2.2.2, .ref zar, .ref zbe, .ref zst, .ref zah, .ref zgd])), (zar, .inl (cJ, 64, .inr (.inl fR))), (zwo, .inr (5, [.int sW.1, .int sW.2.1, .int sW.2.2.1, .long sW.2.2.2, .ref zwq])), (zwq, .inl (cI, 64, .inl aW))] := hD0.self (sz := s.heap.size)
  have hA : ∀ q : Nat, s.heap.size ≤ q → (A_X7_pass cI cJ zmo zar zwo zwq zbe zst zah zgd mM fR sW aW yr s.heap.size) q := fun q h => Or.inr h
  have hS : va_S (A_X7_pass cI cJ zmo zar zwo zwq zbe zst zah zgd mM fR sW aW yr s.heap.size) s.heap s.heap [] := va_S.rf
  have hinX6 : ∀ w ∈ wsX60, w ∈ wsX7_pass := by decide +kernel
  have hinX7 : ∀ w ∈ wsX70, w ∈ wsX7_pass := by decide +kernel
  have hw0 := hts (.fieldLink RX7 9 "HedgeGlidersModel" "w" "I") (by decide +kernel)
  have hw1 := hts (.fieldLink RX7 13 "HedgeGlidersModel" "h" "I") (by decide +kernel)
  have hw2 := hts (.constantLong RX7 97 (-1)) (by decide +kernel)
  have hl := lv_entry ([.ref zmo, .ref zwo, .int yr]) (n := 7) (Nat.le_of_ble_eq_true rfl)
  have he0 : entryFrame m args 7 = entryFrame m ([.ref zmo, .ref zwo, .int yr] : List Value).toArray 7 := by rw [hargs]
  rw [he0, lg_entry_eq]
  generalize (lg_sl ([.ref zmo, .ref zwo, .int yr]) ++ List.replicate (7 - (lg_sl ([.ref zmo, .ref zwo, .int yr])).length) Slot.unset).toArray = ls at hl ⊢
  have hl : lv_has ls 7 [(0, .ref zmo), (1, .ref zwo), (2, .int yr)] := hl
  rw [f_X7_pass] at hf
  refine lv_iconst (v := 0) hx hb dX7_pass_0 (by decide) ?_
  refine lv_istore_n (lv' := [(3, .int 0), (0, .ref zmo), (1, .ref zwo), (2, .int yr)]) hx hb dX7_pass_1 rfl hl (by decide) rfl (fun ls hl => ?_)
  obtain ⟨v40, hv, hf⟩ := obind hf
  have K41 : ∀ (H : Heap) (locs : List Loc) (ls : Array Slot), va_P (dC, dI) vwCl [(zmo, .inr (6, [.int mM.1, .int mM.2.1, .int mM.2.2.1, .int (bI mM.2.2.2.1), .int mM.2.2.2.2.1, .int mM.2.2.2.2.2, .ref zar, .ref zbe, .ref zst, .ref zah, .ref zgd])), (zar, .inl (cJ, 64, .inr (.inl fR))), (zwo, .inr (5, [.int v40.2.1, .int v40.2.2.1, .int v40.2.2.2.1, .long v40.2.2.2.2, .ref zwq])), (zwq, .inl (cI, 64, .inl v40.1))] H → va_D (A_X7_pass cI cJ zmo zar zwo zwq zbe zst zah zgd mM fR sW aW yr s.heap.size) [(zmo, .inr (6, [.int mM.1, .int mM.2.1, .int mM.2.2.1, .int (bI mM.2.2.2.1), .int mM.2.2.2.2.1, .int mM.2.2.2.2.2, .ref zar, .ref zbe, .ref zst, .ref zah, .ref zgd])), (zar, .inl (cJ, 64, .inr (.inl fR))), (zwo, .inr (5, [.int v40.2.1, .int v40.2.2.1, .int v40.2.2.2.1, .long v40.2.2.2.2, .ref zwq])), (zwq, .inl (cI, 64, .inl v40.1))] → va_S (A_X7_pass cI cJ zmo zar zwo zwq zbe zst zah zgd mM fR sW aW yr s.heap.size) s.heap H locs → lv_has ls 7 [(1, .ref zwo)] → W p l e rm_X7_pass s m args below meth c H locs 0 0 (MQ below (Q_X7_pass dC dI cI cJ zmo zar zwo zwq zbe zst zah zgd mM fR sW aW yr s.heap.size R) args s 0 0 (A_X7_pass cI cJ zmo zar zwo zwq zbe zst zah zgd mM fR sW aW yr s.heap.size)) (F0 m 137 ls []) := by
    intro H locs ls hP hD hS hl
    refine lv_aload_n hx hb dX7_pass_137 rfl (lv_at hl 0 rfl) ?_
    obtain rfl := Option.some.inj hf
    exact W.aret hx hb hr (Or.inl ⟨_, rfl⟩) (Or.inr ⟨_, rfl⟩) (fun t ht hW => ⟨⟨(), zwo, rfl, trivial, rfl, by rw [ht]; exact hP, va_K.moved hW.alike hK, hD⟩, hS.F ht⟩) hS.2.2 dX7_pass_138
  have lp42 : ∀ (nf : Nat) (y25 : Int32) (y26 : Nat → Int32) (y27 : Int32) (y28 : Int32) (y29 : Int32) (y30 : Int64) (H : Heap) (locs : List Loc) (ls : Array Slot), lp_X7_pass_2 mM fR yr nf y25 y26 y27 y28 y29 y30 = some v40 → va_P (dC, dI) vwCl [(zmo, .inr (6, [.int mM.1, .int mM.2.1, .int mM.2.2.1, .int (bI mM.2.2.2.1), .int mM.2.2.2.2.1, .int mM.2.2.2.2.2, .ref zar, .ref zbe, .ref zst, .ref zah, .ref zgd])), (zar, .inl (cJ, 64, .inr (.inl fR))), (zwo, .inr (5, [.int y27, .int y28, .int y29, .long y30, .ref zwq])), (zwq, .inl (cI, 64, .inl y26))] H → va_D (A_X7_pass cI cJ zmo zar zwo zwq zbe zst zah zgd mM fR sW aW yr s.heap.size) [(zmo, .inr (6, [.int mM.1, .int mM.2.1, .int mM.2.2.1, .int (bI mM.2.2.2.1), .int mM.2.2.2.2.1, .int mM.2.2.2.2.2, .ref zar, .ref zbe, .ref zst, .ref zah, .ref zgd])), (zar, .inl (cJ, 64, .inr (.inl fR))), (zwo, .inr (5, [.int y27, .int y28, .int y29, .long y30, .ref zwq])), (zwq, .inl (cI, 64, .inl y26))] → va_S (A_X7_pass cI cJ zmo zar zwo zwq zbe zst zah zgd mM fR sW aW yr s.heap.size) s.heap H locs → lv_has ls 7 [(0, .ref zmo), (1, .ref zwo), (2, .int yr), (3, .int y25)] → W p l e rm_X7_pass s m args below meth c H locs 0 0 (MQ below (Q_X7_pass dC dI cI cJ zmo zar zwo zwq zbe zst zah zgd mM fR sW aW yr s.heap.size R) args s 0 0 (A_X7_pass cI cJ zmo zar zwo zwq zbe zst zah zgd mM fR sW aW yr s.heap.size)) (F0 m 2 ls []) := by
    intro nf
    induction nf with
    | zero => intro y25 y26 y27 y28 y29 y30 H locs ls h9; exact nomatch h9
    | succ nf ih43 =>
      intro y25 y26 y27 y28 y29 y30 H locs ls hf hP hD hS hl
      rw [lp_X7_pass_2.eq_2] at hf
      refine lv_iload_n hx hb dX7_pass_2 rfl (lv_at hl 3 rfl) ?_
      refine lv_iload_n hx hb dX7_pass_3 rfl (lv_at hl 2 rfl) ?_
      refine lv_icmp_ge (tgt := 137) hx hb dX7_pass_4 (by decide) (fun hc => ?_) (fun hc => ?_)
      · rw [if_pos hc] at hf
        obtain rfl := Option.some.inj hf
        exact K41 _ _ _ hP hD hS (lv_sub hl [1] rfl)
      · rw [if_neg hc] at hf
        refine lv_aload_n hx hb dX7_pass_7 rfl (lv_at hl 0 rfl) ?_
        refine lv_aload_n hx hb dX7_pass_8 rfl (lv_at hl 1 rfl) ?_
        refine va_getN (D := (dC, dI)) (ci := 5) (v := .long y30) (C := RX6) (T := TX6) (N := 5) hx hb hts hinX6 hown hK hP 2 rfl rfl 3 (by decide) (va_Nw.use rfl hnw_hedges) (fun _ h9 => h9) rfl dX7_pass_9 ?_
        obtain ⟨r31, hr31, hf⟩ := obind hf
        have hPc := hP.sub (ws' := [(zmo, .inr (6, [.int mM.1, .int mM.2.1, .int mM.2.2.1, .int (bI mM.2.2.2.1), .int mM.2.2.2.2.1, .int mM.2.2.2.2.2, .ref zar, .ref zbe, .ref zst, .ref zah, .ref zgd])), (zar, .inl (cJ, 64, .inr (.inl fR)))]) [0, 1] rfl
        have hDc := hD.sub (ws' := [(zmo, .inr (6, [.int mM.1, .int mM.2.1, .int mM.2.2.1, .int (bI mM.2.2.2.1), .int mM.2.2.2.2.1, .int mM.2.2.2.2.2, .ref zar, .ref zbe, .ref zst, .ref zah, .ref zgd])), (zar, .inl (cJ, 64, .inr (.inl fR)))]) [0, 1] (by decide) rfl
        have hFc := va_free (wc := [(zmo, .inr (6, [.int mM.1, .int mM.2.1, .int mM.2.2.1, .int (bI mM.2.2.2.1), .int mM.2.2.2.2.1, .int mM.2.2.2.2.2, .ref zar, .ref zbe, .ref zst, .ref zah, .ref zgd])), (zar, .inl (cJ, 64, .inr (.inl fR)))]) hD hS hA [0, 1] rfl
        refine va_calll (va_runV (As := [.long y30]) (rest := []) ⟨hx, hb, hml, hown, hts⟩ (c_X7_next l dC dI cI cJ zmo zar zbe zst zah zgd H.size mM fR y30 _ hr31) (cwV 1 hts gX7_pass_X7_next rfl rfl rfl (by decide +kernel) ⟨Nat.le_of_ble_eq_true rfl, Nat.le_of_ble_eq_true rfl⟩) ⟨fun a U gg mk q => by obtain ⟨q0, q1, qP, qK, qD⟩ := q; exact ⟨q0, q1, qP, va_K.moved (u := U) (U := U.calling gg mk a) (Vm.Alike.refl U.vm) qK, qD⟩, va_recv hK hPc (ci := 6) (q0 := 0) rfl rfl, fun U hU hW => ⟨rfl, by rw [hU], by rw [hU]; exact hPc, va_K.moved hW.alike hK, hDc.weaken (fun _ _ _ _ => trivial)⟩⟩ rfl rfl hl.1 rfl (lv_room (Nat.le_of_ble_eq_true rfl)) dX7_pass_12 ⟨Nat.zero_le _, Nat.zero_le _⟩) hS (fun q _ h => hFc q h) hFc (fun r_ u_ t H locs ht hvm hw hB hz1 hk1 hS => ?_)
        obtain rfl := hw.symm
        obtain ⟨hP1, -, hD1⟩ := hB
        rw [ht] at hP1
        obtain ⟨hP, hD⟩ := va_join (wr := [(zwo, .inr (5, [.int y27, .int y28, .int y29, .long y30, .ref zwq])), (zwq, .inl (cI, 64, .inl y26))]) (w1 := [(zmo, .inr (6, [.int mM.1, .int mM.2.1, .int mM.2.2.1, .int (bI mM.2.2.2.1), .int mM.2.2.2.2.1, .int mM.2.2.2.2.2, .ref zar, .ref zbe, .ref zst, .ref zah, .ref zgd])), (zar, .inl (cJ, 64, .inr (.inl fR)))]) hP hD [0, 1] [2, 3] rfl rfl (by decide) (by decide) hk1 hFc hP1 hD1
        have hP := hP.sub (ws' := [(zmo, .inr (6, [.int mM.1, .int mM.2.1, .int mM.2.2.1, .int (bI mM.2.2.2.1), .int mM.2.2.2.2.1, .int mM.2.2.2.2.2, .ref zar, .ref zbe, .ref zst, .ref zah, .ref zgd])), (zar, .inl (cJ, 64, .inr (.inl fR))), (zwo, .inr (5, [.int y27, .int y28, .int y29, .long y30, .ref zwq])), (zwq, .inl (cI, 64, .inl y26))]) [2, 3, 0, 1] rfl
        have hD := hD.sub (ws' := [(zmo, .inr (6, [.int mM.1, .int mM.2.1, .int mM.2.2.1, .int (bI mM.2.2.2.1), .int mM.2.2.2.2.1, .int mM.2.2.2.2.2, .ref zar, .ref zbe, .ref zst, .ref zah, .ref zgd])), (zar, .inl (cJ, 64, .inr (.inl fR))), (zwo, .inr (5, [.int y27, .int y28, .int y29, .long y30, .ref zwq])), (zwq, .inl (cI, 64, .inl y26))]) [2, 3, 0, 1] (by decide) rfl
        clear hPc hDc hFc hP1 hD1 hk1
        refine lv_lstore (lv' := [(4, .long r31), (0, .ref zmo), (1, .ref zwo), (2, .int yr), (3, .int y25)]) hx hb dX7_pass_15 hl (by decide) rfl (fun ls hl => ?_)
        refine lv_iconst (v := 0) hx hb dX7_pass_17 (by decide) ?_
        refine lv_istore (lv' := [(6, .int 0), (4, .long r31), (0, .ref zmo), (1, .ref zwo), (2, .int yr), (3, .int y25)]) hx hb dX7_pass_18 hl (by decide) rfl (fun ls hl => ?_)
        obtain ⟨v39, hv, hf⟩ := obind hf
        have K44 : ∀ (H : Heap) (locs : List Loc) (ls : Array Slot), va_P (dC, dI) vwCl [(zmo, .inr (6, [.int mM.1, .int mM.2.1, .int mM.2.2.1, .int (bI mM.2.2.2.1), .int mM.2.2.2.2.1, .int mM.2.2.2.2.2, .ref zar, .ref zbe, .ref zst, .ref zah, .ref zgd])), (zar, .inl (cJ, 64, .inr (.inl fR))), (zwo, .inr (5, [.int y27, .int y28, .int y29, .long y30, .ref zwq])), (zwq, .inl (cI, 64, .inl v39))] H → va_D (A_X7_pass cI cJ zmo zar zwo zwq zbe zst zah zgd mM fR sW aW yr s.heap.size) [(zmo, .inr (6, [.int mM.1, .int mM.2.1, .int mM.2.2.1, .int (bI mM.2.2.2.1), .int mM.2.2.2.2.1, .int mM.2.2.2.2.2, .ref zar, .ref zbe, .ref zst, .ref zah, .ref zgd])), (zar, .inl (cJ, 64, .inr (.inl fR))), (zwo, .inr (5, [.int y27, .int y28, .int y29, .long y30, .ref zwq])), (zwq, .inl (cI, 64, .inl v39))] → va_S (A_X7_pass cI cJ zmo zar zwo zwq zbe zst zah zgd mM fR sW aW yr s.heap.size) s.heap H locs → lv_has ls 7 [(0, .ref zmo), (1, .ref zwo), (2, .int yr), (3, .int y25), (4, .long r31)] → W p l e rm_X7_pass s m args below meth c H locs 0 0 (MQ below (Q_X7_pass dC dI cI cJ zmo zar zwo zwq zbe zst zah zgd mM fR sW aW yr s.heap.size R) args s 0 0 (A_X7_pass cI cJ zmo zar zwo zwq zbe zst zah zgd mM fR sW aW yr s.heap.size)) (F0 m 69 ls []) := by
          intro H locs ls hP hD hS hl
          refine lv_aload_n hx hb dX7_pass_69 rfl (lv_at hl 1 rfl) ?_
          refine lv_dup hx hb dX7_pass_70 rfl ?_
          refine va_getN (D := (dC, dI)) (ci := 5) (v := .int y28) (C := RX6) (T := TX6) (N := 5) hx hb hts hinX6 hown hK hP 2 rfl rfl 1 (by decide) (va_Nw.use rfl hnw_born) (fun _ h9 => h9) rfl dX7_pass_71 ?_
          refine lv_lload hx hb dX7_pass_74 (lv_at hl 4 rfl) ?_
          refine lv_aload_n hx hb dX7_pass_76 rfl (lv_at hl 1 rfl) ?_
          refine va_getN (D := (dC, dI)) (ci := 5) (v := .long y30) (C := RX6) (T := TX6) (N := 5) hx hb hts hinX6 hown hK hP 2 rfl rfl 3 (by decide) (va_Nw.use rfl hnw_hedges) (fun _ h9 => h9) rfl dX7_pass_77 ?_
          refine lv_ldc2 (v := (-1)) hx hb hown hw2 dX7_pass_80 ?_
          refine lv_lxor hx hb dX7_pass_83 ?_
          refine lv_land hx hb dX7_pass_84 ?_
          have hPc := hP.sub (ws' := []) [] rfl
          have hDc := hD.sub (ws' := []) [] (by decide) rfl
          have hFc := va_free (wc := []) hD hS hA [] rfl
          refine va_calli (va_runS (As := [.long (r31 &&& (y30 ^^^ (-1)))]) (rest := [.int y28, .ref zwo]) ⟨hx, hb, hml, hown, hts⟩ (c_J13_bitCount_95d88 l dC dI cI cJ  H.size (r31 &&& (y30 ^^^ (-1)))) (va_cwS 1 hts gX7_pass_J13_bitCount_95d88 rfl rfl rfl (by decide +kernel) ⟨Nat.le_of_ble_eq_true rfl, Nat.le_of_ble_eq_true rfl⟩) ⟨fun a U gg mk q => by obtain ⟨q0, q1, qP, qK, qD⟩ := q; exact ⟨q0, q1, qP, va_K.moved (u := U) (U := U.calling gg mk a) (Vm.Alike.refl U.vm) qK, qD⟩, fun U hU hW => ⟨rfl, by rw [hU], by rw [hU]; exact hPc, va_K.moved hW.alike hK, hDc.weaken (fun _ _ _ _ => trivial)⟩⟩ rfl rfl hl.1 rfl (lv_room (Nat.le_of_ble_eq_true rfl)) dX7_pass_85 ⟨Nat.zero_le _, Nat.zero_le _⟩) hS (fun q _ h => hFc q h) hFc (fun r_ u_ t H locs ht hvm hw hB hz1 hk1 hS => ?_)
          obtain rfl := hw.symm
          obtain ⟨hP1, -, hD1⟩ := hB
          rw [ht] at hP1
          obtain ⟨hP, hD⟩ := va_join (wr := [(zmo, .inr (6, [.int mM.1, .int mM.2.1, .int mM.2.2.1, .int (bI mM.2.2.2.1), .int mM.2.2.2.2.1, .int mM.2.2.2.2.2, .ref zar, .ref zbe, .ref zst, .ref zah, .ref zgd])), (zar, .inl (cJ, 64, .inr (.inl fR))), (zwo, .inr (5, [.int y27, .int y28, .int y29, .long y30, .ref zwq])), (zwq, .inl (cI, 64, .inl v39))]) (w1 := []) hP hD [] [0, 1, 2, 3] rfl rfl (by decide) (by decide) hk1 hFc hP1 hD1
          have hP := hP.sub (ws' := [(zmo, .inr (6, [.int mM.1, .int mM.2.1, .int mM.2.2.1, .int (bI mM.2.2.2.1), .int mM.2.2.2.2.1, .int mM.2.2.2.2.2, .ref zar, .ref zbe, .ref zst, .ref zah, .ref zgd])), (zar, .inl (cJ, 64, .inr (.inl fR))), (zwo, .inr (5, [.int y27, .int y28, .int y29, .long y30, .ref zwq])), (zwq, .inl (cI, 64, .inl v39))]) [0, 1, 2, 3] rfl
          have hD := hD.sub (ws' := [(zmo, .inr (6, [.int mM.1, .int mM.2.1, .int mM.2.2.1, .int (bI mM.2.2.2.1), .int mM.2.2.2.2.1, .int mM.2.2.2.2.2, .ref zar, .ref zbe, .ref zst, .ref zah, .ref zgd])), (zar, .inl (cJ, 64, .inr (.inl fR))), (zwo, .inr (5, [.int y27, .int y28, .int y29, .long y30, .ref zwq])), (zwq, .inl (cI, 64, .inl v39))]) [0, 1, 2, 3] (by decide) rfl
          clear hPc hDc hFc hP1 hD1 hk1
          refine lv_iadd hx hb dX7_pass_88 ?_
          refine va_putN (D := (dC, dI)) (ci := 5) (v := .int (y28 + (f_J13_bitCount_95d88 (r31 &&& (y30 ^^^ (-1)))))) (ty := .int) (C := RX6) (T := TX6) (N := 5) hx hb hts hinX6 tyX6 tyX6_ok nmX6 hown hK hP hD hS 2 rfl rfl 1 (by decide) (va_Nw.use rfl hnw_born) (fun _ h9 => h9) rfl (by decide +kernel) rfl rfl (Nat.le_of_ble_eq_true rfl) dX7_pass_89 (fun H locs hP hD hS => ?_)
          have hP : va_P (dC, dI) vwCl [(zmo, .inr (6, [.int mM.1, .int mM.2.1, .int mM.2.2.1, .int (bI mM.2.2.2.1), .int mM.2.2.2.2.1, .int mM.2.2.2.2.2, .ref zar, .ref zbe, .ref zst, .ref zah, .ref zgd])), (zar, .inl (cJ, 64, .inr (.inl fR))), (zwo, .inr (5, [.int y27, .int (y28 + (f_J13_bitCount_95d88 (r31 &&& (y30 ^^^ (-1))))), .int y29, .long y30, .ref zwq])), (zwq, .inl (cI, 64, .inl v39))] H := hP
          have hD : va_D (A_X7_pass cI cJ zmo zar zwo zwq zbe zst zah zgd mM fR sW aW yr s.heap.size) [(zmo, .inr (6, [.int mM.1, .int mM.2.1, .int mM.2.2.1, .int (bI mM.2.2.2.1), .int mM.2.2.2.2.1, .int mM.2.2.2.2.2, .ref zar, .ref zbe, .ref zst, .ref zah, .ref zgd])), (zar, .inl (cJ, 64, .inr (.inl fR))), (zwo, .inr (5, [.int y27, .int (y28 + (f_J13_bitCount_95d88 (r31 &&& (y30 ^^^ (-1))))), .int y29, .long y30, .ref zwq])), (zwq, .inl (cI, 64, .inl v39))] := hD
          refine lv_aload_n hx hb dX7_pass_92 rfl (lv_at hl 1 rfl) ?_
          refine lv_dup hx hb dX7_pass_93 rfl ?_
          refine va_getN (D := (dC, dI)) (ci := 5) (v := .int y29) (C := RX6) (T := TX6) (N := 5) hx hb hts hinX6 hown hK hP 2 rfl rfl 2 (by decide) (va_Nw.use rfl hnw_dead) (fun _ h9 => h9) rfl dX7_pass_94 ?_
          refine lv_aload_n hx hb dX7_pass_97 rfl (lv_at hl 1 rfl) ?_
          refine va_getN (D := (dC, dI)) (ci := 5) (v := .long y30) (C := RX6) (T := TX6) (N := 5) hx hb hts hinX6 hown hK hP 2 rfl rfl 3 (by decide) (va_Nw.use rfl hnw_hedges) (fun _ h9 => h9) rfl dX7_pass_98 ?_
          refine lv_lload hx hb dX7_pass_101 (lv_at hl 4 rfl) ?_
          refine lv_ldc2 (v := (-1)) hx hb hown hw2 dX7_pass_103 ?_
          refine lv_lxor hx hb dX7_pass_106 ?_
          refine lv_land hx hb dX7_pass_107 ?_
          have hPc := hP.sub (ws' := []) [] rfl
          have hDc := hD.sub (ws' := []) [] (by decide) rfl
          have hFc := va_free (wc := []) hD hS hA [] rfl
          refine va_calli (va_runS (As := [.long (y30 &&& (r31 ^^^ (-1)))]) (rest := [.int y29, .ref zwo]) ⟨hx, hb, hml, hown, hts⟩ (c_J13_bitCount_95d88 l dC dI cI cJ  H.size (y30 &&& (r31 ^^^ (-1)))) (va_cwS 1 hts gX7_pass_J13_bitCount_95d88 rfl rfl rfl (by decide +kernel) ⟨Nat.le_of_ble_eq_true rfl, Nat.le_of_ble_eq_true rfl⟩) ⟨fun a U gg mk q => by obtain ⟨q0, q1, qP, qK, qD⟩ := q; exact ⟨q0, q1, qP, va_K.moved (u := U) (U := U.calling gg mk a) (Vm.Alike.refl U.vm) qK, qD⟩, fun U hU hW => ⟨rfl, by rw [hU], by rw [hU]; exact hPc, va_K.moved hW.alike hK, hDc.weaken (fun _ _ _ _ => trivial)⟩⟩ rfl rfl hl.1 rfl (lv_room (Nat.le_of_ble_eq_true rfl)) dX7_pass_108 ⟨Nat.zero_le _, Nat.zero_le _⟩) hS (fun q _ h => hFc q h) hFc (fun r_ u_ t H locs ht hvm hw hB hz1 hk1 hS => ?_)
          obtain rfl := hw.symm
          obtain ⟨hP1, -, hD1⟩ := hB
          rw [ht] at hP1
          obtain ⟨hP, hD⟩ := va_join (wr := [(zmo, .inr (6, [.int mM.1, .int mM.2.1, .int mM.2.2.1, .int (bI mM.2.2.2.1), .int mM.2.2.2.2.1, .int mM.2.2.2.2.2, .ref zar, .ref zbe, .ref zst, .ref zah, .ref zgd])), (zar, .inl (cJ, 64, .inr (.inl fR))), (zwo, .inr (5, [.int y27, .int (y28 + (f_J13_bitCount_95d88 (r31 &&& (y30 ^^^ (-1))))), .int y29, .long y30, .ref zwq])), (zwq, .inl (cI, 64, .inl v39))]) (w1 := []) hP hD [] [0, 1, 2, 3] rfl rfl (by decide) (by decide) hk1 hFc hP1 hD1
          have hP := hP.sub (ws' := [(zmo, .inr (6, [.int mM.1, .int mM.2.1, .int mM.2.2.1, .int (bI mM.2.2.2.1), .int mM.2.2.2.2.1, .int mM.2.2.2.2.2, .ref zar, .ref zbe, .ref zst, .ref zah, .ref zgd])), (zar, .inl (cJ, 64, .inr (.inl fR))), (zwo, .inr (5, [.int y27, .int (y28 + (f_J13_bitCount_95d88 (r31 &&& (y30 ^^^ (-1))))), .int y29, .long y30, .ref zwq])), (zwq, .inl (cI, 64, .inl v39))]) [0, 1, 2, 3] rfl
          have hD := hD.sub (ws' := [(zmo, .inr (6, [.int mM.1, .int mM.2.1, .int mM.2.2.1, .int (bI mM.2.2.2.1), .int mM.2.2.2.2.1, .int mM.2.2.2.2.2, .ref zar, .ref zbe, .ref zst, .ref zah, .ref zgd])), (zar, .inl (cJ, 64, .inr (.inl fR))), (zwo, .inr (5, [.int y27, .int (y28 + (f_J13_bitCount_95d88 (r31 &&& (y30 ^^^ (-1))))), .int y29, .long y30, .ref zwq])), (zwq, .inl (cI, 64, .inl v39))]) [0, 1, 2, 3] (by decide) rfl
          clear hPc hDc hFc hP1 hD1 hk1
          refine lv_iadd hx hb dX7_pass_111 ?_
          refine va_putN (D := (dC, dI)) (ci := 5) (v := .int (y29 + (f_J13_bitCount_95d88 (y30 &&& (r31 ^^^ (-1)))))) (ty := .int) (C := RX6) (T := TX6) (N := 5) hx hb hts hinX6 tyX6 tyX6_ok nmX6 hown hK hP hD hS 2 rfl rfl 2 (by decide) (va_Nw.use rfl hnw_dead) (fun _ h9 => h9) rfl (by decide +kernel) rfl rfl (Nat.le_of_ble_eq_true rfl) dX7_pass_112 (fun H locs hP hD hS => ?_)
          have hP : va_P (dC, dI) vwCl [(zmo, .inr (6, [.int mM.1, .int mM.2.1, .int mM.2.2.1, .int (bI mM.2.2.2.1), .int mM.2.2.2.2.1, .int mM.2.2.2.2.2, .ref zar, .ref zbe, .ref zst, .ref zah, .ref zgd])), (zar, .inl (cJ, 64, .inr (.inl fR))), (zwo, .inr (5, [.int y27, .int (y28 + (f_J13_bitCount_95d88 (r31 &&& (y30 ^^^ (-1))))), .int (y29 + (f_J13_bitCount_95d88 (y30 &&& (r31 ^^^ (-1))))), .long y30, .ref zwq])), (zwq, .inl (cI, 64, .inl v39))] H := hP
          have hD : va_D (A_X7_pass cI cJ zmo zar zwo zwq zbe zst zah zgd mM fR sW aW yr s.heap.size) [(zmo, .inr (6, [.int mM.1, .int mM.2.1, .int mM.2.2.1, .int (bI mM.2.2.2.1), .int mM.2.2.2.2.1, .int mM.2.2.2.2.2, .ref zar, .ref zbe, .ref zst, .ref zah, .ref zgd])), (zar, .inl (cJ, 64, .inr (.inl fR))), (zwo, .inr (5, [.int y27, .int (y28 + (f_J13_bitCount_95d88 (r31 &&& (y30 ^^^ (-1))))), .int (y29 + (f_J13_bitCount_95d88 (y30 &&& (r31 ^^^ (-1))))), .long y30, .ref zwq])), (zwq, .inl (cI, 64, .inl v39))] := hD
          refine lv_aload_n hx hb dX7_pass_115 rfl (lv_at hl 1 rfl) ?_
          refine lv_lload hx hb dX7_pass_116 (lv_at hl 4 rfl) ?_
          refine va_putN (D := (dC, dI)) (ci := 5) (v := .long r31) (ty := .long) (C := RX6) (T := TX6) (N := 5) hx hb hts hinX6 tyX6 tyX6_ok nmX6 hown hK hP hD hS 2 rfl rfl 3 (by decide) (va_Nw.use rfl hnw_hedges) (fun _ h9 => h9) rfl (by decide +kernel) rfl rfl (Nat.le_of_ble_eq_true rfl) dX7_pass_118 (fun H locs hP hD hS => ?_)
          have hP : va_P (dC, dI) vwCl [(zmo, .inr (6, [.int mM.1, .int mM.2.1, .int mM.2.2.1, .int (bI mM.2.2.2.1), .int mM.2.2.2.2.1, .int mM.2.2.2.2.2, .ref zar, .ref zbe, .ref zst, .ref zah, .ref zgd])), (zar, .inl (cJ, 64, .inr (.inl fR))), (zwo, .inr (5, [.int y27, .int (y28 + (f_J13_bitCount_95d88 (r31 &&& (y30 ^^^ (-1))))), .int (y29 + (f_J13_bitCount_95d88 (y30 &&& (r31 ^^^ (-1))))), .long r31, .ref zwq])), (zwq, .inl (cI, 64, .inl v39))] H := hP
          have hD : va_D (A_X7_pass cI cJ zmo zar zwo zwq zbe zst zah zgd mM fR sW aW yr s.heap.size) [(zmo, .inr (6, [.int mM.1, .int mM.2.1, .int mM.2.2.1, .int (bI mM.2.2.2.1), .int mM.2.2.2.2.1, .int mM.2.2.2.2.2, .ref zar, .ref zbe, .ref zst, .ref zah, .ref zgd])), (zar, .inl (cJ, 64, .inr (.inl fR))), (zwo, .inr (5, [.int y27, .int (y28 + (f_J13_bitCount_95d88 (r31 &&& (y30 ^^^ (-1))))), .int (y29 + (f_J13_bitCount_95d88 (y30 &&& (r31 ^^^ (-1))))), .long r31, .ref zwq])), (zwq, .inl (cI, 64, .inl v39))] := hD
          refine lv_aload_n hx hb dX7_pass_121 rfl (lv_at hl 1 rfl) ?_
          refine lv_dup hx hb dX7_pass_122 rfl ?_
          refine va_getN (D := (dC, dI)) (ci := 5) (v := .int y27) (C := RX6) (T := TX6) (N := 5) hx hb hts hinX6 hown hK hP 2 rfl rfl 0 (by decide) (va_Nw.use rfl hnw_year) (fun _ h9 => h9) rfl dX7_pass_123 ?_
          refine lv_iconst (v := 1) hx hb dX7_pass_126 (by decide) ?_
          refine lv_iadd hx hb dX7_pass_127 ?_
          refine va_putN (D := (dC, dI)) (ci := 5) (v := .int (y27 + 1)) (ty := .int) (C := RX6) (T := TX6) (N := 5) hx hb hts hinX6 tyX6 tyX6_ok nmX6 hown hK hP hD hS 2 rfl rfl 0 (by decide) (va_Nw.use rfl hnw_year) (fun _ h9 => h9) rfl (by decide +kernel) rfl rfl (Nat.le_of_ble_eq_true rfl) dX7_pass_128 (fun H locs hP hD hS => ?_)
          have hP : va_P (dC, dI) vwCl [(zmo, .inr (6, [.int mM.1, .int mM.2.1, .int mM.2.2.1, .int (bI mM.2.2.2.1), .int mM.2.2.2.2.1, .int mM.2.2.2.2.2, .ref zar, .ref zbe, .ref zst, .ref zah, .ref zgd])), (zar, .inl (cJ, 64, .inr (.inl fR))), (zwo, .inr (5, [.int (y27 + 1), .int (y28 + (f_J13_bitCount_95d88 (r31 &&& (y30 ^^^ (-1))))), .int (y29 + (f_J13_bitCount_95d88 (y30 &&& (r31 ^^^ (-1))))), .long r31, .ref zwq])), (zwq, .inl (cI, 64, .inl v39))] H := hP
          have hD : va_D (A_X7_pass cI cJ zmo zar zwo zwq zbe zst zah zgd mM fR sW aW yr s.heap.size) [(zmo, .inr (6, [.int mM.1, .int mM.2.1, .int mM.2.2.1, .int (bI mM.2.2.2.1), .int mM.2.2.2.2.1, .int mM.2.2.2.2.2, .ref zar, .ref zbe, .ref zst, .ref zah, .ref zgd])), (zar, .inl (cJ, 64, .inr (.inl fR))), (zwo, .inr (5, [.int (y27 + 1), .int (y28 + (f_J13_bitCount_95d88 (r31 &&& (y30 ^^^ (-1))))), .int (y29 + (f_J13_bitCount_95d88 (y30 &&& (r31 ^^^ (-1))))), .long r31, .ref zwq])), (zwq, .inl (cI, 64, .inl v39))] := hD
          refine lv_iinc (v := (y25 + 1)) (lv' := [(3, .int (y25 + 1)), (0, .ref zmo), (1, .ref zwo), (2, .int yr), (4, .long r31)]) hx hb dX7_pass_131 hl (k := 3) rfl rfl (by decide) rfl (fun ls hl => ?_)
          refine lv_goto (tgt := 2) hx hb dX7_pass_134 (by decide) ?_
          exact ih43 _ _ _ _ _ _ _ _ _ hf hP hD hS (lv_sub hl [1, 2, 3, 0] rfl)
        have lp45 : ∀ (nf : Nat) (y36 : Int32) (y37 : Nat → Int32) (H : Heap) (locs : List Loc) (ls : Array Slot), lp_X7_pass_20 mM y27 y28 y29 y30 nf y36 y37 = some v39 → va_P (dC, dI) vwCl [(zmo, .inr (6, [.int mM.1, .int mM.2.1, .int mM.2.2.1, .int (bI mM.2.2.2.1), .int mM.2.2.2.2.1, .int mM.2.2.2.2.2, .ref zar, .ref zbe, .ref zst, .ref zah, .ref zgd])), (zar, .inl (cJ, 64, .inr (.inl fR))), (zwo, .inr (5, [.int y27, .int y28, .int y29, .long y30, .ref zwq])), (zwq, .inl (cI, 64, .inl y37))] H → va_D (A_X7_pass cI cJ zmo zar zwo zwq zbe zst zah zgd mM fR sW aW yr s.heap.size) [(zmo, .inr (6, [.int mM.1, .int mM.2.1, .int mM.2.2.1, .int (bI mM.2.2.2.1), .int mM.2.2.2.2.1, .int mM.2.2.2.2.2, .ref zar, .ref zbe, .ref zst, .ref zah, .ref zgd])), (zar, .inl (cJ, 64, .inr (.inl fR))), (zwo, .inr (5, [.int y27, .int y28, .int y29, .long y30, .ref zwq])), (zwq, .inl (cI, 64, .inl y37))] → va_S (A_X7_pass cI cJ zmo zar zwo zwq zbe zst zah zgd mM fR sW aW yr s.heap.size) s.heap H locs → lv_has ls 7 [(0, .ref zmo), (1, .ref zwo), (2, .int yr), (3, .int y25), (4, .long r31), (6, .int y36)] → W p l e rm_X7_pass s m args below meth c H locs 0 0 (MQ below (Q_X7_pass dC dI cI cJ zmo zar zwo zwq zbe zst zah zgd mM fR sW aW yr s.heap.size R) args s 0 0 (A_X7_pass cI cJ zmo zar zwo zwq zbe zst zah zgd mM fR sW aW yr s.heap.size)) (F0 m 20 ls []) := by
          intro nf
          induction nf with
          | zero => intro y36 y37 H locs ls h9; exact nomatch h9
          | succ nf ih46 =>
            intro y36 y37 H locs ls hf hP hD hS hl
            rw [lp_X7_pass_20.eq_2] at hf
            refine lv_iload hx hb dX7_pass_20 (lv_at hl 5 rfl) ?_
            refine lv_aload_n hx hb dX7_pass_22 rfl (lv_at hl 0 rfl) ?_
            refine va_get (D := (dC, dI)) (ci := 6) (v := .int mM.2.1) (C := RX7) (T := TX7) (N := 11) hx hb hts hinX7 hown hK hP 0 rfl rfl 1 (by decide) hw0 (fun _ h9 => h9) rfl dX7_pass_23 ?_
            refine lv_aload_n hx hb dX7_pass_26 rfl (lv_at hl 0 rfl) ?_
            refine va_get (D := (dC, dI)) (ci := 6) (v := .int mM.2.2.1) (C := RX7) (T := TX7) (N := 11) hx hb hts hinX7 hown hK hP 0 rfl rfl 2 (by decide) hw1 (fun _ h9 => h9) rfl dX7_pass_27 ?_
            refine lv_imul hx hb dX7_pass_30 ?_
            refine lv_icmp_ge (tgt := 69) hx hb dX7_pass_31 (by decide) (fun hc => ?_) (fun hc => ?_)
            · rw [if_pos hc] at hf
              obtain rfl := Option.some.inj hf
              exact K44 _ _ _ hP hD hS (lv_sub hl [0, 1, 2, 3, 4] rfl)
            · rw [if_neg hc] at hf
              refine lv_aload_n hx hb dX7_pass_34 rfl (lv_at hl 1 rfl) ?_
              refine va_getN (D := (dC, dI)) (ci := 5) (v := .ref zwq) (C := RX6) (T := TX6) (N := 5) hx hb hts hinX6 hown hK hP 2 rfl rfl 4 (by decide) (va_Nw.use rfl hnw_ages) (fun _ h9 => h9) rfl dX7_pass_35 ?_
              refine lv_iload hx hb dX7_pass_38 (lv_at hl 5 rfl) ?_
              refine lv_aload_n hx hb dX7_pass_40 rfl (lv_at hl 1 rfl) ?_
              refine lv_iload hx hb dX7_pass_41 (lv_at hl 5 rfl) ?_
              have hPc := hP.sub (ws' := [(zwo, .inr (5, [.int y27, .int y28, .int y29, .long y30, .ref zwq]))]) [2] rfl
              have hDc := hD.sub (ws' := [(zwo, .inr (5, [.int y27, .int y28, .int y29, .long y30, .ref zwq]))]) [2] (by decide) rfl
              have hFc := va_free (wc := [(zwo, .inr (5, [.int y27, .int y28, .int y29, .long y30, .ref zwq]))]) hD hS hA [2] rfl
              refine va_calli (va_runV (As := [.int y36]) (rest := [.int y36, .ref zwq]) ⟨hx, hb, hml, hown, hts⟩ (c_X6_has l dC dI cI cJ zwo zwq H.size (y27, y28, y29, y30) y36) (cwV 1 hts gX7_pass_X6_has rfl rfl rfl (by decide +kernel) ⟨Nat.le_of_ble_eq_true rfl, Nat.le_of_ble_eq_true rfl⟩) ⟨fun a U gg mk q => by obtain ⟨q0, q1, qP, qK, qD⟩ := q; exact ⟨q0, q1, qP, va_K.moved (u := U) (U := U.calling gg mk a) (Vm.Alike.refl U.vm) qK, qD⟩, va_recv hK hPc (ci := 5) (q0 := 0) rfl rfl, fun U hU hW => ⟨rfl, by rw [hU], by rw [hU]; exact hPc, va_K.moved hW.alike hK, hDc.weaken (fun _ _ _ _ => trivial)⟩⟩ rfl rfl hl.1 rfl (lv_room (Nat.le_of_ble_eq_true rfl)) dX7_pass_43 ⟨Nat.zero_le _, Nat.zero_le _⟩) hS (fun q _ h => hFc q h) hFc (fun r_ u_ t H locs ht hvm hw hB hz1 hk1 hS => ?_)
              obtain rfl := hw.symm
              obtain ⟨hP1, -, hD1⟩ := hB
              rw [ht] at hP1
              obtain ⟨hP, hD⟩ := va_join (wr := [(zmo, .inr (6, [.int mM.1, .int mM.2.1, .int mM.2.2.1, .int (bI mM.2.2.2.1), .int mM.2.2.2.2.1, .int mM.2.2.2.2.2, .ref zar, .ref zbe, .ref zst, .ref zah, .ref zgd])), (zar, .inl (cJ, 64, .inr (.inl fR))), (zwq, .inl (cI, 64, .inl y37))]) (w1 := [(zwo, .inr (5, [.int y27, .int y28, .int y29, .long y30, .ref zwq]))]) hP hD [2] [0, 1, 3] rfl rfl (by decide) (by decide) hk1 hFc hP1 hD1
              have hP := hP.sub (ws' := [(zmo, .inr (6, [.int mM.1, .int mM.2.1, .int mM.2.2.1, .int (bI mM.2.2.2.1), .int mM.2.2.2.2.1, .int mM.2.2.2.2.2, .ref zar, .ref zbe, .ref zst, .ref zah, .ref zgd])), (zar, .inl (cJ, 64, .inr (.inl fR))), (zwo, .inr (5, [.int y27, .int y28, .int y29, .long y30, .ref zwq])), (zwq, .inl (cI, 64, .inl y37))]) [0, 1, 3, 2] rfl
              have hD := hD.sub (ws' := [(zmo, .inr (6, [.int mM.1, .int mM.2.1, .int mM.2.2.1, .int (bI mM.2.2.2.1), .int mM.2.2.2.2.1, .int mM.2.2.2.2.2, .ref zar, .ref zbe, .ref zst, .ref zah, .ref zgd])), (zar, .inl (cJ, 64, .inr (.inl fR))), (zwo, .inr (5, [.int y27, .int y28, .int y29, .long y30, .ref zwq])), (zwq, .inl (cI, 64, .inl y37))]) [0, 1, 3, 2] (by decide) rfl
              clear hPc hDc hFc hP1 hD1 hk1
              obtain ⟨v38, hv, hf⟩ := obind hf
              have K47 : ∀ (H : Heap) (locs : List Loc) (ls : Array Slot), va_P (dC, dI) vwCl [(zmo, .inr (6, [.int mM.1, .int mM.2.1, .int mM.2.2.1, .int (bI mM.2.2.2.1), .int mM.2.2.2.2.1, .int mM.2.2.2.2.2, .ref zar, .ref zbe, .ref zst, .ref zah, .ref zgd])), (zar, .inl (cJ, 64, .inr (.inl fR))), (zwo, .inr (5, [.int y27, .int y28, .int y29, .long y30, .ref zwq])), (zwq, .inl (cI, 64, .inl y37))] H → va_D (A_X7_pass cI cJ zmo zar zwo zwq zbe zst zah zgd mM fR sW aW yr s.heap.size) [(zmo, .inr (6, [.int mM.1, .int mM.2.1, .int mM.2.2.1, .int (bI mM.2.2.2.1), .int mM.2.2.2.2.1, .int mM.2.2.2.2.2, .ref zar, .ref zbe, .ref zst, .ref zah, .ref zgd])), (zar, .inl (cJ, 64, .inr (.inl fR))), (zwo, .inr (5, [.int y27, .int y28, .int y29, .long y30, .ref zwq])), (zwq, .inl (cI, 64, .inl y37))] → va_S (A_X7_pass cI cJ zmo zar zwo zwq zbe zst zah zgd mM fR sW aW yr s.heap.size) s.heap H locs → lv_has ls 7 [(0, .ref zmo), (1, .ref zwo), (2, .int yr), (3, .int y25), (4, .long r31), (6, .int y36)] → W p l e rm_X7_pass s m args below meth c H locs 0 0 (MQ below (Q_X7_pass dC dI cI cJ zmo zar zwo zwq zbe zst zah zgd mM fR sW aW yr s.heap.size R) args s 0 0 (A_X7_pass cI cJ zmo zar zwo zwq zbe zst zah zgd mM fR sW aW yr s.heap.size)) (F0 m 62 ls [.int v38, .int y36, .ref zwq]) := by
                intro H locs ls hP hD hS hl
                have hg0 : ¬ (y36 < 0 ∨ 64 ≤ y36.toNatClampNeg) := fun hq => by rw [if_pos hq] at hf; exact nomatch hf
                rw [if_neg hg0] at hf
                have hg : vp_in y36 64 := hg0
                refine va_iast hx hb hK hP hD hS 3 0 rfl rfl hg dX7_pass_62 (fun H locs hP hD hS => ?_)
                have hP : va_P (dC, dI) vwCl [(zmo, .inr (6, [.int mM.1, .int mM.2.1, .int mM.2.2.1, .int (bI mM.2.2.2.1), .int mM.2.2.2.2.1, .int mM.2.2.2.2.2, .ref zar, .ref zbe, .ref zst, .ref zah, .ref zgd])), (zar, .inl (cJ, 64, .inr (.inl fR))), (zwo, .inr (5, [.int y27, .int y28, .int y29, .long y30, .ref zwq])), (zwq, .inl (cI, 64, .inl (upd y37 y36.toNatClampNeg v38)))] H := hP
                have hD : va_D (A_X7_pass cI cJ zmo zar zwo zwq zbe zst zah zgd mM fR sW aW yr s.heap.size) [(zmo, .inr (6, [.int mM.1, .int mM.2.1, .int mM.2.2.1, .int (bI mM.2.2.2.1), .int mM.2.2.2.2.1, .int mM.2.2.2.2.2, .ref zar, .ref zbe, .ref zst, .ref zah, .ref zgd])), (zar, .inl (cJ, 64, .inr (.inl fR))), (zwo, .inr (5, [.int y27, .int y28, .int y29, .long y30, .ref zwq])), (zwq, .inl (cI, 64, .inl (upd y37 y36.toNatClampNeg v38)))] := hD
                refine lv_iinc (v := (y36 + 1)) (lv' := [(6, .int (y36 + 1)), (0, .ref zmo), (1, .ref zwo), (2, .int yr), (3, .int y25), (4, .long r31)]) hx hb dX7_pass_63 hl (k := 5) rfl rfl (by decide) rfl (fun ls hl => ?_)
                refine lv_goto (tgt := 20) hx hb dX7_pass_66 (by decide) ?_
                exact ih46 _ _ _ _ _ hf hP hD hS (lv_sub hl [1, 2, 3, 4, 5, 0] rfl)
              clear hf; have hf := hv; clear hv
              refine lv_if_eq (tgt := 61) hx hb dX7_pass_46 (by decide) (fun hc => ?_) (fun hc => ?_)
              · rw [if_pos hc] at hf
                refine lv_iconst (v := 0) hx hb dX7_pass_61 (by decide) ?_
                obtain rfl := Option.some.inj hf
                exact K47 _ _ _ hP hD hS (lv_sub hl [0, 1, 2, 3, 4, 5] rfl)
              · rw [if_neg hc] at hf
                refine lv_aload_n hx hb dX7_pass_49 rfl (lv_at hl 1 rfl) ?_
                refine va_getN (D := (dC, dI)) (ci := 5) (v := .ref zwq) (C := RX6) (T := TX6) (N := 5) hx hb hts hinX6 hown hK hP 2 rfl rfl 4 (by decide) (va_Nw.use rfl hnw_ages) (fun _ h9 => h9) rfl dX7_pass_50 ?_
                refine lv_iload hx hb dX7_pass_53 (lv_at hl 5 rfl) ?_
                have hg0 : ¬ (y36 < 0 ∨ 64 ≤ y36.toNatClampNeg) := fun hq => by rw [if_pos hq] at hf; exact nomatch hf
                rw [if_neg hg0] at hf
                have hg : vp_in y36 64 := hg0
                refine va_iald hx hb hK hP 3 0 rfl rfl hg dX7_pass_55 ?_
                refine lv_iconst (v := 1) hx hb dX7_pass_56 (by decide) ?_
                refine lv_iadd hx hb dX7_pass_57 ?_
                refine lv_goto (tgt := 62) hx hb dX7_pass_58 (by decide) ?_
                obtain rfl := Option.some.inj hf
                exact K47 _ _ _ hP hD hS (lv_sub hl [0, 1, 2, 3, 4, 5] rfl)
        exact lp45 100 _ _ _ _ _ hv hP hD hS (lv_sub hl [2, 3, 4, 5, 1, 0] rfl)
  exact lp42 100 _ _ _ _ _ _ _ _ _ hv hP hD hS (lv_sub hl [1, 2, 3, 0] rfl)
