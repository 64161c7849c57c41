/-! HedgeGliders$Ground.lawn(JJ)J -/
def lp_X3_lawn_8 (gG : GrS) (op : Int64) : Nat → Int64 → Int32 → Option (Int64)
  | 0, _, _ => none
  | nf + 1, y3, y4 => if 64 ≤ y4 then (some y3) else (if (f_X3_withBeside gG y3 op) = y3 then (some y3) else (lp_X3_lawn_8 gG op nf (f_X3_withBeside gG y3 op) (y4 + 1)))
def f_X3_lawn (gG : GrS) (ce : Int64) (op : Int64) : Option (Int64) := (lp_X3_lawn_8 gG op 100 (ce &&& op) 0)
abbrev rm_X3_lawn : Room := ({ frames := 2, cells := 0, slots := 0, locals := 48 } : Room)
abbrev A_X3_lawn (cI cJ : ClassId) (zgr : Nat) (gG : GrS) (ce : Int64) (op : Int64) (sz : Nat) : Nat → Prop := va_A [(zgr, .inr (2, [.int gG.1, .int gG.2.1, .int (bI gG.2.2.1), .long gG.2.2.2.1, .long gG.2.2.2.2.1, .long gG.2.2.2.2.2.1, .long gG.2.2.2.2.2.2.1, .long gG.2.2.2.2.2.2.2]))] sz
abbrev Q_X3_lawn (dC : Nat → ClassId) (dI : Nat → Nat → Nat) (cI cJ : ClassId) (zgr : Nat) (gG : GrS) (ce : Int64) (op : Int64) (sz : Nat) (R : Int64) : Array Value → State → Outcome → State → Prop := va_Ql (fun (r : Int64) (_ : Unit) => r = R) (fun u_ t => va_P (dC, dI) vwCl [(zgr, .inr (2, [.int gG.1, .int gG.2.1, .int (bI gG.2.2.1), .long gG.2.2.2.1, .long gG.2.2.2.2.1, .long gG.2.2.2.2.2.1, .long gG.2.2.2.2.2.2.1, .long gG.2.2.2.2.2.2.2]))] t.heap ∧ va_K (dC, dI) vwCl [(cI, .int), (cJ, .long)] t ∧ va_D (A_X3_lawn cI cJ zgr gG ce op sz) [(zgr, .inr (2, [.int gG.1, .int gG.2.1, .int (bI gG.2.2.1), .long gG.2.2.2.1, .long gG.2.2.2.2.1, .long gG.2.2.2.2.2.1, .long gG.2.2.2.2.2.2.1, .long gG.2.2.2.2.2.2.2]))]) (A_X3_lawn cI cJ zgr gG ce op sz)
set_option maxHeartbeats 4000000 in
set_option maxRecDepth 100000 in
theorem c_X3_lawn (l : Launch) (dC : Nat → ClassId) (dI : Nat → Nat → Nat) (cI cJ : ClassId) (zgr : Nat) (sz : Nat) (gG : GrS) (ce : Int64) (op : Int64) (R : Int64) (hR : f_X3_lawn gG ce op = some R) : Met l yX3_lawn wsX3_lawn rm_X3_lawn (va_Pc [.ref zgr, .long ce, .long op] (fun U => U.heap.size = sz ∧ va_P (dC, dI) vwCl [(zgr, .inr (2, [.int gG.1, .int gG.2.1, .int (bI gG.2.2.1), .long gG.2.2.2.1, .long gG.2.2.2.2.1, .long gG.2.2.2.2.2.1, .long gG.2.2.2.2.2.2.1, .long gG.2.2.2.2.2.2.2]))] U.heap ∧ va_K (dC, dI) vwCl [(cI, .int), (cJ, .long)] U ∧ va_D (fun _ => True) [(zgr, .inr (2, [.int gG.1, .int gG.2.1, .int (bI gG.2.2.1), .long gG.2.2.2.1, .long gG.2.2.2.2.1, .long gG.2.2.2.2.2.1, .long gG.2.2.2.2.2.2.1, .long gG.2.2.2.2.2.2.2]))])) (Q_X3_lawn dC dI cI cJ zgr gG ce op sz R) 0 0 (A_X3_lawn cI cJ zgr gG ce op sz) := by
  have hf := hR
  refine Met.ofW (cc := cX3_lawn) (maxL := 10) (ret := (some .long)) (by decide) rfl ?_
  intro p e s m args below meth c s₁ B hml hv
  obtain ⟨hargs, hsz, hP, hK, hD0⟩ := hv
  have hx := B.exec
  have hb := B.bytes
  have hr := B.returns
  have hts := atoms_spec (ws := wsX3_lawn) B.pre
  have hown : s.vm.findClass RX3 = some m.cls := findClass_of_methodNamed B.named
  have hlocks := B.notSynchronized
  subst hsz
  have hD : va_D (A_X3_lawn cI cJ zgr gG ce op s.heap.size) [(zgr, .inr (2, [.int gG.1, .int gG.2.1, .int (bI gG.2.2.1), .long gG.2.2.2.1, .long gG.2.2.2.2.1, .long gG.2.2.2.2.2.1, .long gG.2.2.2.2.2.2.1, .long gG.2.2.2.2.2.2.2]))] := hD0.self (sz := s.heap.size)
  have hA : ∀ q : Nat, s.heap.size ≤ q → (A_X3_lawn cI cJ zgr gG ce op s.heap.size) q := fun q h => Or.inr h
  have hS : va_S (A_X3_lawn cI cJ zgr gG ce op s.heap.size) s.heap s.heap [] := va_S.rf
  have hl := lv_entry ([.ref zgr, .long ce, .long op]) (n := 10) (Nat.le_of_ble_eq_true rfl)
  have he0 : entryFrame m args 10 = entryFrame m ([.ref zgr, .long ce, .long op] : List Value).toArray 10 := by rw [hargs]
  rw [he0, lg_entry_eq]
  generalize (lg_sl ([.ref zgr, .long ce, .long op]) ++ List.replicate (10 - (lg_sl ([.ref zgr, .long ce, .long op])).length) Slot.unset).toArray = ls at hl ⊢
  have hl : lv_has ls 10 [(0, .ref zgr), (1, .long ce), (3, .long op)] := hl
  rw [f_X3_lawn] at hf
  refine lv_lload_n hx hb dX3_lawn_0 rfl (lv_at hl 1 rfl) ?_
  refine lv_lload_n hx hb dX3_lawn_1 rfl (lv_at hl 2 rfl) ?_
  refine lv_land hx hb dX3_lawn_2 ?_
  refine lv_lstore (lv' := [(5, .long (ce &&& op)), (0, .ref zgr), (1, .long ce), (3, .long op)]) hx hb dX3_lawn_3 hl (by decide) rfl (fun ls hl => ?_)
  refine lv_iconst (v := 0) hx hb dX3_lawn_5 (by decide) ?_
  refine lv_istore (lv' := [(7, .int 0), (5, .long (ce &&& op)), (0, .ref zgr), (1, .long ce), (3, .long op)]) hx hb dX3_lawn_6 hl (by decide) rfl (fun ls hl => ?_)
  have hv := hf
  have lp6 : ∀ (nf : Nat) (y3 : Int64) (y4 : Int32) (H : Heap) (locs : List Loc) (ls : Array Slot), lp_X3_lawn_8 gG op nf y3 y4 = some R → va_P (dC, dI) vwCl [(zgr, .inr (2, [.int gG.1, .int gG.2.1, .int (bI gG.2.2.1), .long gG.2.2.2.1, .long gG.2.2.2.2.1, .long gG.2.2.2.2.2.1, .long gG.2.2.2.2.2.2.1, .long gG.2.2.2.2.2.2.2]))] H → va_D (A_X3_lawn cI cJ zgr gG ce op s.heap.size) [(zgr, .inr (2, [.int gG.1, .int gG.2.1, .int (bI gG.2.2.1), .long gG.2.2.2.1, .long gG.2.2.2.2.1, .long gG.2.2.2.2.2.1, .long gG.2.2.2.2.2.2.1, .long gG.2.2.2.2.2.2.2]))] → va_S (A_X3_lawn cI cJ zgr gG ce op s.heap.size) s.heap H locs → lv_has ls 10 [(0, .ref zgr), (3, .long op), (5, .long y3), (7, .int y4)] → W p l e rm_X3_lawn s m args below meth c H locs 0 0 (MQ below (Q_X3_lawn dC dI cI cJ zgr gG ce op s.heap.size R) args s 0 0 (A_X3_lawn cI cJ zgr gG ce op s.heap.size)) (F0 m 8 ls []) := by
    intro nf
    induction nf with
    | zero => intro y3 y4 H locs ls h9; exact nomatch h9
    | succ nf ih7 =>
      intro y3 y4 H locs ls hf hP hD hS hl
      rw [lp_X3_lawn_8.eq_2] at hf
      refine lv_iload hx hb dX3_lawn_8 (lv_at hl 3 rfl) ?_
      refine lv_bipush (v := 64) hx hb dX3_lawn_10 (by decide) ?_
      refine lv_icmp_ge (tgt := 45) hx hb dX3_lawn_12 (by decide) (fun hc => ?_) (fun hc => ?_)
      · rw [if_pos hc] at hf
        refine lv_lload hx hb dX3_lawn_45 (lv_at hl 2 rfl) ?_
        obtain rfl := Option.some.inj hf
        exact W.lret (v := y3) hx hb hr (fun t ht hW => ⟨⟨y3, (), rfl, rfl, by rw [ht]; exact hP, va_K.moved hW.alike hK, hD⟩, hS.F ht⟩) hS.2.2 dX3_lawn_47
      · rw [if_neg hc] at hf
        refine lv_aload_n hx hb dX3_lawn_15 rfl (lv_at hl 0 rfl) ?_
        refine lv_lload hx hb dX3_lawn_16 (lv_at hl 2 rfl) ?_
        refine lv_lload_n hx hb dX3_lawn_18 rfl (lv_at hl 1 rfl) ?_
        have hPc := hP.sub (ws' := [(zgr, .inr (2, [.int gG.1, .int gG.2.1, .int (bI gG.2.2.1), .long gG.2.2.2.1, .long gG.2.2.2.2.1, .long gG.2.2.2.2.2.1, .long gG.2.2.2.2.2.2.1, .long gG.2.2.2.2.2.2.2]))]) [0] rfl
        have hDc := hD.sub (ws' := [(zgr, .inr (2, [.int gG.1, .int gG.2.1, .int (bI gG.2.2.1), .long gG.2.2.2.1, .long gG.2.2.2.2.1, .long gG.2.2.2.2.2.1, .long gG.2.2.2.2.2.2.1, .long gG.2.2.2.2.2.2.2]))]) [0] (by decide) rfl
        have hFc := va_free (wc := [(zgr, .inr (2, [.int gG.1, .int gG.2.1, .int (bI gG.2.2.1), .long gG.2.2.2.1, .long gG.2.2.2.2.1, .long gG.2.2.2.2.2.1, .long gG.2.2.2.2.2.2.1, .long gG.2.2.2.2.2.2.2]))]) hD hS hA [0] rfl
        refine va_calll (va_runV (As := [.long y3, .long op]) (rest := []) ⟨hx, hb, hml, hown, hts⟩ (c_X3_withBeside l dC dI cI cJ zgr H.size gG y3 op) (cwV 2 hts gX3_lawn_X3_withBeside rfl rfl rfl (by decide +kernel) ⟨Nat.le_of_ble_eq_true rfl, Nat.le_of_ble_eq_true rfl⟩) ⟨fun a U gg mk q => by obtain ⟨q0, q1, qP, qK, qD⟩ := q; exact ⟨q0, q1, qP, va_K.moved (u := U) (U := U.calling gg mk a) (Vm.Alike.refl U.vm) qK, qD⟩, va_recv hK hPc (ci := 2) (q0 := 0) rfl rfl, fun U hU hW => ⟨rfl, by rw [hU], by rw [hU]; exact hPc, va_K.moved hW.alike hK, hDc.weaken (fun _ _ _ _ => trivial)⟩⟩ rfl rfl hl.1 rfl (lv_room (Nat.le_of_ble_eq_true rfl)) dX3_lawn_19 ⟨Nat.zero_le _, Nat.zero_le _⟩) hS (fun q _ h => hFc q h) hFc (fun r_ u_ t H locs ht hvm hw hB hz1 hk1 hS => ?_)
        obtain rfl := hw.symm
        obtain ⟨hP1, -, hD1⟩ := hB
        rw [ht] at hP1
        obtain ⟨hP, hD⟩ := va_join (wr := []) (w1 := [(zgr, .inr (2, [.int gG.1, .int gG.2.1, .int (bI gG.2.2.1), .long gG.2.2.2.1, .long gG.2.2.2.2.1, .long gG.2.2.2.2.2.1, .long gG.2.2.2.2.2.2.1, .long gG.2.2.2.2.2.2.2]))]) hP hD [0] [] rfl rfl (by decide) (by decide) hk1 hFc hP1 hD1
        have hP := hP.sub (ws' := [(zgr, .inr (2, [.int gG.1, .int gG.2.1, .int (bI gG.2.2.1), .long gG.2.2.2.1, .long gG.2.2.2.2.1, .long gG.2.2.2.2.2.1, .long gG.2.2.2.2.2.2.1, .long gG.2.2.2.2.2.2.2]))]) [0] rfl
        have hD := hD.sub (ws' := [(zgr, .inr (2, [.int gG.1, .int gG.2.1, .int (bI gG.2.2.1), .long gG.2.2.2.1, .long gG.2.2.2.2.1, .long gG.2.2.2.2.2.1, .long gG.2.2.2.2.2.2.1, .long gG.2.2.2.2.2.2.2]))]) [0] (by decide) rfl
        clear hPc hDc hFc hP1 hD1 hk1
        refine lv_lstore (lv' := [(8, .long (f_X3_withBeside gG y3 op)), (0, .ref zgr), (3, .long op), (5, .long y3), (7, .int y4)]) hx hb dX3_lawn_22 hl (by decide) rfl (fun ls hl => ?_)
        refine lv_lload hx hb dX3_lawn_24 (lv_at hl 0 rfl) ?_
        refine lv_lload hx hb dX3_lawn_26 (lv_at hl 3 rfl) ?_
        refine W.lcmp hx hb dX3_lawn_28 ?_
        refine lv_if_ne (tgt := 35) hx hb dX3_lawn_29 (by decide) (fun hc => ?_) (fun hc => ?_)
        · have hc := fun h9 => hc (lgz.mpr h9)
          rw [if_neg hc] at hf
          refine lv_lload hx hb dX3_lawn_35 (lv_at hl 0 rfl) ?_
          refine lv_lstore (lv' := [(5, .long (f_X3_withBeside gG y3 op)), (8, .long (f_X3_withBeside gG y3 op)), (0, .ref zgr), (3, .long op), (7, .int y4)]) hx hb dX3_lawn_37 hl (by decide) rfl (fun ls hl => ?_)
          refine lv_iinc (v := (y4 + 1)) (lv' := [(7, .int (y4 + 1)), (5, .long (f_X3_withBeside gG y3 op)), (8, .long (f_X3_withBeside gG y3 op)), (0, .ref zgr), (3, .long op)]) hx hb dX3_lawn_39 hl (k := 4) rfl rfl (by decide) rfl (fun ls hl => ?_)
          refine lv_goto (tgt := 8) hx hb dX3_lawn_42 (by decide) ?_
          exact ih7 _ _ _ _ _ hf hP hD hS (lv_sub hl [3, 4, 1, 0] rfl)
        · have hc := lgz.mp hc
          rw [if_pos hc] at hf
          refine lv_goto (tgt := 45) hx hb dX3_lawn_32 (by decide) ?_
          refine lv_lload hx hb dX3_lawn_45 (lv_at hl 3 rfl) ?_
          obtain rfl := Option.some.inj hf
          exact W.lret (v := y3) hx hb hr (fun t ht hW => ⟨⟨y3, (), rfl, rfl, by rw [ht]; exact hP, va_K.moved hW.alike hK, hD⟩, hS.F ht⟩) hS.2.2 dX3_lawn_47
  exact lp6 100 _ _ _ _ _ hv hP hD hS (lv_sub hl [2, 4, 1, 0] rfl)
/-! HedgeGliders$Ground.steps(JJJ)I -/
def lp_X3_steps_9 (gG : GrS) (to : Int64) (op : Int64) : Nat → Int64 → Int32 → Option (Int32)
  | 0, _, _ => none
  | nf + 1, y3, y4 => if 64 ≤ y4 then (some (-1)) else (if (y3 &&& to) = 0 then (lp_X3_steps_9 gG to op nf (f_X3_withBeside gG y3 op) (y4 + 1)) else (some y4))
def f_X3_steps (gG : GrS) (fr : Int64) (to : Int64) (op : Int64) : Option (Int32) := (lp_X3_steps_9 gG to op 100 (fr &&& op) 0)
abbrev rm_X3_steps : Room := ({ frames := 2, cells := 0, slots := 0, locals := 48 } : Room)
abbrev A_X3_steps (cI cJ : ClassId) (zgr : Nat) (gG : GrS) (fr : Int64) (to : Int64) (op : Int64) (sz : Nat) : Nat → Prop := va_A [(zgr, .inr (2, [.int gG.1, .int gG.2.1, .int (bI gG.2.2.1), .long gG.2.2.2.1, .long gG.2.2.2.2.1, .long gG.2.2.2.2.2.1, .long gG.2.2.2.2.2.2.1, .long gG.2.2.2.2.2.2.2]))] sz
abbrev Q_X3_steps (dC : Nat → ClassId) (dI : Nat → Nat → Nat) (cI cJ : ClassId) (zgr : Nat) (gG : GrS) (fr : Int64) (to : Int64) (op : Int64) (sz : Nat) (R : Int32) : Array Value → State → Outcome → State → Prop := va_Qi (fun (r : Int32) (_ : Unit) => r = R) (fun u_ t => va_P (dC, dI) vwCl [(zgr, .inr (2, [.int gG.1, .int gG.2.1, .int (bI gG.2.2.1), .long gG.2.2.2.1, .long gG.2.2.2.2.1, .long gG.2.2.2.2.2.1, .long gG.2.2.2.2.2.2.1, .long gG.2.2.2.2.2.2.2]))] t.heap ∧ va_K (dC, dI) vwCl [(cI, .int), (cJ, .long)] t ∧ va_D (A_X3_steps cI cJ zgr gG fr to op sz) [(zgr, .inr (2, [.int gG.1, .int gG.2.1, .int (bI gG.2.2.1), .long gG.2.2.2.1, .long gG.2.2.2.2.1, .long gG.2.2.2.2.2.1, .long gG.2.2.2.2.2.2.1, .long gG.2.2.2.2.2.2.2]))]) (A_X3_steps cI cJ zgr gG fr to op sz)
set_option maxHeartbeats 4000000 in
set_option maxRecDepth 100000 in
theorem c_X3_steps (l : Launch) (dC : Nat → ClassId) (dI : Nat → Nat → Nat) (cI cJ : ClassId) (zgr : Nat) (sz : Nat) (gG : GrS) (fr : Int64) (to : Int64) (op : Int64) (R : Int32) (hR : f_X3_steps gG fr to op = some R) : Met l yX3_steps wsX3_steps rm_X3_steps (va_Pc [.ref zgr, .long fr, .long to, .long op] (fun U => U.heap.size = sz ∧ va_P (dC, dI) vwCl [(zgr, .inr (2, [.int gG.1, .int gG.2.1, .int (bI gG.2.2.1), .long gG.2.2.2.1, .long gG.2.2.2.2.1, .long gG.2.2.2.2.2.1, .long gG.2.2.2.2.2.2.1, .long gG.2.2.2.2.2.2.2]))] U.heap ∧ va_K (dC, dI) vwCl [(cI, .int), (cJ, .long)] U ∧ va_D (fun _ => True) [(zgr, .inr (2, [.int gG.1, .int gG.2.1, .int (bI gG.2.2.1), .long gG.2.2.2.1, .long gG.2.2.2.2.1, .long gG.2.2.2.2.2.1, .long gG.2.2.2.2.2.2.1, .long gG.2.2.2.2.2.2.2]))])) (Q_X3_steps dC dI cI cJ zgr gG fr to op sz R) 0 0 (A_X3_steps cI cJ zgr gG fr to op sz) := by
  have hf := hR
  refine Met.ofW (cc := cX3_steps) (maxL := 10) (ret := (some .int)) (by decide) rfl ?_
  intro p e s m args below meth c s₁ B hml hv
  obtain ⟨hargs, hsz, hP, hK, hD0⟩ := hv
  have hx := B.exec
  have hb := B.bytes
  have hr := B.returns
  have hts := atoms_spec (ws := wsX3_steps) B.pre
  have hown : s.vm.findClass RX3 = some m.cls := findClass_of_methodNamed B.named
  have hlocks := B.notSynchronized
  subst hsz
  have hD : va_D (A_X3_steps cI cJ zgr gG fr to op s.heap.size) [(zgr, .inr (2, [.int gG.1, .int gG.2.1, .int (bI gG.2.2.1), .long gG.2.2.2.1, .long gG.2.2.2.2.1, .long gG.2.2.2.2.2.1, .long gG.2.2.2.2.2.2.1, .long gG.2.2.2.2.2.2.2]))] := hD0.self (sz := s.heap.size)
  have hA : ∀ q : Nat, s.heap.size ≤ q → (A_X3_steps cI cJ zgr gG fr to op s.heap.size) q := fun q h => Or.inr h
  have hS : va_S (A_X3_steps cI cJ zgr gG fr to op s.heap.size) s.heap s.heap [] := va_S.rf
  have hl := lv_entry ([.ref zgr, .long fr, .long to, .long op]) (n := 10) (Nat.le_of_ble_eq_true rfl)
  have he0 : entryFrame m args 10 = entryFrame m ([.ref zgr, .long fr, .long to, .long op] : List Value).toArray 10 := by rw [hargs]
  rw [he0, lg_entry_eq]
  generalize (lg_sl ([.ref zgr, .long fr, .long to, .long op]) ++ List.replicate (10 - (lg_sl ([.ref zgr, .long fr, .long to, .long op])).length) Slot.unset).toArray = ls at hl ⊢
  have hl : lv_has ls 10 [(0, .ref zgr), (1, .long fr), (3, .long to), (5, .long op)] := hl
  rw [f_X3_steps] at hf
  refine lv_lload_n hx hb dX3_steps_0 rfl (lv_at hl 1 rfl) ?_
  refine lv_lload hx hb dX3_steps_1 (lv_at hl 3 rfl) ?_
  refine lv_land hx hb dX3_steps_3 ?_
  refine lv_lstore (lv' := [(7, .long (fr &&& op)), (0, .ref zgr), (1, .long fr), (3, .long to), (5, .long op)]) hx hb dX3_steps_4 hl (by decide) rfl (fun ls hl => ?_)
  refine lv_iconst (v := 0) hx hb dX3_steps_6 (by decide) ?_
  refine lv_istore (lv' := [(9, .int 0), (7, .long (fr &&& op)), (0, .ref zgr), (1, .long fr), (3, .long to), (5, .long op)]) hx hb dX3_steps_7 hl (by decide) rfl (fun ls hl => ?_)
  have hv := hf
  have lp6 : ∀ (nf : Nat) (y3 : Int64) (y4 : Int32) (H : Heap) (locs : List Loc) (ls : Array Slot), lp_X3_steps_9 gG to op nf y3 y4 = some R → va_P (dC, dI) vwCl [(zgr, .inr (2, [.int gG.1, .int gG.2.1, .int (bI gG.2.2.1), .long gG.2.2.2.1, .long gG.2.2.2.2.1, .long gG.2.2.2.2.2.1, .long gG.2.2.2.2.2.2.1, .long gG.2.2.2.2.2.2.2]))] H → va_D (A_X3_steps cI cJ zgr gG fr to op s.heap.size) [(zgr, .inr (2, [.int gG.1, .int gG.2.1, .int (bI gG.2.2.1), .long gG.2.2.2.1, .long gG.2.2.2.2.1, .long gG.2.2.2.2.2.1, .long gG.2.2.2.2.2.2.1, .long gG.2.2.2.2.2.2.2]))] → va_S (A_X3_steps cI cJ zgr gG fr to op s.heap.size) s.heap H locs → lv_has ls 10 [(0, .ref zgr), (3, .long to), (5, .long op), (7, .long y3), (9, .int y4)] → W p l e rm_X3_steps s m args below meth c H locs 0 0 (MQ below (Q_X3_steps dC dI cI cJ zgr gG fr to op s.heap.size R) args s 0 0 (A_X3_steps cI cJ zgr gG fr to op s.heap.size)) (F0 m 9 ls []) := by
    intro nf
    induction nf with
    | zero => intro y3 y4 H locs ls h9; exact nomatch h9
    | succ nf ih7 =>
      intro y3 y4 H locs ls hf hP hD hS hl
      rw [lp_X3_steps_9.eq_2] at hf
      refine lv_iload hx hb dX3_steps_9 (lv_at hl 4 rfl) ?_
      refine lv_bipush (v := 64) hx hb dX3_steps_11 (by decide) ?_
      refine lv_icmp_ge (tgt := 44) hx hb dX3_steps_13 (by decide) (fun hc => ?_) (fun hc => ?_)
      · rw [if_pos hc] at hf
        refine lv_iconst (v := (-1)) hx hb dX3_steps_44 (by decide) ?_
        obtain rfl := Option.some.inj hf
        exact W.iret (v := (-1)) hx hb hr (fun t ht hW => ⟨⟨(-1), (), rfl, rfl, by rw [ht]; exact hP, va_K.moved hW.alike hK, hD⟩, hS.F ht⟩) hS.2.2 dX3_steps_45
      · rw [if_neg hc] at hf
        refine lv_lload hx hb dX3_steps_16 (lv_at hl 3 rfl) ?_
        refine lv_lload_n hx hb dX3_steps_18 rfl (lv_at hl 1 rfl) ?_
        refine lv_land hx hb dX3_steps_19 ?_
        refine lv_lconst (v := 0) hx hb dX3_steps_20 (by decide) ?_
        refine W.lcmp hx hb dX3_steps_21 ?_
        refine lv_if_eq (tgt := 28) hx hb dX3_steps_22 (by decide) (fun hc => ?_) (fun hc => ?_)
        · have hc := lgz.mp hc
          rw [if_pos hc] at hf
          refine lv_aload_n hx hb dX3_steps_28 rfl (lv_at hl 0 rfl) ?_
          refine lv_lload hx hb dX3_steps_29 (lv_at hl 3 rfl) ?_
          refine lv_lload hx hb dX3_steps_31 (lv_at hl 2 rfl) ?_
          have hPc := hP.sub (ws' := [(zgr, .inr (2, [.int gG.1, .int gG.2.1, .int (bI gG.2.2.1), .long gG.2.2.2.1, .long gG.2.2.2.2.1, .long gG.2.2.2.2.2.1, .long gG.2.2.2.2.2.2.1, .long gG.2.2.2.2.2.2.2]))]) [0] rfl
          have hDc := hD.sub (ws' := [(zgr, .inr (2, [.int gG.1, .int gG.2.1, .int (bI gG.2.2.1), .long gG.2.2.2.1, .long gG.2.2.2.2.1, .long gG.2.2.2.2.2.1, .long gG.2.2.2.2.2.2.1, .long gG.2.2.2.2.2.2.2]))]) [0] (by decide) rfl
          have hFc := va_free (wc := [(zgr, .inr (2, [.int gG.1, .int gG.2.1, .int (bI gG.2.2.1), .long gG.2.2.2.1, .long gG.2.2.2.2.1, .long gG.2.2.2.2.2.1, .long gG.2.2.2.2.2.2.1, .long gG.2.2.2.2.2.2.2]))]) hD hS hA [0] rfl
          refine va_calll (va_runV (As := [.long y3, .long op]) (rest := []) ⟨hx, hb, hml, hown, hts⟩ (c_X3_withBeside l dC dI cI cJ zgr H.size gG y3 op) (cwV 2 hts gX3_steps_X3_withBeside rfl rfl rfl (by decide +kernel) ⟨Nat.le_of_ble_eq_true rfl, Nat.le_of_ble_eq_true rfl⟩) ⟨fun a U gg mk q => by obtain ⟨q0, q1, qP, qK, qD⟩ := q; exact ⟨q0, q1, qP, va_K.moved (u := U) (U := U.calling gg mk a) (Vm.Alike.refl U.vm) qK, qD⟩, va_recv hK hPc (ci := 2) (q0 := 0) rfl rfl, fun U hU hW => ⟨rfl, by rw [hU], by rw [hU]; exact hPc, va_K.moved hW.alike hK, hDc.weaken (fun _ _ _ _ => trivial)⟩⟩ rfl rfl hl.1 rfl (lv_room (Nat.le_of_ble_eq_true rfl)) dX3_steps_33 ⟨Nat.zero_le _, Nat.zero_le _⟩) hS (fun q _ h => hFc q h) hFc (fun r_ u_ t H locs ht hvm hw hB hz1 hk1 hS => ?_)
          obtain rfl := hw.symm
          obtain ⟨hP1, -, hD1⟩ := hB
          rw [ht] at hP1
          obtain ⟨hP, hD⟩ := va_join (wr := []) (w1 := [(zgr, .inr (2, [.int gG.1, .int gG.2.1, .int (bI gG.2.2.1), .long gG.2.2.2.1, .long gG.2.2.2.2.1, .long gG.2.2.2.2.2.1, .long gG.2.2.2.2.2.2.1, .long gG.2.2.2.2.2.2.2]))]) hP hD [0] [] rfl rfl (by decide) (by decide) hk1 hFc hP1 hD1
          have hP := hP.sub (ws' := [(zgr, .inr (2, [.int gG.1, .int gG.2.1, .int (bI gG.2.2.1), .long gG.2.2.2.1, .long gG.2.2.2.2.1, .long gG.2.2.2.2.2.1, .long gG.2.2.2.2.2.2.1, .long gG.2.2.2.2.2.2.2]))]) [0] rfl
          have hD := hD.sub (ws' := [(zgr, .inr (2, [.int gG.1, .int gG.2.1, .int (bI gG.2.2.1), .long gG.2.2.2.1, .long gG.2.2.2.2.1, .long gG.2.2.2.2.2.1, .long gG.2.2.2.2.2.2.1, .long gG.2.2.2.2.2.2.2]))]) [0] (by decide) rfl
          clear hPc hDc hFc hP1 hD1 hk1
          refine lv_lstore (lv' := [(7, .long (f_X3_withBeside gG y3 op)), (0, .ref zgr), (3, .long to), (5, .long op), (9, .int y4)]) hx hb dX3_steps_36 hl (by decide) rfl (fun ls hl => ?_)
          refine lv_iinc (v := (y4 + 1)) (lv' := [(9, .int (y4 + 1)), (7, .long (f_X3_withBeside gG y3 op)), (0, .ref zgr), (3, .long to), (5, .long op)]) hx hb dX3_steps_38 hl (k := 4) rfl rfl (by decide) rfl (fun ls hl => ?_)
          refine lv_goto (tgt := 9) hx hb dX3_steps_41 (by decide) ?_
          exact ih7 _ _ _ _ _ hf hP hD hS (lv_sub hl [2, 3, 4, 1, 0] rfl)
        · have hc := fun h9 => hc (lgz.mpr h9)
          rw [if_neg hc] at hf
          refine lv_iload hx hb dX3_steps_25 (lv_at hl 4 rfl) ?_
          obtain rfl := Option.some.inj hf
          exact W.iret (v := y4) hx hb hr (fun t ht hW => ⟨⟨y4, (), rfl, rfl, by rw [ht]; exact hP, va_K.moved hW.alike hK, hD⟩, hS.F ht⟩) hS.2.2 dX3_steps_27
  exact lp6 100 _ _ _ _ _ hv hP hD hS (lv_sub hl [2, 4, 5, 1, 0] rfl)
/-! HedgeGliders$Ground.resize(II)V -/
def lp_X3_resize_46 (wn : Int32) (hn : Int32) : Nat → Int32 → Int64 → Int64 → Option (Int64 × Int64)
  | 0, _, _, _ => none
  | nf + 1, y4, y5, y6 => if hn ≤ y4 then (some (y5, y6)) else (lp_X3_resize_46 wn hn nf (y4 + 1) (y5 ||| (jshl ((jshl 1 wn) - 1) (8 * y4))) (y6 ||| (f_X3_cell 0 y4)))
def f_X3_resize (gG : GrS) (wn : Int32) (hn : Int32) : Option (GrS) := Option.bind (lp_X3_resize_46 wn hn 100 0 0 0) fun v7 => some (wn, hn, gG.2.2.1, v7.1, v7.2, (jshl v7.2 (wn - 1)), ((jshl 1 wn) - 1), (jshl ((jshl 1 wn) - 1) (8 * (hn - 1))))
abbrev rm_X3_resize : Room := ({ frames := 1, cells := 0, slots := 0, locals := 21 } : Room)
abbrev A_X3_resize (cI cJ : ClassId) (zgr : Nat) (gG : GrS) (wn : Int32) (hn : Int32) (sz : Nat) : Nat → Prop := va_A [(zgr, .inr (2, [.int gG.1, .int gG.2.1, .int (bI gG.2.2.1), .long gG.2.2.2.1, .long gG.2.2.2.2.1, .long gG.2.2.2.2.2.1, .long gG.2.2.2.2.2.2.1, .long gG.2.2.2.2.2.2.2]))] sz
abbrev Q_X3_resize (dC : Nat → ClassId) (dI : Nat → Nat → Nat) (cI cJ : ClassId) (zgr : Nat) (gG : GrS) (wn : Int32) (hn : Int32) (sz : Nat) (R : GrS) : Array Value → State → Outcome → State → Prop := va_Qv (fun _ : Unit => True) (fun u_ t => va_P (dC, dI) vwCl [(zgr, .inr (2, [.int R.1, .int R.2.1, .int (bI R.2.2.1), .long R.2.2.2.1, .long R.2.2.2.2.1, .long R.2.2.2.2.2.1, .long R.2.2.2.2.2.2.1, .long R.2.2.2.2.2.2.2]))] t.heap ∧ va_K (dC, dI) vwCl [(cI, .int), (cJ, .long)] t ∧ va_D (A_X3_resize cI cJ zgr gG wn hn sz) [(zgr, .inr (2, [.int R.1, .int R.2.1, .int (bI R.2.2.1), .long R.2.2.2.1, .long R.2.2.2.2.1, .long R.2.2.2.2.2.1, .long R.2.2.2.2.2.2.1, .long R.2.2.2.2.2.2.2]))]) (A_X3_resize cI cJ zgr gG wn hn sz)
set_option maxHeartbeats 4000000 in
set_option maxRecDepth 100000 in
theorem c_X3_resize (l : Launch) (dC : Nat → ClassId) (dI : Nat → Nat → Nat) (cI cJ : ClassId) (zgr : Nat) (sz : Nat) (gG : GrS) (wn : Int32) (hn : Int32) (R : GrS) (hR : f_X3_resize gG wn hn = some R) : Met l yX3_resize wsX3_resize rm_X3_resize (va_Pc [.ref zgr, .int wn, .int hn] (fun U => U.heap.size = sz ∧ va_P (dC, dI) vwCl [(zgr, .inr (2, [.int gG.1, .int gG.2.1, .int (bI gG.2.2.1), .long gG.2.2.2.1, .long gG.2.2.2.2.1, .long gG.2.2.2.2.2.1, .long gG.2.2.2.2.2.2.1, .long gG.2.2.2.2.2.2.2]))] U.heap ∧ va_K (dC, dI) vwCl [(cI, .int), (cJ, .long)] U ∧ va_D (fun _ => True) [(zgr, .inr (2, [.int gG.1, .int gG.2.1, .int (bI gG.2.2.1), .long gG.2.2.2.1, .long gG.2.2.2.2.1, .long gG.2.2.2.2.2.1, .long gG.2.2.2.2.2.2.1, .long gG.2.2.2.2.2.2.2]))])) (Q_X3_resize dC dI cI cJ zgr gG wn hn sz R) 0 0 (A_X3_resize cI cJ zgr gG wn hn sz) := by
  have hf := hR
  refine Met.ofW (cc := cX3_resize) (maxL := 4) (ret := none) (by decide) rfl ?_
  intro p e s m args below meth c s₁ B hml hv
  obtain ⟨hargs, hsz, hP, hK, hD0⟩ := hv
  have hx := B.exec
  have hb := B.bytes
  have hr := B.returns
  have hts := atoms_spec (ws := wsX3_resize) B.pre
  have hown : s.vm.findClass RX3 = some m.cls := findClass_of_methodNamed B.named
  have hlocks := B.notSynchronized
  subst hsz
  have hD : va_D (A_X3_resize cI cJ zgr gG wn hn s.heap.size) [(zgr, .inr (2, [.int gG.1, .int gG.2.1, .int (bI gG.2.2.1), .long gG.2.2.2.1, .long gG.2.2.2.2.1, .long gG.2.2.2.2.2.1, .long gG.2.2.2.2.2.2.1, .long gG.2.2.2.2.2.2.2]))] := hD0.self (sz := s.heap.size)
  have hA : ∀ q : Nat, s.heap.size ≤ q → (A_X3_resize cI cJ zgr gG wn hn s.heap.size) q := fun q h => Or.inr h
  have hS : va_S (A_X3_resize cI cJ zgr gG wn hn s.heap.size) s.heap s.heap [] := va_S.rf
  have hinX3 : ∀ w ∈ wsX30, w ∈ wsX3_resize := by decide +kernel
  have hw0 := hts (.fieldLink RX3 9 "HedgeGliders$Ground" "wide" "I") (by decide +kernel)
  have hw1 := hts (.fieldLink RX3 13 "HedgeGliders$Ground" "high" "I") (by decide +kernel)
  have hw2 := hts (.fieldLink RX3 16 "HedgeGliders$Ground" "firstRow" "J") (by decide +kernel)
  have hw3 := hts (.fieldLink RX3 20 "HedgeGliders$Ground" "lastRow" "J") (by decide +kernel)
  have hw4 := hts (.fieldLink RX3 23 "HedgeGliders$Ground" "firstColumn" "J") (by decide +kernel)
  have hw5 := hts (.fieldLink RX3 26 "HedgeGliders$Ground" "inside" "J") (by decide +kernel)
  have hw6 := hts (.fieldLink RX3 33 "HedgeGliders$Ground" "lastColumn" "J") (by decide +kernel)
  have hl := lv_entry ([.ref zgr, .int wn, .int hn]) (n := 4) (Nat.le_of_ble_eq_true rfl)
  have he0 : entryFrame m args 4 = entryFrame m ([.ref zgr, .int wn, .int hn] : List Value).toArray 4 := by rw [hargs]
  rw [he0, lg_entry_eq]
  generalize (lg_sl ([.ref zgr, .int wn, .int hn]) ++ List.replicate (4 - (lg_sl ([.ref zgr, .int wn, .int hn])).length) Slot.unset).toArray = ls at hl ⊢
  have hl : lv_has ls 4 [(0, .ref zgr), (1, .int wn), (2, .int hn)] := hl
  rw [f_X3_resize] at hf
  refine lv_aload_n hx hb dX3_resize_0 rfl (lv_at hl 0 rfl) ?_
  refine lv_iload_n hx hb dX3_resize_1 rfl (lv_at hl 1 rfl) ?_
  refine va_put (D := (dC, dI)) (ci := 2) (v := .int wn) (ty := .int) (C := RX3) (T := TX3) (N := 8) hx hb hts hinX3 tyX3 tyX3_ok nmX3 hown hK hP hD hS 0 rfl rfl 0 (by decide) hw0 (fun _ h9 => h9) rfl (by decide +kernel) rfl rfl (Nat.le_of_ble_eq_true rfl) dX3_resize_2 (fun H locs hP hD hS => ?_)
  have hP : va_P (dC, dI) vwCl [(zgr, .inr (2, [.int wn, .int gG.2.1, .int (bI gG.2.2.1), .long gG.2.2.2.1, .long gG.2.2.2.2.1, .long gG.2.2.2.2.2.1, .long gG.2.2.2.2.2.2.1, .long gG.2.2.2.2.2.2.2]))] H := hP
  have hD : va_D (A_X3_resize cI cJ zgr gG wn hn s.heap.size) [(zgr, .inr (2, [.int wn, .int gG.2.1, .int (bI gG.2.2.1), .long gG.2.2.2.1, .long gG.2.2.2.2.1, .long gG.2.2.2.2.2.1, .long gG.2.2.2.2.2.2.1, .long gG.2.2.2.2.2.2.2]))] := hD
  refine lv_aload_n hx hb dX3_resize_5 rfl (lv_at hl 0 rfl) ?_
  refine lv_iload_n hx hb dX3_resize_6 rfl (lv_at hl 2 rfl) ?_
  refine va_put (D := (dC, dI)) (ci := 2) (v := .int hn) (ty := .int) (C := RX3) (T := TX3) (N := 8) hx hb hts hinX3 tyX3 tyX3_ok nmX3 hown hK hP hD hS 0 rfl rfl 1 (by decide) hw1 (fun _ h9 => h9) rfl (by decide +kernel) rfl rfl (Nat.le_of_ble_eq_true rfl) dX3_resize_7 (fun H locs hP hD hS => ?_)
  have hP : va_P (dC, dI) vwCl [(zgr, .inr (2, [.int wn, .int hn, .int (bI gG.2.2.1), .long gG.2.2.2.1, .long gG.2.2.2.2.1, .long gG.2.2.2.2.2.1, .long gG.2.2.2.2.2.2.1, .long gG.2.2.2.2.2.2.2]))] H := hP
  have hD : va_D (A_X3_resize cI cJ zgr gG wn hn s.heap.size) [(zgr, .inr (2, [.int wn, .int hn, .int (bI gG.2.2.1), .long gG.2.2.2.1, .long gG.2.2.2.2.1, .long gG.2.2.2.2.2.1, .long gG.2.2.2.2.2.2.1, .long gG.2.2.2.2.2.2.2]))] := hD
  refine lv_aload_n hx hb dX3_resize_10 rfl (lv_at hl 0 rfl) ?_
  refine lv_lconst (v := 1) hx hb dX3_resize_11 (by decide) ?_
  refine lv_iload_n hx hb dX3_resize_12 rfl (lv_at hl 1 rfl) ?_
  refine lv_lshl (v := (jshl 1 wn)) hx hb dX3_resize_13 rfl ?_
  refine lv_lconst (v := 1) hx hb dX3_resize_14 (by decide) ?_
  refine lv_lsub hx hb dX3_resize_15 ?_
  refine va_put (D := (dC, dI)) (ci := 2) (v := .long ((jshl 1 wn) - 1)) (ty := .long) (C := RX3) (T := TX3) (N := 8) hx hb hts hinX3 tyX3 tyX3_ok nmX3 hown hK hP hD hS 0 rfl rfl 6 (by decide) hw2 (fun _ h9 => h9) rfl (by decide +kernel) rfl rfl (Nat.le_of_ble_eq_true rfl) dX3_resize_16 (fun H locs hP hD hS => ?_)
  have hP : va_P (dC, dI) vwCl [(zgr, .inr (2, [.int wn, .int hn, .int (bI gG.2.2.1), .long gG.2.2.2.1, .long gG.2.2.2.2.1, .long gG.2.2.2.2.2.1, .long ((jshl 1 wn) - 1), .long gG.2.2.2.2.2.2.2]))] H := hP
  have hD : va_D (A_X3_resize cI cJ zgr gG wn hn s.heap.size) [(zgr, .inr (2, [.int wn, .int hn, .int (bI gG.2.2.1), .long gG.2.2.2.1, .long gG.2.2.2.2.1, .long gG.2.2.2.2.2.1, .long ((jshl 1 wn) - 1), .long gG.2.2.2.2.2.2.2]))] := hD
  refine lv_aload_n hx hb dX3_resize_19 rfl (lv_at hl 0 rfl) ?_
  refine lv_aload_n hx hb dX3_resize_20 rfl (lv_at hl 0 rfl) ?_
  refine va_get (D := (dC, dI)) (ci := 2) (v := .long ((jshl 1 wn) - 1)) (C := RX3) (T := TX3) (N := 8) hx hb hts hinX3 hown hK hP 0 rfl rfl 6 (by decide) hw2 (fun _ h9 => h9) rfl dX3_resize_21 ?_
  refine lv_bipush (v := 8) hx hb dX3_resize_24 (by decide) ?_
  refine lv_iload_n hx hb dX3_resize_26 rfl (lv_at hl 2 rfl) ?_
  refine lv_iconst (v := 1) hx hb dX3_resize_27 (by decide) ?_
  refine lv_isub hx hb dX3_resize_28 ?_
  refine lv_imul hx hb dX3_resize_29 ?_
  refine lv_lshl (v := (jshl ((jshl 1 wn) - 1) (8 * (hn - 1)))) hx hb dX3_resize_30 rfl ?_
  refine va_put (D := (dC, dI)) (ci := 2) (v := .long (jshl ((jshl 1 wn) - 1) (8 * (hn - 1)))) (ty := .long) (C := RX3) (T := TX3) (N := 8) hx hb hts hinX3 tyX3 tyX3_ok nmX3 hown hK hP hD hS 0 rfl rfl 7 (by decide) hw3 (fun _ h9 => h9) rfl (by decide +kernel) rfl rfl (Nat.le_of_ble_eq_true rfl) dX3_resize_31 (fun H locs hP hD hS => ?_)
  have hP : va_P (dC, dI) vwCl [(zgr, .inr (2, [.int wn, .int hn, .int (bI gG.2.2.1), .long gG.2.2.2.1, .long gG.2.2.2.2.1, .long gG.2.2.2.2.2.1, .long ((jshl 1 wn) - 1), .long (jshl ((jshl 1 wn) - 1) (8 * (hn - 1)))]))] H := hP
  have hD : va_D (A_X3_resize cI cJ zgr gG wn hn s.heap.size) [(zgr, .inr (2, [.int wn, .int hn, .int (bI gG.2.2.1), .long gG.2.2.2.1, .long gG.2.2.2.2.1, .long gG.2.2.2.2.2.1, .long ((jshl 1 wn) - 1), .long (jshl ((jshl 1 wn) - 1) (8 * (hn - 1)))]))] := hD
  refine lv_aload_n hx hb dX3_resize_34 rfl (lv_at hl 0 rfl) ?_
  refine lv_lconst (v := 0) hx hb dX3_resize_35 (by decide) ?_
  refine va_put (D := (dC, dI)) (ci := 2) (v := .long 0) (ty := .long) (C := RX3) (T := TX3) (N := 8) hx hb hts hinX3 tyX3 tyX3_ok nmX3 hown hK hP hD hS 0 rfl rfl 4 (by decide) hw4 (fun _ h9 => h9) rfl (by decide +kernel) rfl rfl (Nat.le_of_ble_eq_true rfl) dX3_resize_36 (fun H locs hP hD hS => ?_)
  have hP : va_P (dC, dI) vwCl [(zgr, .inr (2, [.int wn, .int hn, .int (bI gG.2.2.1), .long gG.2.2.2.1, .long 0, .long gG.2.2.2.2.2.1, .long ((jshl 1 wn) - 1), .long (jshl ((jshl 1 wn) - 1) (8 * (hn - 1)))]))] H := hP
  have hD : va_D (A_X3_resize cI cJ zgr gG wn hn s.heap.size) [(zgr, .inr (2, [.int wn, .int hn, .int (bI gG.2.2.1), .long gG.2.2.2.1, .long 0, .long gG.2.2.2.2.2.1, .long ((jshl 1 wn) - 1), .long (jshl ((jshl 1 wn) - 1) (8 * (hn - 1)))]))] := hD
  refine lv_aload_n hx hb dX3_resize_39 rfl (lv_at hl 0 rfl) ?_
  refine lv_lconst (v := 0) hx hb dX3_resize_40 (by decide) ?_
  refine va_put (D := (dC, dI)) (ci := 2) (v := .long 0) (ty := .long) (C := RX3) (T := TX3) (N := 8) hx hb hts hinX3 tyX3 tyX3_ok nmX3 hown hK hP hD hS 0 rfl rfl 3 (by decide) hw5 (fun _ h9 => h9) rfl (by decide +kernel) rfl rfl (Nat.le_of_ble_eq_true rfl) dX3_resize_41 (fun H locs hP hD hS => ?_)
  have hP : va_P (dC, dI) vwCl [(zgr, .inr (2, [.int wn, .int hn, .int (bI gG.2.2.1), .long 0, .long 0, .long gG.2.2.2.2.2.1, .long ((jshl 1 wn) - 1), .long (jshl ((jshl 1 wn) - 1) (8 * (hn - 1)))]))] H := hP
  have hD : va_D (A_X3_resize cI cJ zgr gG wn hn s.heap.size) [(zgr, .inr (2, [.int wn, .int hn, .int (bI gG.2.2.1), .long 0, .long 0, .long gG.2.2.2.2.2.1, .long ((jshl 1 wn) - 1), .long (jshl ((jshl 1 wn) - 1) (8 * (hn - 1)))]))] := hD
  refine lv_iconst (v := 0) hx hb dX3_resize_44 (by decide) ?_
  refine lv_istore_n (lv' := [(3, .int 0), (0, .ref zgr), (1, .int wn), (2, .int hn)]) hx hb dX3_resize_45 rfl hl (by decide) rfl (fun ls hl => ?_)
  obtain ⟨v7, hv, hf⟩ := obind hf
  have K8 : ∀ (H : Heap) (locs : List Loc) (ls : Array Slot), va_P (dC, dI) vwCl [(zgr, .inr (2, [.int wn, .int hn, .int (bI gG.2.2.1), .long v7.1, .long v7.2, .long gG.2.2.2.2.2.1, .long ((jshl 1 wn) - 1), .long (jshl ((jshl 1 wn) - 1) (8 * (hn - 1)))]))] H → va_D (A_X3_resize cI cJ zgr gG wn hn s.heap.size) [(zgr, .inr (2, [.int wn, .int hn, .int (bI gG.2.2.1), .long v7.1, .long v7.2, .long gG.2.2.2.2.2.1, .long ((jshl 1 wn) - 1), .long (jshl ((jshl 1 wn) - 1) (8 * (hn - 1)))]))] → va_S (A_X3_resize cI cJ zgr gG wn hn s.heap.size) s.heap H locs → lv_has ls 4 [(0, .ref zgr), (1, .int wn)] → W p l e rm_X3_resize s m args below meth c H locs 0 0 (MQ below (Q_X3_resize dC dI cI cJ zgr gG wn hn s.heap.size R) args s 0 0 (A_X3_resize cI cJ zgr gG wn hn s.heap.size)) (F0 m 89 ls []) := by
    intro H locs ls hP hD hS hl
    refine lv_aload_n hx hb dX3_resize_89 rfl (lv_at hl 0 rfl) ?_
    refine lv_aload_n hx hb dX3_resize_90 rfl (lv_at hl 0 rfl) ?_
    refine va_get (D := (dC, dI)) (ci := 2) (v := .long v7.2) (C := RX3) (T := TX3) (N := 8) hx hb hts hinX3 hown hK hP 0 rfl rfl 4 (by decide) hw4 (fun _ h9 => h9) rfl dX3_resize_91 ?_
    refine lv_iload_n hx hb dX3_resize_94 rfl (lv_at hl 1 rfl) ?_
    refine lv_iconst (v := 1) hx hb dX3_resize_95 (by decide) ?_
    refine lv_isub hx hb dX3_resize_96 ?_
    refine lv_lshl (v := (jshl v7.2 (wn - 1))) hx hb dX3_resize_97 rfl ?_
    refine va_put (D := (dC, dI)) (ci := 2) (v := .long (jshl v7.2 (wn - 1))) (ty := .long) (C := RX3) (T := TX3) (N := 8) hx hb hts hinX3 tyX3 tyX3_ok nmX3 hown hK hP hD hS 0 rfl rfl 5 (by decide) hw6 (fun _ h9 => h9) rfl (by decide +kernel) rfl rfl (Nat.le_of_ble_eq_true rfl) dX3_resize_98 (fun H locs hP hD hS => ?_)
    have hP : va_P (dC, dI) vwCl [(zgr, .inr (2, [.int wn, .int hn, .int (bI gG.2.2.1), .long v7.1, .long v7.2, .long (jshl v7.2 (wn - 1)), .long ((jshl 1 wn) - 1), .long (jshl ((jshl 1 wn) - 1) (8 * (hn - 1)))]))] H := hP
    have hD : va_D (A_X3_resize cI cJ zgr gG wn hn s.heap.size) [(zgr, .inr (2, [.int wn, .int hn, .int (bI gG.2.2.1), .long v7.1, .long v7.2, .long (jshl v7.2 (wn - 1)), .long ((jshl 1 wn) - 1), .long (jshl ((jshl 1 wn) - 1) (8 * (hn - 1)))]))] := hD
    obtain rfl := Option.some.inj hf
    exact W.vret hx hb hr (fun t ht hW => ⟨⟨(), rfl, trivial, by rw [ht]; exact hP, va_K.moved hW.alike hK, hD⟩, hS.F ht⟩) hS.2.2 dX3_resize_101
  have lp9 : ∀ (nf : Nat) (y4 : Int32) (y5 : Int64) (y6 : Int64) (H : Heap) (locs : List Loc) (ls : Array Slot), lp_X3_resize_46 wn hn nf y4 y5 y6 = some v7 → va_P (dC, dI) vwCl [(zgr, .inr (2, [.int wn, .int hn, .int (bI gG.2.2.1), .long y5, .long y6, .long gG.2.2.2.2.2.1, .long ((jshl 1 wn) - 1), .long (jshl ((jshl 1 wn) - 1) (8 * (hn - 1)))]))] H → va_D (A_X3_resize cI cJ zgr gG wn hn s.heap.size) [(zgr, .inr (2, [.int wn, .int hn, .int (bI gG.2.2.1), .long y5, .long y6, .long gG.2.2.2.2.2.1, .long ((jshl 1 wn) - 1), .long (jshl ((jshl 1 wn) - 1) (8 * (hn - 1)))]))] → va_S (A_X3_resize cI cJ zgr gG wn hn s.heap.size) s.heap H locs → lv_has ls 4 [(0, .ref zgr), (1, .int wn), (2, .int hn), (3, .int y4)] → W p l e rm_X3_resize s m args below meth c H locs 0 0 (MQ below (Q_X3_resize dC dI cI cJ zgr gG wn hn s.heap.size R) args s 0 0 (A_X3_resize cI cJ zgr gG wn hn s.heap.size)) (F0 m 46 ls []) := by
    intro nf
    induction nf with
    | zero => intro y4 y5 y6 H locs ls h9; exact nomatch h9
    | succ nf ih10 =>
      intro y4 y5 y6 H locs ls hf hP hD hS hl
      rw [lp_X3_resize_46.eq_2] at hf
      refine lv_iload_n hx hb dX3_resize_46 rfl (lv_at hl 3 rfl) ?_
      refine lv_iload_n hx hb dX3_resize_47 rfl (lv_at hl 2 rfl) ?_
      refine lv_icmp_ge (tgt := 89) hx hb dX3_resize_48 (by decide) (fun hc => ?_) (fun hc => ?_)
      · rw [if_pos hc] at hf
        obtain rfl := Option.some.inj hf
        exact K8 _ _ _ hP hD hS (lv_sub hl [0, 1] rfl)
      · rw [if_neg hc] at hf
        refine lv_aload_n hx hb dX3_resize_51 rfl (lv_at hl 0 rfl) ?_
        refine lv_dup hx hb dX3_resize_52 rfl ?_
        refine va_get (D := (dC, dI)) (ci := 2) (v := .long y6) (C := RX3) (T := TX3) (N := 8) hx hb hts hinX3 hown hK hP 0 rfl rfl 4 (by decide) hw4 (fun _ h9 => h9) rfl dX3_resize_53 ?_
        refine lv_iconst (v := 0) hx hb dX3_resize_56 (by decide) ?_
        refine lv_iload_n hx hb dX3_resize_57 rfl (lv_at hl 3 rfl) ?_
        have hPc := hP.sub (ws' := []) [] rfl
        have hDc := hD.sub (ws' := []) [] (by decide) rfl
        have hFc := va_free (wc := []) hD hS hA [] rfl
        refine va_calll (va_runS (As := [.int 0, .int y4]) (rest := [.long y6, .ref zgr]) ⟨hx, hb, hml, hown, hts⟩ (c_X3_cell l dC dI cI cJ  H.size 0 y4) (va_cwS 2 hts gX3_resize_X3_cell rfl rfl rfl (by decide +kernel) ⟨Nat.le_of_ble_eq_true rfl, Nat.le_of_ble_eq_true rfl⟩) ⟨fun a U gg mk q => by obtain ⟨q0, q1, qP, qK, qD⟩ := q; exact ⟨q0, q1, qP, va_K.moved (u := U) (U := U.calling gg mk a) (Vm.Alike.refl U.vm) qK, qD⟩, fun U hU hW => ⟨rfl, by rw [hU], by rw [hU]; exact hPc, va_K.moved hW.alike hK, hDc.weaken (fun _ _ _ _ => trivial)⟩⟩ rfl rfl hl.1 rfl (lv_room (Nat.le_of_ble_eq_true rfl)) dX3_resize_58 ⟨Nat.zero_le _, Nat.zero_le _⟩) hS (fun q _ h => hFc q h) hFc (fun r_ u_ t H locs ht hvm hw hB hz1 hk1 hS => ?_)
        obtain rfl := hw.symm
        obtain ⟨hP1, -, hD1⟩ := hB
        rw [ht] at hP1
        obtain ⟨hP, hD⟩ := va_join (wr := [(zgr, .inr (2, [.int wn, .int hn, .int (bI gG.2.2.1), .long y5, .long y6, .long gG.2.2.2.2.2.1, .long ((jshl 1 wn) - 1), .long (jshl ((jshl 1 wn) - 1) (8 * (hn - 1)))]))]) (w1 := []) hP hD [] [0] rfl rfl (by decide) (by decide) hk1 hFc hP1 hD1
        have hP := hP.sub (ws' := [(zgr, .inr (2, [.int wn, .int hn, .int (bI gG.2.2.1), .long y5, .long y6, .long gG.2.2.2.2.2.1, .long ((jshl 1 wn) - 1), .long (jshl ((jshl 1 wn) - 1) (8 * (hn - 1)))]))]) [0] rfl
        have hD := hD.sub (ws' := [(zgr, .inr (2, [.int wn, .int hn, .int (bI gG.2.2.1), .long y5, .long y6, .long gG.2.2.2.2.2.1, .long ((jshl 1 wn) - 1), .long (jshl ((jshl 1 wn) - 1) (8 * (hn - 1)))]))]) [0] (by decide) rfl
        clear hPc hDc hFc hP1 hD1 hk1
        refine lv_lor hx hb dX3_resize_61 ?_
        refine va_put (D := (dC, dI)) (ci := 2) (v := .long (y6 ||| (f_X3_cell 0 y4))) (ty := .long) (C := RX3) (T := TX3) (N := 8) hx hb hts hinX3 tyX3 tyX3_ok nmX3 hown hK hP hD hS 0 rfl rfl 4 (by decide) hw4 (fun _ h9 => h9) rfl (by decide +kernel) rfl rfl (Nat.le_of_ble_eq_true rfl) dX3_resize_62 (fun H locs hP hD hS => ?_)
        have hP : va_P (dC, dI) vwCl [(zgr, .inr (2, [.int wn, .int hn, .int (bI gG.2.2.1), .long y5, .long (y6 ||| (f_X3_cell 0 y4)), .long gG.2.2.2.2.2.1, .long ((jshl 1 wn) - 1), .long (jshl ((jshl 1 wn) - 1) (8 * (hn - 1)))]))] H := hP
        have hD : va_D (A_X3_resize cI cJ zgr gG wn hn s.heap.size) [(zgr, .inr (2, [.int wn, .int hn, .int (bI gG.2.2.1), .long y5, .long (y6 ||| (f_X3_cell 0 y4)), .long gG.2.2.2.2.2.1, .long ((jshl 1 wn) - 1), .long (jshl ((jshl 1 wn) - 1) (8 * (hn - 1)))]))] := hD
        refine lv_aload_n hx hb dX3_resize_65 rfl (lv_at hl 0 rfl) ?_
        refine lv_dup hx hb dX3_resize_66 rfl ?_
        refine va_get (D := (dC, dI)) (ci := 2) (v := .long y5) (C := RX3) (T := TX3) (N := 8) hx hb hts hinX3 hown hK hP 0 rfl rfl 3 (by decide) hw5 (fun _ h9 => h9) rfl dX3_resize_67 ?_
        refine lv_aload_n hx hb dX3_resize_70 rfl (lv_at hl 0 rfl) ?_
        refine va_get (D := (dC, dI)) (ci := 2) (v := .long ((jshl 1 wn) - 1)) (C := RX3) (T := TX3) (N := 8) hx hb hts hinX3 hown hK hP 0 rfl rfl 6 (by decide) hw2 (fun _ h9 => h9) rfl dX3_resize_71 ?_
        refine lv_bipush (v := 8) hx hb dX3_resize_74 (by decide) ?_
        refine lv_iload_n hx hb dX3_resize_76 rfl (lv_at hl 3 rfl) ?_
        refine lv_imul hx hb dX3_resize_77 ?_
        refine lv_lshl (v := (jshl ((jshl 1 wn) - 1) (8 * y4))) hx hb dX3_resize_78 rfl ?_
        refine lv_lor hx hb dX3_resize_79 ?_
        refine va_put (D := (dC, dI)) (ci := 2) (v := .long (y5 ||| (jshl ((jshl 1 wn) - 1) (8 * y4)))) (ty := .long) (C := RX3) (T := TX3) (N := 8) hx hb hts hinX3 tyX3 tyX3_ok nmX3 hown hK hP hD hS 0 rfl rfl 3 (by decide) hw5 (fun _ h9 => h9) rfl (by decide +kernel) rfl rfl (Nat.le_of_ble_eq_true rfl) dX3_resize_80 (fun H locs hP hD hS => ?_)
        have hP : va_P (dC, dI) vwCl [(zgr, .inr (2, [.int wn, .int hn, .int (bI gG.2.2.1), .long (y5 ||| (jshl ((jshl 1 wn) - 1) (8 * y4))), .long (y6 ||| (f_X3_cell 0 y4)), .long gG.2.2.2.2.2.1, .long ((jshl 1 wn) - 1), .long (jshl ((jshl 1 wn) - 1) (8 * (hn - 1)))]))] H := hP
        have hD : va_D (A_X3_resize cI cJ zgr gG wn hn s.heap.size) [(zgr, .inr (2, [.int wn, .int hn, .int (bI gG.2.2.1), .long (y5 ||| (jshl ((jshl 1 wn) - 1) (8 * y4))), .long (y6 ||| (f_X3_cell 0 y4)), .long gG.2.2.2.2.2.1, .long ((jshl 1 wn) - 1), .long (jshl ((jshl 1 wn) - 1) (8 * (hn - 1)))]))] := hD
        refine lv_iinc (v := (y4 + 1)) (lv' := [(3, .int (y4 + 1)), (0, .ref zgr), (1, .int wn), (2, .int hn)]) hx hb dX3_resize_83 hl (k := 3) rfl rfl (by decide) rfl (fun ls hl => ?_)
        refine lv_goto (tgt := 46) hx hb dX3_resize_86 (by decide) ?_
        exact ih10 _ _ _ _ _ _ hf hP hD hS (lv_sub hl [1, 2, 3, 0] rfl)
  exact lp9 100 _ _ _ _ _ _ hv hP hD hS (lv_sub hl [1, 2, 3, 0] rfl)
/-! HedgeGliders$Ground.makeRound(Z)V -/
def f_X3_makeRound (gG : GrS) (rn : Bool) : GrS := (gG.1, gG.2.1, rn, gG.2.2.2.1, gG.2.2.2.2.1, gG.2.2.2.2.2.1, gG.2.2.2.2.2.2.1, gG.2.2.2.2.2.2.2)
abbrev rm_X3_makeRound : Room := ({ frames := 0, cells := 0, slots := 0, locals := 0 } : Room)
abbrev A_X3_makeRound (cI cJ : ClassId) (zgr : Nat) (gG : GrS) (rn : Bool) (sz : Nat) : Nat → Prop := va_A [(zgr, .inr (2, [.int gG.1, .int gG.2.1, .int (bI gG.2.2.1), .long gG.2.2.2.1, .long gG.2.2.2.2.1, .long gG.2.2.2.2.2.1, .long gG.2.2.2.2.2.2.1, .long gG.2.2.2.2.2.2.2]))] sz
abbrev Q_X3_makeRound (dC : Nat → ClassId) (dI : Nat → Nat → Nat) (cI cJ : ClassId) (zgr : Nat) (gG : GrS) (rn : Bool) (sz : Nat) (R : GrS) : Array Value → State → Outcome → State → Prop := va_Qv (fun _ : Unit => True) (fun u_ t => va_P (dC, dI) vwCl [(zgr, .inr (2, [.int R.1, .int R.2.1, .int (bI R.2.2.1), .long R.2.2.2.1, .long R.2.2.2.2.1, .long R.2.2.2.2.2.1, .long R.2.2.2.2.2.2.1, .long R.2.2.2.2.2.2.2]))] t.heap ∧ va_K (dC, dI) vwCl [(cI, .int), (cJ, .long)] t ∧ va_D (A_X3_makeRound cI cJ zgr gG rn sz) [(zgr, .inr (2, [.int R.1, .int R.2.1, .int (bI R.2.2.1), .long R.2.2.2.1, .long R.2.2.2.2.1, .long R.2.2.2.2.2.1, .long R.2.2.2.2.2.2.1, .long R.2.2.2.2.2.2.2]))]) (A_X3_makeRound cI cJ zgr gG rn sz)
set_option maxHeartbeats 4000000 in
set_option maxRecDepth 100000 in
theorem c_X3_makeRound (l : Launch) (dC : Nat → ClassId) (dI : Nat → Nat → Nat) (cI cJ : ClassId) (zgr : Nat) (sz : Nat) (gG : GrS) (rn : Bool) : Met l yX3_makeRound wsX3_makeRound rm_X3_makeRound (va_Pc [.ref zgr, .int (bI rn)] (fun U => U.heap.size = sz ∧ va_P (dC, dI) vwCl [(zgr, .inr (2, [.int gG.1, .int gG.2.1, .int (bI gG.2.2.1), .long gG.2.2.2.1, .long gG.2.2.2.2.1, .long gG.2.2.2.2.2.1, .long gG.2.2.2.2.2.2.1, .long gG.2.2.2.2.2.2.2]))] U.heap ∧ va_K (dC, dI) vwCl [(cI, .int), (cJ, .long)] U ∧ va_D (fun _ => True) [(zgr, .inr (2, [.int gG.1, .int gG.2.1, .int (bI gG.2.2.1), .long gG.2.2.2.1, .long gG.2.2.2.2.1, .long gG.2.2.2.2.2.1, .long gG.2.2.2.2.2.2.1, .long gG.2.2.2.2.2.2.2]))])) (Q_X3_makeRound dC dI cI cJ zgr gG rn sz (f_X3_makeRound gG rn)) 0 0 (A_X3_makeRound cI cJ zgr gG rn sz) := by
  generalize hf : (f_X3_makeRound gG rn) = R
  refine Met.ofW (cc := cX3_makeRound) (maxL := 2) (ret := none) (by decide) rfl ?_
  intro p e s m args below meth c s₁ B hml hv
  obtain ⟨hargs, hsz, hP, hK, hD0⟩ := hv
  have hx := B.exec
  have hb := B.bytes
  have hr := B.returns
  have hts := atoms_spec (ws := wsX3_makeRound) B.pre
  have hown : s.vm.findClass RX3 = some m.cls := findClass_of_methodNamed B.named
  have hlocks := B.notSynchronized
  subst hsz
  have hD : va_D (A_X3_makeRound cI cJ zgr gG rn s.heap.size) [(zgr, .inr (2, [.int gG.1, .int gG.2.1, .int (bI gG.2.2.1), .long gG.2.2.2.1, .long gG.2.2.2.2.1, .long gG.2.2.2.2.2.1, .long gG.2.2.2.2.2.2.1, .long gG.2.2.2.2.2.2.2]))] := hD0.self (sz := s.heap.size)
  have hA : ∀ q : Nat, s.heap.size ≤ q → (A_X3_makeRound cI cJ zgr gG rn s.heap.size) q := fun q h => Or.inr h
  have hS : va_S (A_X3_makeRound cI cJ zgr gG rn s.heap.size) s.heap s.heap [] := va_S.rf
  have hinX3 : ∀ w ∈ wsX30, w ∈ wsX3_makeRound := by decide +kernel
  have hw0 := hts (.fieldLink RX3 36 "HedgeGliders$Ground" "round" "Z") (by decide +kernel)
  have hl := lv_entry ([.ref zgr, .int (bI rn)]) (n := 2) (Nat.le_of_ble_eq_true rfl)
  have he0 : entryFrame m args 2 = entryFrame m ([.ref zgr, .int (bI rn)] : List Value).toArray 2 := by rw [hargs]
  rw [he0, lg_entry_eq]
  generalize (lg_sl ([.ref zgr, .int (bI rn)]) ++ List.replicate (2 - (lg_sl ([.ref zgr, .int (bI rn)])).length) Slot.unset).toArray = ls at hl ⊢
  have hl : lv_has ls 2 [(0, .ref zgr), (1, .int (bI rn))] := hl
  rw [f_X3_makeRound] at hf
  refine lv_aload_n hx hb dX3_makeRound_0 rfl (lv_at hl 0 rfl) ?_
  refine lv_iload_n hx hb dX3_makeRound_1 rfl (lv_at hl 1 rfl) ?_
  refine va_put (D := (dC, dI)) (ci := 2) (v := .int (bI rn)) (ty := .boolean) (C := RX3) (T := TX3) (N := 8) hx hb hts hinX3 tyX3 tyX3_ok nmX3 hown hK hP hD hS 0 rfl rfl 2 (by decide) hw0 (fun _ h9 => h9) rfl (by decide +kernel) (bI_nar _) (bI_fit _) (Nat.le_of_ble_eq_true rfl) dX3_makeRound_2 (fun H locs hP hD hS => ?_)
  have hP : va_P (dC, dI) vwCl [(zgr, .inr (2, [.int gG.1, .int gG.2.1, .int (bI rn), .long gG.2.2.2.1, .long gG.2.2.2.2.1, .long gG.2.2.2.2.2.1, .long gG.2.2.2.2.2.2.1, .long gG.2.2.2.2.2.2.2]))] H := hP
  have hD : va_D (A_X3_makeRound cI cJ zgr gG rn s.heap.size) [(zgr, .inr (2, [.int gG.1, .int gG.2.1, .int (bI rn), .long gG.2.2.2.1, .long gG.2.2.2.2.1, .long gG.2.2.2.2.2.1, .long gG.2.2.2.2.2.2.1, .long gG.2.2.2.2.2.2.2]))] := hD
  obtain rfl := hf
  exact W.vret hx hb hr (fun t ht hW => ⟨⟨(), rfl, trivial, by rw [ht]; exact hP, va_K.moved hW.alike hK, hD⟩, hS.F ht⟩) hS.2.2 dX3_makeRound_5
