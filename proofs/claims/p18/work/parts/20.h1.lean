/-! HedgeGlidersLaw.below(II)I -/
def f_L_below (vn : Int32) (nn : Int32) : Option (Int32) := if nn = 0 then none else some ((vn &&& 2147483647) - (vn &&& 2147483647) / nn * nn)
abbrev rm_L_below : Room := ({ frames := 0, cells := 0, slots := 0, locals := 0 } : Room)
abbrev A_L_below (cI cJ cO cB : ClassId) (vn : Int32) (nn : Int32) (sz : Nat) : Nat → Prop := va_A (wJ []) sz
abbrev Q_L_below (dC : Nat → ClassId) (dI : Nat → Nat → Nat) (cI cJ cO cB : ClassId) (vn : Int32) (nn : Int32) (sz : Nat) (R : Int32) : Array Value → State → Outcome → State → Prop := va_Qi (fun (r : Int32) (_ : Unit) => r = R) (fun u_ t => va_P (dC, dI) vwCl (wJ []) t.heap ∧ va_K (dC, dI) vwCl [(cI, .int), (cJ, .long), (cO, .array .int), (cB, .boolean)] t ∧ va_D (A_L_below cI cJ cO cB vn nn sz) (wJ [])) (A_L_below cI cJ cO cB vn nn sz)
set_option maxHeartbeats 4000000 in
set_option maxRecDepth 100000 in
theorem c_L_below (l : Launch) (dC : Nat → ClassId) (dI : Nat → Nat → Nat) (cI cJ cO cB : ClassId) (sz : Nat) (vn : Int32) (nn : Int32) (R : Int32) (hR : f_L_below vn nn = some R) : Met l yL_below wsL_below rm_L_below (va_Pc [.int vn, .int nn] (fun U => U.heap.size = sz ∧ va_P (dC, dI) vwCl (wJ []) U.heap ∧ va_K (dC, dI) vwCl [(cI, .int), (cJ, .long), (cO, .array .int), (cB, .boolean)] U ∧ va_D (fun _ => True) (wJ []))) (Q_L_below dC dI cI cJ cO cB vn nn sz R) 0 0 (A_L_below cI cJ cO cB vn nn sz) := by
  have hf := hR
  refine Met.ofW (cc := cL_below) (maxL := 2) (ret := (some .int)) (by decide) rfl ?_
  intro p e s m args below meth c s₁ B hml hv
  obtain ⟨hargs, hsz, hP, hK, hD0⟩ := hv
  have hx := B.exec
  have hb := B.bytes
  have hr := B.returns
  have hts := atoms_spec (ws := wsL_below) B.pre
  have hown : s.vm.findClass RL = some m.cls := findClass_of_methodNamed B.named
  have hlocks := B.notSynchronized
  subst hsz
  have hK2 : va_K (dC, dI) vwCl [(cI, .int), (cJ, .long)] s := hK.sub [0, 1] rfl
  have hD : va_D (A_L_below cI cJ cO cB vn nn s.heap.size) (wJ []) := hD0.self (sz := s.heap.size)
  have hA : ∀ q : Nat, s.heap.size ≤ q → (A_L_below cI cJ cO cB vn nn s.heap.size) q := fun q h => Or.inr h
  have hS : va_S (A_L_below cI cJ cO cB vn nn s.heap.size) s.heap s.heap [] := va_S.rf
  have hw0 := hts (.constant RL 7 (2147483647)) (by decide +kernel)
  have hl := lv_entry ([.int vn, .int nn]) (n := 2) (Nat.le_of_ble_eq_true rfl)
  have he0 : entryFrame m args 2 = entryFrame m ([.int vn, .int nn] : List Value).toArray 2 := by rw [hargs]
  rw [he0, lg_entry_eq]
  generalize (lg_sl ([.int vn, .int nn]) ++ List.replicate (2 - (lg_sl ([.int vn, .int nn])).length) Slot.unset).toArray = ls at hl ⊢
  have hl : lv_has ls 2 [(0, .int vn), (1, .int nn)] := hl
  rw [f_L_below] at hf
  refine lv_iload_n hx hb dL_below_0 rfl (lv_at hl 0 rfl) ?_
  refine lv_ldc (v := 2147483647) hx hb hown hw0 dL_below_1 ?_
  refine lv_iand hx hb dL_below_3 ?_
  refine lv_iload_n hx hb dL_below_4 rfl (lv_at hl 1 rfl) ?_
  have hg1 : ¬ (nn = 0) := fun hq => by rw [if_pos hq] at hf; exact nomatch hf
  rw [if_neg hg1] at hf
  refine lv_irem hx hb dL_below_5 hg1 ?_
  obtain rfl := Option.some.inj hf
  exact W.iret (v := ((vn &&& 2147483647) - (vn &&& 2147483647) / nn * nn)) hx hb hr (fun t ht hW => ⟨⟨((vn &&& 2147483647) - (vn &&& 2147483647) / nn * nn), (), rfl, rfl, by rw [ht]; exact hP, va_K.moved hW.alike hK, hD⟩, hS.F ht⟩) hS.2.2 dL_below_6
/-! HedgeGlidersLaw$Sim.rows(III)[[I -/
def lp_X6_rows_35 (wn : Int32) (wi : Int32) (y25 : Int32) : Nat → Int32 → (Nat → Nat → Int32) → Option ((Nat → Nat → Int32))
  | 0, _, _ => none
  | nf + 1, y32, y33 => if wn ≤ y32 then (some y33) else (if y32 < 0 ∨ wn.toNatClampNeg ≤ y32.toNatClampNeg then none else lp_X6_rows_35 wn wi y25 nf (y32 + 1) (upM y33 y25.toNatClampNeg (upd (y33 y25.toNatClampNeg) y32.toNatClampNeg wi)))
def lp_X6_rows_18 (wn : Int32) (hn : Int32) (wi : Int32) : Nat → Int32 → (Nat → Nat → Int32) → Option ((Nat → Nat → Int32))
  | 0, _, _ => none
  | nf + 1, y25, y26 => if (Int32.ofNat hn.toNatClampNeg) ≤ y25 then (some y26) else (if y25 < 0 ∨ hn.toNatClampNeg ≤ y25.toNatClampNeg then none else Option.bind (lp_X6_rows_35 wn wi y25 12 0 y26) fun v35 => lp_X6_rows_18 wn hn wi nf (y25 + 1) v35)
def f_X6_rows (wn : Int32) (hn : Int32) (wi : Int32) : Option ((Nat → Nat → Int32)) := if hn < 0 ∨ 8 < hn.toNatClampNeg then none else if wn < 0 ∨ 8 < wn.toNatClampNeg then none else Option.bind (lp_X6_rows_18 wn hn wi 12 0 (fun _ _ => 0)) fun v36 => some v36
abbrev rm_X6_rows : Room := ({ frames := 0, cells := 9, slots := 72, locals := 0 } : Room)
abbrev A_X6_rows (cI cJ cO cB : ClassId) (wn : Int32) (hn : Int32) (wi : Int32) (sz : Nat) : Nat → Prop := va_A (wJ []) sz
abbrev Q_X6_rows (dC : Nat → ClassId) (dI : Nat → Nat → Nat) (cI cJ cO cB : ClassId) (wn : Int32) (hn : Int32) (wi : Int32) (sz : Nat) (R : (Nat → Nat → Int32)) : Array Value → State → Outcome → State → Prop := va_Qr (fun _ : (Nat → Nat) => True) (fun u_ ra t => va_P (dC, dI) vwCl (wJ [(mt cI cO ra hn.toNatClampNeg wn.toNatClampNeg u_ R)]) t.heap ∧ va_K (dC, dI) vwCl [(cI, .int), (cJ, .long), (cO, .array .int), (cB, .boolean)] t ∧ va_D (A_X6_rows cI cJ cO cB wn hn wi sz) (wJ [(mt cI cO ra hn.toNatClampNeg wn.toNatClampNeg u_ R)])) (A_X6_rows cI cJ cO cB wn hn wi sz)
set_option maxHeartbeats 4000000 in
set_option maxRecDepth 100000 in
theorem c_X6_rows (l : Launch) (dC : Nat → ClassId) (dI : Nat → Nat → Nat) (cI cJ cO cB : ClassId) (sz : Nat) (wn : Int32) (hn : Int32) (wi : Int32) (R : (Nat → Nat → Int32)) (hR : f_X6_rows wn hn wi = some R) : Met l yX6_rows wsX6_rows rm_X6_rows (va_Pc [.int wn, .int hn, .int wi] (fun U => U.heap.size = sz ∧ va_P (dC, dI) vwCl (wJ []) U.heap ∧ va_K (dC, dI) vwCl [(cI, .int), (cJ, .long), (cO, .array .int), (cB, .boolean)] U ∧ va_D (fun _ => True) (wJ []) ∧ aoE U)) (Q_X6_rows dC dI cI cJ cO cB wn hn wi sz R) 9 72 (A_X6_rows cI cJ cO cB wn hn wi sz) := by
  have hf := hR
  refine Met.ofW (cc := cX6_rows) (maxL := 9) (ret := (some (.array (.array .int)))) (by decide) rfl ?_
  intro p e s m args below meth c s₁ B hml hv
  obtain ⟨hargs, hsz, hP, hK, hD0, hao⟩ := hv
  have hx := B.exec
  have hb := B.bytes
  have hr := B.returns
  have hts := atoms_spec (ws := wsX6_rows) B.pre
  have hown : s.vm.findClass RX6 = some m.cls := findClass_of_methodNamed B.named
  have hlocks := B.notSynchronized
  subst hsz
  have hK2 : va_K (dC, dI) vwCl [(cI, .int), (cJ, .long)] s := hK.sub [0, 1] rfl
  have hD : va_D (A_X6_rows cI cJ cO cB wn hn wi s.heap.size) (wJ []) := hD0.self (sz := s.heap.size)
  have hA : ∀ q : Nat, s.heap.size ≤ q → (A_X6_rows cI cJ cO cB wn hn wi s.heap.size) q := fun q h => Or.inr h
  have hS : va_S (A_X6_rows cI cJ cO cB wn hn wi s.heap.size) s.heap s.heap [] := va_S.rf
  have hw0 := hts (.classLink RX6 30 "[[I") (by decide +kernel)
  have hw1 := hts (.arrayClass .int) (by decide +kernel)
  have hl := lv_entry ([.int wn, .int hn, .int wi]) (n := 9) (Nat.le_of_ble_eq_true rfl)
  have he0 : entryFrame m args 9 = entryFrame m ([.int wn, .int hn, .int wi] : List Value).toArray 9 := by rw [hargs]
  rw [he0, lg_entry_eq]
  generalize (lg_sl ([.int wn, .int hn, .int wi]) ++ List.replicate (9 - (lg_sl ([.int wn, .int hn, .int wi])).length) Slot.unset).toArray = ls at hl ⊢
  have hl : lv_has ls 9 [(0, .int wn), (1, .int hn), (2, .int wi)] := hl
  rw [f_X6_rows] at hf
  refine lv_iload_n hx hb dX6_rows_0 rfl (lv_at hl 1 rfl) ?_
  refine lv_iload_n hx hb dX6_rows_1 rfl (lv_at hl 0 rfl) ?_
  have hg3 : ¬ (hn < 0 ∨ 8 < hn.toNatClampNeg) := fun hq => by rw [if_pos hq] at hf; exact nomatch hf
  rw [if_neg hg3] at hf
  have hg4 : ¬ (wn < 0 ∨ 8 < wn.toNatClampNeg) := fun hq => by rw [if_pos hq] at hf; exact nomatch hf
  rw [if_neg hg4] at hf
  refine sg_newM hx hb hown hw0 (va_AOA.use hao.1) hw1 hK hP hD hS hA 0 2 rfl rfl (n := hn) (k := wn) hg3 hg4 (Nat.le_of_ble_eq_true rfl) (Nat.le_of_ble_eq_true rfl) dX6_rows_2 (fun z1 r2 H hP hD hS => ?_)
  refine lv_astore_n (lv' := [(3, .ref z1), (0, .int wn), (1, .int hn), (2, .int wi)]) hx hb dX6_rows_6 rfl hl (by decide) rfl (fun ls hl => ?_)
  refine lv_aload_n hx hb dX6_rows_7 rfl (lv_at hl 0 rfl) ?_
  refine lv_astore (lv' := [(4, .ref z1), (3, .ref z1), (0, .int wn), (1, .int hn), (2, .int wi)]) hx hb dX6_rows_8 hl (by decide) rfl (fun ls hl => ?_)
  refine lv_aload hx hb dX6_rows_10 (lv_at hl 0 rfl) ?_
  refine sg_alen hx hb hK hP 0 2 rfl rfl dX6_rows_12 ?_
  refine lv_istore (lv' := [(5, .int (Int32.ofNat hn.toNatClampNeg)), (4, .ref z1), (3, .ref z1), (0, .int wn), (1, .int hn), (2, .int wi)]) hx hb dX6_rows_13 hl (by decide) rfl (fun ls hl => ?_)
  refine lv_iconst (v := 0) hx hb dX6_rows_15 (by decide) ?_
  refine lv_istore (lv' := [(6, .int 0), (5, .int (Int32.ofNat hn.toNatClampNeg)), (4, .ref z1), (3, .ref z1), (0, .int wn), (1, .int hn), (2, .int wi)]) hx hb dX6_rows_16 hl (by decide) rfl (fun ls hl => ?_)
  obtain ⟨v36, hv, hf⟩ := obind hf
  have K37 : ∀ (H : Heap) (locs : List Loc) (ls : Array Slot), va_P (dC, dI) vwCl (wJ [(mt cI cO z1 hn.toNatClampNeg wn.toNatClampNeg r2 v36)]) H → va_D (A_X6_rows cI cJ cO cB wn hn wi s.heap.size) (wJ [(mt cI cO z1 hn.toNatClampNeg wn.toNatClampNeg r2 v36)]) → va_S (A_X6_rows cI cJ cO cB wn hn wi s.heap.size) s.heap H locs → lv_has ls 9 [(3, .ref z1)] → W p l e rm_X6_rows s m args below meth c H locs 9 72 (MQ below (Q_X6_rows dC dI cI cJ cO cB wn hn wi s.heap.size R) args s 9 72 (A_X6_rows cI cJ cO cB wn hn wi s.heap.size)) (F0 m 59 ls []) := by
    intro H locs ls hP hD hS hl
    refine lv_aload_n hx hb dX6_rows_59 rfl (lv_at hl 0 rfl) ?_
    obtain rfl := Option.some.inj hf
    exact W.aret hx hb hr (Or.inr ⟨_, rfl⟩) (Or.inr ⟨_, rfl⟩) (fun t ht hW => ⟨⟨(r2), z1, rfl, trivial, by rw [ht]; exact hP, va_K.moved hW.alike hK, hD⟩, hS.F ht⟩) hS.2.2 dX6_rows_60
  have lp38 : ∀ (nf18 : Nat) (y25 : Int32) (y26 : Nat → Nat → Int32) (H : Heap) (locs : List Loc) (ls : Array Slot), lp_X6_rows_18 wn hn wi nf18 y25 y26 = some v36 → va_P (dC, dI) vwCl (wJ [(mt cI cO z1 hn.toNatClampNeg wn.toNatClampNeg r2 y26)]) H → va_D (A_X6_rows cI cJ cO cB wn hn wi s.heap.size) (wJ [(mt cI cO z1 hn.toNatClampNeg wn.toNatClampNeg r2 y26)]) → va_S (A_X6_rows cI cJ cO cB wn hn wi s.heap.size) s.heap H locs → lv_has ls 9 [(0, .int wn), (2, .int wi), (3, .ref z1), (4, .ref z1), (5, .int (Int32.ofNat hn.toNatClampNeg)), (6, .int y25)] → W p l e rm_X6_rows s m args below meth c H locs 9 72 (MQ below (Q_X6_rows dC dI cI cJ cO cB wn hn wi s.heap.size R) args s 9 72 (A_X6_rows cI cJ cO cB wn hn wi s.heap.size)) (F0 m 18 ls []) := by
    intro nf18
    induction nf18 with
    | zero => intro y25 y26 H locs ls h9; exact nomatch h9
    | succ nf18 ih39 =>
      intro y25 y26 H locs ls hf hP hD hS hl
      rw [lp_X6_rows_18.eq_2] at hf
      refine lv_iload hx hb dX6_rows_18 (lv_at hl 5 rfl) ?_
      refine lv_iload hx hb dX6_rows_20 (lv_at hl 4 rfl) ?_
      refine lv_icmp_ge (tgt := 59) hx hb dX6_rows_22 (by decide) (fun hc => ?_) (fun hc => ?_)
      · rw [if_pos hc] at hf
        obtain rfl := Option.some.inj hf
        exact K37 _ _ _ hP hD hS (lv_sub hl [2] rfl)
      · rw [if_neg hc] at hf
        refine lv_aload hx hb dX6_rows_25 (lv_at hl 3 rfl) ?_
        refine lv_iload hx hb dX6_rows_27 (lv_at hl 5 rfl) ?_
        have hg27 : ¬ (y25 < 0 ∨ hn.toNatClampNeg ≤ y25.toNatClampNeg) := fun hq => by rw [if_pos hq] at hf; exact nomatch hf
        rw [if_neg hg27] at hf
        refine sg_aald hx hb hK hP 0 2 rfl rfl (i := y25) hg27 dX6_rows_29 ?_
        refine lv_astore (lv' := [(7, .ref (r2 y25.toNatClampNeg)), (0, .int wn), (2, .int wi), (3, .ref z1), (4, .ref z1), (5, .int (Int32.ofNat hn.toNatClampNeg)), (6, .int y25)]) hx hb dX6_rows_30 hl (by decide) rfl (fun ls hl => ?_)
        refine lv_iconst (v := 0) hx hb dX6_rows_32 (by decide) ?_
        refine lv_istore (lv' := [(8, .int 0), (7, .ref (r2 y25.toNatClampNeg)), (0, .int wn), (2, .int wi), (3, .ref z1), (4, .ref z1), (5, .int (Int32.ofNat hn.toNatClampNeg)), (6, .int y25)]) hx hb dX6_rows_33 hl (by decide) rfl (fun ls hl => ?_)
        obtain ⟨v35, hv, hf⟩ := obind hf
        have K40 : ∀ (H : Heap) (locs : List Loc) (ls : Array Slot), va_P (dC, dI) vwCl (wJ [(mt cI cO z1 hn.toNatClampNeg wn.toNatClampNeg r2 v35)]) H → va_D (A_X6_rows cI cJ cO cB wn hn wi s.heap.size) (wJ [(mt cI cO z1 hn.toNatClampNeg wn.toNatClampNeg r2 v35)]) → va_S (A_X6_rows cI cJ cO cB wn hn wi s.heap.size) s.heap H locs → lv_has ls 9 [(0, .int wn), (2, .int wi), (3, .ref z1), (4, .ref z1), (5, .int (Int32.ofNat hn.toNatClampNeg)), (6, .int y25)] → W p l e rm_X6_rows s m args below meth c H locs 9 72 (MQ below (Q_X6_rows dC dI cI cJ cO cB wn hn wi s.heap.size R) args s 9 72 (A_X6_rows cI cJ cO cB wn hn wi s.heap.size)) (F0 m 53 ls []) := by
          intro H locs ls hP hD hS hl
          refine lv_iinc (v := (y25 + 1)) (lv' := [(6, .int (y25 + 1)), (0, .int wn), (2, .int wi), (3, .ref z1), (4, .ref z1), (5, .int (Int32.ofNat hn.toNatClampNeg))]) hx hb dX6_rows_53 hl (k := 5) rfl rfl (by decide) rfl (fun ls hl => ?_)
          refine lv_goto (tgt := 18) hx hb dX6_rows_56 (by decide) ?_
          exact ih39 _ _ _ _ _ hf hP hD hS (lv_sub hl [1, 2, 3, 4, 5, 0] rfl)
        have lp41 : ∀ (nf35 : Nat) (y32 : Int32) (y33 : Nat → Nat → Int32) (H : Heap) (locs : List Loc) (ls : Array Slot), lp_X6_rows_35 wn wi y25 nf35 y32 y33 = some v35 → va_P (dC, dI) vwCl (wJ [(mt cI cO z1 hn.toNatClampNeg wn.toNatClampNeg r2 y33)]) H → va_D (A_X6_rows cI cJ cO cB wn hn wi s.heap.size) (wJ [(mt cI cO z1 hn.toNatClampNeg wn.toNatClampNeg r2 y33)]) → va_S (A_X6_rows cI cJ cO cB wn hn wi s.heap.size) s.heap H locs → lv_has ls 9 [(0, .int wn), (2, .int wi), (3, .ref z1), (4, .ref z1), (5, .int (Int32.ofNat hn.toNatClampNeg)), (6, .int y25), (7, .ref (r2 y25.toNatClampNeg)), (8, .int y32)] → W p l e rm_X6_rows s m args below meth c H locs 9 72 (MQ below (Q_X6_rows dC dI cI cJ cO cB wn hn wi s.heap.size R) args s 9 72 (A_X6_rows cI cJ cO cB wn hn wi s.heap.size)) (F0 m 35 ls []) := by
          intro nf35
          induction nf35 with
          | zero => intro y32 y33 H locs ls h9; exact nomatch h9
          | succ nf35 ih42 =>
            intro y32 y33 H locs ls hf hP hD hS hl
            rw [lp_X6_rows_35.eq_2] at hf
            refine lv_iload hx hb dX6_rows_35 (lv_at hl 7 rfl) ?_
            refine lv_iload_n hx hb dX6_rows_37 rfl (lv_at hl 0 rfl) ?_
            refine lv_icmp_ge (tgt := 53) hx hb dX6_rows_38 (by decide) (fun hc => ?_) (fun hc => ?_)
            · rw [if_pos hc] at hf
              obtain rfl := Option.some.inj hf
              exact K40 _ _ _ hP hD hS (lv_sub hl [0, 1, 2, 3, 4, 5] rfl)
            · rw [if_neg hc] at hf
              refine lv_aload hx hb dX6_rows_41 (lv_at hl 6 rfl) ?_
              refine lv_iload hx hb dX6_rows_43 (lv_at hl 7 rfl) ?_
              refine lv_iload_n hx hb dX6_rows_45 rfl (lv_at hl 1 rfl) ?_
              have hg34 : ¬ (y32 < 0 ∨ wn.toNatClampNeg ≤ y32.toNatClampNeg) := fun hq => by rw [if_pos hq] at hf; exact nomatch hf
              rw [if_neg hg34] at hf
              refine sg_iast hx hb hK hP hD hS 0 0 rfl rfl (inRow hg27) (i := y32) hg34 dX6_rows_46 (fun H locs hP hD hS => ?_)
              have hP : va_P (dC, dI) vwCl (wJ [(mt cI cO z1 hn.toNatClampNeg wn.toNatClampNeg r2 (upM y33 y25.toNatClampNeg (upd (y33 y25.toNatClampNeg) y32.toNatClampNeg wi)))]) H := hP
              have hD : va_D (A_X6_rows cI cJ cO cB wn hn wi s.heap.size) (wJ [(mt cI cO z1 hn.toNatClampNeg wn.toNatClampNeg r2 (upM y33 y25.toNatClampNeg (upd (y33 y25.toNatClampNeg) y32.toNatClampNeg wi)))]) := hD
              refine lv_iinc (v := (y32 + 1)) (lv' := [(8, .int (y32 + 1)), (0, .int wn), (2, .int wi), (3, .ref z1), (4, .ref z1), (5, .int (Int32.ofNat hn.toNatClampNeg)), (6, .int y25), (7, .ref (r2 y25.toNatClampNeg))]) hx hb dX6_rows_47 hl (k := 7) rfl rfl (by decide) rfl (fun ls hl => ?_)
              refine lv_goto (tgt := 35) hx hb dX6_rows_50 (by decide) ?_
              exact ih42 _ _ _ _ _ hf hP hD hS (lv_sub hl [1, 2, 3, 4, 5, 6, 7, 0] rfl)
        exact lp41 12 _ _ _ _ _ hv hP hD hS (lv_sub hl [2, 3, 4, 5, 6, 7, 1, 0] rfl)
  exact lp38 12 _ _ _ _ _ hv hP hD hS (lv_sub hl [4, 6, 3, 2, 1, 0] rfl)
/-! HedgeGlidersLaw$Sim.has(II)Z -/
def f_X6_has (sS : SiS) (mM : Nat → Nat → Int32) (cx : Int32) (cy : Int32) : Option (Int32) := if (bI sS.2.2.1) = 0 then (if cx < 0 then (some 0) else (if sS.1 ≤ cx then (some 0) else (if cy < 0 then (some 0) else (if sS.2.1 ≤ cy then (some 0) else (if cy < 0 ∨ sS.2.1.toNatClampNeg ≤ cy.toNatClampNeg then none else if cx < 0 ∨ sS.1.toNatClampNeg ≤ cx.toNatClampNeg then none else if (mM cy.toNatClampNeg cx.toNatClampNeg) < 0 then (some 0) else (some 1)))))) else (if sS.2.1 = 0 then none else if ((cy + sS.2.1) - (cy + sS.2.1) / sS.2.1 * sS.2.1) < 0 ∨ sS.2.1.toNatClampNeg ≤ ((cy + sS.2.1) - (cy + sS.2.1) / sS.2.1 * sS.2.1).toNatClampNeg then none else if sS.1 = 0 then none else if ((cx + sS.1) - (cx + sS.1) / sS.1 * sS.1) < 0 ∨ sS.1.toNatClampNeg ≤ ((cx + sS.1) - (cx + sS.1) / sS.1 * sS.1).toNatClampNeg then none else if (mM ((cy + sS.2.1) - (cy + sS.2.1) / sS.2.1 * sS.2.1).toNatClampNeg ((cx + sS.1) - (cx + sS.1) / sS.1 * sS.1).toNatClampNeg) < 0 then (some 0) else (some 1))
abbrev rm_X6_has : Room := ({ frames := 0, cells := 0, slots := 0, locals := 0 } : Room)
abbrev A_X6_has (cI cJ cO cB : ClassId) (zsi zmo : Nat) (rmo : Nat → Nat) (sS : SiS) (mM : Nat → Nat → Int32) (cx : Int32) (cy : Int32) (sz : Nat) : Nat → Prop := va_A (wJ [[(zsi, .inr (5, [.int sS.1, .int sS.2.1, .int (bI sS.2.2.1), .int sS.2.2.2.1, .int sS.2.2.2.2.1, .int sS.2.2.2.2.2.1, .int sS.2.2.2.2.2.2.1, .int sS.2.2.2.2.2.2.2, .ref zmo]))], (mt cI cO zmo sS.2.1.toNatClampNeg sS.1.toNatClampNeg rmo mM)]) sz
abbrev Q_X6_has (dC : Nat → ClassId) (dI : Nat → Nat → Nat) (cI cJ cO cB : ClassId) (zsi zmo : Nat) (rmo : Nat → Nat) (sS : SiS) (mM : Nat → Nat → Int32) (cx : Int32) (cy : Int32) (sz : Nat) (R : Int32) : Array Value → State → Outcome → State → Prop := va_Qi (fun (r : Int32) (_ : Unit) => r = R) (fun u_ t => va_P (dC, dI) vwCl (wJ [[(zsi, .inr (5, [.int sS.1, .int sS.2.1, .int (bI sS.2.2.1), .int sS.2.2.2.1, .int sS.2.2.2.2.1, .int sS.2.2.2.2.2.1, .int sS.2.2.2.2.2.2.1, .int sS.2.2.2.2.2.2.2, .ref zmo]))], (mt cI cO zmo sS.2.1.toNatClampNeg sS.1.toNatClampNeg rmo mM)]) t.heap ∧ va_K (dC, dI) vwCl [(cI, .int), (cJ, .long), (cO, .array .int), (cB, .boolean)] t ∧ va_D (A_X6_has cI cJ cO cB zsi zmo rmo sS mM cx cy sz) (wJ [[(zsi, .inr (5, [.int sS.1, .int sS.2.1, .int (bI sS.2.2.1), .int sS.2.2.2.1, .int sS.2.2.2.2.1, .int sS.2.2.2.2.2.1, .int sS.2.2.2.2.2.2.1, .int sS.2.2.2.2.2.2.2, .ref zmo]))], (mt cI cO zmo sS.2.1.toNatClampNeg sS.1.toNatClampNeg rmo mM)])) (A_X6_has cI cJ cO cB zsi zmo rmo sS mM cx cy sz)
set_option maxHeartbeats 4000000 in
set_option maxRecDepth 100000 in
theorem c_X6_has (l : Launch) (dC : Nat → ClassId) (dI : Nat → Nat → Nat) (cI cJ cO cB : ClassId) (zsi zmo : Nat) (sz : Nat) (rmo : Nat → Nat) (sS : SiS) (mM : Nat → Nat → Int32) (cx : Int32) (cy : Int32) (R : Int32) (hR : f_X6_has sS mM cx cy = some R) : Met l yX6_has wsX6_has rm_X6_has (va_Pc [.ref zsi, .int cx, .int cy] (fun U => U.heap.size = sz ∧ va_P (dC, dI) vwCl (wJ [[(zsi, .inr (5, [.int sS.1, .int sS.2.1, .int (bI sS.2.2.1), .int sS.2.2.2.1, .int sS.2.2.2.2.1, .int sS.2.2.2.2.2.1, .int sS.2.2.2.2.2.2.1, .int sS.2.2.2.2.2.2.2, .ref zmo]))], (mt cI cO zmo sS.2.1.toNatClampNeg sS.1.toNatClampNeg rmo mM)]) U.heap ∧ va_K (dC, dI) vwCl [(cI, .int), (cJ, .long), (cO, .array .int), (cB, .boolean)] U ∧ va_D (fun _ => True) (wJ [[(zsi, .inr (5, [.int sS.1, .int sS.2.1, .int (bI sS.2.2.1), .int sS.2.2.2.1, .int sS.2.2.2.2.1, .int sS.2.2.2.2.2.1, .int sS.2.2.2.2.2.2.1, .int sS.2.2.2.2.2.2.2, .ref zmo]))], (mt cI cO zmo sS.2.1.toNatClampNeg sS.1.toNatClampNeg rmo mM)]))) (Q_X6_has dC dI cI cJ cO cB zsi zmo rmo sS mM cx cy sz R) 0 0 (A_X6_has cI cJ cO cB zsi zmo rmo sS mM cx cy sz) := by
  have hf := hR
  refine Met.ofW (cc := cX6_has) (maxL := 3) (ret := (some .boolean)) (by decide) rfl ?_
  intro p e s m args below meth c s₁ B hml hv
  obtain ⟨hargs, hsz, hP, hK, hD0⟩ := hv
  have hx := B.exec
  have hb := B.bytes
  have hr := B.returns
  have hts := atoms_spec (ws := wsX6_has) B.pre
  have hown : s.vm.findClass RX6 = some m.cls := findClass_of_methodNamed B.named
  have hlocks := B.notSynchronized
  subst hsz
  have hK2 : va_K (dC, dI) vwCl [(cI, .int), (cJ, .long)] s := hK.sub [0, 1] rfl
  have hD : va_D (A_X6_has cI cJ cO cB zsi zmo rmo sS mM cx cy s.heap.size) (wJ [[(zsi, .inr (5, [.int sS.1, .int sS.2.1, .int (bI sS.2.2.1), .int sS.2.2.2.1, .int sS.2.2.2.2.1, .int sS.2.2.2.2.2.1, .int sS.2.2.2.2.2.2.1, .int sS.2.2.2.2.2.2.2, .ref zmo]))], (mt cI cO zmo sS.2.1.toNatClampNeg sS.1.toNatClampNeg rmo mM)]) := hD0.self (sz := s.heap.size)
  have hA : ∀ q : Nat, s.heap.size ≤ q → (A_X6_has cI cJ cO cB zsi zmo rmo sS mM cx cy s.heap.size) q := fun q h => Or.inr h
  have hS : va_S (A_X6_has cI cJ cO cB zsi zmo rmo sS mM cx cy s.heap.size) s.heap s.heap [] := va_S.rf
  have hinX6 : ∀ w ∈ wsX60, w ∈ wsX6_has := by decide +kernel
  have hw0 := hts (.fieldLink RX6 32 "HedgeGlidersLaw$Sim" "isRound" "Z") (by decide +kernel)
  have hw1 := hts (.fieldLink RX6 7 "HedgeGlidersLaw$Sim" "w" "I") (by decide +kernel)
  have hw2 := hts (.fieldLink RX6 13 "HedgeGlidersLaw$Sim" "h" "I") (by decide +kernel)
  have hw3 := hts (.fieldLink RX6 26 "HedgeGlidersLaw$Sim" "ages" "[[I") (by decide +kernel)
  have hl := lv_entry ([.ref zsi, .int cx, .int cy]) (n := 3) (Nat.le_of_ble_eq_true rfl)
  have he0 : entryFrame m args 3 = entryFrame m ([.ref zsi, .int cx, .int cy] : List Value).toArray 3 := by rw [hargs]
  rw [he0, lg_entry_eq]
  generalize (lg_sl ([.ref zsi, .int cx, .int cy]) ++ List.replicate (3 - (lg_sl ([.ref zsi, .int cx, .int cy])).length) Slot.unset).toArray = ls at hl ⊢
  have hl : lv_has ls 3 [(0, .ref zsi), (1, .int cx), (2, .int cy)] := hl
  rw [f_X6_has] at hf
  refine lv_aload_n hx hb dX6_has_0 rfl (lv_at hl 0 rfl) ?_
  refine va_get (D := (dC, dI)) (ci := 5) (v := .int (bI sS.2.2.1)) (C := RX6) (T := TX6) (N := 9) hx hb hts hinX6 hown hK hP 0 rfl rfl 2 (by decide) hw0 (fun _ h9 => h9) rfl dX6_has_1 ?_
  refine lv_if_eq (tgt := 44) hx hb dX6_has_4 (by decide) (fun hc => ?_) (fun hc => ?_)
  · rw [if_pos hc] at hf
    refine lv_iload_n hx hb dX6_has_44 rfl (lv_at hl 1 rfl) ?_
    refine lv_if_lt (tgt := 83) hx hb dX6_has_45 (by decide) (fun hc => ?_) (fun hc => ?_)
    · rw [if_pos hc] at hf
      refine lv_iconst (v := 0) hx hb dX6_has_83 (by decide) ?_
      obtain rfl := Option.some.inj hf
      exact W.zret (v := 0) (ty := .boolean) hx hb hr rfl (fun t ht hW => ⟨⟨0, (), rfl, rfl, by rw [ht]; exact hP, va_K.moved hW.alike hK, hD⟩, hS.F ht⟩) hS.2.2 dX6_has_84
    · rw [if_neg hc] at hf
      refine lv_iload_n hx hb dX6_has_48 rfl (lv_at hl 1 rfl) ?_
      refine lv_aload_n hx hb dX6_has_49 rfl (lv_at hl 0 rfl) ?_
      refine va_get (D := (dC, dI)) (ci := 5) (v := .int sS.1) (C := RX6) (T := TX6) (N := 9) hx hb hts hinX6 hown hK hP 0 rfl rfl 0 (by decide) hw1 (fun _ h9 => h9) rfl dX6_has_50 ?_
      refine lv_icmp_ge (tgt := 83) hx hb dX6_has_53 (by decide) (fun hc => ?_) (fun hc => ?_)
      · rw [if_pos hc] at hf
        refine lv_iconst (v := 0) hx hb dX6_has_83 (by decide) ?_
        obtain rfl := Option.some.inj hf
        exact W.zret (v := 0) (ty := .boolean) hx hb hr rfl (fun t ht hW => ⟨⟨0, (), rfl, rfl, by rw [ht]; exact hP, va_K.moved hW.alike hK, hD⟩, hS.F ht⟩) hS.2.2 dX6_has_84
      · rw [if_neg hc] at hf
        refine lv_iload_n hx hb dX6_has_56 rfl (lv_at hl 2 rfl) ?_
        refine lv_if_lt (tgt := 83) hx hb dX6_has_57 (by decide) (fun hc => ?_) (fun hc => ?_)
        · rw [if_pos hc] at hf
          refine lv_iconst (v := 0) hx hb dX6_has_83 (by decide) ?_
          obtain rfl := Option.some.inj hf
          exact W.zret (v := 0) (ty := .boolean) hx hb hr rfl (fun t ht hW => ⟨⟨0, (), rfl, rfl, by rw [ht]; exact hP, va_K.moved hW.alike hK, hD⟩, hS.F ht⟩) hS.2.2 dX6_has_84
        · rw [if_neg hc] at hf
          refine lv_iload_n hx hb dX6_has_60 rfl (lv_at hl 2 rfl) ?_
          refine lv_aload_n hx hb dX6_has_61 rfl (lv_at hl 0 rfl) ?_
          refine va_get (D := (dC, dI)) (ci := 5) (v := .int sS.2.1) (C := RX6) (T := TX6) (N := 9) hx hb hts hinX6 hown hK hP 0 rfl rfl 1 (by decide) hw2 (fun _ h9 => h9) rfl dX6_has_62 ?_
          refine lv_icmp_ge (tgt := 83) hx hb dX6_has_65 (by decide) (fun hc => ?_) (fun hc => ?_)
          · rw [if_pos hc] at hf
            refine lv_iconst (v := 0) hx hb dX6_has_83 (by decide) ?_
            obtain rfl := Option.some.inj hf
            exact W.zret (v := 0) (ty := .boolean) hx hb hr rfl (fun t ht hW => ⟨⟨0, (), rfl, rfl, by rw [ht]; exact hP, va_K.moved hW.alike hK, hD⟩, hS.F ht⟩) hS.2.2 dX6_has_84
          · rw [if_neg hc] at hf
            refine lv_aload_n hx hb dX6_has_68 rfl (lv_at hl 0 rfl) ?_
            refine va_get (D := (dC, dI)) (ci := 5) (v := .ref zmo) (C := RX6) (T := TX6) (N := 9) hx hb hts hinX6 hown hK hP 0 rfl rfl 8 (by decide) hw3 (fun _ h9 => h9) rfl dX6_has_69 ?_
            refine lv_iload_n hx hb dX6_has_72 rfl (lv_at hl 2 rfl) ?_
            have hg1 : ¬ (cy < 0 ∨ sS.2.1.toNatClampNeg ≤ cy.toNatClampNeg) := fun hq => by rw [if_pos hq] at hf; exact nomatch hf
            rw [if_neg hg1] at hf
            refine sg_aald hx hb hK hP 1 2 rfl rfl (i := cy) hg1 dX6_has_73 ?_
            refine lv_iload_n hx hb dX6_has_74 rfl (lv_at hl 1 rfl) ?_
            have hg2 : ¬ (cx < 0 ∨ sS.1.toNatClampNeg ≤ cx.toNatClampNeg) := fun hq => by rw [if_pos hq] at hf; exact nomatch hf
            rw [if_neg hg2] at hf
            refine sg_iald hx hb hK hP 1 0 rfl rfl (inRow hg1) (i := cx) hg2 dX6_has_75 ?_
            refine lv_if_lt (tgt := 83) hx hb dX6_has_76 (by decide) (fun hc => ?_) (fun hc => ?_)
            · rw [if_pos hc] at hf
              refine lv_iconst (v := 0) hx hb dX6_has_83 (by decide) ?_
              obtain rfl := Option.some.inj hf
              exact W.zret (v := 0) (ty := .boolean) hx hb hr rfl (fun t ht hW => ⟨⟨0, (), rfl, rfl, by rw [ht]; exact hP, va_K.moved hW.alike hK, hD⟩, hS.F ht⟩) hS.2.2 dX6_has_84
            · rw [if_neg hc] at hf
              refine lv_iconst (v := 1) hx hb dX6_has_79 (by decide) ?_
              refine lv_goto (tgt := 84) hx hb dX6_has_80 (by decide) ?_
              obtain rfl := Option.some.inj hf
              exact W.zret (v := 1) (ty := .boolean) hx hb hr rfl (fun t ht hW => ⟨⟨1, (), rfl, rfl, by rw [ht]; exact hP, va_K.moved hW.alike hK, hD⟩, hS.F ht⟩) hS.2.2 dX6_has_84
  · rw [if_neg hc] at hf
    refine lv_aload_n hx hb dX6_has_7 rfl (lv_at hl 0 rfl) ?_
    refine va_get (D := (dC, dI)) (ci := 5) (v := .ref zmo) (C := RX6) (T := TX6) (N := 9) hx hb hts hinX6 hown hK hP 0 rfl rfl 8 (by decide) hw3 (fun _ h9 => h9) rfl dX6_has_8 ?_
    refine lv_iload_n hx hb dX6_has_11 rfl (lv_at hl 2 rfl) ?_
    refine lv_aload_n hx hb dX6_has_12 rfl (lv_at hl 0 rfl) ?_
    refine va_get (D := (dC, dI)) (ci := 5) (v := .int sS.2.1) (C := RX6) (T := TX6) (N := 9) hx hb hts hinX6 hown hK hP 0 rfl rfl 1 (by decide) hw2 (fun _ h9 => h9) rfl dX6_has_13 ?_
    refine lv_iadd hx hb dX6_has_16 ?_
    refine lv_aload_n hx hb dX6_has_17 rfl (lv_at hl 0 rfl) ?_
    refine va_get (D := (dC, dI)) (ci := 5) (v := .int sS.2.1) (C := RX6) (T := TX6) (N := 9) hx hb hts hinX6 hown hK hP 0 rfl rfl 1 (by decide) hw2 (fun _ h9 => h9) rfl dX6_has_18 ?_
    have hg3 : ¬ (sS.2.1 = 0) := fun hq => by rw [if_pos hq] at hf; exact nomatch hf
    rw [if_neg hg3] at hf
    refine lv_irem hx hb dX6_has_21 hg3 ?_
    have hg4 : ¬ (((cy + sS.2.1) - (cy + sS.2.1) / sS.2.1 * sS.2.1) < 0 ∨ sS.2.1.toNatClampNeg ≤ ((cy + sS.2.1) - (cy + sS.2.1) / sS.2.1 * sS.2.1).toNatClampNeg) := fun hq => by rw [if_pos hq] at hf; exact nomatch hf
    rw [if_neg hg4] at hf
    refine sg_aald hx hb hK hP 1 2 rfl rfl (i := ((cy + sS.2.1) - (cy + sS.2.1) / sS.2.1 * sS.2.1)) hg4 dX6_has_22 ?_
    refine lv_iload_n hx hb dX6_has_23 rfl (lv_at hl 1 rfl) ?_
    refine lv_aload_n hx hb dX6_has_24 rfl (lv_at hl 0 rfl) ?_
    refine va_get (D := (dC, dI)) (ci := 5) (v := .int sS.1) (C := RX6) (T := TX6) (N := 9) hx hb hts hinX6 hown hK hP 0 rfl rfl 0 (by decide) hw1 (fun _ h9 => h9) rfl dX6_has_25 ?_
    refine lv_iadd hx hb dX6_has_28 ?_
    refine lv_aload_n hx hb dX6_has_29 rfl (lv_at hl 0 rfl) ?_
    refine va_get (D := (dC, dI)) (ci := 5) (v := .int sS.1) (C := RX6) (T := TX6) (N := 9) hx hb hts hinX6 hown hK hP 0 rfl rfl 0 (by decide) hw1 (fun _ h9 => h9) rfl dX6_has_30 ?_
    have hg5 : ¬ (sS.1 = 0) := fun hq => by rw [if_pos hq] at hf; exact nomatch hf
    rw [if_neg hg5] at hf
    refine lv_irem hx hb dX6_has_33 hg5 ?_
    have hg6 : ¬ (((cx + sS.1) - (cx + sS.1) / sS.1 * sS.1) < 0 ∨ sS.1.toNatClampNeg ≤ ((cx + sS.1) - (cx + sS.1) / sS.1 * sS.1).toNatClampNeg) := fun hq => by rw [if_pos hq] at hf; exact nomatch hf
    rw [if_neg hg6] at hf
    refine sg_iald hx hb hK hP 1 0 rfl rfl (inRow hg4) (i := ((cx + sS.1) - (cx + sS.1) / sS.1 * sS.1)) hg6 dX6_has_34 ?_
    refine lv_if_lt (tgt := 42) hx hb dX6_has_35 (by decide) (fun hc => ?_) (fun hc => ?_)
    · rw [if_pos hc] at hf
      refine lv_iconst (v := 0) hx hb dX6_has_42 (by decide) ?_
      obtain rfl := Option.some.inj hf
      exact W.zret (v := 0) (ty := .boolean) hx hb hr rfl (fun t ht hW => ⟨⟨0, (), rfl, rfl, by rw [ht]; exact hP, va_K.moved hW.alike hK, hD⟩, hS.F ht⟩) hS.2.2 dX6_has_43
    · rw [if_neg hc] at hf
      refine lv_iconst (v := 1) hx hb dX6_has_38 (by decide) ?_
      refine lv_goto (tgt := 43) hx hb dX6_has_39 (by decide) ?_
      obtain rfl := Option.some.inj hf
      exact W.zret (v := 1) (ty := .boolean) hx hb hr rfl (fun t ht hW => ⟨⟨1, (), rfl, rfl, by rw [ht]; exact hP, va_K.moved hW.alike hK, hD⟩, hS.F ht⟩) hS.2.2 dX6_has_43
/-! HedgeGlidersLaw$Sim.near(II)I -/
def lp_X6_near_33 (sS : SiS) (mM : Nat → Nat → Int32) (cy : Int32) (y28 : Int32) : Nat → Int32 → Int32 → Option (Int32)
  | 0, _, _ => none
  | nf + 1, y35, y36 => if (cy + 1) < y36 then (some y35) else (Option.bind (f_X6_has sS mM y28 y36) fun r37 => bindv (if r37 = 0 then (0) else (1) : Int32) fun v38 => lp_X6_near_33 sS mM cy y28 nf (y35 + v38) (y36 + 1))
def lp_X6_near_20 (sS : SiS) (mM : Nat → Nat → Int32) (cx : Int32) (cy : Int32) : Nat → Int32 → Int32 → Option (Int32)
  | 0, _, _ => none
  | nf + 1, y27, y28 => if (cx + 1) < y28 then (some y27) else (Option.bind (lp_X6_near_33 sS mM cy y28 100 y27 (cy - 1)) fun v39 => lp_X6_near_20 sS mM cx cy nf v39 (y28 + 1))
def f_X6_near (sS : SiS) (mM : Nat → Nat → Int32) (cx : Int32) (cy : Int32) : Option (Int32) := Option.bind (f_X6_has sS mM cx cy) fun r1 => bindv (if r1 = 0 then (0) else ((-1)) : Int32) fun v2 => Option.bind (lp_X6_near_20 sS mM cx cy 100 v2 (cx - 1)) fun v40 => some v40
abbrev rm_X6_near : Room := ({ frames := 1, cells := 0, slots := 0, locals := 22 } : Room)
abbrev A_X6_near (cI cJ cO cB : ClassId) (zsi zmo : Nat) (rmo : Nat → Nat) (sS : SiS) (mM : Nat → Nat → Int32) (cx : Int32) (cy : Int32) (sz : Nat) : Nat → Prop := va_A (wJ [[(zsi, .inr (5, [.int sS.1, .int sS.2.1, .int (bI sS.2.2.1), .int sS.2.2.2.1, .int sS.2.2.2.2.1, .int sS.2.2.2.2.2.1, .int sS.2.2.2.2.2.2.1, .int sS.2.2.2.2.2.2.2, .ref zmo]))], (mt cI cO zmo sS.2.1.toNatClampNeg sS.1.toNatClampNeg rmo mM)]) sz
abbrev Q_X6_near (dC : Nat → ClassId) (dI : Nat → Nat → Nat) (cI cJ cO cB : ClassId) (zsi zmo : Nat) (rmo : Nat → Nat) (sS : SiS) (mM : Nat → Nat → Int32) (cx : Int32) (cy : Int32) (sz : Nat) (R : Int32) : Array Value → State → Outcome → State → Prop := va_Qi (fun (r : Int32) (_ : Unit) => r = R) (fun u_ t => va_P (dC, dI) vwCl (wJ [[(zsi, .inr (5, [.int sS.1, .int sS.2.1, .int (bI sS.2.2.1), .int sS.2.2.2.1, .int sS.2.2.2.2.1, .int sS.2.2.2.2.2.1, .int sS.2.2.2.2.2.2.1, .int sS.2.2.2.2.2.2.2, .ref zmo]))], (mt cI cO zmo sS.2.1.toNatClampNeg sS.1.toNatClampNeg rmo mM)]) t.heap ∧ va_K (dC, dI) vwCl [(cI, .int), (cJ, .long), (cO, .array .int), (cB, .boolean)] t ∧ va_D (A_X6_near cI cJ cO cB zsi zmo rmo sS mM cx cy sz) (wJ [[(zsi, .inr (5, [.int sS.1, .int sS.2.1, .int (bI sS.2.2.1), .int sS.2.2.2.1, .int sS.2.2.2.2.1, .int sS.2.2.2.2.2.1, .int sS.2.2.2.2.2.2.1, .int sS.2.2.2.2.2.2.2, .ref zmo]))], (mt cI cO zmo sS.2.1.toNatClampNeg sS.1.toNatClampNeg rmo mM)])) (A_X6_near cI cJ cO cB zsi zmo rmo sS mM cx cy sz)
set_option maxHeartbeats 4000000 in
set_option maxRecDepth 100000 in
theorem c_X6_near (l : Launch) (dC : Nat → ClassId) (dI : Nat → Nat → Nat) (cI cJ cO cB : ClassId) (zsi zmo : Nat) (sz : Nat) (rmo : Nat → Nat) (sS : SiS) (mM : Nat → Nat → Int32) (cx : Int32) (cy : Int32) (R : Int32) (hR : f_X6_near sS mM cx cy = some R) : Met l yX6_near wsX6_near rm_X6_near (va_Pc [.ref zsi, .int cx, .int cy] (fun U => U.heap.size = sz ∧ va_P (dC, dI) vwCl (wJ [[(zsi, .inr (5, [.int sS.1, .int sS.2.1, .int (bI sS.2.2.1), .int sS.2.2.2.1, .int sS.2.2.2.2.1, .int sS.2.2.2.2.2.1, .int sS.2.2.2.2.2.2.1, .int sS.2.2.2.2.2.2.2, .ref zmo]))], (mt cI cO zmo sS.2.1.toNatClampNeg sS.1.toNatClampNeg rmo mM)]) U.heap ∧ va_K (dC, dI) vwCl [(cI, .int), (cJ, .long), (cO, .array .int), (cB, .boolean)] U ∧ va_D (fun _ => True) (wJ [[(zsi, .inr (5, [.int sS.1, .int sS.2.1, .int (bI sS.2.2.1), .int sS.2.2.2.1, .int sS.2.2.2.2.1, .int sS.2.2.2.2.2.1, .int sS.2.2.2.2.2.2.1, .int sS.2.2.2.2.2.2.2, .ref zmo]))], (mt cI cO zmo sS.2.1.toNatClampNeg sS.1.toNatClampNeg rmo mM)]))) (Q_X6_near dC dI cI cJ cO cB zsi zmo rmo sS mM cx cy sz R) 0 0 (A_X6_near cI cJ cO cB zsi zmo rmo sS mM cx cy sz) := by
  have hf := hR
  refine Met.ofW (cc := cX6_near) (maxL := 6) (ret := (some .int)) (by decide) rfl ?_
  intro p e s m args below meth c s₁ B hml hv
  obtain ⟨hargs, hsz, hP, hK, hD0⟩ := hv
  have hx := B.exec
  have hb := B.bytes
  have hr := B.returns
  have hts := atoms_spec (ws := wsX6_near) B.pre
  have hown : s.vm.findClass RX6 = some m.cls := findClass_of_methodNamed B.named
  have hlocks := B.notSynchronized
  subst hsz
  have hK2 : va_K (dC, dI) vwCl [(cI, .int), (cJ, .long)] s := hK.sub [0, 1] rfl
  have hD : va_D (A_X6_near cI cJ cO cB zsi zmo rmo sS mM cx cy s.heap.size) (wJ [[(zsi, .inr (5, [.int sS.1, .int sS.2.1, .int (bI sS.2.2.1), .int sS.2.2.2.1, .int sS.2.2.2.2.1, .int sS.2.2.2.2.2.1, .int sS.2.2.2.2.2.2.1, .int sS.2.2.2.2.2.2.2, .ref zmo]))], (mt cI cO zmo sS.2.1.toNatClampNeg sS.1.toNatClampNeg rmo mM)]) := hD0.self (sz := s.heap.size)
  have hA : ∀ q : Nat, s.heap.size ≤ q → (A_X6_near cI cJ cO cB zsi zmo rmo sS mM cx cy s.heap.size) q := fun q h => Or.inr h
  have hS : va_S (A_X6_near cI cJ cO cB zsi zmo rmo sS mM cx cy s.heap.size) s.heap s.heap [] := va_S.rf
  have hl := lv_entry ([.ref zsi, .int cx, .int cy]) (n := 6) (Nat.le_of_ble_eq_true rfl)
  have he0 : entryFrame m args 6 = entryFrame m ([.ref zsi, .int cx, .int cy] : List Value).toArray 6 := by rw [hargs]
  rw [he0, lg_entry_eq]
  generalize (lg_sl ([.ref zsi, .int cx, .int cy]) ++ List.replicate (6 - (lg_sl ([.ref zsi, .int cx, .int cy])).length) Slot.unset).toArray = ls at hl ⊢
  have hl : lv_has ls 6 [(0, .ref zsi), (1, .int cx), (2, .int cy)] := hl
  rw [f_X6_near] at hf
  refine lv_aload_n hx hb dX6_near_0 rfl (lv_at hl 0 rfl) ?_
  refine lv_iload_n hx hb dX6_near_1 rfl (lv_at hl 1 rfl) ?_
  refine lv_iload_n hx hb dX6_near_2 rfl (lv_at hl 2 rfl) ?_
  obtain ⟨r1, hr1, hf⟩ := obind hf
  have hPc : va_P (dC, dI) vwCl (wJ [[(zsi, .inr (5, [.int sS.1, .int sS.2.1, .int (bI sS.2.2.1), .int sS.2.2.2.1, .int sS.2.2.2.2.1, .int sS.2.2.2.2.2.1, .int sS.2.2.2.2.2.2.1, .int sS.2.2.2.2.2.2.2, .ref zmo]))], (mt cI cO zmo sS.2.1.toNatClampNeg sS.1.toNatClampNeg rmo mM)]) s.heap := sgP (L' := [[(zsi, .inr (5, [.int sS.1, .int sS.2.1, .int (bI sS.2.2.1), .int sS.2.2.2.1, .int sS.2.2.2.2.1, .int sS.2.2.2.2.2.1, .int sS.2.2.2.2.2.2.1, .int sS.2.2.2.2.2.2.2, .ref zmo]))], (mt cI cO zmo sS.2.1.toNatClampNeg sS.1.toNatClampNeg rmo mM)]) hP [0, 1] rfl
  have hDc : va_D (A_X6_near cI cJ cO cB zsi zmo rmo sS mM cx cy s.heap.size) (wJ [[(zsi, .inr (5, [.int sS.1, .int sS.2.1, .int (bI sS.2.2.1), .int sS.2.2.2.1, .int sS.2.2.2.2.1, .int sS.2.2.2.2.2.1, .int sS.2.2.2.2.2.2.1, .int sS.2.2.2.2.2.2.2, .ref zmo]))], (mt cI cO zmo sS.2.1.toNatClampNeg sS.1.toNatClampNeg rmo mM)]) := sgD (L' := [[(zsi, .inr (5, [.int sS.1, .int sS.2.1, .int (bI sS.2.2.1), .int sS.2.2.2.1, .int sS.2.2.2.2.1, .int sS.2.2.2.2.2.1, .int sS.2.2.2.2.2.2.1, .int sS.2.2.2.2.2.2.2, .ref zmo]))], (mt cI cO zmo sS.2.1.toNatClampNeg sS.1.toNatClampNeg rmo mM)]) hD [0, 1] (by decide) rfl
  have hFc : ∀ q, va_A (wJ [[(zsi, .inr (5, [.int sS.1, .int sS.2.1, .int (bI sS.2.2.1), .int sS.2.2.2.1, .int sS.2.2.2.2.1, .int sS.2.2.2.2.2.1, .int sS.2.2.2.2.2.2.1, .int sS.2.2.2.2.2.2.2, .ref zmo]))], (mt cI cO zmo sS.2.1.toNatClampNeg sS.1.toNatClampNeg rmo mM)]) s.heap.size q → (A_X6_near cI cJ cO cB zsi zmo rmo sS mM cx cy s.heap.size) q := sg_free (W := [[(zsi, .inr (5, [.int sS.1, .int sS.2.1, .int (bI sS.2.2.1), .int sS.2.2.2.1, .int sS.2.2.2.2.1, .int sS.2.2.2.2.2.1, .int sS.2.2.2.2.2.2.1, .int sS.2.2.2.2.2.2.2, .ref zmo]))], (mt cI cO zmo sS.2.1.toNatClampNeg sS.1.toNatClampNeg rmo mM)]) hD hS hA [0, 1] rfl
  refine va_calli (va_runV (As := [.int cx, .int cy]) (rest := []) ⟨hx, hb, hml, hown, hts⟩ (c_X6_has l dC dI cI cJ cO cB zsi zmo s.heap.size rmo sS mM cx cy _ hr1) (cwV 2 hts gX6_near_X6_has rfl rfl rfl (by decide +kernel) ⟨Nat.le_of_ble_eq_true rfl, Nat.le_of_ble_eq_true rfl⟩) ⟨fun a U gg mk q => by obtain ⟨q0, q1, qP, qK, qD⟩ := q; exact ⟨q0, q1, qP, va_K.moved (u := U) (U := U.calling gg mk a) (Vm.Alike.refl U.vm) qK, qD⟩, va_recv hK hPc (ci := 5) (q0 := 0) rfl rfl, fun U hU hW => ⟨rfl, by rw [hU], by rw [hU]; exact hPc, va_K.moved hW.alike hK, hDc.weaken (fun _ _ _ _ => trivial)⟩⟩ rfl rfl hl.1 rfl (lv_room (Nat.le_of_ble_eq_true rfl)) dX6_near_3 ⟨(Nat.le_of_ble_eq_true rfl), (Nat.le_of_ble_eq_true rfl)⟩) hS (fun q _ h => hFc q h) hFc (fun r_ u_ t H locs ht hvm hw hB hz1 hk1 hS => ?_)
  obtain rfl := hw.symm
  obtain ⟨hP1, -, hD1⟩ := hB
  rw [ht] at hP1
  have hJ := sg_join2 (W := [[(zsi, .inr (5, [.int sS.1, .int sS.2.1, .int (bI sS.2.2.1), .int sS.2.2.2.1, .int sS.2.2.2.2.1, .int sS.2.2.2.2.2.1, .int sS.2.2.2.2.2.2.1, .int sS.2.2.2.2.2.2.2, .ref zmo]))], (mt cI cO zmo sS.2.1.toNatClampNeg sS.1.toNatClampNeg rmo mM)]) (R := []) (W1 := [[(zsi, .inr (5, [.int sS.1, .int sS.2.1, .int (bI sS.2.2.1), .int sS.2.2.2.1, .int sS.2.2.2.2.1, .int sS.2.2.2.2.2.1, .int sS.2.2.2.2.2.2.1, .int sS.2.2.2.2.2.2.2, .ref zmo]))], (mt cI cO zmo sS.2.1.toNatClampNeg sS.1.toNatClampNeg rmo mM)]) hP hD [0, 1] [] rfl rfl (by decide) (by decide) hk1 hFc hP1 hD1
  have hP : va_P (dC, dI) vwCl (wJ [[(zsi, .inr (5, [.int sS.1, .int sS.2.1, .int (bI sS.2.2.1), .int sS.2.2.2.1, .int sS.2.2.2.2.1, .int sS.2.2.2.2.2.1, .int sS.2.2.2.2.2.2.1, .int sS.2.2.2.2.2.2.2, .ref zmo]))], (mt cI cO zmo sS.2.1.toNatClampNeg sS.1.toNatClampNeg rmo mM)]) H := hJ.1
  have hD : va_D (A_X6_near cI cJ cO cB zsi zmo rmo sS mM cx cy s.heap.size) (wJ [[(zsi, .inr (5, [.int sS.1, .int sS.2.1, .int (bI sS.2.2.1), .int sS.2.2.2.1, .int sS.2.2.2.2.1, .int sS.2.2.2.2.2.1, .int sS.2.2.2.2.2.2.1, .int sS.2.2.2.2.2.2.2, .ref zmo]))], (mt cI cO zmo sS.2.1.toNatClampNeg sS.1.toNatClampNeg rmo mM)]) := hJ.2
  have hP := sgP (L' := [[(zsi, .inr (5, [.int sS.1, .int sS.2.1, .int (bI sS.2.2.1), .int sS.2.2.2.1, .int sS.2.2.2.2.1, .int sS.2.2.2.2.2.1, .int sS.2.2.2.2.2.2.1, .int sS.2.2.2.2.2.2.2, .ref zmo]))], (mt cI cO zmo sS.2.1.toNatClampNeg sS.1.toNatClampNeg rmo mM)]) hP [0, 1] rfl
  have hD := sgD (L' := [[(zsi, .inr (5, [.int sS.1, .int sS.2.1, .int (bI sS.2.2.1), .int sS.2.2.2.1, .int sS.2.2.2.2.1, .int sS.2.2.2.2.2.1, .int sS.2.2.2.2.2.2.1, .int sS.2.2.2.2.2.2.2, .ref zmo]))], (mt cI cO zmo sS.2.1.toNatClampNeg sS.1.toNatClampNeg rmo mM)]) hD [0, 1] (by decide) rfl
  clear hPc hDc hFc hP1 hD1 hk1 hJ
  obtain ⟨v2, hv, hf⟩ := vbind hf
  have K41 : ∀ (H : Heap) (locs : List Loc) (ls : Array Slot), va_P (dC, dI) vwCl (wJ [[(zsi, .inr (5, [.int sS.1, .int sS.2.1, .int (bI sS.2.2.1), .int sS.2.2.2.1, .int sS.2.2.2.2.1, .int sS.2.2.2.2.2.1, .int sS.2.2.2.2.2.2.1, .int sS.2.2.2.2.2.2.2, .ref zmo]))], (mt cI cO zmo sS.2.1.toNatClampNeg sS.1.toNatClampNeg rmo mM)]) H → va_D (A_X6_near cI cJ cO cB zsi zmo rmo sS mM cx cy s.heap.size) (wJ [[(zsi, .inr (5, [.int sS.1, .int sS.2.1, .int (bI sS.2.2.1), .int sS.2.2.2.1, .int sS.2.2.2.2.1, .int sS.2.2.2.2.2.1, .int sS.2.2.2.2.2.2.1, .int sS.2.2.2.2.2.2.2, .ref zmo]))], (mt cI cO zmo sS.2.1.toNatClampNeg sS.1.toNatClampNeg rmo mM)]) → va_S (A_X6_near cI cJ cO cB zsi zmo rmo sS mM cx cy s.heap.size) s.heap H locs → lv_has ls 6 [(0, .ref zsi), (1, .int cx), (2, .int cy)] → W p l e rm_X6_near s m args below meth c H locs 0 0 (MQ below (Q_X6_near dC dI cI cJ cO cB zsi zmo rmo sS mM cx cy s.heap.size R) args s 0 0 (A_X6_near cI cJ cO cB zsi zmo rmo sS mM cx cy s.heap.size)) (F0 m 14 ls [.int v2]) := by
    intro H locs ls hP hD hS hl
    refine lv_istore_n (lv' := [(3, .int v2), (0, .ref zsi), (1, .int cx), (2, .int cy)]) hx hb dX6_near_14 rfl hl (by decide) rfl (fun ls hl => ?_)
    refine lv_iload_n hx hb dX6_near_15 rfl (lv_at hl 2 rfl) ?_
    refine lv_iconst (v := 1) hx hb dX6_near_16 (by decide) ?_
    refine lv_isub hx hb dX6_near_17 ?_
    refine lv_istore (lv' := [(4, .int (cx - 1)), (3, .int v2), (0, .ref zsi), (1, .int cx), (2, .int cy)]) hx hb dX6_near_18 hl (by decide) rfl (fun ls hl => ?_)
    obtain ⟨v40, hv, hf⟩ := obind hf
    have K42 : ∀ (H : Heap) (locs : List Loc) (ls : Array Slot), va_P (dC, dI) vwCl (wJ [[(zsi, .inr (5, [.int sS.1, .int sS.2.1, .int (bI sS.2.2.1), .int sS.2.2.2.1, .int sS.2.2.2.2.1, .int sS.2.2.2.2.2.1, .int sS.2.2.2.2.2.2.1, .int sS.2.2.2.2.2.2.2, .ref zmo]))], (mt cI cO zmo sS.2.1.toNatClampNeg sS.1.toNatClampNeg rmo mM)]) H → va_D (A_X6_near cI cJ cO cB zsi zmo rmo sS mM cx cy s.heap.size) (wJ [[(zsi, .inr (5, [.int sS.1, .int sS.2.1, .int (bI sS.2.2.1), .int sS.2.2.2.1, .int sS.2.2.2.2.1, .int sS.2.2.2.2.2.1, .int sS.2.2.2.2.2.2.1, .int sS.2.2.2.2.2.2.2, .ref zmo]))], (mt cI cO zmo sS.2.1.toNatClampNeg sS.1.toNatClampNeg rmo mM)]) → va_S (A_X6_near cI cJ cO cB zsi zmo rmo sS mM cx cy s.heap.size) s.heap H locs → lv_has ls 6 [(3, .int v40)] → W p l e rm_X6_near s m args below meth c H locs 0 0 (MQ below (Q_X6_near dC dI cI cJ cO cB zsi zmo rmo sS mM cx cy s.heap.size R) args s 0 0 (A_X6_near cI cJ cO cB zsi zmo rmo sS mM cx cy s.heap.size)) (F0 m 72 ls []) := by
      intro H locs ls hP hD hS hl
      refine lv_iload_n hx hb dX6_near_72 rfl (lv_at hl 0 rfl) ?_
      obtain rfl := Option.some.inj hf
      exact W.iret (v := v40) hx hb hr (fun t ht hW => ⟨⟨v40, (), rfl, rfl, by rw [ht]; exact hP, va_K.moved hW.alike hK, hD⟩, hS.F ht⟩) hS.2.2 dX6_near_73
    have lp43 : ∀ (nf20 : Nat) (y27 : Int32) (y28 : Int32) (H : Heap) (locs : List Loc) (ls : Array Slot), lp_X6_near_20 sS mM cx cy nf20 y27 y28 = some v40 → va_P (dC, dI) vwCl (wJ [[(zsi, .inr (5, [.int sS.1, .int sS.2.1, .int (bI sS.2.2.1), .int sS.2.2.2.1, .int sS.2.2.2.2.1, .int sS.2.2.2.2.2.1, .int sS.2.2.2.2.2.2.1, .int sS.2.2.2.2.2.2.2, .ref zmo]))], (mt cI cO zmo sS.2.1.toNatClampNeg sS.1.toNatClampNeg rmo mM)]) H → va_D (A_X6_near cI cJ cO cB zsi zmo rmo sS mM cx cy s.heap.size) (wJ [[(zsi, .inr (5, [.int sS.1, .int sS.2.1, .int (bI sS.2.2.1), .int sS.2.2.2.1, .int sS.2.2.2.2.1, .int sS.2.2.2.2.2.1, .int sS.2.2.2.2.2.2.1, .int sS.2.2.2.2.2.2.2, .ref zmo]))], (mt cI cO zmo sS.2.1.toNatClampNeg sS.1.toNatClampNeg rmo mM)]) → va_S (A_X6_near cI cJ cO cB zsi zmo rmo sS mM cx cy s.heap.size) s.heap H locs → lv_has ls 6 [(0, .ref zsi), (1, .int cx), (2, .int cy), (3, .int y27), (4, .int y28)] → W p l e rm_X6_near s m args below meth c H locs 0 0 (MQ below (Q_X6_near dC dI cI cJ cO cB zsi zmo rmo sS mM cx cy s.heap.size R) args s 0 0 (A_X6_near cI cJ cO cB zsi zmo rmo sS mM cx cy s.heap.size)) (F0 m 20 ls []) := by
      intro nf20
      induction nf20 with
      | zero => intro y27 y28 H locs ls h9; exact nomatch h9
      | succ nf20 ih44 =>
        intro y27 y28 H locs ls hf hP hD hS hl
        rw [lp_X6_near_20.eq_2] at hf
        refine lv_iload hx hb dX6_near_20 (lv_at hl 4 rfl) ?_
        refine lv_iload_n hx hb dX6_near_22 rfl (lv_at hl 1 rfl) ?_
        refine lv_iconst (v := 1) hx hb dX6_near_23 (by decide) ?_
        refine lv_iadd hx hb dX6_near_24 ?_
        refine lv_icmp_gt (tgt := 72) hx hb dX6_near_25 (by decide) (fun hc => ?_) (fun hc => ?_)
        · rw [if_pos hc] at hf
          obtain rfl := Option.some.inj hf
          exact K42 _ _ _ hP hD hS (lv_sub hl [3] rfl)
        · rw [if_neg hc] at hf
          refine lv_iload_n hx hb dX6_near_28 rfl (lv_at hl 2 rfl) ?_
          refine lv_iconst (v := 1) hx hb dX6_near_29 (by decide) ?_
          refine lv_isub hx hb dX6_near_30 ?_
          refine lv_istore (lv' := [(5, .int (cy - 1)), (0, .ref zsi), (1, .int cx), (2, .int cy), (3, .int y27), (4, .int y28)]) hx hb dX6_near_31 hl (by decide) rfl (fun ls hl => ?_)
          obtain ⟨v39, hv, hf⟩ := obind hf
          have K45 : ∀ (H : Heap) (locs : List Loc) (ls : Array Slot), va_P (dC, dI) vwCl (wJ [[(zsi, .inr (5, [.int sS.1, .int sS.2.1, .int (bI sS.2.2.1), .int sS.2.2.2.1, .int sS.2.2.2.2.1, .int sS.2.2.2.2.2.1, .int sS.2.2.2.2.2.2.1, .int sS.2.2.2.2.2.2.2, .ref zmo]))], (mt cI cO zmo sS.2.1.toNatClampNeg sS.1.toNatClampNeg rmo mM)]) H → va_D (A_X6_near cI cJ cO cB zsi zmo rmo sS mM cx cy s.heap.size) (wJ [[(zsi, .inr (5, [.int sS.1, .int sS.2.1, .int (bI sS.2.2.1), .int sS.2.2.2.1, .int sS.2.2.2.2.1, .int sS.2.2.2.2.2.1, .int sS.2.2.2.2.2.2.1, .int sS.2.2.2.2.2.2.2, .ref zmo]))], (mt cI cO zmo sS.2.1.toNatClampNeg sS.1.toNatClampNeg rmo mM)]) → va_S (A_X6_near cI cJ cO cB zsi zmo rmo sS mM cx cy s.heap.size) s.heap H locs → lv_has ls 6 [(0, .ref zsi), (1, .int cx), (2, .int cy), (3, .int v39), (4, .int y28)] → W p l e rm_X6_near s m args below meth c H locs 0 0 (MQ below (Q_X6_near dC dI cI cJ cO cB zsi zmo rmo sS mM cx cy s.heap.size R) args s 0 0 (A_X6_near cI cJ cO cB zsi zmo rmo sS mM cx cy s.heap.size)) (F0 m 66 ls []) := by
            intro H locs ls hP hD hS hl
            refine lv_iinc (v := (y28 + 1)) (lv' := [(4, .int (y28 + 1)), (0, .ref zsi), (1, .int cx), (2, .int cy), (3, .int v39)]) hx hb dX6_near_66 hl (k := 4) rfl rfl (by decide) rfl (fun ls hl => ?_)
            refine lv_goto (tgt := 20) hx hb dX6_near_69 (by decide) ?_
            exact ih44 _ _ _ _ _ hf hP hD hS (lv_sub hl [1, 2, 3, 4, 0] rfl)
          have lp46 : ∀ (nf33 : Nat) (y35 : Int32) (y36 : Int32) (H : Heap) (locs : List Loc) (ls : Array Slot), lp_X6_near_33 sS mM cy y28 nf33 y35 y36 = some v39 → va_P (dC, dI) vwCl (wJ [[(zsi, .inr (5, [.int sS.1, .int sS.2.1, .int (bI sS.2.2.1), .int sS.2.2.2.1, .int sS.2.2.2.2.1, .int sS.2.2.2.2.2.1, .int sS.2.2.2.2.2.2.1, .int sS.2.2.2.2.2.2.2, .ref zmo]))], (mt cI cO zmo sS.2.1.toNatClampNeg sS.1.toNatClampNeg rmo mM)]) H → va_D (A_X6_near cI cJ cO cB zsi zmo rmo sS mM cx cy s.heap.size) (wJ [[(zsi, .inr (5, [.int sS.1, .int sS.2.1, .int (bI sS.2.2.1), .int sS.2.2.2.1, .int sS.2.2.2.2.1, .int sS.2.2.2.2.2.1, .int sS.2.2.2.2.2.2.1, .int sS.2.2.2.2.2.2.2, .ref zmo]))], (mt cI cO zmo sS.2.1.toNatClampNeg sS.1.toNatClampNeg rmo mM)]) → va_S (A_X6_near cI cJ cO cB zsi zmo rmo sS mM cx cy s.heap.size) s.heap H locs → lv_has ls 6 [(0, .ref zsi), (1, .int cx), (2, .int cy), (3, .int y35), (4, .int y28), (5, .int y36)] → W p l e rm_X6_near s m args below meth c H locs 0 0 (MQ below (Q_X6_near dC dI cI cJ cO cB zsi zmo rmo sS mM cx cy s.heap.size R) args s 0 0 (A_X6_near cI cJ cO cB zsi zmo rmo sS mM cx cy s.heap.size)) (F0 m 33 ls []) := by
            intro nf33
            induction nf33 with
            | zero => intro y35 y36 H locs ls h9; exact nomatch h9
            | succ nf33 ih47 =>
              intro y35 y36 H locs ls hf hP hD hS hl
              rw [lp_X6_near_33.eq_2] at hf
              refine lv_iload hx hb dX6_near_33 (lv_at hl 5 rfl) ?_
              refine lv_iload_n hx hb dX6_near_35 rfl (lv_at hl 2 rfl) ?_
              refine lv_iconst (v := 1) hx hb dX6_near_36 (by decide) ?_
              refine lv_iadd hx hb dX6_near_37 ?_
              refine lv_icmp_gt (tgt := 66) hx hb dX6_near_38 (by decide) (fun hc => ?_) (fun hc => ?_)
              · rw [if_pos hc] at hf
                obtain rfl := Option.some.inj hf
                exact K45 _ _ _ hP hD hS (lv_sub hl [0, 1, 2, 3, 4] rfl)
              · rw [if_neg hc] at hf
                refine lv_iload_n hx hb dX6_near_41 rfl (lv_at hl 3 rfl) ?_
                refine lv_aload_n hx hb dX6_near_42 rfl (lv_at hl 0 rfl) ?_
                refine lv_iload hx hb dX6_near_43 (lv_at hl 4 rfl) ?_
                refine lv_iload hx hb dX6_near_45 (lv_at hl 5 rfl) ?_
                obtain ⟨r37, hr37, hf⟩ := obind hf
                have hPc : va_P (dC, dI) vwCl (wJ [[(zsi, .inr (5, [.int sS.1, .int sS.2.1, .int (bI sS.2.2.1), .int sS.2.2.2.1, .int sS.2.2.2.2.1, .int sS.2.2.2.2.2.1, .int sS.2.2.2.2.2.2.1, .int sS.2.2.2.2.2.2.2, .ref zmo]))], (mt cI cO zmo sS.2.1.toNatClampNeg sS.1.toNatClampNeg rmo mM)]) H := sgP (L' := [[(zsi, .inr (5, [.int sS.1, .int sS.2.1, .int (bI sS.2.2.1), .int sS.2.2.2.1, .int sS.2.2.2.2.1, .int sS.2.2.2.2.2.1, .int sS.2.2.2.2.2.2.1, .int sS.2.2.2.2.2.2.2, .ref zmo]))], (mt cI cO zmo sS.2.1.toNatClampNeg sS.1.toNatClampNeg rmo mM)]) hP [0, 1] rfl
                have hDc : va_D (A_X6_near cI cJ cO cB zsi zmo rmo sS mM cx cy s.heap.size) (wJ [[(zsi, .inr (5, [.int sS.1, .int sS.2.1, .int (bI sS.2.2.1), .int sS.2.2.2.1, .int sS.2.2.2.2.1, .int sS.2.2.2.2.2.1, .int sS.2.2.2.2.2.2.1, .int sS.2.2.2.2.2.2.2, .ref zmo]))], (mt cI cO zmo sS.2.1.toNatClampNeg sS.1.toNatClampNeg rmo mM)]) := sgD (L' := [[(zsi, .inr (5, [.int sS.1, .int sS.2.1, .int (bI sS.2.2.1), .int sS.2.2.2.1, .int sS.2.2.2.2.1, .int sS.2.2.2.2.2.1, .int sS.2.2.2.2.2.2.1, .int sS.2.2.2.2.2.2.2, .ref zmo]))], (mt cI cO zmo sS.2.1.toNatClampNeg sS.1.toNatClampNeg rmo mM)]) hD [0, 1] (by decide) rfl
                have hFc : ∀ q, va_A (wJ [[(zsi, .inr (5, [.int sS.1, .int sS.2.1, .int (bI sS.2.2.1), .int sS.2.2.2.1, .int sS.2.2.2.2.1, .int sS.2.2.2.2.2.1, .int sS.2.2.2.2.2.2.1, .int sS.2.2.2.2.2.2.2, .ref zmo]))], (mt cI cO zmo sS.2.1.toNatClampNeg sS.1.toNatClampNeg rmo mM)]) H.size q → (A_X6_near cI cJ cO cB zsi zmo rmo sS mM cx cy s.heap.size) q := sg_free (W := [[(zsi, .inr (5, [.int sS.1, .int sS.2.1, .int (bI sS.2.2.1), .int sS.2.2.2.1, .int sS.2.2.2.2.1, .int sS.2.2.2.2.2.1, .int sS.2.2.2.2.2.2.1, .int sS.2.2.2.2.2.2.2, .ref zmo]))], (mt cI cO zmo sS.2.1.toNatClampNeg sS.1.toNatClampNeg rmo mM)]) hD hS hA [0, 1] rfl
                refine va_calli (va_runV (As := [.int y28, .int y36]) (rest := [.int y35]) ⟨hx, hb, hml, hown, hts⟩ (c_X6_has l dC dI cI cJ cO cB zsi zmo H.size rmo sS mM y28 y36 _ hr37) (cwV 2 hts gX6_near_X6_has rfl rfl rfl (by decide +kernel) ⟨Nat.le_of_ble_eq_true rfl, Nat.le_of_ble_eq_true rfl⟩) ⟨fun a U gg mk q => by obtain ⟨q0, q1, qP, qK, qD⟩ := q; exact ⟨q0, q1, qP, va_K.moved (u := U) (U := U.calling gg mk a) (Vm.Alike.refl U.vm) qK, qD⟩, va_recv hK hPc (ci := 5) (q0 := 0) rfl rfl, fun U hU hW => ⟨rfl, by rw [hU], by rw [hU]; exact hPc, va_K.moved hW.alike hK, hDc.weaken (fun _ _ _ _ => trivial)⟩⟩ rfl rfl hl.1 rfl (lv_room (Nat.le_of_ble_eq_true rfl)) dX6_near_47 ⟨(Nat.le_of_ble_eq_true rfl), (Nat.le_of_ble_eq_true rfl)⟩) hS (fun q _ h => hFc q h) hFc (fun r_ u_ t H locs ht hvm hw hB hz1 hk1 hS => ?_)
                obtain rfl := hw.symm
                obtain ⟨hP1, -, hD1⟩ := hB
                rw [ht] at hP1
                have hJ := sg_join2 (W := [[(zsi, .inr (5, [.int sS.1, .int sS.2.1, .int (bI sS.2.2.1), .int sS.2.2.2.1, .int sS.2.2.2.2.1, .int sS.2.2.2.2.2.1, .int sS.2.2.2.2.2.2.1, .int sS.2.2.2.2.2.2.2, .ref zmo]))], (mt cI cO zmo sS.2.1.toNatClampNeg sS.1.toNatClampNeg rmo mM)]) (R := []) (W1 := [[(zsi, .inr (5, [.int sS.1, .int sS.2.1, .int (bI sS.2.2.1), .int sS.2.2.2.1, .int sS.2.2.2.2.1, .int sS.2.2.2.2.2.1, .int sS.2.2.2.2.2.2.1, .int sS.2.2.2.2.2.2.2, .ref zmo]))], (mt cI cO zmo sS.2.1.toNatClampNeg sS.1.toNatClampNeg rmo mM)]) hP hD [0, 1] [] rfl rfl (by decide) (by decide) hk1 hFc hP1 hD1
                have hP : va_P (dC, dI) vwCl (wJ [[(zsi, .inr (5, [.int sS.1, .int sS.2.1, .int (bI sS.2.2.1), .int sS.2.2.2.1, .int sS.2.2.2.2.1, .int sS.2.2.2.2.2.1, .int sS.2.2.2.2.2.2.1, .int sS.2.2.2.2.2.2.2, .ref zmo]))], (mt cI cO zmo sS.2.1.toNatClampNeg sS.1.toNatClampNeg rmo mM)]) H := hJ.1
                have hD : va_D (A_X6_near cI cJ cO cB zsi zmo rmo sS mM cx cy s.heap.size) (wJ [[(zsi, .inr (5, [.int sS.1, .int sS.2.1, .int (bI sS.2.2.1), .int sS.2.2.2.1, .int sS.2.2.2.2.1, .int sS.2.2.2.2.2.1, .int sS.2.2.2.2.2.2.1, .int sS.2.2.2.2.2.2.2, .ref zmo]))], (mt cI cO zmo sS.2.1.toNatClampNeg sS.1.toNatClampNeg rmo mM)]) := hJ.2
                have hP := sgP (L' := [[(zsi, .inr (5, [.int sS.1, .int sS.2.1, .int (bI sS.2.2.1), .int sS.2.2.2.1, .int sS.2.2.2.2.1, .int sS.2.2.2.2.2.1, .int sS.2.2.2.2.2.2.1, .int sS.2.2.2.2.2.2.2, .ref zmo]))], (mt cI cO zmo sS.2.1.toNatClampNeg sS.1.toNatClampNeg rmo mM)]) hP [0, 1] rfl
                have hD := sgD (L' := [[(zsi, .inr (5, [.int sS.1, .int sS.2.1, .int (bI sS.2.2.1), .int sS.2.2.2.1, .int sS.2.2.2.2.1, .int sS.2.2.2.2.2.1, .int sS.2.2.2.2.2.2.1, .int sS.2.2.2.2.2.2.2, .ref zmo]))], (mt cI cO zmo sS.2.1.toNatClampNeg sS.1.toNatClampNeg rmo mM)]) hD [0, 1] (by decide) rfl
                clear hPc hDc hFc hP1 hD1 hk1 hJ
                obtain ⟨v38, hv, hf⟩ := vbind hf
                have K48 : ∀ (H : Heap) (locs : List Loc) (ls : Array Slot), va_P (dC, dI) vwCl (wJ [[(zsi, .inr (5, [.int sS.1, .int sS.2.1, .int (bI sS.2.2.1), .int sS.2.2.2.1, .int sS.2.2.2.2.1, .int sS.2.2.2.2.2.1, .int sS.2.2.2.2.2.2.1, .int sS.2.2.2.2.2.2.2, .ref zmo]))], (mt cI cO zmo sS.2.1.toNatClampNeg sS.1.toNatClampNeg rmo mM)]) H → va_D (A_X6_near cI cJ cO cB zsi zmo rmo sS mM cx cy s.heap.size) (wJ [[(zsi, .inr (5, [.int sS.1, .int sS.2.1, .int (bI sS.2.2.1), .int sS.2.2.2.1, .int sS.2.2.2.2.1, .int sS.2.2.2.2.2.1, .int sS.2.2.2.2.2.2.1, .int sS.2.2.2.2.2.2.2, .ref zmo]))], (mt cI cO zmo sS.2.1.toNatClampNeg sS.1.toNatClampNeg rmo mM)]) → va_S (A_X6_near cI cJ cO cB zsi zmo rmo sS mM cx cy s.heap.size) s.heap H locs → lv_has ls 6 [(0, .ref zsi), (1, .int cx), (2, .int cy), (4, .int y28), (5, .int y36)] → W p l e rm_X6_near s m args below meth c H locs 0 0 (MQ below (Q_X6_near dC dI cI cJ cO cB zsi zmo rmo sS mM cx cy s.heap.size R) args s 0 0 (A_X6_near cI cJ cO cB zsi zmo rmo sS mM cx cy s.heap.size)) (F0 m 58 ls [.int v38, .int y35]) := by
                  intro H locs ls hP hD hS hl
                  refine lv_iadd hx hb dX6_near_58 ?_
                  refine lv_istore_n (lv' := [(3, .int (y35 + v38)), (0, .ref zsi), (1, .int cx), (2, .int cy), (4, .int y28), (5, .int y36)]) hx hb dX6_near_59 rfl hl (by decide) rfl (fun ls hl => ?_)
                  refine lv_iinc (v := (y36 + 1)) (lv' := [(5, .int (y36 + 1)), (3, .int (y35 + v38)), (0, .ref zsi), (1, .int cx), (2, .int cy), (4, .int y28)]) hx hb dX6_near_60 hl (k := 5) rfl rfl (by decide) rfl (fun ls hl => ?_)
                  refine lv_goto (tgt := 33) hx hb dX6_near_63 (by decide) ?_
                  exact ih47 _ _ _ _ _ hf hP hD hS (lv_sub hl [2, 3, 4, 1, 5, 0] rfl)
                clear hf; have hf := hv; clear hv
                refine lv_if_eq (tgt := 57) hx hb dX6_near_50 (by decide) (fun hc => ?_) (fun hc => ?_)
                · rw [if_pos hc] at hf
                  refine lv_iconst (v := 0) hx hb dX6_near_57 (by decide) ?_
                  obtain rfl := hf
                  exact K48 _ _ _ hP hD hS (lv_sub hl [0, 1, 2, 4, 5] rfl)
                · rw [if_neg hc] at hf
                  refine lv_iconst (v := 1) hx hb dX6_near_53 (by decide) ?_
                  refine lv_goto (tgt := 58) hx hb dX6_near_54 (by decide) ?_
                  obtain rfl := hf
                  exact K48 _ _ _ hP hD hS (lv_sub hl [0, 1, 2, 4, 5] rfl)
          exact lp46 100 _ _ _ _ _ hv hP hD hS (lv_sub hl [1, 2, 3, 4, 5, 0] rfl)
    exact lp43 100 _ _ _ _ _ hv hP hD hS (lv_sub hl [2, 3, 4, 1, 0] rfl)
  clear hf; have hf := hv; clear hv
  refine lv_if_eq (tgt := 13) hx hb dX6_near_6 (by decide) (fun hc => ?_) (fun hc => ?_)
  · rw [if_pos hc] at hf
    refine lv_iconst (v := 0) hx hb dX6_near_13 (by decide) ?_
    obtain rfl := hf
    exact K41 _ _ _ hP hD hS (lv_sub hl [0, 1, 2] rfl)
  · rw [if_neg hc] at hf
    refine lv_iconst (v := (-1)) hx hb dX6_near_9 (by decide) ?_
    refine lv_goto (tgt := 14) hx hb dX6_near_10 (by decide) ?_
    obtain rfl := hf
    exact K41 _ _ _ hP hD hS (lv_sub hl [0, 1, 2] rfl)
/-! HedgeGlidersLaw$Sim.comes(II)Z -/
def lp_X6_comes_24 (sS : SiS) (mM : Nat → Nat → Int32) (cx : Int32) (cy : Int32) : Nat → Int32 → Int32 → Option (Int32)
  | 0, _, _ => none
  | nf + 1, y7, y8 => Option.bind (f_X6_near sS mM cx cy) fun r9 => if r9 ≤ y8 then (some y7) else (lp_X6_comes_24 sS mM cx cy nf (y7 / 2) (y8 + 1))
def f_X6_comes (sS : SiS) (mM : Nat → Nat → Int32) (cx : Int32) (cy : Int32) : Option (Int32) := Option.bind (f_X6_has sS mM cx cy) fun r1 => bindv (if r1 = 0 then (sS.2.2.2.1) else (sS.2.2.2.2.1) : Int32) fun v2 => Option.bind (lp_X6_comes_24 sS mM cx cy 100 v2 0) fun v10 => if (v10 - v10 / 2 * 2) = 1 then (some 1) else (some 0)
abbrev rm_X6_comes : Room := ({ frames := 2, cells := 0, slots := 0, locals := 47 } : Room)
abbrev A_X6_comes (cI cJ cO cB : ClassId) (zsi zmo : Nat) (rmo : Nat → Nat) (sS : SiS) (mM : Nat → Nat → Int32) (cx : Int32) (cy : Int32) (sz : Nat) : Nat → Prop := va_A (wJ [[(zsi, .inr (5, [.int sS.1, .int sS.2.1, .int (bI sS.2.2.1), .int sS.2.2.2.1, .int sS.2.2.2.2.1, .int sS.2.2.2.2.2.1, .int sS.2.2.2.2.2.2.1, .int sS.2.2.2.2.2.2.2, .ref zmo]))], (mt cI cO zmo sS.2.1.toNatClampNeg sS.1.toNatClampNeg rmo mM)]) sz
abbrev Q_X6_comes (dC : Nat → ClassId) (dI : Nat → Nat → Nat) (cI cJ cO cB : ClassId) (zsi zmo : Nat) (rmo : Nat → Nat) (sS : SiS) (mM : Nat → Nat → Int32) (cx : Int32) (cy : Int32) (sz : Nat) (R : Int32) : Array Value → State → Outcome → State → Prop := va_Qi (fun (r : Int32) (_ : Unit) => r = R) (fun u_ t => va_P (dC, dI) vwCl (wJ [[(zsi, .inr (5, [.int sS.1, .int sS.2.1, .int (bI sS.2.2.1), .int sS.2.2.2.1, .int sS.2.2.2.2.1, .int sS.2.2.2.2.2.1, .int sS.2.2.2.2.2.2.1, .int sS.2.2.2.2.2.2.2, .ref zmo]))], (mt cI cO zmo sS.2.1.toNatClampNeg sS.1.toNatClampNeg rmo mM)]) t.heap ∧ va_K (dC, dI) vwCl [(cI, .int), (cJ, .long), (cO, .array .int), (cB, .boolean)] t ∧ va_D (A_X6_comes cI cJ cO cB zsi zmo rmo sS mM cx cy sz) (wJ [[(zsi, .inr (5, [.int sS.1, .int sS.2.1, .int (bI sS.2.2.1), .int sS.2.2.2.1, .int sS.2.2.2.2.1, .int sS.2.2.2.2.2.1, .int sS.2.2.2.2.2.2.1, .int sS.2.2.2.2.2.2.2, .ref zmo]))], (mt cI cO zmo sS.2.1.toNatClampNeg sS.1.toNatClampNeg rmo mM)])) (A_X6_comes cI cJ cO cB zsi zmo rmo sS mM cx cy sz)
set_option maxHeartbeats 4000000 in
set_option maxRecDepth 100000 in
theorem c_X6_comes (l : Launch) (dC : Nat → ClassId) (dI : Nat → Nat → Nat) (cI cJ cO cB : ClassId) (zsi zmo : Nat) (sz : Nat) (rmo : Nat → Nat) (sS : SiS) (mM : Nat → Nat → Int32) (cx : Int32) (cy : Int32) (R : Int32) (hR : f_X6_comes sS mM cx cy = some R) : Met l yX6_comes wsX6_comes rm_X6_comes (va_Pc [.ref zsi, .int cx, .int cy] (fun U => U.heap.size = sz ∧ va_P (dC, dI) vwCl (wJ [[(zsi, .inr (5, [.int sS.1, .int sS.2.1, .int (bI sS.2.2.1), .int sS.2.2.2.1, .int sS.2.2.2.2.1, .int sS.2.2.2.2.2.1, .int sS.2.2.2.2.2.2.1, .int sS.2.2.2.2.2.2.2, .ref zmo]))], (mt cI cO zmo sS.2.1.toNatClampNeg sS.1.toNatClampNeg rmo mM)]) U.heap ∧ va_K (dC, dI) vwCl [(cI, .int), (cJ, .long), (cO, .array .int), (cB, .boolean)] U ∧ va_D (fun _ => True) (wJ [[(zsi, .inr (5, [.int sS.1, .int sS.2.1, .int (bI sS.2.2.1), .int sS.2.2.2.1, .int sS.2.2.2.2.1, .int sS.2.2.2.2.2.1, .int sS.2.2.2.2.2.2.1, .int sS.2.2.2.2.2.2.2, .ref zmo]))], (mt cI cO zmo sS.2.1.toNatClampNeg sS.1.toNatClampNeg rmo mM)]))) (Q_X6_comes dC dI cI cJ cO cB zsi zmo rmo sS mM cx cy sz R) 0 0 (A_X6_comes cI cJ cO cB zsi zmo rmo sS mM cx cy sz) := by
  have hf := hR
  refine Met.ofW (cc := cX6_comes) (maxL := 5) (ret := (some .boolean)) (by decide) rfl ?_
  intro p e s m args below meth c s₁ B hml hv
  obtain ⟨hargs, hsz, hP, hK, hD0⟩ := hv
  have hx := B.exec
  have hb := B.bytes
  have hr := B.returns
  have hts := atoms_spec (ws := wsX6_comes) B.pre
  have hown : s.vm.findClass RX6 = some m.cls := findClass_of_methodNamed B.named
  have hlocks := B.notSynchronized
  subst hsz
  have hK2 : va_K (dC, dI) vwCl [(cI, .int), (cJ, .long)] s := hK.sub [0, 1] rfl
  have hD : va_D (A_X6_comes cI cJ cO cB zsi zmo rmo sS mM cx cy s.heap.size) (wJ [[(zsi, .inr (5, [.int sS.1, .int sS.2.1, .int (bI sS.2.2.1), .int sS.2.2.2.1, .int sS.2.2.2.2.1, .int sS.2.2.2.2.2.1, .int sS.2.2.2.2.2.2.1, .int sS.2.2.2.2.2.2.2, .ref zmo]))], (mt cI cO zmo sS.2.1.toNatClampNeg sS.1.toNatClampNeg rmo mM)]) := hD0.self (sz := s.heap.size)
  have hA : ∀ q : Nat, s.heap.size ≤ q → (A_X6_comes cI cJ cO cB zsi zmo rmo sS mM cx cy s.heap.size) q := fun q h => Or.inr h
  have hS : va_S (A_X6_comes cI cJ cO cB zsi zmo rmo sS mM cx cy s.heap.size) s.heap s.heap [] := va_S.rf
  have hinX6 : ∀ w ∈ wsX60, w ∈ wsX6_comes := by decide +kernel
  have hw0 := hts (.fieldLink RX6 16 "HedgeGlidersLaw$Sim" "births" "I") (by decide +kernel)
  have hw1 := hts (.fieldLink RX6 19 "HedgeGlidersLaw$Sim" "stays" "I") (by decide +kernel)
  have hl := lv_entry ([.ref zsi, .int cx, .int cy]) (n := 5) (Nat.le_of_ble_eq_true rfl)
  have he0 : entryFrame m args 5 = entryFrame m ([.ref zsi, .int cx, .int cy] : List Value).toArray 5 := by rw [hargs]
  rw [he0, lg_entry_eq]
  generalize (lg_sl ([.ref zsi, .int cx, .int cy]) ++ List.replicate (5 - (lg_sl ([.ref zsi, .int cx, .int cy])).length) Slot.unset).toArray = ls at hl ⊢
  have hl : lv_has ls 5 [(0, .ref zsi), (1, .int cx), (2, .int cy)] := hl
  rw [f_X6_comes] at hf
  refine lv_aload_n hx hb dX6_comes_0 rfl (lv_at hl 0 rfl) ?_
  refine lv_iload_n hx hb dX6_comes_1 rfl (lv_at hl 1 rfl) ?_
  refine lv_iload_n hx hb dX6_comes_2 rfl (lv_at hl 2 rfl) ?_
  obtain ⟨r1, hr1, hf⟩ := obind hf
  have hPc : va_P (dC, dI) vwCl (wJ [[(zsi, .inr (5, [.int sS.1, .int sS.2.1, .int (bI sS.2.2.1), .int sS.2.2.2.1, .int sS.2.2.2.2.1, .int sS.2.2.2.2.2.1, .int sS.2.2.2.2.2.2.1, .int sS.2.2.2.2.2.2.2, .ref zmo]))], (mt cI cO zmo sS.2.1.toNatClampNeg sS.1.toNatClampNeg rmo mM)]) s.heap := sgP (L' := [[(zsi, .inr (5, [.int sS.1, .int sS.2.1, .int (bI sS.2.2.1), .int sS.2.2.2.1, .int sS.2.2.2.2.1, .int sS.2.2.2.2.2.1, .int sS.2.2.2.2.2.2.1, .int sS.2.2.2.2.2.2.2, .ref zmo]))], (mt cI cO zmo sS.2.1.toNatClampNeg sS.1.toNatClampNeg rmo mM)]) hP [0, 1] rfl
  have hDc : va_D (A_X6_comes cI cJ cO cB zsi zmo rmo sS mM cx cy s.heap.size) (wJ [[(zsi, .inr (5, [.int sS.1, .int sS.2.1, .int (bI sS.2.2.1), .int sS.2.2.2.1, .int sS.2.2.2.2.1, .int sS.2.2.2.2.2.1, .int sS.2.2.2.2.2.2.1, .int sS.2.2.2.2.2.2.2, .ref zmo]))], (mt cI cO zmo sS.2.1.toNatClampNeg sS.1.toNatClampNeg rmo mM)]) := sgD (L' := [[(zsi, .inr (5, [.int sS.1, .int sS.2.1, .int (bI sS.2.2.1), .int sS.2.2.2.1, .int sS.2.2.2.2.1, .int sS.2.2.2.2.2.1, .int sS.2.2.2.2.2.2.1, .int sS.2.2.2.2.2.2.2, .ref zmo]))], (mt cI cO zmo sS.2.1.toNatClampNeg sS.1.toNatClampNeg rmo mM)]) hD [0, 1] (by decide) rfl
  have hFc : ∀ q, va_A (wJ [[(zsi, .inr (5, [.int sS.1, .int sS.2.1, .int (bI sS.2.2.1), .int sS.2.2.2.1, .int sS.2.2.2.2.1, .int sS.2.2.2.2.2.1, .int sS.2.2.2.2.2.2.1, .int sS.2.2.2.2.2.2.2, .ref zmo]))], (mt cI cO zmo sS.2.1.toNatClampNeg sS.1.toNatClampNeg rmo mM)]) s.heap.size q → (A_X6_comes cI cJ cO cB zsi zmo rmo sS mM cx cy s.heap.size) q := sg_free (W := [[(zsi, .inr (5, [.int sS.1, .int sS.2.1, .int (bI sS.2.2.1), .int sS.2.2.2.1, .int sS.2.2.2.2.1, .int sS.2.2.2.2.2.1, .int sS.2.2.2.2.2.2.1, .int sS.2.2.2.2.2.2.2, .ref zmo]))], (mt cI cO zmo sS.2.1.toNatClampNeg sS.1.toNatClampNeg rmo mM)]) hD hS hA [0, 1] rfl
  refine va_calli (va_runV (As := [.int cx, .int cy]) (rest := []) ⟨hx, hb, hml, hown, hts⟩ (c_X6_has l dC dI cI cJ cO cB zsi zmo s.heap.size rmo sS mM cx cy _ hr1) (cwV 2 hts gX6_comes_X6_has rfl rfl rfl (by decide +kernel) ⟨Nat.le_of_ble_eq_true rfl, Nat.le_of_ble_eq_true rfl⟩) ⟨fun a U gg mk q => by obtain ⟨q0, q1, qP, qK, qD⟩ := q; exact ⟨q0, q1, qP, va_K.moved (u := U) (U := U.calling gg mk a) (Vm.Alike.refl U.vm) qK, qD⟩, va_recv hK hPc (ci := 5) (q0 := 0) rfl rfl, fun U hU hW => ⟨rfl, by rw [hU], by rw [hU]; exact hPc, va_K.moved hW.alike hK, hDc.weaken (fun _ _ _ _ => trivial)⟩⟩ rfl rfl hl.1 rfl (lv_room (Nat.le_of_ble_eq_true rfl)) dX6_comes_3 ⟨(Nat.le_of_ble_eq_true rfl), (Nat.le_of_ble_eq_true rfl)⟩) hS (fun q _ h => hFc q h) hFc (fun r_ u_ t H locs ht hvm hw hB hz1 hk1 hS => ?_)
  obtain rfl := hw.symm
  obtain ⟨hP1, -, hD1⟩ := hB
  rw [ht] at hP1
  have hJ := sg_join2 (W := [[(zsi, .inr (5, [.int sS.1, .int sS.2.1, .int (bI sS.2.2.1), .int sS.2.2.2.1, .int sS.2.2.2.2.1, .int sS.2.2.2.2.2.1, .int sS.2.2.2.2.2.2.1, .int sS.2.2.2.2.2.2.2, .ref zmo]))], (mt cI cO zmo sS.2.1.toNatClampNeg sS.1.toNatClampNeg rmo mM)]) (R := []) (W1 := [[(zsi, .inr (5, [.int sS.1, .int sS.2.1, .int (bI sS.2.2.1), .int sS.2.2.2.1, .int sS.2.2.2.2.1, .int sS.2.2.2.2.2.1, .int sS.2.2.2.2.2.2.1, .int sS.2.2.2.2.2.2.2, .ref zmo]))], (mt cI cO zmo sS.2.1.toNatClampNeg sS.1.toNatClampNeg rmo mM)]) hP hD [0, 1] [] rfl rfl (by decide) (by decide) hk1 hFc hP1 hD1
  have hP : va_P (dC, dI) vwCl (wJ [[(zsi, .inr (5, [.int sS.1, .int sS.2.1, .int (bI sS.2.2.1), .int sS.2.2.2.1, .int sS.2.2.2.2.1, .int sS.2.2.2.2.2.1, .int sS.2.2.2.2.2.2.1, .int sS.2.2.2.2.2.2.2, .ref zmo]))], (mt cI cO zmo sS.2.1.toNatClampNeg sS.1.toNatClampNeg rmo mM)]) H := hJ.1
  have hD : va_D (A_X6_comes cI cJ cO cB zsi zmo rmo sS mM cx cy s.heap.size) (wJ [[(zsi, .inr (5, [.int sS.1, .int sS.2.1, .int (bI sS.2.2.1), .int sS.2.2.2.1, .int sS.2.2.2.2.1, .int sS.2.2.2.2.2.1, .int sS.2.2.2.2.2.2.1, .int sS.2.2.2.2.2.2.2, .ref zmo]))], (mt cI cO zmo sS.2.1.toNatClampNeg sS.1.toNatClampNeg rmo mM)]) := hJ.2
  have hP := sgP (L' := [[(zsi, .inr (5, [.int sS.1, .int sS.2.1, .int (bI sS.2.2.1), .int sS.2.2.2.1, .int sS.2.2.2.2.1, .int sS.2.2.2.2.2.1, .int sS.2.2.2.2.2.2.1, .int sS.2.2.2.2.2.2.2, .ref zmo]))], (mt cI cO zmo sS.2.1.toNatClampNeg sS.1.toNatClampNeg rmo mM)]) hP [0, 1] rfl
  have hD := sgD (L' := [[(zsi, .inr (5, [.int sS.1, .int sS.2.1, .int (bI sS.2.2.1), .int sS.2.2.2.1, .int sS.2.2.2.2.1, .int sS.2.2.2.2.2.1, .int sS.2.2.2.2.2.2.1, .int sS.2.2.2.2.2.2.2, .ref zmo]))], (mt cI cO zmo sS.2.1.toNatClampNeg sS.1.toNatClampNeg rmo mM)]) hD [0, 1] (by decide) rfl
  clear hPc hDc hFc hP1 hD1 hk1 hJ
  obtain ⟨v2, hv, hf⟩ := vbind hf
  have K11 : ∀ (H : Heap) (locs : List Loc) (ls : Array Slot), va_P (dC, dI) vwCl (wJ [[(zsi, .inr (5, [.int sS.1, .int sS.2.1, .int (bI sS.2.2.1), .int sS.2.2.2.1, .int sS.2.2.2.2.1, .int sS.2.2.2.2.2.1, .int sS.2.2.2.2.2.2.1, .int sS.2.2.2.2.2.2.2, .ref zmo]))], (mt cI cO zmo sS.2.1.toNatClampNeg sS.1.toNatClampNeg rmo mM)]) H → va_D (A_X6_comes cI cJ cO cB zsi zmo rmo sS mM cx cy s.heap.size) (wJ [[(zsi, .inr (5, [.int sS.1, .int sS.2.1, .int (bI sS.2.2.1), .int sS.2.2.2.1, .int sS.2.2.2.2.1, .int sS.2.2.2.2.2.1, .int sS.2.2.2.2.2.2.1, .int sS.2.2.2.2.2.2.2, .ref zmo]))], (mt cI cO zmo sS.2.1.toNatClampNeg sS.1.toNatClampNeg rmo mM)]) → va_S (A_X6_comes cI cJ cO cB zsi zmo rmo sS mM cx cy s.heap.size) s.heap H locs → lv_has ls 5 [(0, .ref zsi), (1, .int cx), (2, .int cy)] → W p l e rm_X6_comes s m args below meth c H locs 0 0 (MQ below (Q_X6_comes dC dI cI cJ cO cB zsi zmo rmo sS mM cx cy s.heap.size R) args s 0 0 (A_X6_comes cI cJ cO cB zsi zmo rmo sS mM cx cy s.heap.size)) (F0 m 20 ls [.int v2]) := by
    intro H locs ls hP hD hS hl
    refine lv_istore_n (lv' := [(3, .int v2), (0, .ref zsi), (1, .int cx), (2, .int cy)]) hx hb dX6_comes_20 rfl hl (by decide) rfl (fun ls hl => ?_)
    refine lv_iconst (v := 0) hx hb dX6_comes_21 (by decide) ?_
    refine lv_istore (lv' := [(4, .int 0), (3, .int v2), (0, .ref zsi), (1, .int cx), (2, .int cy)]) hx hb dX6_comes_22 hl (by decide) rfl (fun ls hl => ?_)
    obtain ⟨v10, hv, hf⟩ := obind hf
    have K12 : ∀ (H : Heap) (locs : List Loc) (ls : Array Slot), va_P (dC, dI) vwCl (wJ [[(zsi, .inr (5, [.int sS.1, .int sS.2.1, .int (bI sS.2.2.1), .int sS.2.2.2.1, .int sS.2.2.2.2.1, .int sS.2.2.2.2.2.1, .int sS.2.2.2.2.2.2.1, .int sS.2.2.2.2.2.2.2, .ref zmo]))], (mt cI cO zmo sS.2.1.toNatClampNeg sS.1.toNatClampNeg rmo mM)]) H → va_D (A_X6_comes cI cJ cO cB zsi zmo rmo sS mM cx cy s.heap.size) (wJ [[(zsi, .inr (5, [.int sS.1, .int sS.2.1, .int (bI sS.2.2.1), .int sS.2.2.2.1, .int sS.2.2.2.2.1, .int sS.2.2.2.2.2.1, .int sS.2.2.2.2.2.2.1, .int sS.2.2.2.2.2.2.2, .ref zmo]))], (mt cI cO zmo sS.2.1.toNatClampNeg sS.1.toNatClampNeg rmo mM)]) → va_S (A_X6_comes cI cJ cO cB zsi zmo rmo sS mM cx cy s.heap.size) s.heap H locs → lv_has ls 5 [(3, .int v10)] → W p l e rm_X6_comes s m args below meth c H locs 0 0 (MQ below (Q_X6_comes dC dI cI cJ cO cB zsi zmo rmo sS mM cx cy s.heap.size R) args s 0 0 (A_X6_comes cI cJ cO cB zsi zmo rmo sS mM cx cy s.heap.size)) (F0 m 45 ls []) := by
      intro H locs ls hP hD hS hl
      refine lv_iload_n hx hb dX6_comes_45 rfl (lv_at hl 0 rfl) ?_
      refine lv_iconst (v := 2) hx hb dX6_comes_46 (by decide) ?_
      refine lv_irem hx hb dX6_comes_47 (by decide) ?_
      refine lv_iconst (v := 1) hx hb dX6_comes_48 (by decide) ?_
      refine lv_icmp_ne (tgt := 56) hx hb dX6_comes_49 (by decide) (fun hc => ?_) (fun hc => ?_)
      · rw [if_neg hc] at hf
        refine lv_iconst (v := 0) hx hb dX6_comes_56 (by decide) ?_
        obtain rfl := Option.some.inj hf
        exact W.zret (v := 0) (ty := .boolean) hx hb hr rfl (fun t ht hW => ⟨⟨0, (), rfl, rfl, by rw [ht]; exact hP, va_K.moved hW.alike hK, hD⟩, hS.F ht⟩) hS.2.2 dX6_comes_57
      · rw [if_pos hc] at hf
        refine lv_iconst (v := 1) hx hb dX6_comes_52 (by decide) ?_
        refine lv_goto (tgt := 57) hx hb dX6_comes_53 (by decide) ?_
        obtain rfl := Option.some.inj hf
        exact W.zret (v := 1) (ty := .boolean) hx hb hr rfl (fun t ht hW => ⟨⟨1, (), rfl, rfl, by rw [ht]; exact hP, va_K.moved hW.alike hK, hD⟩, hS.F ht⟩) hS.2.2 dX6_comes_57
    have lp13 : ∀ (nf24 : Nat) (y7 : Int32) (y8 : Int32) (H : Heap) (locs : List Loc) (ls : Array Slot), lp_X6_comes_24 sS mM cx cy nf24 y7 y8 = some v10 → va_P (dC, dI) vwCl (wJ [[(zsi, .inr (5, [.int sS.1, .int sS.2.1, .int (bI sS.2.2.1), .int sS.2.2.2.1, .int sS.2.2.2.2.1, .int sS.2.2.2.2.2.1, .int sS.2.2.2.2.2.2.1, .int sS.2.2.2.2.2.2.2, .ref zmo]))], (mt cI cO zmo sS.2.1.toNatClampNeg sS.1.toNatClampNeg rmo mM)]) H → va_D (A_X6_comes cI cJ cO cB zsi zmo rmo sS mM cx cy s.heap.size) (wJ [[(zsi, .inr (5, [.int sS.1, .int sS.2.1, .int (bI sS.2.2.1), .int sS.2.2.2.1, .int sS.2.2.2.2.1, .int sS.2.2.2.2.2.1, .int sS.2.2.2.2.2.2.1, .int sS.2.2.2.2.2.2.2, .ref zmo]))], (mt cI cO zmo sS.2.1.toNatClampNeg sS.1.toNatClampNeg rmo mM)]) → va_S (A_X6_comes cI cJ cO cB zsi zmo rmo sS mM cx cy s.heap.size) s.heap H locs → lv_has ls 5 [(0, .ref zsi), (1, .int cx), (2, .int cy), (3, .int y7), (4, .int y8)] → W p l e rm_X6_comes s m args below meth c H locs 0 0 (MQ below (Q_X6_comes dC dI cI cJ cO cB zsi zmo rmo sS mM cx cy s.heap.size R) args s 0 0 (A_X6_comes cI cJ cO cB zsi zmo rmo sS mM cx cy s.heap.size)) (F0 m 24 ls []) := by
      intro nf24
      induction nf24 with
      | zero => intro y7 y8 H locs ls h9; exact nomatch h9
      | succ nf24 ih14 =>
        intro y7 y8 H locs ls hf hP hD hS hl
        rw [lp_X6_comes_24.eq_2] at hf
        refine lv_iload hx hb dX6_comes_24 (lv_at hl 4 rfl) ?_
        refine lv_aload_n hx hb dX6_comes_26 rfl (lv_at hl 0 rfl) ?_
        refine lv_iload_n hx hb dX6_comes_27 rfl (lv_at hl 1 rfl) ?_
        refine lv_iload_n hx hb dX6_comes_28 rfl (lv_at hl 2 rfl) ?_
        obtain ⟨r9, hr9, hf⟩ := obind hf
        have hPc : va_P (dC, dI) vwCl (wJ [[(zsi, .inr (5, [.int sS.1, .int sS.2.1, .int (bI sS.2.2.1), .int sS.2.2.2.1, .int sS.2.2.2.2.1, .int sS.2.2.2.2.2.1, .int sS.2.2.2.2.2.2.1, .int sS.2.2.2.2.2.2.2, .ref zmo]))], (mt cI cO zmo sS.2.1.toNatClampNeg sS.1.toNatClampNeg rmo mM)]) H := sgP (L' := [[(zsi, .inr (5, [.int sS.1, .int sS.2.1, .int (bI sS.2.2.1), .int sS.2.2.2.1, .int sS.2.2.2.2.1, .int sS.2.2.2.2.2.1, .int sS.2.2.2.2.2.2.1, .int sS.2.2.2.2.2.2.2, .ref zmo]))], (mt cI cO zmo sS.2.1.toNatClampNeg sS.1.toNatClampNeg rmo mM)]) hP [0, 1] rfl
        have hDc : va_D (A_X6_comes cI cJ cO cB zsi zmo rmo sS mM cx cy s.heap.size) (wJ [[(zsi, .inr (5, [.int sS.1, .int sS.2.1, .int (bI sS.2.2.1), .int sS.2.2.2.1, .int sS.2.2.2.2.1, .int sS.2.2.2.2.2.1, .int sS.2.2.2.2.2.2.1, .int sS.2.2.2.2.2.2.2, .ref zmo]))], (mt cI cO zmo sS.2.1.toNatClampNeg sS.1.toNatClampNeg rmo mM)]) := sgD (L' := [[(zsi, .inr (5, [.int sS.1, .int sS.2.1, .int (bI sS.2.2.1), .int sS.2.2.2.1, .int sS.2.2.2.2.1, .int sS.2.2.2.2.2.1, .int sS.2.2.2.2.2.2.1, .int sS.2.2.2.2.2.2.2, .ref zmo]))], (mt cI cO zmo sS.2.1.toNatClampNeg sS.1.toNatClampNeg rmo mM)]) hD [0, 1] (by decide) rfl
        have hFc : ∀ q, va_A (wJ [[(zsi, .inr (5, [.int sS.1, .int sS.2.1, .int (bI sS.2.2.1), .int sS.2.2.2.1, .int sS.2.2.2.2.1, .int sS.2.2.2.2.2.1, .int sS.2.2.2.2.2.2.1, .int sS.2.2.2.2.2.2.2, .ref zmo]))], (mt cI cO zmo sS.2.1.toNatClampNeg sS.1.toNatClampNeg rmo mM)]) H.size q → (A_X6_comes cI cJ cO cB zsi zmo rmo sS mM cx cy s.heap.size) q := sg_free (W := [[(zsi, .inr (5, [.int sS.1, .int sS.2.1, .int (bI sS.2.2.1), .int sS.2.2.2.1, .int sS.2.2.2.2.1, .int sS.2.2.2.2.2.1, .int sS.2.2.2.2.2.2.1, .int sS.2.2.2.2.2.2.2, .ref zmo]))], (mt cI cO zmo sS.2.1.toNatClampNeg sS.1.toNatClampNeg rmo mM)]) hD hS hA [0, 1] rfl
        refine va_calli (va_runV (As := [.int cx, .int cy]) (rest := [.int y8]) ⟨hx, hb, hml, hown, hts⟩ (c_X6_near l dC dI cI cJ cO cB zsi zmo H.size rmo sS mM cx cy _ hr9) (cwV 2 hts gX6_comes_X6_near rfl rfl rfl (by decide +kernel) ⟨Nat.le_of_ble_eq_true rfl, Nat.le_of_ble_eq_true rfl⟩) ⟨fun a U gg mk q => by obtain ⟨q0, q1, qP, qK, qD⟩ := q; exact ⟨q0, q1, qP, va_K.moved (u := U) (U := U.calling gg mk a) (Vm.Alike.refl U.vm) qK, qD⟩, va_recv hK hPc (ci := 5) (q0 := 0) rfl rfl, fun U hU hW => ⟨rfl, by rw [hU], by rw [hU]; exact hPc, va_K.moved hW.alike hK, hDc.weaken (fun _ _ _ _ => trivial)⟩⟩ rfl rfl hl.1 rfl (lv_room (Nat.le_of_ble_eq_true rfl)) dX6_comes_29 ⟨(Nat.le_of_ble_eq_true rfl), (Nat.le_of_ble_eq_true rfl)⟩) hS (fun q _ h => hFc q h) hFc (fun r_ u_ t H locs ht hvm hw hB hz1 hk1 hS => ?_)
        obtain rfl := hw.symm
        obtain ⟨hP1, -, hD1⟩ := hB
        rw [ht] at hP1
        have hJ := sg_join2 (W := [[(zsi, .inr (5, [.int sS.1, .int sS.2.1, .int (bI sS.2.2.1), .int sS.2.2.2.1, .int sS.2.2.2.2.1, .int sS.2.2.2.2.2.1, .int sS.2.2.2.2.2.2.1, .int sS.2.2.2.2.2.2.2, .ref zmo]))], (mt cI cO zmo sS.2.1.toNatClampNeg sS.1.toNatClampNeg rmo mM)]) (R := []) (W1 := [[(zsi, .inr (5, [.int sS.1, .int sS.2.1, .int (bI sS.2.2.1), .int sS.2.2.2.1, .int sS.2.2.2.2.1, .int sS.2.2.2.2.2.1, .int sS.2.2.2.2.2.2.1, .int sS.2.2.2.2.2.2.2, .ref zmo]))], (mt cI cO zmo sS.2.1.toNatClampNeg sS.1.toNatClampNeg rmo mM)]) hP hD [0, 1] [] rfl rfl (by decide) (by decide) hk1 hFc hP1 hD1
        have hP : va_P (dC, dI) vwCl (wJ [[(zsi, .inr (5, [.int sS.1, .int sS.2.1, .int (bI sS.2.2.1), .int sS.2.2.2.1, .int sS.2.2.2.2.1, .int sS.2.2.2.2.2.1, .int sS.2.2.2.2.2.2.1, .int sS.2.2.2.2.2.2.2, .ref zmo]))], (mt cI cO zmo sS.2.1.toNatClampNeg sS.1.toNatClampNeg rmo mM)]) H := hJ.1
        have hD : va_D (A_X6_comes cI cJ cO cB zsi zmo rmo sS mM cx cy s.heap.size) (wJ [[(zsi, .inr (5, [.int sS.1, .int sS.2.1, .int (bI sS.2.2.1), .int sS.2.2.2.1, .int sS.2.2.2.2.1, .int sS.2.2.2.2.2.1, .int sS.2.2.2.2.2.2.1, .int sS.2.2.2.2.2.2.2, .ref zmo]))], (mt cI cO zmo sS.2.1.toNatClampNeg sS.1.toNatClampNeg rmo mM)]) := hJ.2
        have hP := sgP (L' := [[(zsi, .inr (5, [.int sS.1, .int sS.2.1, .int (bI sS.2.2.1), .int sS.2.2.2.1, .int sS.2.2.2.2.1, .int sS.2.2.2.2.2.1, .int sS.2.2.2.2.2.2.1, .int sS.2.2.2.2.2.2.2, .ref zmo]))], (mt cI cO zmo sS.2.1.toNatClampNeg sS.1.toNatClampNeg rmo mM)]) hP [0, 1] rfl
        have hD := sgD (L' := [[(zsi, .inr (5, [.int sS.1, .int sS.2.1, .int (bI sS.2.2.1), .int sS.2.2.2.1, .int sS.2.2.2.2.1, .int sS.2.2.2.2.2.1, .int sS.2.2.2.2.2.2.1, .int sS.2.2.2.2.2.2.2, .ref zmo]))], (mt cI cO zmo sS.2.1.toNatClampNeg sS.1.toNatClampNeg rmo mM)]) hD [0, 1] (by decide) rfl
        clear hPc hDc hFc hP1 hD1 hk1 hJ
        refine lv_icmp_ge (tgt := 45) hx hb dX6_comes_32 (by decide) (fun hc => ?_) (fun hc => ?_)
        · rw [if_pos hc] at hf
          obtain rfl := Option.some.inj hf
          exact K12 _ _ _ hP hD hS (lv_sub hl [3] rfl)
        · rw [if_neg hc] at hf
          refine lv_iload_n hx hb dX6_comes_35 rfl (lv_at hl 3 rfl) ?_
          refine lv_iconst (v := 2) hx hb dX6_comes_36 (by decide) ?_
          refine lv_idiv hx hb dX6_comes_37 (by decide) ?_
          refine lv_istore_n (lv' := [(3, .int (y7 / 2)), (0, .ref zsi), (1, .int cx), (2, .int cy), (4, .int y8)]) hx hb dX6_comes_38 rfl hl (by decide) rfl (fun ls hl => ?_)
          refine lv_iinc (v := (y8 + 1)) (lv' := [(4, .int (y8 + 1)), (3, .int (y7 / 2)), (0, .ref zsi), (1, .int cx), (2, .int cy)]) hx hb dX6_comes_39 hl (k := 4) rfl rfl (by decide) rfl (fun ls hl => ?_)
          refine lv_goto (tgt := 24) hx hb dX6_comes_42 (by decide) ?_
          exact ih14 _ _ _ _ _ hf hP hD hS (lv_sub hl [2, 3, 4, 1, 0] rfl)
    exact lp13 100 _ _ _ _ _ hv hP hD hS (lv_sub hl [2, 3, 4, 1, 0] rfl)
  clear hf; have hf := hv; clear hv
  refine lv_if_eq (tgt := 16) hx hb dX6_comes_6 (by decide) (fun hc => ?_) (fun hc => ?_)
  · rw [if_pos hc] at hf
    refine lv_aload_n hx hb dX6_comes_16 rfl (lv_at hl 0 rfl) ?_
    refine va_get (D := (dC, dI)) (ci := 5) (v := .int sS.2.2.2.1) (C := RX6) (T := TX6) (N := 9) hx hb hts hinX6 hown hK hP 0 rfl rfl 3 (by decide) hw0 (fun _ h9 => h9) rfl dX6_comes_17 ?_
    obtain rfl := hf
    exact K11 _ _ _ hP hD hS (lv_sub hl [0, 1, 2] rfl)
  · rw [if_neg hc] at hf
    refine lv_aload_n hx hb dX6_comes_9 rfl (lv_at hl 0 rfl) ?_
    refine va_get (D := (dC, dI)) (ci := 5) (v := .int sS.2.2.2.2.1) (C := RX6) (T := TX6) (N := 9) hx hb hts hinX6 hown hK hP 0 rfl rfl 4 (by decide) hw1 (fun _ h9 => h9) rfl dX6_comes_10 ?_
    refine lv_goto (tgt := 20) hx hb dX6_comes_13 (by decide) ?_
    obtain rfl := hf
    exact K11 _ _ _ hP hD hS (lv_sub hl [0, 1, 2] rfl)
/-! HedgeGlidersLaw$Sim.hedges()I -/
def lp_X6_hedges_37 (sS : SiS) (mM : Nat → Nat → Int32) (y28 : Int32) : Nat → Int32 → Int32 → Option (Int32)
  | 0, _, _ => none
  | nf + 1, y36, y37 => if (Int32.ofNat sS.1.toNatClampNeg) ≤ y37 then (some y36) else (if y37 < 0 ∨ sS.1.toNatClampNeg ≤ y37.toNatClampNeg then none else bindv (if (mM y28.toNatClampNeg y37.toNatClampNeg) < 0 then (0) else (1) : Int32) fun v39 => lp_X6_hedges_37 sS mM y28 nf (y36 + v39) (y37 + 1))
def lp_X6_hedges_13 (sS : SiS) (mM : Nat → Nat → Int32) : Nat → Int32 → Int32 → Option (Int32)
  | 0, _, _ => none
  | nf + 1, y27, y28 => if (Int32.ofNat sS.2.1.toNatClampNeg) ≤ y28 then (some y27) else (if y28 < 0 ∨ sS.2.1.toNatClampNeg ≤ y28.toNatClampNeg then none else Option.bind (lp_X6_hedges_37 sS mM y28 100 y27 0) fun v40 => lp_X6_hedges_13 sS mM nf v40 (y28 + 1))
def f_X6_hedges (sS : SiS) (mM : Nat → Nat → Int32) : Option (Int32) := Option.bind (lp_X6_hedges_13 sS mM 100 0 0) fun v41 => some v41
abbrev rm_X6_hedges : Room := ({ frames := 0, cells := 0, slots := 0, locals := 0 } : Room)
abbrev A_X6_hedges (cI cJ cO cB : ClassId) (zsi zmo : Nat) (rmo : Nat → Nat) (sS : SiS) (mM : Nat → Nat → Int32) (sz : Nat) : Nat → Prop := va_A (wJ [[(zsi, .inr (5, [.int sS.1, .int sS.2.1, .int (bI sS.2.2.1), .int sS.2.2.2.1, .int sS.2.2.2.2.1, .int sS.2.2.2.2.2.1, .int sS.2.2.2.2.2.2.1, .int sS.2.2.2.2.2.2.2, .ref zmo]))], (mt cI cO zmo sS.2.1.toNatClampNeg sS.1.toNatClampNeg rmo mM)]) sz
abbrev Q_X6_hedges (dC : Nat → ClassId) (dI : Nat → Nat → Nat) (cI cJ cO cB : ClassId) (zsi zmo : Nat) (rmo : Nat → Nat) (sS : SiS) (mM : Nat → Nat → Int32) (sz : Nat) (R : Int32) : Array Value → State → Outcome → State → Prop := va_Qi (fun (r : Int32) (_ : Unit) => r = R) (fun u_ t => va_P (dC, dI) vwCl (wJ [[(zsi, .inr (5, [.int sS.1, .int sS.2.1, .int (bI sS.2.2.1), .int sS.2.2.2.1, .int sS.2.2.2.2.1, .int sS.2.2.2.2.2.1, .int sS.2.2.2.2.2.2.1, .int sS.2.2.2.2.2.2.2, .ref zmo]))], (mt cI cO zmo sS.2.1.toNatClampNeg sS.1.toNatClampNeg rmo mM)]) t.heap ∧ va_K (dC, dI) vwCl [(cI, .int), (cJ, .long), (cO, .array .int), (cB, .boolean)] t ∧ va_D (A_X6_hedges cI cJ cO cB zsi zmo rmo sS mM sz) (wJ [[(zsi, .inr (5, [.int sS.1, .int sS.2.1, .int (bI sS.2.2.1), .int sS.2.2.2.1, .int sS.2.2.2.2.1, .int sS.2.2.2.2.2.1, .int sS.2.2.2.2.2.2.1, .int sS.2.2.2.2.2.2.2, .ref zmo]))], (mt cI cO zmo sS.2.1.toNatClampNeg sS.1.toNatClampNeg rmo mM)])) (A_X6_hedges cI cJ cO cB zsi zmo rmo sS mM sz)
set_option maxHeartbeats 4000000 in
set_option maxRecDepth 100000 in
theorem c_X6_hedges (l : Launch) (dC : Nat → ClassId) (dI : Nat → Nat → Nat) (cI cJ cO cB : ClassId) (zsi zmo : Nat) (sz : Nat) (rmo : Nat → Nat) (sS : SiS) (mM : Nat → Nat → Int32) (R : Int32) (hR : f_X6_hedges sS mM = some R) : Met l yX6_hedges wsX6_hedges rm_X6_hedges (va_Pc [.ref zsi] (fun U => U.heap.size = sz ∧ va_P (dC, dI) vwCl (wJ [[(zsi, .inr (5, [.int sS.1, .int sS.2.1, .int (bI sS.2.2.1), .int sS.2.2.2.1, .int sS.2.2.2.2.1, .int sS.2.2.2.2.2.1, .int sS.2.2.2.2.2.2.1, .int sS.2.2.2.2.2.2.2, .ref zmo]))], (mt cI cO zmo sS.2.1.toNatClampNeg sS.1.toNatClampNeg rmo mM)]) U.heap ∧ va_K (dC, dI) vwCl [(cI, .int), (cJ, .long), (cO, .array .int), (cB, .boolean)] U ∧ va_D (fun _ => True) (wJ [[(zsi, .inr (5, [.int sS.1, .int sS.2.1, .int (bI sS.2.2.1), .int sS.2.2.2.1, .int sS.2.2.2.2.1, .int sS.2.2.2.2.2.1, .int sS.2.2.2.2.2.2.1, .int sS.2.2.2.2.2.2.2, .ref zmo]))], (mt cI cO zmo sS.2.1.toNatClampNeg sS.1.toNatClampNeg rmo mM)]))) (Q_X6_hedges dC dI cI cJ cO cB zsi zmo rmo sS mM sz R) 0 0 (A_X6_hedges cI cJ cO cB zsi zmo rmo sS mM sz) := by
  have hf := hR
  refine Met.ofW (cc := cX6_hedges) (maxL := 10) (ret := (some .int)) (by decide) rfl ?_
  intro p e s m args below meth c s₁ B hml hv
  obtain ⟨hargs, hsz, hP, hK, hD0⟩ := hv
  have hx := B.exec
  have hb := B.bytes
  have hr := B.returns
  have hts := atoms_spec (ws := wsX6_hedges) B.pre
  have hown : s.vm.findClass RX6 = some m.cls := findClass_of_methodNamed B.named
  have hlocks := B.notSynchronized
  subst hsz
  have hK2 : va_K (dC, dI) vwCl [(cI, .int), (cJ, .long)] s := hK.sub [0, 1] rfl
  have hD : va_D (A_X6_hedges cI cJ cO cB zsi zmo rmo sS mM s.heap.size) (wJ [[(zsi, .inr (5, [.int sS.1, .int sS.2.1, .int (bI sS.2.2.1), .int sS.2.2.2.1, .int sS.2.2.2.2.1, .int sS.2.2.2.2.2.1, .int sS.2.2.2.2.2.2.1, .int sS.2.2.2.2.2.2.2, .ref zmo]))], (mt cI cO zmo sS.2.1.toNatClampNeg sS.1.toNatClampNeg rmo mM)]) := hD0.self (sz := s.heap.size)
  have hA : ∀ q : Nat, s.heap.size ≤ q → (A_X6_hedges cI cJ cO cB zsi zmo rmo sS mM s.heap.size) q := fun q h => Or.inr h
  have hS : va_S (A_X6_hedges cI cJ cO cB zsi zmo rmo sS mM s.heap.size) s.heap s.heap [] := va_S.rf
  have hinX6 : ∀ w ∈ wsX60, w ∈ wsX6_hedges := by decide +kernel
  have hw0 := hts (.fieldLink RX6 26 "HedgeGlidersLaw$Sim" "ages" "[[I") (by decide +kernel)
  have hl := lv_entry ([.ref zsi]) (n := 10) (Nat.le_of_ble_eq_true rfl)
  have he0 : entryFrame m args 10 = entryFrame m ([.ref zsi] : List Value).toArray 10 := by rw [hargs]
  rw [he0, lg_entry_eq]
  generalize (lg_sl ([.ref zsi]) ++ List.replicate (10 - (lg_sl ([.ref zsi])).length) Slot.unset).toArray = ls at hl ⊢
  have hl : lv_has ls 10 [(0, .ref zsi)] := hl
  rw [f_X6_hedges] at hf
  refine lv_iconst (v := 0) hx hb dX6_hedges_0 (by decide) ?_
  refine lv_istore_n (lv' := [(1, .int 0), (0, .ref zsi)]) hx hb dX6_hedges_1 rfl hl (by decide) rfl (fun ls hl => ?_)
  refine lv_aload_n hx hb dX6_hedges_2 rfl (lv_at hl 1 rfl) ?_
  refine va_get (D := (dC, dI)) (ci := 5) (v := .ref zmo) (C := RX6) (T := TX6) (N := 9) hx hb hts hinX6 hown hK hP 0 rfl rfl 8 (by decide) hw0 (fun _ h9 => h9) rfl dX6_hedges_3 ?_
  refine lv_astore_n (lv' := [(2, .ref zmo), (1, .int 0), (0, .ref zsi)]) hx hb dX6_hedges_6 rfl hl (by decide) rfl (fun ls hl => ?_)
  refine lv_aload_n hx hb dX6_hedges_7 rfl (lv_at hl 0 rfl) ?_
  refine sg_alen hx hb hK hP 1 2 rfl rfl dX6_hedges_8 ?_
  refine lv_istore_n (lv' := [(3, .int (Int32.ofNat sS.2.1.toNatClampNeg)), (2, .ref zmo), (1, .int 0), (0, .ref zsi)]) hx hb dX6_hedges_9 rfl hl (by decide) rfl (fun ls hl => ?_)
  refine lv_iconst (v := 0) hx hb dX6_hedges_10 (by decide) ?_
  refine lv_istore (lv' := [(4, .int 0), (3, .int (Int32.ofNat sS.2.1.toNatClampNeg)), (2, .ref zmo), (1, .int 0), (0, .ref zsi)]) hx hb dX6_hedges_11 hl (by decide) rfl (fun ls hl => ?_)
  obtain ⟨v41, hv, hf⟩ := obind hf
  have K42 : ∀ (H : Heap) (locs : List Loc) (ls : Array Slot), va_P (dC, dI) vwCl (wJ [[(zsi, .inr (5, [.int sS.1, .int sS.2.1, .int (bI sS.2.2.1), .int sS.2.2.2.1, .int sS.2.2.2.2.1, .int sS.2.2.2.2.2.1, .int sS.2.2.2.2.2.2.1, .int sS.2.2.2.2.2.2.2, .ref zmo]))], (mt cI cO zmo sS.2.1.toNatClampNeg sS.1.toNatClampNeg rmo mM)]) H → va_D (A_X6_hedges cI cJ cO cB zsi zmo rmo sS mM s.heap.size) (wJ [[(zsi, .inr (5, [.int sS.1, .int sS.2.1, .int (bI sS.2.2.1), .int sS.2.2.2.1, .int sS.2.2.2.2.1, .int sS.2.2.2.2.2.1, .int sS.2.2.2.2.2.2.1, .int sS.2.2.2.2.2.2.2, .ref zmo]))], (mt cI cO zmo sS.2.1.toNatClampNeg sS.1.toNatClampNeg rmo mM)]) → va_S (A_X6_hedges cI cJ cO cB zsi zmo rmo sS mM s.heap.size) s.heap H locs → lv_has ls 10 [(1, .int v41)] → W p l e rm_X6_hedges s m args below meth c H locs 0 0 (MQ below (Q_X6_hedges dC dI cI cJ cO cB zsi zmo rmo sS mM s.heap.size R) args s 0 0 (A_X6_hedges cI cJ cO cB zsi zmo rmo sS mM s.heap.size)) (F0 m 76 ls []) := by
    intro H locs ls hP hD hS hl
    refine lv_iload_n hx hb dX6_hedges_76 rfl (lv_at hl 0 rfl) ?_
    obtain rfl := Option.some.inj hf
    exact W.iret (v := v41) hx hb hr (fun t ht hW => ⟨⟨v41, (), rfl, rfl, by rw [ht]; exact hP, va_K.moved hW.alike hK, hD⟩, hS.F ht⟩) hS.2.2 dX6_hedges_77
  have lp43 : ∀ (nf13 : Nat) (y27 : Int32) (y28 : Int32) (H : Heap) (locs : List Loc) (ls : Array Slot), lp_X6_hedges_13 sS mM nf13 y27 y28 = some v41 → va_P (dC, dI) vwCl (wJ [[(zsi, .inr (5, [.int sS.1, .int sS.2.1, .int (bI sS.2.2.1), .int sS.2.2.2.1, .int sS.2.2.2.2.1, .int sS.2.2.2.2.2.1, .int sS.2.2.2.2.2.2.1, .int sS.2.2.2.2.2.2.2, .ref zmo]))], (mt cI cO zmo sS.2.1.toNatClampNeg sS.1.toNatClampNeg rmo mM)]) H → va_D (A_X6_hedges cI cJ cO cB zsi zmo rmo sS mM s.heap.size) (wJ [[(zsi, .inr (5, [.int sS.1, .int sS.2.1, .int (bI sS.2.2.1), .int sS.2.2.2.1, .int sS.2.2.2.2.1, .int sS.2.2.2.2.2.1, .int sS.2.2.2.2.2.2.1, .int sS.2.2.2.2.2.2.2, .ref zmo]))], (mt cI cO zmo sS.2.1.toNatClampNeg sS.1.toNatClampNeg rmo mM)]) → va_S (A_X6_hedges cI cJ cO cB zsi zmo rmo sS mM s.heap.size) s.heap H locs → lv_has ls 10 [(1, .int y27), (2, .ref zmo), (3, .int (Int32.ofNat sS.2.1.toNatClampNeg)), (4, .int y28)] → W p l e rm_X6_hedges s m args below meth c H locs 0 0 (MQ below (Q_X6_hedges dC dI cI cJ cO cB zsi zmo rmo sS mM s.heap.size R) args s 0 0 (A_X6_hedges cI cJ cO cB zsi zmo rmo sS mM s.heap.size)) (F0 m 13 ls []) := by
    intro nf13
    induction nf13 with
    | zero => intro y27 y28 H locs ls h9; exact nomatch h9
    | succ nf13 ih44 =>
      intro y27 y28 H locs ls hf hP hD hS hl
      rw [lp_X6_hedges_13.eq_2] at hf
      refine lv_iload hx hb dX6_hedges_13 (lv_at hl 3 rfl) ?_
      refine lv_iload_n hx hb dX6_hedges_15 rfl (lv_at hl 2 rfl) ?_
      refine lv_icmp_ge (tgt := 76) hx hb dX6_hedges_16 (by decide) (fun hc => ?_) (fun hc => ?_)
      · rw [if_pos hc] at hf
        obtain rfl := Option.some.inj hf
        exact K42 _ _ _ hP hD hS (lv_sub hl [0] rfl)
      · rw [if_neg hc] at hf
        refine lv_aload_n hx hb dX6_hedges_19 rfl (lv_at hl 1 rfl) ?_
        refine lv_iload hx hb dX6_hedges_20 (lv_at hl 3 rfl) ?_
        have hg29 : ¬ (y28 < 0 ∨ sS.2.1.toNatClampNeg ≤ y28.toNatClampNeg) := fun hq => by rw [if_pos hq] at hf; exact nomatch hf
        rw [if_neg hg29] at hf
        refine sg_aald hx hb hK hP 1 2 rfl rfl (i := y28) hg29 dX6_hedges_22 ?_
        refine lv_astore (lv' := [(5, .ref (rmo y28.toNatClampNeg)), (1, .int y27), (2, .ref zmo), (3, .int (Int32.ofNat sS.2.1.toNatClampNeg)), (4, .int y28)]) hx hb dX6_hedges_23 hl (by decide) rfl (fun ls hl => ?_)
        refine lv_aload hx hb dX6_hedges_25 (lv_at hl 0 rfl) ?_
        refine lv_astore (lv' := [(6, .ref (rmo y28.toNatClampNeg)), (5, .ref (rmo y28.toNatClampNeg)), (1, .int y27), (2, .ref zmo), (3, .int (Int32.ofNat sS.2.1.toNatClampNeg)), (4, .int y28)]) hx hb dX6_hedges_27 hl (by decide) rfl (fun ls hl => ?_)
        refine lv_aload hx hb dX6_hedges_29 (lv_at hl 0 rfl) ?_
        refine sg_rlen hx hb hK hP 1 0 rfl rfl (inRow hg29) dX6_hedges_31 ?_
        refine lv_istore (lv' := [(7, .int (Int32.ofNat sS.1.toNatClampNeg)), (6, .ref (rmo y28.toNatClampNeg)), (5, .ref (rmo y28.toNatClampNeg)), (1, .int y27), (2, .ref zmo), (3, .int (Int32.ofNat sS.2.1.toNatClampNeg)), (4, .int y28)]) hx hb dX6_hedges_32 hl (by decide) rfl (fun ls hl => ?_)
        refine lv_iconst (v := 0) hx hb dX6_hedges_34 (by decide) ?_
        refine lv_istore (lv' := [(8, .int 0), (7, .int (Int32.ofNat sS.1.toNatClampNeg)), (6, .ref (rmo y28.toNatClampNeg)), (5, .ref (rmo y28.toNatClampNeg)), (1, .int y27), (2, .ref zmo), (3, .int (Int32.ofNat sS.2.1.toNatClampNeg)), (4, .int y28)]) hx hb dX6_hedges_35 hl (by decide) rfl (fun ls hl => ?_)
        obtain ⟨v40, hv, hf⟩ := obind hf
        have K45 : ∀ (H : Heap) (locs : List Loc) (ls : Array Slot), va_P (dC, dI) vwCl (wJ [[(zsi, .inr (5, [.int sS.1, .int sS.2.1, .int (bI sS.2.2.1), .int sS.2.2.2.1, .int sS.2.2.2.2.1, .int sS.2.2.2.2.2.1, .int sS.2.2.2.2.2.2.1, .int sS.2.2.2.2.2.2.2, .ref zmo]))], (mt cI cO zmo sS.2.1.toNatClampNeg sS.1.toNatClampNeg rmo mM)]) H → va_D (A_X6_hedges cI cJ cO cB zsi zmo rmo sS mM s.heap.size) (wJ [[(zsi, .inr (5, [.int sS.1, .int sS.2.1, .int (bI sS.2.2.1), .int sS.2.2.2.1, .int sS.2.2.2.2.1, .int sS.2.2.2.2.2.1, .int sS.2.2.2.2.2.2.1, .int sS.2.2.2.2.2.2.2, .ref zmo]))], (mt cI cO zmo sS.2.1.toNatClampNeg sS.1.toNatClampNeg rmo mM)]) → va_S (A_X6_hedges cI cJ cO cB zsi zmo rmo sS mM s.heap.size) s.heap H locs → lv_has ls 10 [(1, .int v40), (2, .ref zmo), (3, .int (Int32.ofNat sS.2.1.toNatClampNeg)), (4, .int y28)] → W p l e rm_X6_hedges s m args below meth c H locs 0 0 (MQ below (Q_X6_hedges dC dI cI cJ cO cB zsi zmo rmo sS mM s.heap.size R) args s 0 0 (A_X6_hedges cI cJ cO cB zsi zmo rmo sS mM s.heap.size)) (F0 m 70 ls []) := by
          intro H locs ls hP hD hS hl
          refine lv_iinc (v := (y28 + 1)) (lv' := [(4, .int (y28 + 1)), (1, .int v40), (2, .ref zmo), (3, .int (Int32.ofNat sS.2.1.toNatClampNeg))]) hx hb dX6_hedges_70 hl (k := 3) rfl rfl (by decide) rfl (fun ls hl => ?_)
          refine lv_goto (tgt := 13) hx hb dX6_hedges_73 (by decide) ?_
          exact ih44 _ _ _ _ _ hf hP hD hS (lv_sub hl [1, 2, 3, 0] rfl)
        have lp46 : ∀ (nf37 : Nat) (y36 : Int32) (y37 : Int32) (H : Heap) (locs : List Loc) (ls : Array Slot), lp_X6_hedges_37 sS mM y28 nf37 y36 y37 = some v40 → va_P (dC, dI) vwCl (wJ [[(zsi, .inr (5, [.int sS.1, .int sS.2.1, .int (bI sS.2.2.1), .int sS.2.2.2.1, .int sS.2.2.2.2.1, .int sS.2.2.2.2.2.1, .int sS.2.2.2.2.2.2.1, .int sS.2.2.2.2.2.2.2, .ref zmo]))], (mt cI cO zmo sS.2.1.toNatClampNeg sS.1.toNatClampNeg rmo mM)]) H → va_D (A_X6_hedges cI cJ cO cB zsi zmo rmo sS mM s.heap.size) (wJ [[(zsi, .inr (5, [.int sS.1, .int sS.2.1, .int (bI sS.2.2.1), .int sS.2.2.2.1, .int sS.2.2.2.2.1, .int sS.2.2.2.2.2.1, .int sS.2.2.2.2.2.2.1, .int sS.2.2.2.2.2.2.2, .ref zmo]))], (mt cI cO zmo sS.2.1.toNatClampNeg sS.1.toNatClampNeg rmo mM)]) → va_S (A_X6_hedges cI cJ cO cB zsi zmo rmo sS mM s.heap.size) s.heap H locs → lv_has ls 10 [(1, .int y36), (2, .ref zmo), (3, .int (Int32.ofNat sS.2.1.toNatClampNeg)), (4, .int y28), (6, .ref (rmo y28.toNatClampNeg)), (7, .int (Int32.ofNat sS.1.toNatClampNeg)), (8, .int y37)] → W p l e rm_X6_hedges s m args below meth c H locs 0 0 (MQ below (Q_X6_hedges dC dI cI cJ cO cB zsi zmo rmo sS mM s.heap.size R) args s 0 0 (A_X6_hedges cI cJ cO cB zsi zmo rmo sS mM s.heap.size)) (F0 m 37 ls []) := by
          intro nf37
          induction nf37 with
          | zero => intro y36 y37 H locs ls h9; exact nomatch h9
          | succ nf37 ih47 =>
            intro y36 y37 H locs ls hf hP hD hS hl
            rw [lp_X6_hedges_37.eq_2] at hf
            refine lv_iload hx hb dX6_hedges_37 (lv_at hl 6 rfl) ?_
            refine lv_iload hx hb dX6_hedges_39 (lv_at hl 5 rfl) ?_
            refine lv_icmp_ge (tgt := 70) hx hb dX6_hedges_41 (by decide) (fun hc => ?_) (fun hc => ?_)
            · rw [if_pos hc] at hf
              obtain rfl := Option.some.inj hf
              exact K45 _ _ _ hP hD hS (lv_sub hl [0, 1, 2, 3] rfl)
            · rw [if_neg hc] at hf
              refine lv_aload hx hb dX6_hedges_44 (lv_at hl 4 rfl) ?_
              refine lv_iload hx hb dX6_hedges_46 (lv_at hl 6 rfl) ?_
              have hg38 : ¬ (y37 < 0 ∨ sS.1.toNatClampNeg ≤ y37.toNatClampNeg) := fun hq => by rw [if_pos hq] at hf; exact nomatch hf
              rw [if_neg hg38] at hf
              refine sg_iald hx hb hK hP 1 0 rfl rfl (inRow hg29) (i := y37) hg38 dX6_hedges_48 ?_
              refine lv_istore (lv' := [(9, .int (mM y28.toNatClampNeg y37.toNatClampNeg)), (1, .int y36), (2, .ref zmo), (3, .int (Int32.ofNat sS.2.1.toNatClampNeg)), (4, .int y28), (6, .ref (rmo y28.toNatClampNeg)), (7, .int (Int32.ofNat sS.1.toNatClampNeg)), (8, .int y37)]) hx hb dX6_hedges_49 hl (by decide) rfl (fun ls hl => ?_)
              refine lv_iload_n hx hb dX6_hedges_51 rfl (lv_at hl 1 rfl) ?_
              refine lv_iload hx hb dX6_hedges_52 (lv_at hl 0 rfl) ?_
              obtain ⟨v39, hv, hf⟩ := vbind hf
              have K48 : ∀ (H : Heap) (locs : List Loc) (ls : Array Slot), va_P (dC, dI) vwCl (wJ [[(zsi, .inr (5, [.int sS.1, .int sS.2.1, .int (bI sS.2.2.1), .int sS.2.2.2.1, .int sS.2.2.2.2.1, .int sS.2.2.2.2.2.1, .int sS.2.2.2.2.2.2.1, .int sS.2.2.2.2.2.2.2, .ref zmo]))], (mt cI cO zmo sS.2.1.toNatClampNeg sS.1.toNatClampNeg rmo mM)]) H → va_D (A_X6_hedges cI cJ cO cB zsi zmo rmo sS mM s.heap.size) (wJ [[(zsi, .inr (5, [.int sS.1, .int sS.2.1, .int (bI sS.2.2.1), .int sS.2.2.2.1, .int sS.2.2.2.2.1, .int sS.2.2.2.2.2.1, .int sS.2.2.2.2.2.2.1, .int sS.2.2.2.2.2.2.2, .ref zmo]))], (mt cI cO zmo sS.2.1.toNatClampNeg sS.1.toNatClampNeg rmo mM)]) → va_S (A_X6_hedges cI cJ cO cB zsi zmo rmo sS mM s.heap.size) s.heap H locs → lv_has ls 10 [(2, .ref zmo), (3, .int (Int32.ofNat sS.2.1.toNatClampNeg)), (4, .int y28), (6, .ref (rmo y28.toNatClampNeg)), (7, .int (Int32.ofNat sS.1.toNatClampNeg)), (8, .int y37)] → W p l e rm_X6_hedges s m args below meth c H locs 0 0 (MQ below (Q_X6_hedges dC dI cI cJ cO cB zsi zmo rmo sS mM s.heap.size R) args s 0 0 (A_X6_hedges cI cJ cO cB zsi zmo rmo sS mM s.heap.size)) (F0 m 62 ls [.int v39, .int y36]) := by
                intro H locs ls hP hD hS hl
                refine lv_iadd hx hb dX6_hedges_62 ?_
                refine lv_istore_n (lv' := [(1, .int (y36 + v39)), (2, .ref zmo), (3, .int (Int32.ofNat sS.2.1.toNatClampNeg)), (4, .int y28), (6, .ref (rmo y28.toNatClampNeg)), (7, .int (Int32.ofNat sS.1.toNatClampNeg)), (8, .int y37)]) hx hb dX6_hedges_63 rfl hl (by decide) rfl (fun ls hl => ?_)
                refine lv_iinc (v := (y37 + 1)) (lv' := [(8, .int (y37 + 1)), (1, .int (y36 + v39)), (2, .ref zmo), (3, .int (Int32.ofNat sS.2.1.toNatClampNeg)), (4, .int y28), (6, .ref (rmo y28.toNatClampNeg)), (7, .int (Int32.ofNat sS.1.toNatClampNeg))]) hx hb dX6_hedges_64 hl (k := 6) rfl rfl (by decide) rfl (fun ls hl => ?_)
                refine lv_goto (tgt := 37) hx hb dX6_hedges_67 (by decide) ?_
                exact ih47 _ _ _ _ _ hf hP hD hS (lv_sub hl [1, 2, 3, 4, 5, 6, 0] rfl)
              clear hf; have hf := hv; clear hv
              refine lv_if_lt (tgt := 61) hx hb dX6_hedges_54 (by decide) (fun hc => ?_) (fun hc => ?_)
              · rw [if_pos hc] at hf
                refine lv_iconst (v := 0) hx hb dX6_hedges_61 (by decide) ?_
                obtain rfl := hf
                exact K48 _ _ _ hP hD hS (lv_sub hl [2, 3, 4, 5, 6, 7] rfl)
              · rw [if_neg hc] at hf
                refine lv_iconst (v := 1) hx hb dX6_hedges_57 (by decide) ?_
                refine lv_goto (tgt := 62) hx hb dX6_hedges_58 (by decide) ?_
                obtain rfl := hf
                exact K48 _ _ _ hP hD hS (lv_sub hl [2, 3, 4, 5, 6, 7] rfl)
        exact lp46 100 _ _ _ _ _ hv hP hD hS (lv_sub hl [4, 5, 6, 7, 2, 1, 0] rfl)
  exact lp43 100 _ _ _ _ _ hv hP hD hS (lv_sub hl [3, 2, 1, 0] rfl)
/-! HedgeGlidersLaw$Sim.sum()I -/
def lp_X6_sum_37 (sS : SiS) (mM : Nat → Nat → Int32) (y28 : Int32) : Nat → Int32 → Int32 → Option (Int32)
  | 0, _, _ => none
  | nf + 1, y36, y37 => if (Int32.ofNat sS.1.toNatClampNeg) ≤ y37 then (some y36) else (if y37 < 0 ∨ sS.1.toNatClampNeg ≤ y37.toNatClampNeg then none else bindv (y36 + (if 0 < (mM y28.toNatClampNeg y37.toNatClampNeg) then (mM y28.toNatClampNeg y37.toNatClampNeg) else 0)) fun x39 => lp_X6_sum_37 sS mM y28 nf x39 (y37 + 1))
def lp_X6_sum_13 (sS : SiS) (mM : Nat → Nat → Int32) : Nat → Int32 → Int32 → Option (Int32)
  | 0, _, _ => none
  | nf + 1, y27, y28 => if (Int32.ofNat sS.2.1.toNatClampNeg) ≤ y28 then (some y27) else (if y28 < 0 ∨ sS.2.1.toNatClampNeg ≤ y28.toNatClampNeg then none else Option.bind (lp_X6_sum_37 sS mM y28 100 y27 0) fun v40 => lp_X6_sum_13 sS mM nf v40 (y28 + 1))
def f_X6_sum (sS : SiS) (mM : Nat → Nat → Int32) : Option (Int32) := Option.bind (lp_X6_sum_13 sS mM 100 0 0) fun v41 => some v41
abbrev rm_X6_sum : Room := ({ frames := 1, cells := 0, slots := 0, locals := 21 } : Room)
abbrev A_X6_sum (cI cJ cO cB : ClassId) (zsi zmo : Nat) (rmo : Nat → Nat) (sS : SiS) (mM : Nat → Nat → Int32) (sz : Nat) : Nat → Prop := va_A (wJ [[(zsi, .inr (5, [.int sS.1, .int sS.2.1, .int (bI sS.2.2.1), .int sS.2.2.2.1, .int sS.2.2.2.2.1, .int sS.2.2.2.2.2.1, .int sS.2.2.2.2.2.2.1, .int sS.2.2.2.2.2.2.2, .ref zmo]))], (mt cI cO zmo sS.2.1.toNatClampNeg sS.1.toNatClampNeg rmo mM)]) sz
abbrev Q_X6_sum (dC : Nat → ClassId) (dI : Nat → Nat → Nat) (cI cJ cO cB : ClassId) (zsi zmo : Nat) (rmo : Nat → Nat) (sS : SiS) (mM : Nat → Nat → Int32) (sz : Nat) (R : Int32) : Array Value → State → Outcome → State → Prop := va_Qi (fun (r : Int32) (_ : Unit) => r = R) (fun u_ t => va_P (dC, dI) vwCl (wJ [[(zsi, .inr (5, [.int sS.1, .int sS.2.1, .int (bI sS.2.2.1), .int sS.2.2.2.1, .int sS.2.2.2.2.1, .int sS.2.2.2.2.2.1, .int sS.2.2.2.2.2.2.1, .int sS.2.2.2.2.2.2.2, .ref zmo]))], (mt cI cO zmo sS.2.1.toNatClampNeg sS.1.toNatClampNeg rmo mM)]) t.heap ∧ va_K (dC, dI) vwCl [(cI, .int), (cJ, .long), (cO, .array .int), (cB, .boolean)] t ∧ va_D (A_X6_sum cI cJ cO cB zsi zmo rmo sS mM sz) (wJ [[(zsi, .inr (5, [.int sS.1, .int sS.2.1, .int (bI sS.2.2.1), .int sS.2.2.2.1, .int sS.2.2.2.2.1, .int sS.2.2.2.2.2.1, .int sS.2.2.2.2.2.2.1, .int sS.2.2.2.2.2.2.2, .ref zmo]))], (mt cI cO zmo sS.2.1.toNatClampNeg sS.1.toNatClampNeg rmo mM)])) (A_X6_sum cI cJ cO cB zsi zmo rmo sS mM sz)
set_option maxHeartbeats 4000000 in
set_option maxRecDepth 100000 in
theorem c_X6_sum (l : Launch) (dC : Nat → ClassId) (dI : Nat → Nat → Nat) (cI cJ cO cB : ClassId) (zsi zmo : Nat) (sz : Nat) (rmo : Nat → Nat) (sS : SiS) (mM : Nat → Nat → Int32) (R : Int32) (hR : f_X6_sum sS mM = some R) : Met l yX6_sum wsX6_sum rm_X6_sum (va_Pc [.ref zsi] (fun U => U.heap.size = sz ∧ va_P (dC, dI) vwCl (wJ [[(zsi, .inr (5, [.int sS.1, .int sS.2.1, .int (bI sS.2.2.1), .int sS.2.2.2.1, .int sS.2.2.2.2.1, .int sS.2.2.2.2.2.1, .int sS.2.2.2.2.2.2.1, .int sS.2.2.2.2.2.2.2, .ref zmo]))], (mt cI cO zmo sS.2.1.toNatClampNeg sS.1.toNatClampNeg rmo mM)]) U.heap ∧ va_K (dC, dI) vwCl [(cI, .int), (cJ, .long), (cO, .array .int), (cB, .boolean)] U ∧ va_D (fun _ => True) (wJ [[(zsi, .inr (5, [.int sS.1, .int sS.2.1, .int (bI sS.2.2.1), .int sS.2.2.2.1, .int sS.2.2.2.2.1, .int sS.2.2.2.2.2.1, .int sS.2.2.2.2.2.2.1, .int sS.2.2.2.2.2.2.2, .ref zmo]))], (mt cI cO zmo sS.2.1.toNatClampNeg sS.1.toNatClampNeg rmo mM)]))) (Q_X6_sum dC dI cI cJ cO cB zsi zmo rmo sS mM sz R) 0 0 (A_X6_sum cI cJ cO cB zsi zmo rmo sS mM sz) := by
  have hf := hR
  refine Met.ofW (cc := cX6_sum) (maxL := 10) (ret := (some .int)) (by decide) rfl ?_
  intro p e s m args below meth c s₁ B hml hv
  obtain ⟨hargs, hsz, hP, hK, hD0⟩ := hv
  have hx := B.exec
  have hb := B.bytes
  have hr := B.returns
  have hts := atoms_spec (ws := wsX6_sum) B.pre
  have hown : s.vm.findClass RX6 = some m.cls := findClass_of_methodNamed B.named
  have hlocks := B.notSynchronized
  subst hsz
  have hK2 : va_K (dC, dI) vwCl [(cI, .int), (cJ, .long)] s := hK.sub [0, 1] rfl
  have hD : va_D (A_X6_sum cI cJ cO cB zsi zmo rmo sS mM s.heap.size) (wJ [[(zsi, .inr (5, [.int sS.1, .int sS.2.1, .int (bI sS.2.2.1), .int sS.2.2.2.1, .int sS.2.2.2.2.1, .int sS.2.2.2.2.2.1, .int sS.2.2.2.2.2.2.1, .int sS.2.2.2.2.2.2.2, .ref zmo]))], (mt cI cO zmo sS.2.1.toNatClampNeg sS.1.toNatClampNeg rmo mM)]) := hD0.self (sz := s.heap.size)
  have hA : ∀ q : Nat, s.heap.size ≤ q → (A_X6_sum cI cJ cO cB zsi zmo rmo sS mM s.heap.size) q := fun q h => Or.inr h
  have hS : va_S (A_X6_sum cI cJ cO cB zsi zmo rmo sS mM s.heap.size) s.heap s.heap [] := va_S.rf
  have hinX6 : ∀ w ∈ wsX60, w ∈ wsX6_sum := by decide +kernel
  have hw0 := hts (.fieldLink RX6 26 "HedgeGlidersLaw$Sim" "ages" "[[I") (by decide +kernel)
  have hw1 := hts (.methodLink RX6 73 Lib.Math.max.name) (by decide +kernel)
  have hw2 := hts (.static Lib.Math.max.name) (by decide +kernel)
  have hw3 := hts (.initialized "java/lang/Math") (by decide +kernel)
  have hw4 := hts (.code Lib.Math.max.name Lib.Math.max.code 2 (some .int)) (by decide +kernel)
  have hl := lv_entry ([.ref zsi]) (n := 10) (Nat.le_of_ble_eq_true rfl)
  have he0 : entryFrame m args 10 = entryFrame m ([.ref zsi] : List Value).toArray 10 := by rw [hargs]
  rw [he0, lg_entry_eq]
  generalize (lg_sl ([.ref zsi]) ++ List.replicate (10 - (lg_sl ([.ref zsi])).length) Slot.unset).toArray = ls at hl ⊢
  have hl : lv_has ls 10 [(0, .ref zsi)] := hl
  rw [f_X6_sum] at hf
  refine lv_iconst (v := 0) hx hb dX6_sum_0 (by decide) ?_
  refine lv_istore_n (lv' := [(1, .int 0), (0, .ref zsi)]) hx hb dX6_sum_1 rfl hl (by decide) rfl (fun ls hl => ?_)
  refine lv_aload_n hx hb dX6_sum_2 rfl (lv_at hl 1 rfl) ?_
  refine va_get (D := (dC, dI)) (ci := 5) (v := .ref zmo) (C := RX6) (T := TX6) (N := 9) hx hb hts hinX6 hown hK hP 0 rfl rfl 8 (by decide) hw0 (fun _ h9 => h9) rfl dX6_sum_3 ?_
  refine lv_astore_n (lv' := [(2, .ref zmo), (1, .int 0), (0, .ref zsi)]) hx hb dX6_sum_6 rfl hl (by decide) rfl (fun ls hl => ?_)
  refine lv_aload_n hx hb dX6_sum_7 rfl (lv_at hl 0 rfl) ?_
  refine sg_alen hx hb hK hP 1 2 rfl rfl dX6_sum_8 ?_
  refine lv_istore_n (lv' := [(3, .int (Int32.ofNat sS.2.1.toNatClampNeg)), (2, .ref zmo), (1, .int 0), (0, .ref zsi)]) hx hb dX6_sum_9 rfl hl (by decide) rfl (fun ls hl => ?_)
  refine lv_iconst (v := 0) hx hb dX6_sum_10 (by decide) ?_
  refine lv_istore (lv' := [(4, .int 0), (3, .int (Int32.ofNat sS.2.1.toNatClampNeg)), (2, .ref zmo), (1, .int 0), (0, .ref zsi)]) hx hb dX6_sum_11 hl (by decide) rfl (fun ls hl => ?_)
  obtain ⟨v41, hv, hf⟩ := obind hf
  have K42 : ∀ (H : Heap) (locs : List Loc) (ls : Array Slot), va_P (dC, dI) vwCl (wJ [[(zsi, .inr (5, [.int sS.1, .int sS.2.1, .int (bI sS.2.2.1), .int sS.2.2.2.1, .int sS.2.2.2.2.1, .int sS.2.2.2.2.2.1, .int sS.2.2.2.2.2.2.1, .int sS.2.2.2.2.2.2.2, .ref zmo]))], (mt cI cO zmo sS.2.1.toNatClampNeg sS.1.toNatClampNeg rmo mM)]) H → va_D (A_X6_sum cI cJ cO cB zsi zmo rmo sS mM s.heap.size) (wJ [[(zsi, .inr (5, [.int sS.1, .int sS.2.1, .int (bI sS.2.2.1), .int sS.2.2.2.1, .int sS.2.2.2.2.1, .int sS.2.2.2.2.2.1, .int sS.2.2.2.2.2.2.1, .int sS.2.2.2.2.2.2.2, .ref zmo]))], (mt cI cO zmo sS.2.1.toNatClampNeg sS.1.toNatClampNeg rmo mM)]) → va_S (A_X6_sum cI cJ cO cB zsi zmo rmo sS mM s.heap.size) s.heap H locs → lv_has ls 10 [(1, .int v41)] → W p l e rm_X6_sum s m args below meth c H locs 0 0 (MQ below (Q_X6_sum dC dI cI cJ cO cB zsi zmo rmo sS mM s.heap.size R) args s 0 0 (A_X6_sum cI cJ cO cB zsi zmo rmo sS mM s.heap.size)) (F0 m 72 ls []) := by
    intro H locs ls hP hD hS hl
    refine lv_iload_n hx hb dX6_sum_72 rfl (lv_at hl 0 rfl) ?_
    obtain rfl := Option.some.inj hf
    exact W.iret (v := v41) hx hb hr (fun t ht hW => ⟨⟨v41, (), rfl, rfl, by rw [ht]; exact hP, va_K.moved hW.alike hK, hD⟩, hS.F ht⟩) hS.2.2 dX6_sum_73
  have lp43 : ∀ (nf13 : Nat) (y27 : Int32) (y28 : Int32) (H : Heap) (locs : List Loc) (ls : Array Slot), lp_X6_sum_13 sS mM nf13 y27 y28 = some v41 → va_P (dC, dI) vwCl (wJ [[(zsi, .inr (5, [.int sS.1, .int sS.2.1, .int (bI sS.2.2.1), .int sS.2.2.2.1, .int sS.2.2.2.2.1, .int sS.2.2.2.2.2.1, .int sS.2.2.2.2.2.2.1, .int sS.2.2.2.2.2.2.2, .ref zmo]))], (mt cI cO zmo sS.2.1.toNatClampNeg sS.1.toNatClampNeg rmo mM)]) H → va_D (A_X6_sum cI cJ cO cB zsi zmo rmo sS mM s.heap.size) (wJ [[(zsi, .inr (5, [.int sS.1, .int sS.2.1, .int (bI sS.2.2.1), .int sS.2.2.2.1, .int sS.2.2.2.2.1, .int sS.2.2.2.2.2.1, .int sS.2.2.2.2.2.2.1, .int sS.2.2.2.2.2.2.2, .ref zmo]))], (mt cI cO zmo sS.2.1.toNatClampNeg sS.1.toNatClampNeg rmo mM)]) → va_S (A_X6_sum cI cJ cO cB zsi zmo rmo sS mM s.heap.size) s.heap H locs → lv_has ls 10 [(1, .int y27), (2, .ref zmo), (3, .int (Int32.ofNat sS.2.1.toNatClampNeg)), (4, .int y28)] → W p l e rm_X6_sum s m args below meth c H locs 0 0 (MQ below (Q_X6_sum dC dI cI cJ cO cB zsi zmo rmo sS mM s.heap.size R) args s 0 0 (A_X6_sum cI cJ cO cB zsi zmo rmo sS mM s.heap.size)) (F0 m 13 ls []) := by
    intro nf13
    induction nf13 with
    | zero => intro y27 y28 H locs ls h9; exact nomatch h9
    | succ nf13 ih44 =>
      intro y27 y28 H locs ls hf hP hD hS hl
      rw [lp_X6_sum_13.eq_2] at hf
      refine lv_iload hx hb dX6_sum_13 (lv_at hl 3 rfl) ?_
      refine lv_iload_n hx hb dX6_sum_15 rfl (lv_at hl 2 rfl) ?_
      refine lv_icmp_ge (tgt := 72) hx hb dX6_sum_16 (by decide) (fun hc => ?_) (fun hc => ?_)
      · rw [if_pos hc] at hf
        obtain rfl := Option.some.inj hf
        exact K42 _ _ _ hP hD hS (lv_sub hl [0] rfl)
      · rw [if_neg hc] at hf
        refine lv_aload_n hx hb dX6_sum_19 rfl (lv_at hl 1 rfl) ?_
        refine lv_iload hx hb dX6_sum_20 (lv_at hl 3 rfl) ?_
        have hg29 : ¬ (y28 < 0 ∨ sS.2.1.toNatClampNeg ≤ y28.toNatClampNeg) := fun hq => by rw [if_pos hq] at hf; exact nomatch hf
        rw [if_neg hg29] at hf
        refine sg_aald hx hb hK hP 1 2 rfl rfl (i := y28) hg29 dX6_sum_22 ?_
        refine lv_astore (lv' := [(5, .ref (rmo y28.toNatClampNeg)), (1, .int y27), (2, .ref zmo), (3, .int (Int32.ofNat sS.2.1.toNatClampNeg)), (4, .int y28)]) hx hb dX6_sum_23 hl (by decide) rfl (fun ls hl => ?_)
        refine lv_aload hx hb dX6_sum_25 (lv_at hl 0 rfl) ?_
        refine lv_astore (lv' := [(6, .ref (rmo y28.toNatClampNeg)), (5, .ref (rmo y28.toNatClampNeg)), (1, .int y27), (2, .ref zmo), (3, .int (Int32.ofNat sS.2.1.toNatClampNeg)), (4, .int y28)]) hx hb dX6_sum_27 hl (by decide) rfl (fun ls hl => ?_)
        refine lv_aload hx hb dX6_sum_29 (lv_at hl 0 rfl) ?_
        refine sg_rlen hx hb hK hP 1 0 rfl rfl (inRow hg29) dX6_sum_31 ?_
        refine lv_istore (lv' := [(7, .int (Int32.ofNat sS.1.toNatClampNeg)), (6, .ref (rmo y28.toNatClampNeg)), (5, .ref (rmo y28.toNatClampNeg)), (1, .int y27), (2, .ref zmo), (3, .int (Int32.ofNat sS.2.1.toNatClampNeg)), (4, .int y28)]) hx hb dX6_sum_32 hl (by decide) rfl (fun ls hl => ?_)
        refine lv_iconst (v := 0) hx hb dX6_sum_34 (by decide) ?_
        refine lv_istore (lv' := [(8, .int 0), (7, .int (Int32.ofNat sS.1.toNatClampNeg)), (6, .ref (rmo y28.toNatClampNeg)), (5, .ref (rmo y28.toNatClampNeg)), (1, .int y27), (2, .ref zmo), (3, .int (Int32.ofNat sS.2.1.toNatClampNeg)), (4, .int y28)]) hx hb dX6_sum_35 hl (by decide) rfl (fun ls hl => ?_)
        obtain ⟨v40, hv, hf⟩ := obind hf
        have K45 : ∀ (H : Heap) (locs : List Loc) (ls : Array Slot), va_P (dC, dI) vwCl (wJ [[(zsi, .inr (5, [.int sS.1, .int sS.2.1, .int (bI sS.2.2.1), .int sS.2.2.2.1, .int sS.2.2.2.2.1, .int sS.2.2.2.2.2.1, .int sS.2.2.2.2.2.2.1, .int sS.2.2.2.2.2.2.2, .ref zmo]))], (mt cI cO zmo sS.2.1.toNatClampNeg sS.1.toNatClampNeg rmo mM)]) H → va_D (A_X6_sum cI cJ cO cB zsi zmo rmo sS mM s.heap.size) (wJ [[(zsi, .inr (5, [.int sS.1, .int sS.2.1, .int (bI sS.2.2.1), .int sS.2.2.2.1, .int sS.2.2.2.2.1, .int sS.2.2.2.2.2.1, .int sS.2.2.2.2.2.2.1, .int sS.2.2.2.2.2.2.2, .ref zmo]))], (mt cI cO zmo sS.2.1.toNatClampNeg sS.1.toNatClampNeg rmo mM)]) → va_S (A_X6_sum cI cJ cO cB zsi zmo rmo sS mM s.heap.size) s.heap H locs → lv_has ls 10 [(1, .int v40), (2, .ref zmo), (3, .int (Int32.ofNat sS.2.1.toNatClampNeg)), (4, .int y28)] → W p l e rm_X6_sum s m args below meth c H locs 0 0 (MQ below (Q_X6_sum dC dI cI cJ cO cB zsi zmo rmo sS mM s.heap.size R) args s 0 0 (A_X6_sum cI cJ cO cB zsi zmo rmo sS mM s.heap.size)) (F0 m 66 ls []) := by
          intro H locs ls hP hD hS hl
          refine lv_iinc (v := (y28 + 1)) (lv' := [(4, .int (y28 + 1)), (1, .int v40), (2, .ref zmo), (3, .int (Int32.ofNat sS.2.1.toNatClampNeg))]) hx hb dX6_sum_66 hl (k := 3) rfl rfl (by decide) rfl (fun ls hl => ?_)
          refine lv_goto (tgt := 13) hx hb dX6_sum_69 (by decide) ?_
          exact ih44 _ _ _ _ _ hf hP hD hS (lv_sub hl [1, 2, 3, 0] rfl)
        have lp46 : ∀ (nf37 : Nat) (y36 : Int32) (y37 : Int32) (H : Heap) (locs : List Loc) (ls : Array Slot), lp_X6_sum_37 sS mM y28 nf37 y36 y37 = some v40 → va_P (dC, dI) vwCl (wJ [[(zsi, .inr (5, [.int sS.1, .int sS.2.1, .int (bI sS.2.2.1), .int sS.2.2.2.1, .int sS.2.2.2.2.1, .int sS.2.2.2.2.2.1, .int sS.2.2.2.2.2.2.1, .int sS.2.2.2.2.2.2.2, .ref zmo]))], (mt cI cO zmo sS.2.1.toNatClampNeg sS.1.toNatClampNeg rmo mM)]) H → va_D (A_X6_sum cI cJ cO cB zsi zmo rmo sS mM s.heap.size) (wJ [[(zsi, .inr (5, [.int sS.1, .int sS.2.1, .int (bI sS.2.2.1), .int sS.2.2.2.1, .int sS.2.2.2.2.1, .int sS.2.2.2.2.2.1, .int sS.2.2.2.2.2.2.1, .int sS.2.2.2.2.2.2.2, .ref zmo]))], (mt cI cO zmo sS.2.1.toNatClampNeg sS.1.toNatClampNeg rmo mM)]) → va_S (A_X6_sum cI cJ cO cB zsi zmo rmo sS mM s.heap.size) s.heap H locs → lv_has ls 10 [(1, .int y36), (2, .ref zmo), (3, .int (Int32.ofNat sS.2.1.toNatClampNeg)), (4, .int y28), (6, .ref (rmo y28.toNatClampNeg)), (7, .int (Int32.ofNat sS.1.toNatClampNeg)), (8, .int y37)] → W p l e rm_X6_sum s m args below meth c H locs 0 0 (MQ below (Q_X6_sum dC dI cI cJ cO cB zsi zmo rmo sS mM s.heap.size R) args s 0 0 (A_X6_sum cI cJ cO cB zsi zmo rmo sS mM s.heap.size)) (F0 m 37 ls []) := by
          intro nf37
          induction nf37 with
          | zero => intro y36 y37 H locs ls h9; exact nomatch h9
          | succ nf37 ih47 =>
            intro y36 y37 H locs ls hf hP hD hS hl
            rw [lp_X6_sum_37.eq_2] at hf
            refine lv_iload hx hb dX6_sum_37 (lv_at hl 6 rfl) ?_
            refine lv_iload hx hb dX6_sum_39 (lv_at hl 5 rfl) ?_
            refine lv_icmp_ge (tgt := 66) hx hb dX6_sum_41 (by decide) (fun hc => ?_) (fun hc => ?_)
            · rw [if_pos hc] at hf
              obtain rfl := Option.some.inj hf
              exact K45 _ _ _ hP hD hS (lv_sub hl [0, 1, 2, 3] rfl)
            · rw [if_neg hc] at hf
              refine lv_aload hx hb dX6_sum_44 (lv_at hl 4 rfl) ?_
              refine lv_iload hx hb dX6_sum_46 (lv_at hl 6 rfl) ?_
              have hg38 : ¬ (y37 < 0 ∨ sS.1.toNatClampNeg ≤ y37.toNatClampNeg) := fun hq => by rw [if_pos hq] at hf; exact nomatch hf
              rw [if_neg hg38] at hf
              refine sg_iald hx hb hK hP 1 0 rfl rfl (inRow hg29) (i := y37) hg38 dX6_sum_48 ?_
              refine lv_istore (lv' := [(9, .int (mM y28.toNatClampNeg y37.toNatClampNeg)), (1, .int y36), (2, .ref zmo), (3, .int (Int32.ofNat sS.2.1.toNatClampNeg)), (4, .int y28), (6, .ref (rmo y28.toNatClampNeg)), (7, .int (Int32.ofNat sS.1.toNatClampNeg)), (8, .int y37)]) hx hb dX6_sum_49 hl (by decide) rfl (fun ls hl => ?_)
              refine lv_iload_n hx hb dX6_sum_51 rfl (lv_at hl 1 rfl) ?_
              refine lv_iconst (v := 0) hx hb dX6_sum_52 (by decide) ?_
              refine lv_iload hx hb dX6_sum_53 (lv_at hl 0 rfl) ?_
              refine va_mmax hx hb (hml.trans hl.1.symm) hown hw1 hw2 hw3 hw4 (Nat.le_of_ble_eq_true rfl) (Nat.le_of_ble_eq_true rfl) (Nat.le_of_ble_eq_true rfl) (Nat.le_of_ble_eq_true rfl) dX6_sum_55 ?_
              refine lv_iadd hx hb dX6_sum_58 ?_
              obtain ⟨x39, hx39, hf⟩ := vbind hf
              refine topi_e hx39 ?_
              refine lv_istore_n (lv' := [(1, .int x39), (9, .int (mM y28.toNatClampNeg y37.toNatClampNeg)), (2, .ref zmo), (3, .int (Int32.ofNat sS.2.1.toNatClampNeg)), (4, .int y28), (6, .ref (rmo y28.toNatClampNeg)), (7, .int (Int32.ofNat sS.1.toNatClampNeg)), (8, .int y37)]) hx hb dX6_sum_59 rfl hl (by decide) rfl (fun ls hl => ?_)
              refine lv_iinc (v := (y37 + 1)) (lv' := [(8, .int (y37 + 1)), (1, .int x39), (9, .int (mM y28.toNatClampNeg y37.toNatClampNeg)), (2, .ref zmo), (3, .int (Int32.ofNat sS.2.1.toNatClampNeg)), (4, .int y28), (6, .ref (rmo y28.toNatClampNeg)), (7, .int (Int32.ofNat sS.1.toNatClampNeg))]) hx hb dX6_sum_60 hl (k := 7) rfl rfl (by decide) rfl (fun ls hl => ?_)
              refine lv_goto (tgt := 37) hx hb dX6_sum_63 (by decide) ?_
              exact ih47 _ _ _ _ _ hf hP hD hS (lv_sub hl [1, 3, 4, 5, 6, 7, 0] rfl)
        exact lp46 100 _ _ _ _ _ hv hP hD hS (lv_sub hl [4, 5, 6, 7, 2, 1, 0] rfl)
  exact lp43 100 _ _ _ _ _ hv hP hD hS (lv_sub hl [3, 2, 1, 0] rfl)
