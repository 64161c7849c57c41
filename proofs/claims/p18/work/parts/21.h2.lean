/-! HedgeGlidersLaw$Sim.pass()I -/
def lp_X6_pass_25 (sS : SiS) (mM : Nat → Nat → Int32) (y92 : Int32) : Nat → Int32 → (Nat → Nat → Int32) → Int32 → Int32 → Option ((Nat → Nat → Int32) × Int32 × Int32)
  | 0, _, _, _, _ => none
  | nf + 1, y122, y123, y124, y125 => if sS.1 ≤ y122 then (some (y123, y124, y125)) else (Option.bind (f_X6_has (sS.1, sS.2.1, sS.2.2.1, sS.2.2.2.1, sS.2.2.2.2.1, sS.2.2.2.2.2.1, y124, y125) mM y122 y92) fun r126 => Option.bind (f_X6_comes (sS.1, sS.2.1, sS.2.2.1, sS.2.2.2.1, sS.2.2.2.2.1, sS.2.2.2.2.2.1, y124, y125) mM y122 y92) fun r127 => Option.bind (if r127 = 0 then (some y123) else (if y92 < 0 ∨ sS.2.1.toNatClampNeg ≤ y92.toNatClampNeg then none else Option.bind (if r126 = 0 then (some 0) else (if y122 < 0 ∨ sS.1.toNatClampNeg ≤ y122.toNatClampNeg then none else some ((mM y92.toNatClampNeg y122.toNatClampNeg) + 1)) : Option (Int32)) fun v130 => if y122 < 0 ∨ sS.1.toNatClampNeg ≤ y122.toNatClampNeg then none else some (upM y123 y92.toNatClampNeg (upd (y123 y92.toNatClampNeg) y122.toNatClampNeg v130))) : Option ((Nat → Nat → Int32))) fun v132 => if y92 < 0 ∨ sS.2.1.toNatClampNeg ≤ y92.toNatClampNeg then none else if y122 < 0 ∨ sS.1.toNatClampNeg ≤ y122.toNatClampNeg then none else bindv (if (v132 y92.toNatClampNeg y122.toNatClampNeg) < 0 then (0) else (if r126 = 0 then (1) else (0)) : Int32) fun v135 => bindv (if 0 ≤ (v132 y92.toNatClampNeg y122.toNatClampNeg) then (0) else (if r126 = 0 then (0) else (1)) : Int32) fun v136 => lp_X6_pass_25 sS mM y92 nf (y122 + 1) v132 (y124 + v135) (y125 + v136))
def lp_X6_pass_15 (sS : SiS) (mM : Nat → Nat → Int32) : Nat → Int32 → (Nat → Nat → Int32) → Int32 → Int32 → Option ((Nat → Nat → Int32) × Int32 × Int32)
  | 0, _, _, _, _ => none
  | nf + 1, y92, y93, y94, y95 => if sS.2.1 ≤ y92 then (some (y93, y94, y95)) else (Option.bind (lp_X6_pass_25 sS mM y92 100 0 y93 y94 y95) fun v137 => lp_X6_pass_15 sS mM nf (y92 + 1) v137.1 v137.2.1 v137.2.2)
def f_X6_pass (sS : SiS) (mM : Nat → Nat → Int32) : Option (Int32 × SiS × (Nat → Nat → Int32)) := Option.bind (f_X6_rows sS.1 sS.2.1 (-1)) fun r1 => Option.bind (lp_X6_pass_15 sS mM 100 0 r1 sS.2.2.2.2.2.2.1 sS.2.2.2.2.2.2.2) fun v138 => Option.bind (f_X6_hedges (sS.1, sS.2.1, sS.2.2.1, sS.2.2.2.1, sS.2.2.2.2.1, (sS.2.2.2.2.2.1 + 1), v138.2.1, v138.2.2) v138.1) fun r139 => some (r139, (sS.1, sS.2.1, sS.2.2.1, sS.2.2.2.1, sS.2.2.2.2.1, (sS.2.2.2.2.2.1 + 1), v138.2.1, v138.2.2), v138.1)
abbrev rm_X6_pass : Room := ({ frames := 3, cells := 9, slots := 72, locals := 71 } : Room)
abbrev A_X6_pass (cI cJ cO cB : ClassId) (zsi zmo : Nat) (rmo : Nat → Nat) (sS : SiS) (mM : Nat → Nat → Int32) (sz : Nat) : Nat → Prop := va_A (wJ [[(zsi, .inr (5, [.int sS.1, .int sS.2.1, .int (bI sS.2.2.1), .int sS.2.2.2.1, .int sS.2.2.2.2.1, .int sS.2.2.2.2.2.1, .int sS.2.2.2.2.2.2.1, .int sS.2.2.2.2.2.2.2, .ref zmo]))], (mt cI cO zmo sS.2.1.toNatClampNeg sS.1.toNatClampNeg rmo mM)]) sz
abbrev Q_X6_pass (dC : Nat → ClassId) (dI : Nat → Nat → Nat) (cI cJ cO cB : ClassId) (zsi zmo : Nat) (rmo : Nat → Nat) (sS : SiS) (mM : Nat → Nat → Int32) (sz : Nat) (R : Int32 × SiS × (Nat → Nat → Int32)) : Array Value → State → Outcome → State → Prop := va_Qi (fun (r : Int32) (_ : (Nat × (Nat → Nat))) => r = R.1) (fun u_ t => va_P (dC, dI) vwCl (wJ [[(zsi, .inr (5, [.int R.2.1.1, .int R.2.1.2.1, .int (bI R.2.1.2.2.1), .int R.2.1.2.2.2.1, .int R.2.1.2.2.2.2.1, .int R.2.1.2.2.2.2.2.1, .int R.2.1.2.2.2.2.2.2.1, .int R.2.1.2.2.2.2.2.2.2, .ref u_.1]))], (mt cI cO u_.1 R.2.1.2.1.toNatClampNeg R.2.1.1.toNatClampNeg u_.2 R.2.2)]) t.heap ∧ va_K (dC, dI) vwCl [(cI, .int), (cJ, .long), (cO, .array .int), (cB, .boolean)] t ∧ va_D (A_X6_pass cI cJ cO cB zsi zmo rmo sS mM sz) (wJ [[(zsi, .inr (5, [.int R.2.1.1, .int R.2.1.2.1, .int (bI R.2.1.2.2.1), .int R.2.1.2.2.2.1, .int R.2.1.2.2.2.2.1, .int R.2.1.2.2.2.2.2.1, .int R.2.1.2.2.2.2.2.2.1, .int R.2.1.2.2.2.2.2.2.2, .ref u_.1]))], (mt cI cO u_.1 R.2.1.2.1.toNatClampNeg R.2.1.1.toNatClampNeg u_.2 R.2.2)])) (A_X6_pass cI cJ cO cB zsi zmo rmo sS mM sz)
set_option maxHeartbeats 4000000 in
set_option maxRecDepth 100000 in
theorem c_X6_pass (l : Launch) (dC : Nat → ClassId) (dI : Nat → Nat → Nat) (cI cJ cO cB : ClassId) (zsi zmo : Nat) (sz : Nat) (rmo : Nat → Nat) (sS : SiS) (mM : Nat → Nat → Int32) (R : Int32 × SiS × (Nat → Nat → Int32)) (hR : f_X6_pass sS mM = some R) : Met l yX6_pass wsX6_pass rm_X6_pass (va_Pc [.ref zsi] (fun U => U.heap.size = sz ∧ va_P (dC, dI) vwCl (wJ [[(zsi, .inr (5, [.int sS.1, .int sS.2.1, .int (bI sS.2.2.1), .int sS.2.2.2.1, .int sS.2.2.2.2.1, .int sS.2.2.2.2.2.1, .int sS.2.2.2.2.2.2.1, .int sS.2.2.2.2.2.2.2, .ref zmo]))], (mt cI cO zmo sS.2.1.toNatClampNeg sS.1.toNatClampNeg rmo mM)]) U.heap ∧ va_K (dC, dI) vwCl [(cI, .int), (cJ, .long), (cO, .array .int), (cB, .boolean)] U ∧ va_D (fun _ => True) (wJ [[(zsi, .inr (5, [.int sS.1, .int sS.2.1, .int (bI sS.2.2.1), .int sS.2.2.2.1, .int sS.2.2.2.2.1, .int sS.2.2.2.2.2.1, .int sS.2.2.2.2.2.2.1, .int sS.2.2.2.2.2.2.2, .ref zmo]))], (mt cI cO zmo sS.2.1.toNatClampNeg sS.1.toNatClampNeg rmo mM)]) ∧ aoE U)) (Q_X6_pass dC dI cI cJ cO cB zsi zmo rmo sS mM sz R) 9 72 (A_X6_pass cI cJ cO cB zsi zmo rmo sS mM sz) := by
  have hf := hR
  refine Met.ofW (cc := cX6_pass) (maxL := 5) (ret := (some .int)) (by decide) rfl ?_
  intro p e s m args below meth c s₁ B hml hv
  obtain ⟨hargs, hsz, hP, hK, hD0, hao⟩ := hv
  have hx := B.exec
  have hb := B.bytes
  have hr := B.returns
  have hts := atoms_spec (ws := wsX6_pass) B.pre
  have hown : s.vm.findClass RX6 = some m.cls := findClass_of_methodNamed B.named
  have hlocks := B.notSynchronized
  subst hsz
  have hK2 : va_K (dC, dI) vwCl [(cI, .int), (cJ, .long)] s := hK.sub [0, 1] rfl
  have hD : va_D (A_X6_pass cI cJ cO cB zsi zmo rmo sS mM s.heap.size) (wJ [[(zsi, .inr (5, [.int sS.1, .int sS.2.1, .int (bI sS.2.2.1), .int sS.2.2.2.1, .int sS.2.2.2.2.1, .int sS.2.2.2.2.2.1, .int sS.2.2.2.2.2.2.1, .int sS.2.2.2.2.2.2.2, .ref zmo]))], (mt cI cO zmo sS.2.1.toNatClampNeg sS.1.toNatClampNeg rmo mM)]) := hD0.self (sz := s.heap.size)
  have hA : ∀ q : Nat, s.heap.size ≤ q → (A_X6_pass cI cJ cO cB zsi zmo rmo sS mM s.heap.size) q := fun q h => Or.inr h
  have hS : va_S (A_X6_pass cI cJ cO cB zsi zmo rmo sS mM s.heap.size) s.heap s.heap [] := va_S.rf
  have hinX6 : ∀ w ∈ wsX60, w ∈ wsX6_pass := by decide +kernel
  have hw0 := hts (.fieldLink RX6 7 "HedgeGlidersLaw$Sim" "w" "I") (by decide +kernel)
  have hw1 := hts (.fieldLink RX6 13 "HedgeGlidersLaw$Sim" "h" "I") (by decide +kernel)
  have hw2 := hts (.fieldLink RX6 26 "HedgeGlidersLaw$Sim" "ages" "[[I") (by decide +kernel)
  have hw3 := hts (.fieldLink RX6 39 "HedgeGlidersLaw$Sim" "born" "I") (by decide +kernel)
  have hw4 := hts (.fieldLink RX6 42 "HedgeGlidersLaw$Sim" "dead" "I") (by decide +kernel)
  have hw5 := hts (.fieldLink RX6 36 "HedgeGlidersLaw$Sim" "year" "I") (by decide +kernel)
  have hl := lv_entry ([.ref zsi]) (n := 5) (Nat.le_of_ble_eq_true rfl)
  have he0 : entryFrame m args 5 = entryFrame m ([.ref zsi] : List Value).toArray 5 := by rw [hargs]
  rw [he0, lg_entry_eq]
  generalize (lg_sl ([.ref zsi]) ++ List.replicate (5 - (lg_sl ([.ref zsi])).length) Slot.unset).toArray = ls at hl ⊢
  have hl : lv_has ls 5 [(0, .ref zsi)] := hl
  rw [f_X6_pass] at hf
  refine lv_aload_n hx hb dX6_pass_0 rfl (lv_at hl 0 rfl) ?_
  refine va_get (D := (dC, dI)) (ci := 5) (v := .int sS.1) (C := RX6) (T := TX6) (N := 9) hx hb hts hinX6 hown hK hP 0 rfl rfl 0 (by decide) hw0 (fun _ h9 => h9) rfl dX6_pass_1 ?_
  refine lv_aload_n hx hb dX6_pass_4 rfl (lv_at hl 0 rfl) ?_
  refine va_get (D := (dC, dI)) (ci := 5) (v := .int sS.2.1) (C := RX6) (T := TX6) (N := 9) hx hb hts hinX6 hown hK hP 0 rfl rfl 1 (by decide) hw1 (fun _ h9 => h9) rfl dX6_pass_5 ?_
  refine lv_iconst (v := (-1)) hx hb dX6_pass_8 (by decide) ?_
  obtain ⟨r1, hr1, hf⟩ := obind hf
  have hPc : va_P (dC, dI) vwCl (wJ []) s.heap := sgP (L' := []) hP [] rfl
  have hDc : va_D (A_X6_pass cI cJ cO cB zsi zmo rmo sS mM s.heap.size) (wJ []) := sgD (L' := []) hD [] (by decide) rfl
  have hFc : ∀ q, va_A (wJ []) s.heap.size q → (A_X6_pass cI cJ cO cB zsi zmo rmo sS mM s.heap.size) q := sg_free (W := []) hD hS hA [] rfl
  refine va_callr (va_runS (As := [.int sS.1, .int sS.2.1, .int (-1)]) (rest := []) ⟨hx, hb, hml, hown, hts⟩ (c_X6_rows l dC dI cI cJ cO cB  s.heap.size sS.1 sS.2.1 (-1) _ hr1) (va_cwS 3 hts gX6_pass_X6_rows rfl rfl rfl (by decide +kernel) ⟨Nat.le_of_ble_eq_true rfl, Nat.le_of_ble_eq_true rfl⟩) ⟨fun a U gg mk q => by obtain ⟨q0, q1, qP, qK, qD, qo⟩ := q; exact ⟨q0, q1, qP, va_K.moved (u := U) (U := U.calling gg mk a) (Vm.Alike.refl U.vm) qK, qD, aoE.same (u := U) (U := U.calling gg mk a) rfl qo⟩, fun U hU hW => ⟨rfl, by rw [hU], by rw [hU]; exact hPc, va_K.moved hW.alike hK, hDc.weaken (fun _ _ _ _ => trivial), hao.warm hW⟩⟩ rfl rfl hl.1 rfl (lv_room (Nat.le_of_ble_eq_true rfl)) dX6_pass_9 ⟨(Nat.le_of_ble_eq_true rfl), (Nat.le_of_ble_eq_true rfl)⟩) hS (fun q _ h => hFc q h) hFc (fun u_ z2 t H locs ht hvm hw hB hz1 hk1 hS => ?_)
  obtain ⟨r3, rfl⟩ : ∃ z, z = u_ := ⟨_, rfl⟩
  obtain ⟨hP1, -, hD1⟩ := hB
  rw [ht] at hP1
  have hJ := sg_join2 (W := []) (R := [[(zsi, .inr (5, [.int sS.1, .int sS.2.1, .int (bI sS.2.2.1), .int sS.2.2.2.1, .int sS.2.2.2.2.1, .int sS.2.2.2.2.2.1, .int sS.2.2.2.2.2.2.1, .int sS.2.2.2.2.2.2.2, .ref zmo]))], (mt cI cO zmo sS.2.1.toNatClampNeg sS.1.toNatClampNeg rmo mM)]) (W1 := [(mt cI cO z2 sS.2.1.toNatClampNeg sS.1.toNatClampNeg r3 r1)]) hP hD [] [0, 1] rfl rfl (by decide) (by decide) hk1 hFc hP1 hD1
  have hP : va_P (dC, dI) vwCl (wJ [[(zsi, .inr (5, [.int sS.1, .int sS.2.1, .int (bI sS.2.2.1), .int sS.2.2.2.1, .int sS.2.2.2.2.1, .int sS.2.2.2.2.2.1, .int sS.2.2.2.2.2.2.1, .int sS.2.2.2.2.2.2.2, .ref zmo]))], (mt cI cO zmo sS.2.1.toNatClampNeg sS.1.toNatClampNeg rmo mM), (mt cI cO z2 sS.2.1.toNatClampNeg sS.1.toNatClampNeg r3 r1)]) H := hJ.1
  have hD : va_D (A_X6_pass cI cJ cO cB zsi zmo rmo sS mM s.heap.size) (wJ [[(zsi, .inr (5, [.int sS.1, .int sS.2.1, .int (bI sS.2.2.1), .int sS.2.2.2.1, .int sS.2.2.2.2.1, .int sS.2.2.2.2.2.1, .int sS.2.2.2.2.2.2.1, .int sS.2.2.2.2.2.2.2, .ref zmo]))], (mt cI cO zmo sS.2.1.toNatClampNeg sS.1.toNatClampNeg rmo mM), (mt cI cO z2 sS.2.1.toNatClampNeg sS.1.toNatClampNeg r3 r1)]) := hJ.2
  have hP := sgP (L' := [[(zsi, .inr (5, [.int sS.1, .int sS.2.1, .int (bI sS.2.2.1), .int sS.2.2.2.1, .int sS.2.2.2.2.1, .int sS.2.2.2.2.2.1, .int sS.2.2.2.2.2.2.1, .int sS.2.2.2.2.2.2.2, .ref zmo]))], (mt cI cO zmo sS.2.1.toNatClampNeg sS.1.toNatClampNeg rmo mM), (mt cI cO z2 sS.2.1.toNatClampNeg sS.1.toNatClampNeg r3 r1)]) hP [0, 1, 2] rfl
  have hD := sgD (L' := [[(zsi, .inr (5, [.int sS.1, .int sS.2.1, .int (bI sS.2.2.1), .int sS.2.2.2.1, .int sS.2.2.2.2.1, .int sS.2.2.2.2.2.1, .int sS.2.2.2.2.2.2.1, .int sS.2.2.2.2.2.2.2, .ref zmo]))], (mt cI cO zmo sS.2.1.toNatClampNeg sS.1.toNatClampNeg rmo mM), (mt cI cO z2 sS.2.1.toNatClampNeg sS.1.toNatClampNeg r3 r1)]) hD [0, 1, 2] (by decide) rfl
  clear hPc hDc hFc hP1 hD1 hk1 hJ
  refine lv_astore_n (lv' := [(1, .ref z2), (0, .ref zsi)]) hx hb dX6_pass_12 rfl hl (by decide) rfl (fun ls hl => ?_)
  refine lv_iconst (v := 0) hx hb dX6_pass_13 (by decide) ?_
  refine lv_istore_n (lv' := [(2, .int 0), (1, .ref z2), (0, .ref zsi)]) hx hb dX6_pass_14 rfl hl (by decide) rfl (fun ls hl => ?_)
  obtain ⟨v138, hv, hf⟩ := obind hf
  have K140 : ∀ (H : Heap) (locs : List Loc) (ls : Array Slot), va_P (dC, dI) vwCl (wJ [[(zsi, .inr (5, [.int sS.1, .int sS.2.1, .int (bI sS.2.2.1), .int sS.2.2.2.1, .int sS.2.2.2.2.1, .int sS.2.2.2.2.2.1, .int v138.2.1, .int v138.2.2, .ref zmo]))], (mt cI cO zmo sS.2.1.toNatClampNeg sS.1.toNatClampNeg rmo mM), (mt cI cO z2 sS.2.1.toNatClampNeg sS.1.toNatClampNeg r3 v138.1)]) H → va_D (A_X6_pass cI cJ cO cB zsi zmo rmo sS mM s.heap.size) (wJ [[(zsi, .inr (5, [.int sS.1, .int sS.2.1, .int (bI sS.2.2.1), .int sS.2.2.2.1, .int sS.2.2.2.2.1, .int sS.2.2.2.2.2.1, .int v138.2.1, .int v138.2.2, .ref zmo]))], (mt cI cO zmo sS.2.1.toNatClampNeg sS.1.toNatClampNeg rmo mM), (mt cI cO z2 sS.2.1.toNatClampNeg sS.1.toNatClampNeg r3 v138.1)]) → va_S (A_X6_pass cI cJ cO cB zsi zmo rmo sS mM s.heap.size) s.heap H locs → lv_has ls 5 [(0, .ref zsi), (1, .ref z2)] → W p l e rm_X6_pass s m args below meth c H locs 9 72 (MQ below (Q_X6_pass dC dI cI cJ cO cB zsi zmo rmo sS mM s.heap.size R) args s 9 72 (A_X6_pass cI cJ cO cB zsi zmo rmo sS mM s.heap.size)) (F0 m 140 ls []) := by
    intro H locs ls hP hD hS hl
    refine lv_aload_n hx hb dX6_pass_140 rfl (lv_at hl 0 rfl) ?_
    refine lv_aload_n hx hb dX6_pass_141 rfl (lv_at hl 1 rfl) ?_
    refine va_put (D := (dC, dI)) (ci := 5) (v := .ref z2) (ty := (.array (.array .int))) (C := RX6) (T := TX6) (N := 9) hx hb hts hinX6 tyX6 tyX6_ok nmX6 hown hK hP hD hS 0 rfl rfl 8 (by decide) hw2 (fun _ h9 => h9) rfl (by decide +kernel) rfl rfl (Nat.le_of_ble_eq_true rfl) dX6_pass_142 (fun H locs hP hD hS => ?_)
    have hP : va_P (dC, dI) vwCl (wJ [[(zsi, .inr (5, [.int sS.1, .int sS.2.1, .int (bI sS.2.2.1), .int sS.2.2.2.1, .int sS.2.2.2.2.1, .int sS.2.2.2.2.2.1, .int v138.2.1, .int v138.2.2, .ref z2]))], (mt cI cO zmo sS.2.1.toNatClampNeg sS.1.toNatClampNeg rmo mM), (mt cI cO z2 sS.2.1.toNatClampNeg sS.1.toNatClampNeg r3 v138.1)]) H := hP
    have hD : va_D (A_X6_pass cI cJ cO cB zsi zmo rmo sS mM s.heap.size) (wJ [[(zsi, .inr (5, [.int sS.1, .int sS.2.1, .int (bI sS.2.2.1), .int sS.2.2.2.1, .int sS.2.2.2.2.1, .int sS.2.2.2.2.2.1, .int v138.2.1, .int v138.2.2, .ref z2]))], (mt cI cO zmo sS.2.1.toNatClampNeg sS.1.toNatClampNeg rmo mM), (mt cI cO z2 sS.2.1.toNatClampNeg sS.1.toNatClampNeg r3 v138.1)]) := hD
    refine lv_aload_n hx hb dX6_pass_145 rfl (lv_at hl 0 rfl) ?_
    refine lv_dup hx hb dX6_pass_146 rfl ?_
    refine va_get (D := (dC, dI)) (ci := 5) (v := .int sS.2.2.2.2.2.1) (C := RX6) (T := TX6) (N := 9) hx hb hts hinX6 hown hK hP 0 rfl rfl 5 (by decide) hw5 (fun _ h9 => h9) rfl dX6_pass_147 ?_
    refine lv_iconst (v := 1) hx hb dX6_pass_150 (by decide) ?_
    refine lv_iadd hx hb dX6_pass_151 ?_
    refine va_put (D := (dC, dI)) (ci := 5) (v := .int (sS.2.2.2.2.2.1 + 1)) (ty := .int) (C := RX6) (T := TX6) (N := 9) hx hb hts hinX6 tyX6 tyX6_ok nmX6 hown hK hP hD hS 0 rfl rfl 5 (by decide) hw5 (fun _ h9 => h9) rfl (by decide +kernel) rfl rfl (Nat.le_of_ble_eq_true rfl) dX6_pass_152 (fun H locs hP hD hS => ?_)
    have hP : va_P (dC, dI) vwCl (wJ [[(zsi, .inr (5, [.int sS.1, .int sS.2.1, .int (bI sS.2.2.1), .int sS.2.2.2.1, .int sS.2.2.2.2.1, .int (sS.2.2.2.2.2.1 + 1), .int v138.2.1, .int v138.2.2, .ref z2]))], (mt cI cO zmo sS.2.1.toNatClampNeg sS.1.toNatClampNeg rmo mM), (mt cI cO z2 sS.2.1.toNatClampNeg sS.1.toNatClampNeg r3 v138.1)]) H := hP
    have hD : va_D (A_X6_pass cI cJ cO cB zsi zmo rmo sS mM s.heap.size) (wJ [[(zsi, .inr (5, [.int sS.1, .int sS.2.1, .int (bI sS.2.2.1), .int sS.2.2.2.1, .int sS.2.2.2.2.1, .int (sS.2.2.2.2.2.1 + 1), .int v138.2.1, .int v138.2.2, .ref z2]))], (mt cI cO zmo sS.2.1.toNatClampNeg sS.1.toNatClampNeg rmo mM), (mt cI cO z2 sS.2.1.toNatClampNeg sS.1.toNatClampNeg r3 v138.1)]) := hD
    refine lv_aload_n hx hb dX6_pass_155 rfl (lv_at hl 0 rfl) ?_
    obtain ⟨r139, hr139, hf⟩ := obind hf
    have hPc : va_P (dC, dI) vwCl (wJ [[(zsi, .inr (5, [.int sS.1, .int sS.2.1, .int (bI sS.2.2.1), .int sS.2.2.2.1, .int sS.2.2.2.2.1, .int (sS.2.2.2.2.2.1 + 1), .int v138.2.1, .int v138.2.2, .ref z2]))], (mt cI cO z2 sS.2.1.toNatClampNeg sS.1.toNatClampNeg r3 v138.1)]) H := sgP (L' := [[(zsi, .inr (5, [.int sS.1, .int sS.2.1, .int (bI sS.2.2.1), .int sS.2.2.2.1, .int sS.2.2.2.2.1, .int (sS.2.2.2.2.2.1 + 1), .int v138.2.1, .int v138.2.2, .ref z2]))], (mt cI cO z2 sS.2.1.toNatClampNeg sS.1.toNatClampNeg r3 v138.1)]) hP [0, 2] rfl
    have hDc : va_D (A_X6_pass cI cJ cO cB zsi zmo rmo sS mM s.heap.size) (wJ [[(zsi, .inr (5, [.int sS.1, .int sS.2.1, .int (bI sS.2.2.1), .int sS.2.2.2.1, .int sS.2.2.2.2.1, .int (sS.2.2.2.2.2.1 + 1), .int v138.2.1, .int v138.2.2, .ref z2]))], (mt cI cO z2 sS.2.1.toNatClampNeg sS.1.toNatClampNeg r3 v138.1)]) := sgD (L' := [[(zsi, .inr (5, [.int sS.1, .int sS.2.1, .int (bI sS.2.2.1), .int sS.2.2.2.1, .int sS.2.2.2.2.1, .int (sS.2.2.2.2.2.1 + 1), .int v138.2.1, .int v138.2.2, .ref z2]))], (mt cI cO z2 sS.2.1.toNatClampNeg sS.1.toNatClampNeg r3 v138.1)]) hD [0, 2] (by decide) rfl
    have hFc : ∀ q, va_A (wJ [[(zsi, .inr (5, [.int sS.1, .int sS.2.1, .int (bI sS.2.2.1), .int sS.2.2.2.1, .int sS.2.2.2.2.1, .int (sS.2.2.2.2.2.1 + 1), .int v138.2.1, .int v138.2.2, .ref z2]))], (mt cI cO z2 sS.2.1.toNatClampNeg sS.1.toNatClampNeg r3 v138.1)]) H.size q → (A_X6_pass cI cJ cO cB zsi zmo rmo sS mM s.heap.size) q := sg_free (W := [[(zsi, .inr (5, [.int sS.1, .int sS.2.1, .int (bI sS.2.2.1), .int sS.2.2.2.1, .int sS.2.2.2.2.1, .int (sS.2.2.2.2.2.1 + 1), .int v138.2.1, .int v138.2.2, .ref z2]))], (mt cI cO z2 sS.2.1.toNatClampNeg sS.1.toNatClampNeg r3 v138.1)]) hD hS hA [0, 2] rfl
    refine va_calli (va_runV (As := []) (rest := []) ⟨hx, hb, hml, hown, hts⟩ (c_X6_hedges l dC dI cI cJ cO cB zsi z2 H.size r3 (sS.1, sS.2.1, sS.2.2.1, sS.2.2.2.1, sS.2.2.2.2.1, (sS.2.2.2.2.2.1 + 1), v138.2.1, v138.2.2) v138.1 _ hr139) (cwV 0 hts gX6_pass_X6_hedges rfl rfl rfl (by decide +kernel) ⟨Nat.le_of_ble_eq_true rfl, Nat.le_of_ble_eq_true rfl⟩) ⟨fun a U gg mk q => by obtain ⟨q0, q1, qP, qK, qD⟩ := q; exact ⟨q0, q1, qP, va_K.moved (u := U) (U := U.calling gg mk a) (Vm.Alike.refl U.vm) qK, qD⟩, va_recv hK hPc (ci := 5) (q0 := 0) rfl rfl, fun U hU hW => ⟨rfl, by rw [hU], by rw [hU]; exact hPc, va_K.moved hW.alike hK, hDc.weaken (fun _ _ _ _ => trivial)⟩⟩ rfl rfl hl.1 rfl (lv_room (Nat.le_of_ble_eq_true rfl)) dX6_pass_156 ⟨(Nat.le_of_ble_eq_true rfl), (Nat.le_of_ble_eq_true rfl)⟩) hS (fun q _ h => hFc q h) hFc (fun r_ u_ t H locs ht hvm hw hB hz1 hk1 hS => ?_)
    obtain rfl := hw.symm
    obtain ⟨hP1, -, hD1⟩ := hB
    rw [ht] at hP1
    have hJ := sg_join2 (W := [[(zsi, .inr (5, [.int sS.1, .int sS.2.1, .int (bI sS.2.2.1), .int sS.2.2.2.1, .int sS.2.2.2.2.1, .int (sS.2.2.2.2.2.1 + 1), .int v138.2.1, .int v138.2.2, .ref z2]))], (mt cI cO z2 sS.2.1.toNatClampNeg sS.1.toNatClampNeg r3 v138.1)]) (R := [(mt cI cO zmo sS.2.1.toNatClampNeg sS.1.toNatClampNeg rmo mM)]) (W1 := [[(zsi, .inr (5, [.int sS.1, .int sS.2.1, .int (bI sS.2.2.1), .int sS.2.2.2.1, .int sS.2.2.2.2.1, .int (sS.2.2.2.2.2.1 + 1), .int v138.2.1, .int v138.2.2, .ref z2]))], (mt cI cO z2 sS.2.1.toNatClampNeg sS.1.toNatClampNeg r3 v138.1)]) hP hD [0, 2] [1] rfl rfl (by decide) (by decide) hk1 hFc hP1 hD1
    have hP : va_P (dC, dI) vwCl (wJ [(mt cI cO zmo sS.2.1.toNatClampNeg sS.1.toNatClampNeg rmo mM), [(zsi, .inr (5, [.int sS.1, .int sS.2.1, .int (bI sS.2.2.1), .int sS.2.2.2.1, .int sS.2.2.2.2.1, .int (sS.2.2.2.2.2.1 + 1), .int v138.2.1, .int v138.2.2, .ref z2]))], (mt cI cO z2 sS.2.1.toNatClampNeg sS.1.toNatClampNeg r3 v138.1)]) H := hJ.1
    have hD : va_D (A_X6_pass cI cJ cO cB zsi zmo rmo sS mM s.heap.size) (wJ [(mt cI cO zmo sS.2.1.toNatClampNeg sS.1.toNatClampNeg rmo mM), [(zsi, .inr (5, [.int sS.1, .int sS.2.1, .int (bI sS.2.2.1), .int sS.2.2.2.1, .int sS.2.2.2.2.1, .int (sS.2.2.2.2.2.1 + 1), .int v138.2.1, .int v138.2.2, .ref z2]))], (mt cI cO z2 sS.2.1.toNatClampNeg sS.1.toNatClampNeg r3 v138.1)]) := hJ.2
    have hP := sgP (L' := [[(zsi, .inr (5, [.int sS.1, .int sS.2.1, .int (bI sS.2.2.1), .int sS.2.2.2.1, .int sS.2.2.2.2.1, .int (sS.2.2.2.2.2.1 + 1), .int v138.2.1, .int v138.2.2, .ref z2]))], (mt cI cO zmo sS.2.1.toNatClampNeg sS.1.toNatClampNeg rmo mM), (mt cI cO z2 sS.2.1.toNatClampNeg sS.1.toNatClampNeg r3 v138.1)]) hP [1, 0, 2] rfl
    have hD := sgD (L' := [[(zsi, .inr (5, [.int sS.1, .int sS.2.1, .int (bI sS.2.2.1), .int sS.2.2.2.1, .int sS.2.2.2.2.1, .int (sS.2.2.2.2.2.1 + 1), .int v138.2.1, .int v138.2.2, .ref z2]))], (mt cI cO zmo sS.2.1.toNatClampNeg sS.1.toNatClampNeg rmo mM), (mt cI cO z2 sS.2.1.toNatClampNeg sS.1.toNatClampNeg r3 v138.1)]) hD [1, 0, 2] (by decide) rfl
    clear hPc hDc hFc hP1 hD1 hk1 hJ
    obtain rfl := Option.some.inj hf
    have hP := sgP (L' := [[(zsi, .inr (5, [.int sS.1, .int sS.2.1, .int (bI sS.2.2.1), .int sS.2.2.2.1, .int sS.2.2.2.2.1, .int (sS.2.2.2.2.2.1 + 1), .int v138.2.1, .int v138.2.2, .ref z2]))], (mt cI cO z2 sS.2.1.toNatClampNeg sS.1.toNatClampNeg r3 v138.1)]) hP [0, 2] rfl
    have hD := sgD (L' := [[(zsi, .inr (5, [.int sS.1, .int sS.2.1, .int (bI sS.2.2.1), .int sS.2.2.2.1, .int sS.2.2.2.2.1, .int (sS.2.2.2.2.2.1 + 1), .int v138.2.1, .int v138.2.2, .ref z2]))], (mt cI cO z2 sS.2.1.toNatClampNeg sS.1.toNatClampNeg r3 v138.1)]) hD [0, 2] (by decide) rfl
    exact W.iret (v := r139) hx hb hr (fun t ht hW => ⟨⟨r139, ((z2, r3)), rfl, rfl, by rw [ht]; exact hP, va_K.moved hW.alike hK, hD⟩, hS.F ht⟩) hS.2.2 dX6_pass_159
  have lp141 : ∀ (nf15 : Nat) (y92 : Int32) (y93 : Nat → Nat → Int32) (y94 : Int32) (y95 : Int32) (H : Heap) (locs : List Loc) (ls : Array Slot), lp_X6_pass_15 sS mM nf15 y92 y93 y94 y95 = some v138 → va_P (dC, dI) vwCl (wJ [[(zsi, .inr (5, [.int sS.1, .int sS.2.1, .int (bI sS.2.2.1), .int sS.2.2.2.1, .int sS.2.2.2.2.1, .int sS.2.2.2.2.2.1, .int y94, .int y95, .ref zmo]))], (mt cI cO zmo sS.2.1.toNatClampNeg sS.1.toNatClampNeg rmo mM), (mt cI cO z2 sS.2.1.toNatClampNeg sS.1.toNatClampNeg r3 y93)]) H → va_D (A_X6_pass cI cJ cO cB zsi zmo rmo sS mM s.heap.size) (wJ [[(zsi, .inr (5, [.int sS.1, .int sS.2.1, .int (bI sS.2.2.1), .int sS.2.2.2.1, .int sS.2.2.2.2.1, .int sS.2.2.2.2.2.1, .int y94, .int y95, .ref zmo]))], (mt cI cO zmo sS.2.1.toNatClampNeg sS.1.toNatClampNeg rmo mM), (mt cI cO z2 sS.2.1.toNatClampNeg sS.1.toNatClampNeg r3 y93)]) → va_S (A_X6_pass cI cJ cO cB zsi zmo rmo sS mM s.heap.size) s.heap H locs → lv_has ls 5 [(0, .ref zsi), (1, .ref z2), (2, .int y92)] → W p l e rm_X6_pass s m args below meth c H locs 9 72 (MQ below (Q_X6_pass dC dI cI cJ cO cB zsi zmo rmo sS mM s.heap.size R) args s 9 72 (A_X6_pass cI cJ cO cB zsi zmo rmo sS mM s.heap.size)) (F0 m 15 ls []) := by
    intro nf15
    induction nf15 with
    | zero => intro y92 y93 y94 y95 H locs ls h9; exact nomatch h9
    | succ nf15 ih142 =>
      intro y92 y93 y94 y95 H locs ls hf hP hD hS hl
      rw [lp_X6_pass_15.eq_2] at hf
      refine lv_iload_n hx hb dX6_pass_15 rfl (lv_at hl 2 rfl) ?_
      refine lv_aload_n hx hb dX6_pass_16 rfl (lv_at hl 0 rfl) ?_
      refine va_get (D := (dC, dI)) (ci := 5) (v := .int sS.2.1) (C := RX6) (T := TX6) (N := 9) hx hb hts hinX6 hown hK hP 0 rfl rfl 1 (by decide) hw1 (fun _ h9 => h9) rfl dX6_pass_17 ?_
      refine lv_icmp_ge (tgt := 140) hx hb dX6_pass_20 (by decide) (fun hc => ?_) (fun hc => ?_)
      · rw [if_pos hc] at hf
        obtain rfl := Option.some.inj hf
        exact K140 _ _ _ hP hD hS (lv_sub hl [0, 1] rfl)
      · rw [if_neg hc] at hf
        refine lv_iconst (v := 0) hx hb dX6_pass_23 (by decide) ?_
        refine lv_istore_n (lv' := [(3, .int 0), (0, .ref zsi), (1, .ref z2), (2, .int y92)]) hx hb dX6_pass_24 rfl hl (by decide) rfl (fun ls hl => ?_)
        obtain ⟨v137, hv, hf⟩ := obind hf
        have K143 : ∀ (H : Heap) (locs : List Loc) (ls : Array Slot), va_P (dC, dI) vwCl (wJ [[(zsi, .inr (5, [.int sS.1, .int sS.2.1, .int (bI sS.2.2.1), .int sS.2.2.2.1, .int sS.2.2.2.2.1, .int sS.2.2.2.2.2.1, .int v137.2.1, .int v137.2.2, .ref zmo]))], (mt cI cO zmo sS.2.1.toNatClampNeg sS.1.toNatClampNeg rmo mM), (mt cI cO z2 sS.2.1.toNatClampNeg sS.1.toNatClampNeg r3 v137.1)]) H → va_D (A_X6_pass cI cJ cO cB zsi zmo rmo sS mM s.heap.size) (wJ [[(zsi, .inr (5, [.int sS.1, .int sS.2.1, .int (bI sS.2.2.1), .int sS.2.2.2.1, .int sS.2.2.2.2.1, .int sS.2.2.2.2.2.1, .int v137.2.1, .int v137.2.2, .ref zmo]))], (mt cI cO zmo sS.2.1.toNatClampNeg sS.1.toNatClampNeg rmo mM), (mt cI cO z2 sS.2.1.toNatClampNeg sS.1.toNatClampNeg r3 v137.1)]) → va_S (A_X6_pass cI cJ cO cB zsi zmo rmo sS mM s.heap.size) s.heap H locs → lv_has ls 5 [(0, .ref zsi), (1, .ref z2), (2, .int y92)] → W p l e rm_X6_pass s m args below meth c H locs 9 72 (MQ below (Q_X6_pass dC dI cI cJ cO cB zsi zmo rmo sS mM s.heap.size R) args s 9 72 (A_X6_pass cI cJ cO cB zsi zmo rmo sS mM s.heap.size)) (F0 m 134 ls []) := by
          intro H locs ls hP hD hS hl
          refine lv_iinc (v := (y92 + 1)) (lv' := [(2, .int (y92 + 1)), (0, .ref zsi), (1, .ref z2)]) hx hb dX6_pass_134 hl (k := 2) rfl rfl (by decide) rfl (fun ls hl => ?_)
          refine lv_goto (tgt := 15) hx hb dX6_pass_137 (by decide) ?_
          exact ih142 _ _ _ _ _ _ _ hf hP hD hS (lv_sub hl [1, 2, 0] rfl)
        have lp144 : ∀ (nf25 : Nat) (y122 : Int32) (y123 : Nat → Nat → Int32) (y124 : Int32) (y125 : Int32) (H : Heap) (locs : List Loc) (ls : Array Slot), lp_X6_pass_25 sS mM y92 nf25 y122 y123 y124 y125 = some v137 → va_P (dC, dI) vwCl (wJ [[(zsi, .inr (5, [.int sS.1, .int sS.2.1, .int (bI sS.2.2.1), .int sS.2.2.2.1, .int sS.2.2.2.2.1, .int sS.2.2.2.2.2.1, .int y124, .int y125, .ref zmo]))], (mt cI cO zmo sS.2.1.toNatClampNeg sS.1.toNatClampNeg rmo mM), (mt cI cO z2 sS.2.1.toNatClampNeg sS.1.toNatClampNeg r3 y123)]) H → va_D (A_X6_pass cI cJ cO cB zsi zmo rmo sS mM s.heap.size) (wJ [[(zsi, .inr (5, [.int sS.1, .int sS.2.1, .int (bI sS.2.2.1), .int sS.2.2.2.1, .int sS.2.2.2.2.1, .int sS.2.2.2.2.2.1, .int y124, .int y125, .ref zmo]))], (mt cI cO zmo sS.2.1.toNatClampNeg sS.1.toNatClampNeg rmo mM), (mt cI cO z2 sS.2.1.toNatClampNeg sS.1.toNatClampNeg r3 y123)]) → va_S (A_X6_pass cI cJ cO cB zsi zmo rmo sS mM s.heap.size) s.heap H locs → lv_has ls 5 [(0, .ref zsi), (1, .ref z2), (2, .int y92), (3, .int y122)] → W p l e rm_X6_pass s m args below meth c H locs 9 72 (MQ below (Q_X6_pass dC dI cI cJ cO cB zsi zmo rmo sS mM s.heap.size R) args s 9 72 (A_X6_pass cI cJ cO cB zsi zmo rmo sS mM s.heap.size)) (F0 m 25 ls []) := by
          intro nf25
          induction nf25 with
          | zero => intro y122 y123 y124 y125 H locs ls h9; exact nomatch h9
          | succ nf25 ih145 =>
            intro y122 y123 y124 y125 H locs ls hf hP hD hS hl
            rw [lp_X6_pass_25.eq_2] at hf
            refine lv_iload_n hx hb dX6_pass_25 rfl (lv_at hl 3 rfl) ?_
            refine lv_aload_n hx hb dX6_pass_26 rfl (lv_at hl 0 rfl) ?_
            refine va_get (D := (dC, dI)) (ci := 5) (v := .int sS.1) (C := RX6) (T := TX6) (N := 9) hx hb hts hinX6 hown hK hP 0 rfl rfl 0 (by decide) hw0 (fun _ h9 => h9) rfl dX6_pass_27 ?_
            refine lv_icmp_ge (tgt := 134) hx hb dX6_pass_30 (by decide) (fun hc => ?_) (fun hc => ?_)
            · rw [if_pos hc] at hf
              obtain rfl := Option.some.inj hf
              exact K143 _ _ _ hP hD hS (lv_sub hl [0, 1, 2] rfl)
            · rw [if_neg hc] at hf
              refine lv_aload_n hx hb dX6_pass_33 rfl (lv_at hl 0 rfl) ?_
              refine lv_iload_n hx hb dX6_pass_34 rfl (lv_at hl 3 rfl) ?_
              refine lv_iload_n hx hb dX6_pass_35 rfl (lv_at hl 2 rfl) ?_
              obtain ⟨r126, hr126, hf⟩ := obind hf
              have hPc : va_P (dC, dI) vwCl (wJ [[(zsi, .inr (5, [.int sS.1, .int sS.2.1, .int (bI sS.2.2.1), .int sS.2.2.2.1, .int sS.2.2.2.2.1, .int sS.2.2.2.2.2.1, .int y124, .int y125, .ref zmo]))], (mt cI cO zmo sS.2.1.toNatClampNeg sS.1.toNatClampNeg rmo mM)]) H := sgP (L' := [[(zsi, .inr (5, [.int sS.1, .int sS.2.1, .int (bI sS.2.2.1), .int sS.2.2.2.1, .int sS.2.2.2.2.1, .int sS.2.2.2.2.2.1, .int y124, .int y125, .ref zmo]))], (mt cI cO zmo sS.2.1.toNatClampNeg sS.1.toNatClampNeg rmo mM)]) hP [0, 1] rfl
              have hDc : va_D (A_X6_pass cI cJ cO cB zsi zmo rmo sS mM s.heap.size) (wJ [[(zsi, .inr (5, [.int sS.1, .int sS.2.1, .int (bI sS.2.2.1), .int sS.2.2.2.1, .int sS.2.2.2.2.1, .int sS.2.2.2.2.2.1, .int y124, .int y125, .ref zmo]))], (mt cI cO zmo sS.2.1.toNatClampNeg sS.1.toNatClampNeg rmo mM)]) := sgD (L' := [[(zsi, .inr (5, [.int sS.1, .int sS.2.1, .int (bI sS.2.2.1), .int sS.2.2.2.1, .int sS.2.2.2.2.1, .int sS.2.2.2.2.2.1, .int y124, .int y125, .ref zmo]))], (mt cI cO zmo sS.2.1.toNatClampNeg sS.1.toNatClampNeg rmo mM)]) hD [0, 1] (by decide) rfl
              have hFc : ∀ q, va_A (wJ [[(zsi, .inr (5, [.int sS.1, .int sS.2.1, .int (bI sS.2.2.1), .int sS.2.2.2.1, .int sS.2.2.2.2.1, .int sS.2.2.2.2.2.1, .int y124, .int y125, .ref zmo]))], (mt cI cO zmo sS.2.1.toNatClampNeg sS.1.toNatClampNeg rmo mM)]) H.size q → (A_X6_pass cI cJ cO cB zsi zmo rmo sS mM s.heap.size) q := sg_free (W := [[(zsi, .inr (5, [.int sS.1, .int sS.2.1, .int (bI sS.2.2.1), .int sS.2.2.2.1, .int sS.2.2.2.2.1, .int sS.2.2.2.2.2.1, .int y124, .int y125, .ref zmo]))], (mt cI cO zmo sS.2.1.toNatClampNeg sS.1.toNatClampNeg rmo mM)]) hD hS hA [0, 1] rfl
              refine va_calli (va_runV (As := [.int y122, .int y92]) (rest := []) ⟨hx, hb, hml, hown, hts⟩ (c_X6_has l dC dI cI cJ cO cB zsi zmo H.size rmo (sS.1, sS.2.1, sS.2.2.1, sS.2.2.2.1, sS.2.2.2.2.1, sS.2.2.2.2.2.1, y124, y125) mM y122 y92 _ hr126) (cwV 2 hts gX6_pass_X6_has rfl rfl rfl (by decide +kernel) ⟨Nat.le_of_ble_eq_true rfl, Nat.le_of_ble_eq_true rfl⟩) ⟨fun a U gg mk q => by obtain ⟨q0, q1, qP, qK, qD⟩ := q; exact ⟨q0, q1, qP, va_K.moved (u := U) (U := U.calling gg mk a) (Vm.Alike.refl U.vm) qK, qD⟩, va_recv hK hPc (ci := 5) (q0 := 0) rfl rfl, fun U hU hW => ⟨rfl, by rw [hU], by rw [hU]; exact hPc, va_K.moved hW.alike hK, hDc.weaken (fun _ _ _ _ => trivial)⟩⟩ rfl rfl hl.1 rfl (lv_room (Nat.le_of_ble_eq_true rfl)) dX6_pass_36 ⟨(Nat.le_of_ble_eq_true rfl), (Nat.le_of_ble_eq_true rfl)⟩) hS (fun q _ h => hFc q h) hFc (fun r_ u_ t H locs ht hvm hw hB hz1 hk1 hS => ?_)
              obtain rfl := hw.symm
              obtain ⟨hP1, -, hD1⟩ := hB
              rw [ht] at hP1
              have hJ := sg_join2 (W := [[(zsi, .inr (5, [.int sS.1, .int sS.2.1, .int (bI sS.2.2.1), .int sS.2.2.2.1, .int sS.2.2.2.2.1, .int sS.2.2.2.2.2.1, .int y124, .int y125, .ref zmo]))], (mt cI cO zmo sS.2.1.toNatClampNeg sS.1.toNatClampNeg rmo mM)]) (R := [(mt cI cO z2 sS.2.1.toNatClampNeg sS.1.toNatClampNeg r3 y123)]) (W1 := [[(zsi, .inr (5, [.int sS.1, .int sS.2.1, .int (bI sS.2.2.1), .int sS.2.2.2.1, .int sS.2.2.2.2.1, .int sS.2.2.2.2.2.1, .int y124, .int y125, .ref zmo]))], (mt cI cO zmo sS.2.1.toNatClampNeg sS.1.toNatClampNeg rmo mM)]) hP hD [0, 1] [2] rfl rfl (by decide) (by decide) hk1 hFc hP1 hD1
              have hP : va_P (dC, dI) vwCl (wJ [(mt cI cO z2 sS.2.1.toNatClampNeg sS.1.toNatClampNeg r3 y123), [(zsi, .inr (5, [.int sS.1, .int sS.2.1, .int (bI sS.2.2.1), .int sS.2.2.2.1, .int sS.2.2.2.2.1, .int sS.2.2.2.2.2.1, .int y124, .int y125, .ref zmo]))], (mt cI cO zmo sS.2.1.toNatClampNeg sS.1.toNatClampNeg rmo mM)]) H := hJ.1
              have hD : va_D (A_X6_pass cI cJ cO cB zsi zmo rmo sS mM s.heap.size) (wJ [(mt cI cO z2 sS.2.1.toNatClampNeg sS.1.toNatClampNeg r3 y123), [(zsi, .inr (5, [.int sS.1, .int sS.2.1, .int (bI sS.2.2.1), .int sS.2.2.2.1, .int sS.2.2.2.2.1, .int sS.2.2.2.2.2.1, .int y124, .int y125, .ref zmo]))], (mt cI cO zmo sS.2.1.toNatClampNeg sS.1.toNatClampNeg rmo mM)]) := hJ.2
              have hP := sgP (L' := [[(zsi, .inr (5, [.int sS.1, .int sS.2.1, .int (bI sS.2.2.1), .int sS.2.2.2.1, .int sS.2.2.2.2.1, .int sS.2.2.2.2.2.1, .int y124, .int y125, .ref zmo]))], (mt cI cO zmo sS.2.1.toNatClampNeg sS.1.toNatClampNeg rmo mM), (mt cI cO z2 sS.2.1.toNatClampNeg sS.1.toNatClampNeg r3 y123)]) hP [1, 2, 0] rfl
              have hD := sgD (L' := [[(zsi, .inr (5, [.int sS.1, .int sS.2.1, .int (bI sS.2.2.1), .int sS.2.2.2.1, .int sS.2.2.2.2.1, .int sS.2.2.2.2.2.1, .int y124, .int y125, .ref zmo]))], (mt cI cO zmo sS.2.1.toNatClampNeg sS.1.toNatClampNeg rmo mM), (mt cI cO z2 sS.2.1.toNatClampNeg sS.1.toNatClampNeg r3 y123)]) hD [1, 2, 0] (by decide) rfl
              clear hPc hDc hFc hP1 hD1 hk1 hJ
              refine lv_istore (lv' := [(4, .int r126), (0, .ref zsi), (1, .ref z2), (2, .int y92), (3, .int y122)]) hx hb dX6_pass_39 hl (by decide) rfl (fun ls hl => ?_)
              refine lv_aload_n hx hb dX6_pass_41 rfl (lv_at hl 1 rfl) ?_
              refine lv_iload_n hx hb dX6_pass_42 rfl (lv_at hl 4 rfl) ?_
              refine lv_iload_n hx hb dX6_pass_43 rfl (lv_at hl 3 rfl) ?_
              obtain ⟨r127, hr127, hf⟩ := obind hf
              have hPc : va_P (dC, dI) vwCl (wJ [[(zsi, .inr (5, [.int sS.1, .int sS.2.1, .int (bI sS.2.2.1), .int sS.2.2.2.1, .int sS.2.2.2.2.1, .int sS.2.2.2.2.2.1, .int y124, .int y125, .ref zmo]))], (mt cI cO zmo sS.2.1.toNatClampNeg sS.1.toNatClampNeg rmo mM)]) H := sgP (L' := [[(zsi, .inr (5, [.int sS.1, .int sS.2.1, .int (bI sS.2.2.1), .int sS.2.2.2.1, .int sS.2.2.2.2.1, .int sS.2.2.2.2.2.1, .int y124, .int y125, .ref zmo]))], (mt cI cO zmo sS.2.1.toNatClampNeg sS.1.toNatClampNeg rmo mM)]) hP [0, 1] rfl
              have hDc : va_D (A_X6_pass cI cJ cO cB zsi zmo rmo sS mM s.heap.size) (wJ [[(zsi, .inr (5, [.int sS.1, .int sS.2.1, .int (bI sS.2.2.1), .int sS.2.2.2.1, .int sS.2.2.2.2.1, .int sS.2.2.2.2.2.1, .int y124, .int y125, .ref zmo]))], (mt cI cO zmo sS.2.1.toNatClampNeg sS.1.toNatClampNeg rmo mM)]) := sgD (L' := [[(zsi, .inr (5, [.int sS.1, .int sS.2.1, .int (bI sS.2.2.1), .int sS.2.2.2.1, .int sS.2.2.2.2.1, .int sS.2.2.2.2.2.1, .int y124, .int y125, .ref zmo]))], (mt cI cO zmo sS.2.1.toNatClampNeg sS.1.toNatClampNeg rmo mM)]) hD [0, 1] (by decide) rfl
              have hFc : ∀ q, va_A (wJ [[(zsi, .inr (5, [.int sS.1, .int sS.2.1, .int (bI sS.2.2.1), .int sS.2.2.2.1, .int sS.2.2.2.2.1, .int sS.2.2.2.2.2.1, .int y124, .int y125, .ref zmo]))], (mt cI cO zmo sS.2.1.toNatClampNeg sS.1.toNatClampNeg rmo mM)]) H.size q → (A_X6_pass cI cJ cO cB zsi zmo rmo sS mM s.heap.size) q := sg_free (W := [[(zsi, .inr (5, [.int sS.1, .int sS.2.1, .int (bI sS.2.2.1), .int sS.2.2.2.1, .int sS.2.2.2.2.1, .int sS.2.2.2.2.2.1, .int y124, .int y125, .ref zmo]))], (mt cI cO zmo sS.2.1.toNatClampNeg sS.1.toNatClampNeg rmo mM)]) hD hS hA [0, 1] rfl
              refine va_calli (va_runV (As := [.int y122, .int y92]) (rest := []) ⟨hx, hb, hml, hown, hts⟩ (c_X6_comes l dC dI cI cJ cO cB zsi zmo H.size rmo (sS.1, sS.2.1, sS.2.2.1, sS.2.2.2.1, sS.2.2.2.2.1, sS.2.2.2.2.2.1, y124, y125) mM y122 y92 _ hr127) (cwV 2 hts gX6_pass_X6_comes rfl rfl rfl (by decide +kernel) ⟨Nat.le_of_ble_eq_true rfl, Nat.le_of_ble_eq_true rfl⟩) ⟨fun a U gg mk q => by obtain ⟨q0, q1, qP, qK, qD⟩ := q; exact ⟨q0, q1, qP, va_K.moved (u := U) (U := U.calling gg mk a) (Vm.Alike.refl U.vm) qK, qD⟩, va_recv hK hPc (ci := 5) (q0 := 0) rfl rfl, fun U hU hW => ⟨rfl, by rw [hU], by rw [hU]; exact hPc, va_K.moved hW.alike hK, hDc.weaken (fun _ _ _ _ => trivial)⟩⟩ rfl rfl hl.1 rfl (lv_room (Nat.le_of_ble_eq_true rfl)) dX6_pass_44 ⟨(Nat.le_of_ble_eq_true rfl), (Nat.le_of_ble_eq_true rfl)⟩) hS (fun q _ h => hFc q h) hFc (fun r_ u_ t H locs ht hvm hw hB hz1 hk1 hS => ?_)
              obtain rfl := hw.symm
              obtain ⟨hP1, -, hD1⟩ := hB
              rw [ht] at hP1
              have hJ := sg_join2 (W := [[(zsi, .inr (5, [.int sS.1, .int sS.2.1, .int (bI sS.2.2.1), .int sS.2.2.2.1, .int sS.2.2.2.2.1, .int sS.2.2.2.2.2.1, .int y124, .int y125, .ref zmo]))], (mt cI cO zmo sS.2.1.toNatClampNeg sS.1.toNatClampNeg rmo mM)]) (R := [(mt cI cO z2 sS.2.1.toNatClampNeg sS.1.toNatClampNeg r3 y123)]) (W1 := [[(zsi, .inr (5, [.int sS.1, .int sS.2.1, .int (bI sS.2.2.1), .int sS.2.2.2.1, .int sS.2.2.2.2.1, .int sS.2.2.2.2.2.1, .int y124, .int y125, .ref zmo]))], (mt cI cO zmo sS.2.1.toNatClampNeg sS.1.toNatClampNeg rmo mM)]) hP hD [0, 1] [2] rfl rfl (by decide) (by decide) hk1 hFc hP1 hD1
              have hP : va_P (dC, dI) vwCl (wJ [(mt cI cO z2 sS.2.1.toNatClampNeg sS.1.toNatClampNeg r3 y123), [(zsi, .inr (5, [.int sS.1, .int sS.2.1, .int (bI sS.2.2.1), .int sS.2.2.2.1, .int sS.2.2.2.2.1, .int sS.2.2.2.2.2.1, .int y124, .int y125, .ref zmo]))], (mt cI cO zmo sS.2.1.toNatClampNeg sS.1.toNatClampNeg rmo mM)]) H := hJ.1
              have hD : va_D (A_X6_pass cI cJ cO cB zsi zmo rmo sS mM s.heap.size) (wJ [(mt cI cO z2 sS.2.1.toNatClampNeg sS.1.toNatClampNeg r3 y123), [(zsi, .inr (5, [.int sS.1, .int sS.2.1, .int (bI sS.2.2.1), .int sS.2.2.2.1, .int sS.2.2.2.2.1, .int sS.2.2.2.2.2.1, .int y124, .int y125, .ref zmo]))], (mt cI cO zmo sS.2.1.toNatClampNeg sS.1.toNatClampNeg rmo mM)]) := hJ.2
              have hP := sgP (L' := [[(zsi, .inr (5, [.int sS.1, .int sS.2.1, .int (bI sS.2.2.1), .int sS.2.2.2.1, .int sS.2.2.2.2.1, .int sS.2.2.2.2.2.1, .int y124, .int y125, .ref zmo]))], (mt cI cO zmo sS.2.1.toNatClampNeg sS.1.toNatClampNeg rmo mM), (mt cI cO z2 sS.2.1.toNatClampNeg sS.1.toNatClampNeg r3 y123)]) hP [1, 2, 0] rfl
              have hD := sgD (L' := [[(zsi, .inr (5, [.int sS.1, .int sS.2.1, .int (bI sS.2.2.1), .int sS.2.2.2.1, .int sS.2.2.2.2.1, .int sS.2.2.2.2.2.1, .int y124, .int y125, .ref zmo]))], (mt cI cO zmo sS.2.1.toNatClampNeg sS.1.toNatClampNeg rmo mM), (mt cI cO z2 sS.2.1.toNatClampNeg sS.1.toNatClampNeg r3 y123)]) hD [1, 2, 0] (by decide) rfl
              clear hPc hDc hFc hP1 hD1 hk1 hJ
              obtain ⟨v132, hv, hf⟩ := obind hf
              have K146 : ∀ (H : Heap) (locs : List Loc) (ls : Array Slot), va_P (dC, dI) vwCl (wJ [[(zsi, .inr (5, [.int sS.1, .int sS.2.1, .int (bI sS.2.2.1), .int sS.2.2.2.1, .int sS.2.2.2.2.1, .int sS.2.2.2.2.2.1, .int y124, .int y125, .ref zmo]))], (mt cI cO zmo sS.2.1.toNatClampNeg sS.1.toNatClampNeg rmo mM), (mt cI cO z2 sS.2.1.toNatClampNeg sS.1.toNatClampNeg r3 v132)]) H → va_D (A_X6_pass cI cJ cO cB zsi zmo rmo sS mM s.heap.size) (wJ [[(zsi, .inr (5, [.int sS.1, .int sS.2.1, .int (bI sS.2.2.1), .int sS.2.2.2.1, .int sS.2.2.2.2.1, .int sS.2.2.2.2.2.1, .int y124, .int y125, .ref zmo]))], (mt cI cO zmo sS.2.1.toNatClampNeg sS.1.toNatClampNeg rmo mM), (mt cI cO z2 sS.2.1.toNatClampNeg sS.1.toNatClampNeg r3 v132)]) → va_S (A_X6_pass cI cJ cO cB zsi zmo rmo sS mM s.heap.size) s.heap H locs → lv_has ls 5 [(0, .ref zsi), (1, .ref z2), (2, .int y92), (3, .int y122), (4, .int r126)] → W p l e rm_X6_pass s m args below meth c H locs 9 72 (MQ below (Q_X6_pass dC dI cI cJ cO cB zsi zmo rmo sS mM s.heap.size R) args s 9 72 (A_X6_pass cI cJ cO cB zsi zmo rmo sS mM s.heap.size)) (F0 m 74 ls []) := by
                intro H locs ls hP hD hS hl
                refine lv_aload_n hx hb dX6_pass_74 rfl (lv_at hl 0 rfl) ?_
                refine lv_dup hx hb dX6_pass_75 rfl ?_
                refine va_get (D := (dC, dI)) (ci := 5) (v := .int y124) (C := RX6) (T := TX6) (N := 9) hx hb hts hinX6 hown hK hP 0 rfl rfl 6 (by decide) hw3 (fun _ h9 => h9) rfl dX6_pass_76 ?_
                refine lv_aload_n hx hb dX6_pass_79 rfl (lv_at hl 1 rfl) ?_
                refine lv_iload_n hx hb dX6_pass_80 rfl (lv_at hl 2 rfl) ?_
                have hg133 : ¬ (y92 < 0 ∨ sS.2.1.toNatClampNeg ≤ y92.toNatClampNeg) := fun hq => by rw [if_pos hq] at hf; exact nomatch hf
                rw [if_neg hg133] at hf
                refine sg_aald hx hb hK hP 2 2 rfl rfl (i := y92) hg133 dX6_pass_81 ?_
                refine lv_iload_n hx hb dX6_pass_82 rfl (lv_at hl 3 rfl) ?_
                have hg134 : ¬ (y122 < 0 ∨ sS.1.toNatClampNeg ≤ y122.toNatClampNeg) := fun hq => by rw [if_pos hq] at hf; exact nomatch hf
                rw [if_neg hg134] at hf
                refine sg_iald hx hb hK hP 2 0 rfl rfl (inRow hg133) (i := y122) hg134 dX6_pass_83 ?_
                obtain ⟨v135, hv, hf⟩ := vbind hf
                have K147 : ∀ (H : Heap) (locs : List Loc) (ls : Array Slot), va_P (dC, dI) vwCl (wJ [[(zsi, .inr (5, [.int sS.1, .int sS.2.1, .int (bI sS.2.2.1), .int sS.2.2.2.1, .int sS.2.2.2.2.1, .int sS.2.2.2.2.2.1, .int y124, .int y125, .ref zmo]))], (mt cI cO zmo sS.2.1.toNatClampNeg sS.1.toNatClampNeg rmo mM), (mt cI cO z2 sS.2.1.toNatClampNeg sS.1.toNatClampNeg r3 v132)]) H → va_D (A_X6_pass cI cJ cO cB zsi zmo rmo sS mM s.heap.size) (wJ [[(zsi, .inr (5, [.int sS.1, .int sS.2.1, .int (bI sS.2.2.1), .int sS.2.2.2.1, .int sS.2.2.2.2.1, .int sS.2.2.2.2.2.1, .int y124, .int y125, .ref zmo]))], (mt cI cO zmo sS.2.1.toNatClampNeg sS.1.toNatClampNeg rmo mM), (mt cI cO z2 sS.2.1.toNatClampNeg sS.1.toNatClampNeg r3 v132)]) → va_S (A_X6_pass cI cJ cO cB zsi zmo rmo sS mM s.heap.size) s.heap H locs → lv_has ls 5 [(0, .ref zsi), (1, .ref z2), (2, .int y92), (3, .int y122), (4, .int r126)] → W p l e rm_X6_pass s m args below meth c H locs 9 72 (MQ below (Q_X6_pass dC dI cI cJ cO cB zsi zmo rmo sS mM s.heap.size R) args s 9 72 (A_X6_pass cI cJ cO cB zsi zmo rmo sS mM s.heap.size)) (F0 m 97 ls [.int v135, .int y124, .ref zsi]) := by
                  intro H locs ls hP hD hS hl
                  refine lv_iadd hx hb dX6_pass_97 ?_
                  refine va_put (D := (dC, dI)) (ci := 5) (v := .int (y124 + v135)) (ty := .int) (C := RX6) (T := TX6) (N := 9) hx hb hts hinX6 tyX6 tyX6_ok nmX6 hown hK hP hD hS 0 rfl rfl 6 (by decide) hw3 (fun _ h9 => h9) rfl (by decide +kernel) rfl rfl (Nat.le_of_ble_eq_true rfl) dX6_pass_98 (fun H locs hP hD hS => ?_)
                  have hP : va_P (dC, dI) vwCl (wJ [[(zsi, .inr (5, [.int sS.1, .int sS.2.1, .int (bI sS.2.2.1), .int sS.2.2.2.1, .int sS.2.2.2.2.1, .int sS.2.2.2.2.2.1, .int (y124 + v135), .int y125, .ref zmo]))], (mt cI cO zmo sS.2.1.toNatClampNeg sS.1.toNatClampNeg rmo mM), (mt cI cO z2 sS.2.1.toNatClampNeg sS.1.toNatClampNeg r3 v132)]) H := hP
                  have hD : va_D (A_X6_pass cI cJ cO cB zsi zmo rmo sS mM s.heap.size) (wJ [[(zsi, .inr (5, [.int sS.1, .int sS.2.1, .int (bI sS.2.2.1), .int sS.2.2.2.1, .int sS.2.2.2.2.1, .int sS.2.2.2.2.2.1, .int (y124 + v135), .int y125, .ref zmo]))], (mt cI cO zmo sS.2.1.toNatClampNeg sS.1.toNatClampNeg rmo mM), (mt cI cO z2 sS.2.1.toNatClampNeg sS.1.toNatClampNeg r3 v132)]) := hD
                  refine lv_aload_n hx hb dX6_pass_101 rfl (lv_at hl 0 rfl) ?_
                  refine lv_dup hx hb dX6_pass_102 rfl ?_
                  refine va_get (D := (dC, dI)) (ci := 5) (v := .int y125) (C := RX6) (T := TX6) (N := 9) hx hb hts hinX6 hown hK hP 0 rfl rfl 7 (by decide) hw4 (fun _ h9 => h9) rfl dX6_pass_103 ?_
                  refine lv_aload_n hx hb dX6_pass_106 rfl (lv_at hl 1 rfl) ?_
                  refine lv_iload_n hx hb dX6_pass_107 rfl (lv_at hl 2 rfl) ?_
                  refine sg_aald hx hb hK hP 2 2 rfl rfl (i := y92) hg133 dX6_pass_108 ?_
                  refine lv_iload_n hx hb dX6_pass_109 rfl (lv_at hl 3 rfl) ?_
                  refine sg_iald hx hb hK hP 2 0 rfl rfl (inRow hg133) (i := y122) hg134 dX6_pass_110 ?_
                  obtain ⟨v136, hv, hf⟩ := vbind hf
                  have K148 : ∀ (H : Heap) (locs : List Loc) (ls : Array Slot), va_P (dC, dI) vwCl (wJ [[(zsi, .inr (5, [.int sS.1, .int sS.2.1, .int (bI sS.2.2.1), .int sS.2.2.2.1, .int sS.2.2.2.2.1, .int sS.2.2.2.2.2.1, .int (y124 + v135), .int y125, .ref zmo]))], (mt cI cO zmo sS.2.1.toNatClampNeg sS.1.toNatClampNeg rmo mM), (mt cI cO z2 sS.2.1.toNatClampNeg sS.1.toNatClampNeg r3 v132)]) H → va_D (A_X6_pass cI cJ cO cB zsi zmo rmo sS mM s.heap.size) (wJ [[(zsi, .inr (5, [.int sS.1, .int sS.2.1, .int (bI sS.2.2.1), .int sS.2.2.2.1, .int sS.2.2.2.2.1, .int sS.2.2.2.2.2.1, .int (y124 + v135), .int y125, .ref zmo]))], (mt cI cO zmo sS.2.1.toNatClampNeg sS.1.toNatClampNeg rmo mM), (mt cI cO z2 sS.2.1.toNatClampNeg sS.1.toNatClampNeg r3 v132)]) → va_S (A_X6_pass cI cJ cO cB zsi zmo rmo sS mM s.heap.size) s.heap H locs → lv_has ls 5 [(0, .ref zsi), (1, .ref z2), (2, .int y92), (3, .int y122)] → W p l e rm_X6_pass s m args below meth c H locs 9 72 (MQ below (Q_X6_pass dC dI cI cJ cO cB zsi zmo rmo sS mM s.heap.size R) args s 9 72 (A_X6_pass cI cJ cO cB zsi zmo rmo sS mM s.heap.size)) (F0 m 124 ls [.int v136, .int y125, .ref zsi]) := by
                    intro H locs ls hP hD hS hl
                    refine lv_iadd hx hb dX6_pass_124 ?_
                    refine va_put (D := (dC, dI)) (ci := 5) (v := .int (y125 + v136)) (ty := .int) (C := RX6) (T := TX6) (N := 9) hx hb hts hinX6 tyX6 tyX6_ok nmX6 hown hK hP hD hS 0 rfl rfl 7 (by decide) hw4 (fun _ h9 => h9) rfl (by decide +kernel) rfl rfl (Nat.le_of_ble_eq_true rfl) dX6_pass_125 (fun H locs hP hD hS => ?_)
                    have hP : va_P (dC, dI) vwCl (wJ [[(zsi, .inr (5, [.int sS.1, .int sS.2.1, .int (bI sS.2.2.1), .int sS.2.2.2.1, .int sS.2.2.2.2.1, .int sS.2.2.2.2.2.1, .int (y124 + v135), .int (y125 + v136), .ref zmo]))], (mt cI cO zmo sS.2.1.toNatClampNeg sS.1.toNatClampNeg rmo mM), (mt cI cO z2 sS.2.1.toNatClampNeg sS.1.toNatClampNeg r3 v132)]) H := hP
                    have hD : va_D (A_X6_pass cI cJ cO cB zsi zmo rmo sS mM s.heap.size) (wJ [[(zsi, .inr (5, [.int sS.1, .int sS.2.1, .int (bI sS.2.2.1), .int sS.2.2.2.1, .int sS.2.2.2.2.1, .int sS.2.2.2.2.2.1, .int (y124 + v135), .int (y125 + v136), .ref zmo]))], (mt cI cO zmo sS.2.1.toNatClampNeg sS.1.toNatClampNeg rmo mM), (mt cI cO z2 sS.2.1.toNatClampNeg sS.1.toNatClampNeg r3 v132)]) := hD
                    refine lv_iinc (v := (y122 + 1)) (lv' := [(3, .int (y122 + 1)), (0, .ref zsi), (1, .ref z2), (2, .int y92)]) hx hb dX6_pass_128 hl (k := 3) rfl rfl (by decide) rfl (fun ls hl => ?_)
                    refine lv_goto (tgt := 25) hx hb dX6_pass_131 (by decide) ?_
                    exact ih145 _ _ _ _ _ _ _ hf hP hD hS (lv_sub hl [1, 2, 3, 0] rfl)
                  clear hf; have hf := hv; clear hv
                  refine lv_if_ge (tgt := 123) hx hb dX6_pass_111 (by decide) (fun hc => ?_) (fun hc => ?_)
                  · rw [if_pos hc] at hf
                    refine lv_iconst (v := 0) hx hb dX6_pass_123 (by decide) ?_
                    obtain rfl := hf
                    exact K148 _ _ _ hP hD hS (lv_sub hl [0, 1, 2, 3] rfl)
                  · rw [if_neg hc] at hf
                    refine lv_iload hx hb dX6_pass_114 (lv_at hl 4 rfl) ?_
                    refine lv_if_eq (tgt := 123) hx hb dX6_pass_116 (by decide) (fun hc => ?_) (fun hc => ?_)
                    · rw [if_pos hc] at hf
                      refine lv_iconst (v := 0) hx hb dX6_pass_123 (by decide) ?_
                      obtain rfl := hf
                      exact K148 _ _ _ hP hD hS (lv_sub hl [0, 1, 2, 3] rfl)
                    · rw [if_neg hc] at hf
                      refine lv_iconst (v := 1) hx hb dX6_pass_119 (by decide) ?_
                      refine lv_goto (tgt := 124) hx hb dX6_pass_120 (by decide) ?_
                      obtain rfl := hf
                      exact K148 _ _ _ hP hD hS (lv_sub hl [0, 1, 2, 3] rfl)
                clear hf; have hf := hv; clear hv
                refine lv_if_lt (tgt := 96) hx hb dX6_pass_84 (by decide) (fun hc => ?_) (fun hc => ?_)
                · rw [if_pos hc] at hf
                  refine lv_iconst (v := 0) hx hb dX6_pass_96 (by decide) ?_
                  obtain rfl := hf
                  exact K147 _ _ _ hP hD hS (lv_sub hl [0, 1, 2, 3, 4] rfl)
                · rw [if_neg hc] at hf
                  refine lv_iload hx hb dX6_pass_87 (lv_at hl 4 rfl) ?_
                  refine lv_if_ne (tgt := 96) hx hb dX6_pass_89 (by decide) (fun hc => ?_) (fun hc => ?_)
                  · rw [if_neg hc] at hf
                    refine lv_iconst (v := 0) hx hb dX6_pass_96 (by decide) ?_
                    obtain rfl := hf
                    exact K147 _ _ _ hP hD hS (lv_sub hl [0, 1, 2, 3, 4] rfl)
                  · rw [if_pos hc] at hf
                    refine lv_iconst (v := 1) hx hb dX6_pass_92 (by decide) ?_
                    refine lv_goto (tgt := 97) hx hb dX6_pass_93 (by decide) ?_
                    obtain rfl := hf
                    exact K147 _ _ _ hP hD hS (lv_sub hl [0, 1, 2, 3, 4] rfl)
              clear hf; have hf := hv; clear hv
              refine lv_if_eq (tgt := 74) hx hb dX6_pass_47 (by decide) (fun hc => ?_) (fun hc => ?_)
              · rw [if_pos hc] at hf
                obtain rfl := Option.some.inj hf
                exact K146 _ _ _ hP hD hS (lv_sub hl [1, 2, 3, 4, 0] rfl)
              · rw [if_neg hc] at hf
                refine lv_aload_n hx hb dX6_pass_50 rfl (lv_at hl 2 rfl) ?_
                refine lv_iload_n hx hb dX6_pass_51 rfl (lv_at hl 3 rfl) ?_
                have hg128 : ¬ (y92 < 0 ∨ sS.2.1.toNatClampNeg ≤ y92.toNatClampNeg) := fun hq => by rw [if_pos hq] at hf; exact nomatch hf
                rw [if_neg hg128] at hf
                refine sg_aald hx hb hK hP 2 2 rfl rfl (i := y92) hg128 dX6_pass_52 ?_
                refine lv_iload_n hx hb dX6_pass_53 rfl (lv_at hl 4 rfl) ?_
                refine lv_iload hx hb dX6_pass_54 (lv_at hl 0 rfl) ?_
                obtain ⟨v130, hv, hf⟩ := obind hf
                have K149 : ∀ (H : Heap) (locs : List Loc) (ls : Array Slot), va_P (dC, dI) vwCl (wJ [[(zsi, .inr (5, [.int sS.1, .int sS.2.1, .int (bI sS.2.2.1), .int sS.2.2.2.1, .int sS.2.2.2.2.1, .int sS.2.2.2.2.2.1, .int y124, .int y125, .ref zmo]))], (mt cI cO zmo sS.2.1.toNatClampNeg sS.1.toNatClampNeg rmo mM), (mt cI cO z2 sS.2.1.toNatClampNeg sS.1.toNatClampNeg r3 y123)]) H → va_D (A_X6_pass cI cJ cO cB zsi zmo rmo sS mM s.heap.size) (wJ [[(zsi, .inr (5, [.int sS.1, .int sS.2.1, .int (bI sS.2.2.1), .int sS.2.2.2.1, .int sS.2.2.2.2.1, .int sS.2.2.2.2.2.1, .int y124, .int y125, .ref zmo]))], (mt cI cO zmo sS.2.1.toNatClampNeg sS.1.toNatClampNeg rmo mM), (mt cI cO z2 sS.2.1.toNatClampNeg sS.1.toNatClampNeg r3 y123)]) → va_S (A_X6_pass cI cJ cO cB zsi zmo rmo sS mM s.heap.size) s.heap H locs → lv_has ls 5 [(0, .ref zsi), (1, .ref z2), (2, .int y92), (3, .int y122), (4, .int r126)] → W p l e rm_X6_pass s m args below meth c H locs 9 72 (MQ below (Q_X6_pass dC dI cI cJ cO cB zsi zmo rmo sS mM s.heap.size R) args s 9 72 (A_X6_pass cI cJ cO cB zsi zmo rmo sS mM s.heap.size)) (F0 m 73 ls [.int v130, .int y122, .ref (r3 y92.toNatClampNeg)]) := by
                  intro H locs ls hP hD hS hl
                  have hg131 : ¬ (y122 < 0 ∨ sS.1.toNatClampNeg ≤ y122.toNatClampNeg) := fun hq => by rw [if_pos hq] at hf; exact nomatch hf
                  rw [if_neg hg131] at hf
                  refine sg_iast hx hb hK hP hD hS 2 0 rfl rfl (inRow hg128) (i := y122) hg131 dX6_pass_73 (fun H locs hP hD hS => ?_)
                  have hP : va_P (dC, dI) vwCl (wJ [[(zsi, .inr (5, [.int sS.1, .int sS.2.1, .int (bI sS.2.2.1), .int sS.2.2.2.1, .int sS.2.2.2.2.1, .int sS.2.2.2.2.2.1, .int y124, .int y125, .ref zmo]))], (mt cI cO zmo sS.2.1.toNatClampNeg sS.1.toNatClampNeg rmo mM), (mt cI cO z2 sS.2.1.toNatClampNeg sS.1.toNatClampNeg r3 (upM y123 y92.toNatClampNeg (upd (y123 y92.toNatClampNeg) y122.toNatClampNeg v130)))]) H := hP
                  have hD : va_D (A_X6_pass cI cJ cO cB zsi zmo rmo sS mM s.heap.size) (wJ [[(zsi, .inr (5, [.int sS.1, .int sS.2.1, .int (bI sS.2.2.1), .int sS.2.2.2.1, .int sS.2.2.2.2.1, .int sS.2.2.2.2.2.1, .int y124, .int y125, .ref zmo]))], (mt cI cO zmo sS.2.1.toNatClampNeg sS.1.toNatClampNeg rmo mM), (mt cI cO z2 sS.2.1.toNatClampNeg sS.1.toNatClampNeg r3 (upM y123 y92.toNatClampNeg (upd (y123 y92.toNatClampNeg) y122.toNatClampNeg v130)))]) := hD
                  obtain rfl := Option.some.inj hf
                  exact K146 _ _ _ hP hD hS (lv_sub hl [0, 1, 2, 3, 4] rfl)
                clear hf; have hf := hv; clear hv
                refine lv_if_eq (tgt := 72) hx hb dX6_pass_56 (by decide) (fun hc => ?_) (fun hc => ?_)
                · rw [if_pos hc] at hf
                  refine lv_iconst (v := 0) hx hb dX6_pass_72 (by decide) ?_
                  obtain rfl := Option.some.inj hf
                  exact K149 _ _ _ hP hD hS (lv_sub hl [1, 2, 3, 4, 0] rfl)
                · rw [if_neg hc] at hf
                  refine lv_aload_n hx hb dX6_pass_59 rfl (lv_at hl 1 rfl) ?_
                  refine va_get (D := (dC, dI)) (ci := 5) (v := .ref zmo) (C := RX6) (T := TX6) (N := 9) hx hb hts hinX6 hown hK hP 0 rfl rfl 8 (by decide) hw2 (fun _ h9 => h9) rfl dX6_pass_60 ?_
                  refine lv_iload_n hx hb dX6_pass_63 rfl (lv_at hl 3 rfl) ?_
                  refine sg_aald hx hb hK hP 1 2 rfl rfl (i := y92) hg128 dX6_pass_64 ?_
                  refine lv_iload_n hx hb dX6_pass_65 rfl (lv_at hl 4 rfl) ?_
                  have hg129 : ¬ (y122 < 0 ∨ sS.1.toNatClampNeg ≤ y122.toNatClampNeg) := fun hq => by rw [if_pos hq] at hf; exact nomatch hf
                  rw [if_neg hg129] at hf
                  refine sg_iald hx hb hK hP 1 0 rfl rfl (inRow hg128) (i := y122) hg129 dX6_pass_66 ?_
                  refine lv_iconst (v := 1) hx hb dX6_pass_67 (by decide) ?_
                  refine lv_iadd hx hb dX6_pass_68 ?_
                  refine lv_goto (tgt := 73) hx hb dX6_pass_69 (by decide) ?_
                  obtain rfl := Option.some.inj hf
                  exact K149 _ _ _ hP hD hS (lv_sub hl [1, 2, 3, 4, 0] rfl)
        exact lp144 100 _ _ _ _ _ _ _ hv hP hD hS (lv_sub hl [1, 2, 3, 0] rfl)
  exact lp141 100 _ _ _ _ _ _ _ hv hP hD hS (lv_sub hl [2, 1, 0] rfl)
/-! HedgeGlidersLaw$Sim.lawns()[[I -/
def lp_X6_lawns_25 (sS : SiS) (mM : Nat → Nat → Int32) (y40 : Int32) : Nat → Int32 → (Nat → Nat → Int32) → Option ((Nat → Nat → Int32))
  | 0, _, _ => none
  | nf + 1, y52, y53 => if sS.1 ≤ y52 then (some y53) else (Option.bind (f_X6_has sS mM y52 y40) fun r54 => Option.bind (if r54 = 0 then (if y40 < 0 ∨ sS.2.1.toNatClampNeg ≤ y40.toNatClampNeg then none else if y52 < 0 ∨ sS.1.toNatClampNeg ≤ y52.toNatClampNeg then none else some (upM y53 y40.toNatClampNeg (upd (y53 y40.toNatClampNeg) y52.toNatClampNeg ((sS.1 * y40) + y52)))) else (some y53) : Option ((Nat → Nat → Int32))) fun v57 => lp_X6_lawns_25 sS mM y40 nf (y52 + 1) v57)
def lp_X6_lawns_15 (sS : SiS) (mM : Nat → Nat → Int32) : Nat → Int32 → (Nat → Nat → Int32) → Option ((Nat → Nat → Int32))
  | 0, _, _ => none
  | nf + 1, y40, y41 => if sS.2.1 ≤ y40 then (some y41) else (Option.bind (lp_X6_lawns_25 sS mM y40 2200 0 y41) fun v58 => lp_X6_lawns_15 sS mM nf (y40 + 1) v58)
def lp_X6_lawns_77 (sS : SiS) : Nat → Int32 → Int32 → (Nat → Nat → Int32) → Option (Int32 × (Nat → Nat → Int32))
  | 0, _, _, _ => none
  | nf + 1, y209, y210, y211 => if ((4 * sS.1) * sS.2.1) ≤ y210 then (some (y209, y211)) else (if sS.1 = 0 then none else bindv (if (y210 - y210 / 4 * 4) = 0 then (1) else (if (y210 - y210 / 4 * 4) = 1 then ((-1)) else (0)) : Int32) fun v213 => bindv (if (y210 - y210 / 4 * 4) = 2 then (1) else (if (y210 - y210 / 4 * 4) = 3 then ((-1)) else (0)) : Int32) fun v214 => Option.bind (if (bI sS.2.2.1) = 0 then (if (((y210 / 4) - (y210 / 4) / sS.1 * sS.1) + v213) < 0 then (some (y209, y211)) else (if (((y210 / 4) / sS.1) + v214) < 0 then (some (y209, y211)) else (if (((y210 / 4) - (y210 / 4) / sS.1 * sS.1) + v213) = sS.1 then (some (y209, y211)) else (if (((y210 / 4) / sS.1) + v214) = sS.2.1 then (some (y209, y211)) else (if sS.2.1 = 0 then none else if (((((y210 / 4) / sS.1) + v214) + sS.2.1) - ((((y210 / 4) / sS.1) + v214) + sS.2.1) / sS.2.1 * sS.2.1) < 0 ∨ sS.2.1.toNatClampNeg ≤ (((((y210 / 4) / sS.1) + v214) + sS.2.1) - ((((y210 / 4) / sS.1) + v214) + sS.2.1) / sS.2.1 * sS.2.1).toNatClampNeg then none else if (((((y210 / 4) - (y210 / 4) / sS.1 * sS.1) + v213) + sS.1) - ((((y210 / 4) - (y210 / 4) / sS.1 * sS.1) + v213) + sS.1) / sS.1 * sS.1) < 0 ∨ sS.1.toNatClampNeg ≤ (((((y210 / 4) - (y210 / 4) / sS.1 * sS.1) + v213) + sS.1) - ((((y210 / 4) - (y210 / 4) / sS.1 * sS.1) + v213) + sS.1) / sS.1 * sS.1).toNatClampNeg then none else bindv (y211 (((((y210 / 4) / sS.1) + v214) + sS.2.1) - ((((y210 / 4) / sS.1) + v214) + sS.2.1) / sS.2.1 * sS.2.1).toNatClampNeg (((((y210 / 4) - (y210 / 4) / sS.1 * sS.1) + v213) + sS.1) - ((((y210 / 4) - (y210 / 4) / sS.1 * sS.1) + v213) + sS.1) / sS.1 * sS.1).toNatClampNeg) fun x224 => if ((y210 / 4) / sS.1) < 0 ∨ sS.2.1.toNatClampNeg ≤ ((y210 / 4) / sS.1).toNatClampNeg then none else if ((y210 / 4) - (y210 / 4) / sS.1 * sS.1) < 0 ∨ sS.1.toNatClampNeg ≤ ((y210 / 4) - (y210 / 4) / sS.1 * sS.1).toNatClampNeg then none else if (y211 ((y210 / 4) / sS.1).toNatClampNeg ((y210 / 4) - (y210 / 4) / sS.1 * sS.1).toNatClampNeg) < 0 then (some (y209, y211)) else (if x224 < 0 then (some (y209, y211)) else (if x224 < (y211 ((y210 / 4) / sS.1).toNatClampNeg ((y210 / 4) - (y210 / 4) / sS.1 * sS.1).toNatClampNeg) then (some (1, (upM y211 ((y210 / 4) / sS.1).toNatClampNeg (upd (y211 ((y210 / 4) / sS.1).toNatClampNeg) ((y210 / 4) - (y210 / 4) / sS.1 * sS.1).toNatClampNeg x224)))) else (some (y209, y211))))))))) else (if sS.2.1 = 0 then none else if (((((y210 / 4) / sS.1) + v214) + sS.2.1) - ((((y210 / 4) / sS.1) + v214) + sS.2.1) / sS.2.1 * sS.2.1) < 0 ∨ sS.2.1.toNatClampNeg ≤ (((((y210 / 4) / sS.1) + v214) + sS.2.1) - ((((y210 / 4) / sS.1) + v214) + sS.2.1) / sS.2.1 * sS.2.1).toNatClampNeg then none else if (((((y210 / 4) - (y210 / 4) / sS.1 * sS.1) + v213) + sS.1) - ((((y210 / 4) - (y210 / 4) / sS.1 * sS.1) + v213) + sS.1) / sS.1 * sS.1) < 0 ∨ sS.1.toNatClampNeg ≤ (((((y210 / 4) - (y210 / 4) / sS.1 * sS.1) + v213) + sS.1) - ((((y210 / 4) - (y210 / 4) / sS.1 * sS.1) + v213) + sS.1) / sS.1 * sS.1).toNatClampNeg then none else bindv (y211 (((((y210 / 4) / sS.1) + v214) + sS.2.1) - ((((y210 / 4) / sS.1) + v214) + sS.2.1) / sS.2.1 * sS.2.1).toNatClampNeg (((((y210 / 4) - (y210 / 4) / sS.1 * sS.1) + v213) + sS.1) - ((((y210 / 4) - (y210 / 4) / sS.1 * sS.1) + v213) + sS.1) / sS.1 * sS.1).toNatClampNeg) fun x218 => if ((y210 / 4) / sS.1) < 0 ∨ sS.2.1.toNatClampNeg ≤ ((y210 / 4) / sS.1).toNatClampNeg then none else if ((y210 / 4) - (y210 / 4) / sS.1 * sS.1) < 0 ∨ sS.1.toNatClampNeg ≤ ((y210 / 4) - (y210 / 4) / sS.1 * sS.1).toNatClampNeg then none else if (y211 ((y210 / 4) / sS.1).toNatClampNeg ((y210 / 4) - (y210 / 4) / sS.1 * sS.1).toNatClampNeg) < 0 then (some (y209, y211)) else (if x218 < 0 then (some (y209, y211)) else (if x218 < (y211 ((y210 / 4) / sS.1).toNatClampNeg ((y210 / 4) - (y210 / 4) / sS.1 * sS.1).toNatClampNeg) then (some (1, (upM y211 ((y210 / 4) / sS.1).toNatClampNeg (upd (y211 ((y210 / 4) / sS.1).toNatClampNeg) ((y210 / 4) - (y210 / 4) / sS.1 * sS.1).toNatClampNeg x218)))) else (some (y209, y211))))) : Option (Int32 × (Nat → Nat → Int32))) fun v227 => lp_X6_lawns_77 sS nf v227.1 (y210 + 1) v227.2)
def lp_X6_lawns_69 (sS : SiS) : Nat → Int32 → (Nat → Nat → Int32) → Option ((Nat → Nat → Int32))
  | 0, _, _ => none
  | nf + 1, y172, y173 => if y172 = 0 then (some y173) else (Option.bind (lp_X6_lawns_77 sS 2200 0 0 y173) fun v228 => lp_X6_lawns_69 sS nf v228.1 v228.2)
def f_X6_lawns (sS : SiS) (mM : Nat → Nat → Int32) : Option ((Nat → Nat → Int32)) := Option.bind (f_X6_rows sS.1 sS.2.1 (-1)) fun r1 => Option.bind (lp_X6_lawns_15 sS mM 2200 0 r1) fun v59 => Option.bind (lp_X6_lawns_69 sS 2200 1 v59) fun v229 => some v229
abbrev rm_X6_lawns : Room := ({ frames := 1, cells := 9, slots := 72, locals := 28 } : Room)
abbrev A_X6_lawns (cI cJ cO cB : ClassId) (zsi zmo : Nat) (rmo : Nat → Nat) (sS : SiS) (mM : Nat → Nat → Int32) (sz : Nat) : Nat → Prop := va_A (wJ [[(zsi, .inr (5, [.int sS.1, .int sS.2.1, .int (bI sS.2.2.1), .int sS.2.2.2.1, .int sS.2.2.2.2.1, .int sS.2.2.2.2.2.1, .int sS.2.2.2.2.2.2.1, .int sS.2.2.2.2.2.2.2, .ref zmo]))], (mt cI cO zmo sS.2.1.toNatClampNeg sS.1.toNatClampNeg rmo mM)]) sz
abbrev Q_X6_lawns (dC : Nat → ClassId) (dI : Nat → Nat → Nat) (cI cJ cO cB : ClassId) (zsi zmo : Nat) (rmo : Nat → Nat) (sS : SiS) (mM : Nat → Nat → Int32) (sz : Nat) (R : (Nat → Nat → Int32)) : Array Value → State → Outcome → State → Prop := va_Qr (fun _ : (Nat → Nat) => True) (fun u_ ra t => va_P (dC, dI) vwCl (wJ [[(zsi, .inr (5, [.int sS.1, .int sS.2.1, .int (bI sS.2.2.1), .int sS.2.2.2.1, .int sS.2.2.2.2.1, .int sS.2.2.2.2.2.1, .int sS.2.2.2.2.2.2.1, .int sS.2.2.2.2.2.2.2, .ref zmo]))], (mt cI cO zmo sS.2.1.toNatClampNeg sS.1.toNatClampNeg rmo mM), (mt cI cO ra sS.2.1.toNatClampNeg sS.1.toNatClampNeg u_ R)]) t.heap ∧ va_K (dC, dI) vwCl [(cI, .int), (cJ, .long), (cO, .array .int), (cB, .boolean)] t ∧ va_D (A_X6_lawns cI cJ cO cB zsi zmo rmo sS mM sz) (wJ [[(zsi, .inr (5, [.int sS.1, .int sS.2.1, .int (bI sS.2.2.1), .int sS.2.2.2.1, .int sS.2.2.2.2.1, .int sS.2.2.2.2.2.1, .int sS.2.2.2.2.2.2.1, .int sS.2.2.2.2.2.2.2, .ref zmo]))], (mt cI cO zmo sS.2.1.toNatClampNeg sS.1.toNatClampNeg rmo mM), (mt cI cO ra sS.2.1.toNatClampNeg sS.1.toNatClampNeg u_ R)])) (A_X6_lawns cI cJ cO cB zsi zmo rmo sS mM sz)
set_option maxHeartbeats 4000000 in
set_option maxRecDepth 100000 in
theorem c_X6_lawns (l : Launch) (dC : Nat → ClassId) (dI : Nat → Nat → Nat) (cI cJ cO cB : ClassId) (zsi zmo : Nat) (sz : Nat) (rmo : Nat → Nat) (sS : SiS) (mM : Nat → Nat → Int32) (R : (Nat → Nat → Int32)) (hR : f_X6_lawns sS mM = some R) : Met l yX6_lawns wsX6_lawns rm_X6_lawns (va_Pc [.ref zsi] (fun U => U.heap.size = sz ∧ va_P (dC, dI) vwCl (wJ [[(zsi, .inr (5, [.int sS.1, .int sS.2.1, .int (bI sS.2.2.1), .int sS.2.2.2.1, .int sS.2.2.2.2.1, .int sS.2.2.2.2.2.1, .int sS.2.2.2.2.2.2.1, .int sS.2.2.2.2.2.2.2, .ref zmo]))], (mt cI cO zmo sS.2.1.toNatClampNeg sS.1.toNatClampNeg rmo mM)]) U.heap ∧ va_K (dC, dI) vwCl [(cI, .int), (cJ, .long), (cO, .array .int), (cB, .boolean)] U ∧ va_D (fun _ => True) (wJ [[(zsi, .inr (5, [.int sS.1, .int sS.2.1, .int (bI sS.2.2.1), .int sS.2.2.2.1, .int sS.2.2.2.2.1, .int sS.2.2.2.2.2.1, .int sS.2.2.2.2.2.2.1, .int sS.2.2.2.2.2.2.2, .ref zmo]))], (mt cI cO zmo sS.2.1.toNatClampNeg sS.1.toNatClampNeg rmo mM)]) ∧ aoE U)) (Q_X6_lawns dC dI cI cJ cO cB zsi zmo rmo sS mM sz R) 9 72 (A_X6_lawns cI cJ cO cB zsi zmo rmo sS mM sz) := by
  have hf := hR
  refine Met.ofW (cc := cX6_lawns) (maxL := 9) (ret := (some (.array (.array .int)))) (by decide) rfl ?_
  intro p e s m args below meth c s₁ B hml hv
  obtain ⟨hargs, hsz, hP, hK, hD0, hao⟩ := hv
  have hx := B.exec
  have hb := B.bytes
  have hr := B.returns
  have hts := atoms_spec (ws := wsX6_lawns) B.pre
  have hown : s.vm.findClass RX6 = some m.cls := findClass_of_methodNamed B.named
  have hlocks := B.notSynchronized
  subst hsz
  have hK2 : va_K (dC, dI) vwCl [(cI, .int), (cJ, .long)] s := hK.sub [0, 1] rfl
  have hD : va_D (A_X6_lawns cI cJ cO cB zsi zmo rmo sS mM s.heap.size) (wJ [[(zsi, .inr (5, [.int sS.1, .int sS.2.1, .int (bI sS.2.2.1), .int sS.2.2.2.1, .int sS.2.2.2.2.1, .int sS.2.2.2.2.2.1, .int sS.2.2.2.2.2.2.1, .int sS.2.2.2.2.2.2.2, .ref zmo]))], (mt cI cO zmo sS.2.1.toNatClampNeg sS.1.toNatClampNeg rmo mM)]) := hD0.self (sz := s.heap.size)
  have hA : ∀ q : Nat, s.heap.size ≤ q → (A_X6_lawns cI cJ cO cB zsi zmo rmo sS mM s.heap.size) q := fun q h => Or.inr h
  have hS : va_S (A_X6_lawns cI cJ cO cB zsi zmo rmo sS mM s.heap.size) s.heap s.heap [] := va_S.rf
  have hinX6 : ∀ w ∈ wsX60, w ∈ wsX6_lawns := by decide +kernel
  have hw0 := hts (.fieldLink RX6 7 "HedgeGlidersLaw$Sim" "w" "I") (by decide +kernel)
  have hw1 := hts (.fieldLink RX6 13 "HedgeGlidersLaw$Sim" "h" "I") (by decide +kernel)
  have hw2 := hts (.fieldLink RX6 32 "HedgeGlidersLaw$Sim" "isRound" "Z") (by decide +kernel)
  have hl := lv_entry ([.ref zsi]) (n := 9) (Nat.le_of_ble_eq_true rfl)
  have he0 : entryFrame m args 9 = entryFrame m ([.ref zsi] : List Value).toArray 9 := by rw [hargs]
  rw [he0, lg_entry_eq]
  generalize (lg_sl ([.ref zsi]) ++ List.replicate (9 - (lg_sl ([.ref zsi])).length) Slot.unset).toArray = ls at hl ⊢
  have hl : lv_has ls 9 [(0, .ref zsi)] := hl
  rw [f_X6_lawns] at hf
  refine lv_aload_n hx hb dX6_lawns_0 rfl (lv_at hl 0 rfl) ?_
  refine va_get (D := (dC, dI)) (ci := 5) (v := .int sS.1) (C := RX6) (T := TX6) (N := 9) hx hb hts hinX6 hown hK hP 0 rfl rfl 0 (by decide) hw0 (fun _ h9 => h9) rfl dX6_lawns_1 ?_
  refine lv_aload_n hx hb dX6_lawns_4 rfl (lv_at hl 0 rfl) ?_
  refine va_get (D := (dC, dI)) (ci := 5) (v := .int sS.2.1) (C := RX6) (T := TX6) (N := 9) hx hb hts hinX6 hown hK hP 0 rfl rfl 1 (by decide) hw1 (fun _ h9 => h9) rfl dX6_lawns_5 ?_
  refine lv_iconst (v := (-1)) hx hb dX6_lawns_8 (by decide) ?_
  obtain ⟨r1, hr1, hf⟩ := obind hf
  have hPc : va_P (dC, dI) vwCl (wJ []) s.heap := sgP (L' := []) hP [] rfl
  have hDc : va_D (A_X6_lawns cI cJ cO cB zsi zmo rmo sS mM s.heap.size) (wJ []) := sgD (L' := []) hD [] (by decide) rfl
  have hFc : ∀ q, va_A (wJ []) s.heap.size q → (A_X6_lawns cI cJ cO cB zsi zmo rmo sS mM s.heap.size) q := sg_free (W := []) hD hS hA [] rfl
  refine va_callr (va_runS (As := [.int sS.1, .int sS.2.1, .int (-1)]) (rest := []) ⟨hx, hb, hml, hown, hts⟩ (c_X6_rows l dC dI cI cJ cO cB  s.heap.size sS.1 sS.2.1 (-1) _ hr1) (va_cwS 3 hts gX6_lawns_X6_rows rfl rfl rfl (by decide +kernel) ⟨Nat.le_of_ble_eq_true rfl, Nat.le_of_ble_eq_true rfl⟩) ⟨fun a U gg mk q => by obtain ⟨q0, q1, qP, qK, qD, qo⟩ := q; exact ⟨q0, q1, qP, va_K.moved (u := U) (U := U.calling gg mk a) (Vm.Alike.refl U.vm) qK, qD, aoE.same (u := U) (U := U.calling gg mk a) rfl qo⟩, fun U hU hW => ⟨rfl, by rw [hU], by rw [hU]; exact hPc, va_K.moved hW.alike hK, hDc.weaken (fun _ _ _ _ => trivial), hao.warm hW⟩⟩ rfl rfl hl.1 rfl (lv_room (Nat.le_of_ble_eq_true rfl)) dX6_lawns_9 ⟨(Nat.le_of_ble_eq_true rfl), (Nat.le_of_ble_eq_true rfl)⟩) hS (fun q _ h => hFc q h) hFc (fun u_ z2 t H locs ht hvm hw hB hz1 hk1 hS => ?_)
  obtain ⟨r3, rfl⟩ : ∃ z, z = u_ := ⟨_, rfl⟩
  obtain ⟨hP1, -, hD1⟩ := hB
  rw [ht] at hP1
  have hJ := sg_join2 (W := []) (R := [[(zsi, .inr (5, [.int sS.1, .int sS.2.1, .int (bI sS.2.2.1), .int sS.2.2.2.1, .int sS.2.2.2.2.1, .int sS.2.2.2.2.2.1, .int sS.2.2.2.2.2.2.1, .int sS.2.2.2.2.2.2.2, .ref zmo]))], (mt cI cO zmo sS.2.1.toNatClampNeg sS.1.toNatClampNeg rmo mM)]) (W1 := [(mt cI cO z2 sS.2.1.toNatClampNeg sS.1.toNatClampNeg r3 r1)]) hP hD [] [0, 1] rfl rfl (by decide) (by decide) hk1 hFc hP1 hD1
  have hP : va_P (dC, dI) vwCl (wJ [[(zsi, .inr (5, [.int sS.1, .int sS.2.1, .int (bI sS.2.2.1), .int sS.2.2.2.1, .int sS.2.2.2.2.1, .int sS.2.2.2.2.2.1, .int sS.2.2.2.2.2.2.1, .int sS.2.2.2.2.2.2.2, .ref zmo]))], (mt cI cO zmo sS.2.1.toNatClampNeg sS.1.toNatClampNeg rmo mM), (mt cI cO z2 sS.2.1.toNatClampNeg sS.1.toNatClampNeg r3 r1)]) H := hJ.1
  have hD : va_D (A_X6_lawns cI cJ cO cB zsi zmo rmo sS mM s.heap.size) (wJ [[(zsi, .inr (5, [.int sS.1, .int sS.2.1, .int (bI sS.2.2.1), .int sS.2.2.2.1, .int sS.2.2.2.2.1, .int sS.2.2.2.2.2.1, .int sS.2.2.2.2.2.2.1, .int sS.2.2.2.2.2.2.2, .ref zmo]))], (mt cI cO zmo sS.2.1.toNatClampNeg sS.1.toNatClampNeg rmo mM), (mt cI cO z2 sS.2.1.toNatClampNeg sS.1.toNatClampNeg r3 r1)]) := hJ.2
  have hP := sgP (L' := [[(zsi, .inr (5, [.int sS.1, .int sS.2.1, .int (bI sS.2.2.1), .int sS.2.2.2.1, .int sS.2.2.2.2.1, .int sS.2.2.2.2.2.1, .int sS.2.2.2.2.2.2.1, .int sS.2.2.2.2.2.2.2, .ref zmo]))], (mt cI cO zmo sS.2.1.toNatClampNeg sS.1.toNatClampNeg rmo mM), (mt cI cO z2 sS.2.1.toNatClampNeg sS.1.toNatClampNeg r3 r1)]) hP [0, 1, 2] rfl
  have hD := sgD (L' := [[(zsi, .inr (5, [.int sS.1, .int sS.2.1, .int (bI sS.2.2.1), .int sS.2.2.2.1, .int sS.2.2.2.2.1, .int sS.2.2.2.2.2.1, .int sS.2.2.2.2.2.2.1, .int sS.2.2.2.2.2.2.2, .ref zmo]))], (mt cI cO zmo sS.2.1.toNatClampNeg sS.1.toNatClampNeg rmo mM), (mt cI cO z2 sS.2.1.toNatClampNeg sS.1.toNatClampNeg r3 r1)]) hD [0, 1, 2] (by decide) rfl
  clear hPc hDc hFc hP1 hD1 hk1 hJ
  refine lv_astore_n (lv' := [(1, .ref z2), (0, .ref zsi)]) hx hb dX6_lawns_12 rfl hl (by decide) rfl (fun ls hl => ?_)
  refine lv_iconst (v := 0) hx hb dX6_lawns_13 (by decide) ?_
  refine lv_istore_n (lv' := [(2, .int 0), (1, .ref z2), (0, .ref zsi)]) hx hb dX6_lawns_14 rfl hl (by decide) rfl (fun ls hl => ?_)
  obtain ⟨v59, hv, hf⟩ := obind hf
  have K230 : ∀ (H : Heap) (locs : List Loc) (ls : Array Slot), va_P (dC, dI) vwCl (wJ [[(zsi, .inr (5, [.int sS.1, .int sS.2.1, .int (bI sS.2.2.1), .int sS.2.2.2.1, .int sS.2.2.2.2.1, .int sS.2.2.2.2.2.1, .int sS.2.2.2.2.2.2.1, .int sS.2.2.2.2.2.2.2, .ref zmo]))], (mt cI cO zmo sS.2.1.toNatClampNeg sS.1.toNatClampNeg rmo mM), (mt cI cO z2 sS.2.1.toNatClampNeg sS.1.toNatClampNeg r3 v59)]) H → va_D (A_X6_lawns cI cJ cO cB zsi zmo rmo sS mM s.heap.size) (wJ [[(zsi, .inr (5, [.int sS.1, .int sS.2.1, .int (bI sS.2.2.1), .int sS.2.2.2.1, .int sS.2.2.2.2.1, .int sS.2.2.2.2.2.1, .int sS.2.2.2.2.2.2.1, .int sS.2.2.2.2.2.2.2, .ref zmo]))], (mt cI cO zmo sS.2.1.toNatClampNeg sS.1.toNatClampNeg rmo mM), (mt cI cO z2 sS.2.1.toNatClampNeg sS.1.toNatClampNeg r3 v59)]) → va_S (A_X6_lawns cI cJ cO cB zsi zmo rmo sS mM s.heap.size) s.heap H locs → lv_has ls 9 [(0, .ref zsi), (1, .ref z2)] → W p l e rm_X6_lawns s m args below meth c H locs 9 72 (MQ below (Q_X6_lawns dC dI cI cJ cO cB zsi zmo rmo sS mM s.heap.size R) args s 9 72 (A_X6_lawns cI cJ cO cB zsi zmo rmo sS mM s.heap.size)) (F0 m 67 ls []) := by
    intro H locs ls hP hD hS hl
    refine lv_iconst (v := 1) hx hb dX6_lawns_67 (by decide) ?_
    refine lv_istore_n (lv' := [(2, .int 1), (0, .ref zsi), (1, .ref z2)]) hx hb dX6_lawns_68 rfl hl (by decide) rfl (fun ls hl => ?_)
    obtain ⟨v229, hv, hf⟩ := obind hf
    have K231 : ∀ (H : Heap) (locs : List Loc) (ls : Array Slot), va_P (dC, dI) vwCl (wJ [[(zsi, .inr (5, [.int sS.1, .int sS.2.1, .int (bI sS.2.2.1), .int sS.2.2.2.1, .int sS.2.2.2.2.1, .int sS.2.2.2.2.2.1, .int sS.2.2.2.2.2.2.1, .int sS.2.2.2.2.2.2.2, .ref zmo]))], (mt cI cO zmo sS.2.1.toNatClampNeg sS.1.toNatClampNeg rmo mM), (mt cI cO z2 sS.2.1.toNatClampNeg sS.1.toNatClampNeg r3 v229)]) H → va_D (A_X6_lawns cI cJ cO cB zsi zmo rmo sS mM s.heap.size) (wJ [[(zsi, .inr (5, [.int sS.1, .int sS.2.1, .int (bI sS.2.2.1), .int sS.2.2.2.1, .int sS.2.2.2.2.1, .int sS.2.2.2.2.2.1, .int sS.2.2.2.2.2.2.1, .int sS.2.2.2.2.2.2.2, .ref zmo]))], (mt cI cO zmo sS.2.1.toNatClampNeg sS.1.toNatClampNeg rmo mM), (mt cI cO z2 sS.2.1.toNatClampNeg sS.1.toNatClampNeg r3 v229)]) → va_S (A_X6_lawns cI cJ cO cB zsi zmo rmo sS mM s.heap.size) s.heap H locs → lv_has ls 9 [(1, .ref z2)] → W p l e rm_X6_lawns s m args below meth c H locs 9 72 (MQ below (Q_X6_lawns dC dI cI cJ cO cB zsi zmo rmo sS mM s.heap.size R) args s 9 72 (A_X6_lawns cI cJ cO cB zsi zmo rmo sS mM s.heap.size)) (F0 m 284 ls []) := by
      intro H locs ls hP hD hS hl
      refine lv_aload_n hx hb dX6_lawns_284 rfl (lv_at hl 0 rfl) ?_
      obtain rfl := Option.some.inj hf
      exact W.aret hx hb hr (Or.inr ⟨_, rfl⟩) (Or.inr ⟨_, rfl⟩) (fun t ht hW => ⟨⟨(r3), z2, rfl, trivial, by rw [ht]; exact hP, va_K.moved hW.alike hK, hD⟩, hS.F ht⟩) hS.2.2 dX6_lawns_285
    have lp232 : ∀ (nf69 : Nat) (y172 : Int32) (y173 : Nat → Nat → Int32) (H : Heap) (locs : List Loc) (ls : Array Slot), lp_X6_lawns_69 sS nf69 y172 y173 = some v229 → va_P (dC, dI) vwCl (wJ [[(zsi, .inr (5, [.int sS.1, .int sS.2.1, .int (bI sS.2.2.1), .int sS.2.2.2.1, .int sS.2.2.2.2.1, .int sS.2.2.2.2.2.1, .int sS.2.2.2.2.2.2.1, .int sS.2.2.2.2.2.2.2, .ref zmo]))], (mt cI cO zmo sS.2.1.toNatClampNeg sS.1.toNatClampNeg rmo mM), (mt cI cO z2 sS.2.1.toNatClampNeg sS.1.toNatClampNeg r3 y173)]) H → va_D (A_X6_lawns cI cJ cO cB zsi zmo rmo sS mM s.heap.size) (wJ [[(zsi, .inr (5, [.int sS.1, .int sS.2.1, .int (bI sS.2.2.1), .int sS.2.2.2.1, .int sS.2.2.2.2.1, .int sS.2.2.2.2.2.1, .int sS.2.2.2.2.2.2.1, .int sS.2.2.2.2.2.2.2, .ref zmo]))], (mt cI cO zmo sS.2.1.toNatClampNeg sS.1.toNatClampNeg rmo mM), (mt cI cO z2 sS.2.1.toNatClampNeg sS.1.toNatClampNeg r3 y173)]) → va_S (A_X6_lawns cI cJ cO cB zsi zmo rmo sS mM s.heap.size) s.heap H locs → lv_has ls 9 [(0, .ref zsi), (1, .ref z2), (2, .int y172)] → W p l e rm_X6_lawns s m args below meth c H locs 9 72 (MQ below (Q_X6_lawns dC dI cI cJ cO cB zsi zmo rmo sS mM s.heap.size R) args s 9 72 (A_X6_lawns cI cJ cO cB zsi zmo rmo sS mM s.heap.size)) (F0 m 69 ls []) := by
      intro nf69
      induction nf69 with
      | zero => intro y172 y173 H locs ls h9; exact nomatch h9
      | succ nf69 ih233 =>
        intro y172 y173 H locs ls hf hP hD hS hl
        rw [lp_X6_lawns_69.eq_2] at hf
        refine lv_iload_n hx hb dX6_lawns_69 rfl (lv_at hl 2 rfl) ?_
        refine lv_if_eq (tgt := 284) hx hb dX6_lawns_70 (by decide) (fun hc => ?_) (fun hc => ?_)
        · rw [if_pos hc] at hf
          obtain rfl := Option.some.inj hf
          exact K231 _ _ _ hP hD hS (lv_sub hl [1] rfl)
        · rw [if_neg hc] at hf
          refine lv_iconst (v := 0) hx hb dX6_lawns_73 (by decide) ?_
          refine lv_istore_n (lv' := [(2, .int 0), (0, .ref zsi), (1, .ref z2)]) hx hb dX6_lawns_74 rfl hl (by decide) rfl (fun ls hl => ?_)
          refine lv_iconst (v := 0) hx hb dX6_lawns_75 (by decide) ?_
          refine lv_istore_n (lv' := [(3, .int 0), (2, .int 0), (0, .ref zsi), (1, .ref z2)]) hx hb dX6_lawns_76 rfl hl (by decide) rfl (fun ls hl => ?_)
          obtain ⟨v228, hv, hf⟩ := obind hf
          have K234 : ∀ (H : Heap) (locs : List Loc) (ls : Array Slot), va_P (dC, dI) vwCl (wJ [[(zsi, .inr (5, [.int sS.1, .int sS.2.1, .int (bI sS.2.2.1), .int sS.2.2.2.1, .int sS.2.2.2.2.1, .int sS.2.2.2.2.2.1, .int sS.2.2.2.2.2.2.1, .int sS.2.2.2.2.2.2.2, .ref zmo]))], (mt cI cO zmo sS.2.1.toNatClampNeg sS.1.toNatClampNeg rmo mM), (mt cI cO z2 sS.2.1.toNatClampNeg sS.1.toNatClampNeg r3 v228.2)]) H → va_D (A_X6_lawns cI cJ cO cB zsi zmo rmo sS mM s.heap.size) (wJ [[(zsi, .inr (5, [.int sS.1, .int sS.2.1, .int (bI sS.2.2.1), .int sS.2.2.2.1, .int sS.2.2.2.2.1, .int sS.2.2.2.2.2.1, .int sS.2.2.2.2.2.2.1, .int sS.2.2.2.2.2.2.2, .ref zmo]))], (mt cI cO zmo sS.2.1.toNatClampNeg sS.1.toNatClampNeg rmo mM), (mt cI cO z2 sS.2.1.toNatClampNeg sS.1.toNatClampNeg r3 v228.2)]) → va_S (A_X6_lawns cI cJ cO cB zsi zmo rmo sS mM s.heap.size) s.heap H locs → lv_has ls 9 [(0, .ref zsi), (1, .ref z2), (2, .int v228.1)] → W p l e rm_X6_lawns s m args below meth c H locs 9 72 (MQ below (Q_X6_lawns dC dI cI cJ cO cB zsi zmo rmo sS mM s.heap.size R) args s 9 72 (A_X6_lawns cI cJ cO cB zsi zmo rmo sS mM s.heap.size)) (F0 m 281 ls []) := by
            intro H locs ls hP hD hS hl
            refine lv_goto (tgt := 69) hx hb dX6_lawns_281 (by decide) ?_
            exact ih233 _ _ _ _ _ hf hP hD hS (lv_sub hl [0, 1, 2] rfl)
          have lp235 : ∀ (nf77 : Nat) (y209 : Int32) (y210 : Int32) (y211 : Nat → Nat → Int32) (H : Heap) (locs : List Loc) (ls : Array Slot), lp_X6_lawns_77 sS nf77 y209 y210 y211 = some v228 → va_P (dC, dI) vwCl (wJ [[(zsi, .inr (5, [.int sS.1, .int sS.2.1, .int (bI sS.2.2.1), .int sS.2.2.2.1, .int sS.2.2.2.2.1, .int sS.2.2.2.2.2.1, .int sS.2.2.2.2.2.2.1, .int sS.2.2.2.2.2.2.2, .ref zmo]))], (mt cI cO zmo sS.2.1.toNatClampNeg sS.1.toNatClampNeg rmo mM), (mt cI cO z2 sS.2.1.toNatClampNeg sS.1.toNatClampNeg r3 y211)]) H → va_D (A_X6_lawns cI cJ cO cB zsi zmo rmo sS mM s.heap.size) (wJ [[(zsi, .inr (5, [.int sS.1, .int sS.2.1, .int (bI sS.2.2.1), .int sS.2.2.2.1, .int sS.2.2.2.2.1, .int sS.2.2.2.2.2.1, .int sS.2.2.2.2.2.2.1, .int sS.2.2.2.2.2.2.2, .ref zmo]))], (mt cI cO zmo sS.2.1.toNatClampNeg sS.1.toNatClampNeg rmo mM), (mt cI cO z2 sS.2.1.toNatClampNeg sS.1.toNatClampNeg r3 y211)]) → va_S (A_X6_lawns cI cJ cO cB zsi zmo rmo sS mM s.heap.size) s.heap H locs → lv_has ls 9 [(0, .ref zsi), (1, .ref z2), (2, .int y209), (3, .int y210)] → W p l e rm_X6_lawns s m args below meth c H locs 9 72 (MQ below (Q_X6_lawns dC dI cI cJ cO cB zsi zmo rmo sS mM s.heap.size R) args s 9 72 (A_X6_lawns cI cJ cO cB zsi zmo rmo sS mM s.heap.size)) (F0 m 77 ls []) := by
            intro nf77
            induction nf77 with
            | zero => intro y209 y210 y211 H locs ls h9; exact nomatch h9
            | succ nf77 ih236 =>
              intro y209 y210 y211 H locs ls hf hP hD hS hl
              rw [lp_X6_lawns_77.eq_2] at hf
              refine lv_iload_n hx hb dX6_lawns_77 rfl (lv_at hl 3 rfl) ?_
              refine lv_iconst (v := 4) hx hb dX6_lawns_78 (by decide) ?_
              refine lv_aload_n hx hb dX6_lawns_79 rfl (lv_at hl 0 rfl) ?_
              refine va_get (D := (dC, dI)) (ci := 5) (v := .int sS.1) (C := RX6) (T := TX6) (N := 9) hx hb hts hinX6 hown hK hP 0 rfl rfl 0 (by decide) hw0 (fun _ h9 => h9) rfl dX6_lawns_80 ?_
              refine lv_imul hx hb dX6_lawns_83 ?_
              refine lv_aload_n hx hb dX6_lawns_84 rfl (lv_at hl 0 rfl) ?_
              refine va_get (D := (dC, dI)) (ci := 5) (v := .int sS.2.1) (C := RX6) (T := TX6) (N := 9) hx hb hts hinX6 hown hK hP 0 rfl rfl 1 (by decide) hw1 (fun _ h9 => h9) rfl dX6_lawns_85 ?_
              refine lv_imul hx hb dX6_lawns_88 ?_
              refine lv_icmp_ge (tgt := 281) hx hb dX6_lawns_89 (by decide) (fun hc => ?_) (fun hc => ?_)
              · rw [if_pos hc] at hf
                obtain rfl := Option.some.inj hf
                exact K234 _ _ _ hP hD hS (lv_sub hl [0, 1, 2] rfl)
              · rw [if_neg hc] at hf
                refine lv_iload_n hx hb dX6_lawns_92 rfl (lv_at hl 3 rfl) ?_
                refine lv_iconst (v := 4) hx hb dX6_lawns_93 (by decide) ?_
                refine lv_idiv hx hb dX6_lawns_94 (by decide) ?_
                refine lv_aload_n hx hb dX6_lawns_95 rfl (lv_at hl 0 rfl) ?_
                refine va_get (D := (dC, dI)) (ci := 5) (v := .int sS.1) (C := RX6) (T := TX6) (N := 9) hx hb hts hinX6 hown hK hP 0 rfl rfl 0 (by decide) hw0 (fun _ h9 => h9) rfl dX6_lawns_96 ?_
                have hg212 : ¬ (sS.1 = 0) := fun hq => by rw [if_pos hq] at hf; exact nomatch hf
                rw [if_neg hg212] at hf
                refine lv_irem hx hb dX6_lawns_99 hg212 ?_
                refine lv_istore (lv' := [(4, .int ((y210 / 4) - (y210 / 4) / sS.1 * sS.1)), (0, .ref zsi), (1, .ref z2), (2, .int y209), (3, .int y210)]) hx hb dX6_lawns_100 hl (by decide) rfl (fun ls hl => ?_)
                refine lv_iload_n hx hb dX6_lawns_102 rfl (lv_at hl 4 rfl) ?_
                refine lv_iconst (v := 4) hx hb dX6_lawns_103 (by decide) ?_
                refine lv_idiv hx hb dX6_lawns_104 (by decide) ?_
                refine lv_aload_n hx hb dX6_lawns_105 rfl (lv_at hl 1 rfl) ?_
                refine va_get (D := (dC, dI)) (ci := 5) (v := .int sS.1) (C := RX6) (T := TX6) (N := 9) hx hb hts hinX6 hown hK hP 0 rfl rfl 0 (by decide) hw0 (fun _ h9 => h9) rfl dX6_lawns_106 ?_
                refine lv_idiv hx hb dX6_lawns_109 hg212 ?_
                refine lv_istore (lv' := [(5, .int ((y210 / 4) / sS.1)), (4, .int ((y210 / 4) - (y210 / 4) / sS.1 * sS.1)), (0, .ref zsi), (1, .ref z2), (2, .int y209), (3, .int y210)]) hx hb dX6_lawns_110 hl (by decide) rfl (fun ls hl => ?_)
                refine lv_iload hx hb dX6_lawns_112 (lv_at hl 1 rfl) ?_
                refine lv_iload_n hx hb dX6_lawns_114 rfl (lv_at hl 5 rfl) ?_
                refine lv_iconst (v := 4) hx hb dX6_lawns_115 (by decide) ?_
                refine lv_irem hx hb dX6_lawns_116 (by decide) ?_
                obtain ⟨v213, hv, hf⟩ := vbind hf
                have K237 : ∀ (H : Heap) (locs : List Loc) (ls : Array Slot), va_P (dC, dI) vwCl (wJ [[(zsi, .inr (5, [.int sS.1, .int sS.2.1, .int (bI sS.2.2.1), .int sS.2.2.2.1, .int sS.2.2.2.2.1, .int sS.2.2.2.2.2.1, .int sS.2.2.2.2.2.2.1, .int sS.2.2.2.2.2.2.2, .ref zmo]))], (mt cI cO zmo sS.2.1.toNatClampNeg sS.1.toNatClampNeg rmo mM), (mt cI cO z2 sS.2.1.toNatClampNeg sS.1.toNatClampNeg r3 y211)]) H → va_D (A_X6_lawns cI cJ cO cB zsi zmo rmo sS mM s.heap.size) (wJ [[(zsi, .inr (5, [.int sS.1, .int sS.2.1, .int (bI sS.2.2.1), .int sS.2.2.2.1, .int sS.2.2.2.2.1, .int sS.2.2.2.2.2.1, .int sS.2.2.2.2.2.2.1, .int sS.2.2.2.2.2.2.2, .ref zmo]))], (mt cI cO zmo sS.2.1.toNatClampNeg sS.1.toNatClampNeg rmo mM), (mt cI cO z2 sS.2.1.toNatClampNeg sS.1.toNatClampNeg r3 y211)]) → va_S (A_X6_lawns cI cJ cO cB zsi zmo rmo sS mM s.heap.size) s.heap H locs → lv_has ls 9 [(0, .ref zsi), (1, .ref z2), (2, .int y209), (3, .int y210), (4, .int ((y210 / 4) - (y210 / 4) / sS.1 * sS.1)), (5, .int ((y210 / 4) / sS.1))] → W p l e rm_X6_lawns s m args below meth c H locs 9 72 (MQ below (Q_X6_lawns dC dI cI cJ cO cB zsi zmo rmo sS mM s.heap.size R) args s 9 72 (A_X6_lawns cI cJ cO cB zsi zmo rmo sS mM s.heap.size)) (F0 m 136 ls [.int v213, .int ((y210 / 4) - (y210 / 4) / sS.1 * sS.1)]) := by
                  intro H locs ls hP hD hS hl
                  refine lv_iadd hx hb dX6_lawns_136 ?_
                  refine lv_istore (lv' := [(6, .int (((y210 / 4) - (y210 / 4) / sS.1 * sS.1) + v213)), (0, .ref zsi), (1, .ref z2), (2, .int y209), (3, .int y210), (4, .int ((y210 / 4) - (y210 / 4) / sS.1 * sS.1)), (5, .int ((y210 / 4) / sS.1))]) hx hb dX6_lawns_137 hl (by decide) rfl (fun ls hl => ?_)
                  refine lv_iload hx hb dX6_lawns_139 (lv_at hl 6 rfl) ?_
                  refine lv_iload_n hx hb dX6_lawns_141 rfl (lv_at hl 4 rfl) ?_
                  refine lv_iconst (v := 4) hx hb dX6_lawns_142 (by decide) ?_
                  refine lv_irem hx hb dX6_lawns_143 (by decide) ?_
                  refine lv_iconst (v := 2) hx hb dX6_lawns_144 (by decide) ?_
                  obtain ⟨v214, hv, hf⟩ := vbind hf
                  have K238 : ∀ (H : Heap) (locs : List Loc) (ls : Array Slot), va_P (dC, dI) vwCl (wJ [[(zsi, .inr (5, [.int sS.1, .int sS.2.1, .int (bI sS.2.2.1), .int sS.2.2.2.1, .int sS.2.2.2.2.1, .int sS.2.2.2.2.2.1, .int sS.2.2.2.2.2.2.1, .int sS.2.2.2.2.2.2.2, .ref zmo]))], (mt cI cO zmo sS.2.1.toNatClampNeg sS.1.toNatClampNeg rmo mM), (mt cI cO z2 sS.2.1.toNatClampNeg sS.1.toNatClampNeg r3 y211)]) H → va_D (A_X6_lawns cI cJ cO cB zsi zmo rmo sS mM s.heap.size) (wJ [[(zsi, .inr (5, [.int sS.1, .int sS.2.1, .int (bI sS.2.2.1), .int sS.2.2.2.1, .int sS.2.2.2.2.1, .int sS.2.2.2.2.2.1, .int sS.2.2.2.2.2.2.1, .int sS.2.2.2.2.2.2.2, .ref zmo]))], (mt cI cO zmo sS.2.1.toNatClampNeg sS.1.toNatClampNeg rmo mM), (mt cI cO z2 sS.2.1.toNatClampNeg sS.1.toNatClampNeg r3 y211)]) → va_S (A_X6_lawns cI cJ cO cB zsi zmo rmo sS mM s.heap.size) s.heap H locs → lv_has ls 9 [(0, .ref zsi), (1, .ref z2), (2, .int y209), (3, .int y210), (4, .int ((y210 / 4) - (y210 / 4) / sS.1 * sS.1)), (5, .int ((y210 / 4) / sS.1)), (6, .int (((y210 / 4) - (y210 / 4) / sS.1 * sS.1) + v213))] → W p l e rm_X6_lawns s m args below meth c H locs 9 72 (MQ below (Q_X6_lawns dC dI cI cJ cO cB zsi zmo rmo sS mM s.heap.size R) args s 9 72 (A_X6_lawns cI cJ cO cB zsi zmo rmo sS mM s.heap.size)) (F0 m 164 ls [.int v214, .int ((y210 / 4) / sS.1)]) := by
                    intro H locs ls hP hD hS hl
                    refine lv_iadd hx hb dX6_lawns_164 ?_
                    refine lv_istore (lv' := [(7, .int (((y210 / 4) / sS.1) + v214)), (0, .ref zsi), (1, .ref z2), (2, .int y209), (3, .int y210), (4, .int ((y210 / 4) - (y210 / 4) / sS.1 * sS.1)), (5, .int ((y210 / 4) / sS.1)), (6, .int (((y210 / 4) - (y210 / 4) / sS.1 * sS.1) + v213))]) hx hb dX6_lawns_165 hl (by decide) rfl (fun ls hl => ?_)
                    refine lv_aload_n hx hb dX6_lawns_167 rfl (lv_at hl 1 rfl) ?_
                    refine va_get (D := (dC, dI)) (ci := 5) (v := .int (bI sS.2.2.1)) (C := RX6) (T := TX6) (N := 9) hx hb hts hinX6 hown hK hP 0 rfl rfl 2 (by decide) hw2 (fun _ h9 => h9) rfl dX6_lawns_168 ?_
                    obtain ⟨v227, hv, hf⟩ := obind hf
                    have K239 : ∀ (H : Heap) (locs : List Loc) (ls : Array Slot), va_P (dC, dI) vwCl (wJ [[(zsi, .inr (5, [.int sS.1, .int sS.2.1, .int (bI sS.2.2.1), .int sS.2.2.2.1, .int sS.2.2.2.2.1, .int sS.2.2.2.2.2.1, .int sS.2.2.2.2.2.2.1, .int sS.2.2.2.2.2.2.2, .ref zmo]))], (mt cI cO zmo sS.2.1.toNatClampNeg sS.1.toNatClampNeg rmo mM), (mt cI cO z2 sS.2.1.toNatClampNeg sS.1.toNatClampNeg r3 v227.2)]) H → va_D (A_X6_lawns cI cJ cO cB zsi zmo rmo sS mM s.heap.size) (wJ [[(zsi, .inr (5, [.int sS.1, .int sS.2.1, .int (bI sS.2.2.1), .int sS.2.2.2.1, .int sS.2.2.2.2.1, .int sS.2.2.2.2.2.1, .int sS.2.2.2.2.2.2.1, .int sS.2.2.2.2.2.2.2, .ref zmo]))], (mt cI cO zmo sS.2.1.toNatClampNeg sS.1.toNatClampNeg rmo mM), (mt cI cO z2 sS.2.1.toNatClampNeg sS.1.toNatClampNeg r3 v227.2)]) → va_S (A_X6_lawns cI cJ cO cB zsi zmo rmo sS mM s.heap.size) s.heap H locs → lv_has ls 9 [(0, .ref zsi), (1, .ref z2), (2, .int v227.1), (3, .int y210)] → W p l e rm_X6_lawns s m args below meth c H locs 9 72 (MQ below (Q_X6_lawns dC dI cI cJ cO cB zsi zmo rmo sS mM s.heap.size R) args s 9 72 (A_X6_lawns cI cJ cO cB zsi zmo rmo sS mM s.heap.size)) (F0 m 275 ls []) := by
                      intro H locs ls hP hD hS hl
                      refine lv_iinc (v := (y210 + 1)) (lv' := [(3, .int (y210 + 1)), (0, .ref zsi), (1, .ref z2), (2, .int v227.1)]) hx hb dX6_lawns_275 hl (k := 3) rfl rfl (by decide) rfl (fun ls hl => ?_)
                      refine lv_goto (tgt := 77) hx hb dX6_lawns_278 (by decide) ?_
                      exact ih236 _ _ _ _ _ _ hf hP hD hS (lv_sub hl [1, 2, 3, 0] rfl)
                    clear hf; have hf := hv; clear hv
                    refine lv_if_ne (tgt := 205) hx hb dX6_lawns_171 (by decide) (fun hc => ?_) (fun hc => ?_)
                    · rw [if_neg hc] at hf
                      refine lv_aload_n hx hb dX6_lawns_205 rfl (lv_at hl 2 rfl) ?_
                      refine lv_iload hx hb dX6_lawns_206 (lv_at hl 0 rfl) ?_
                      refine lv_aload_n hx hb dX6_lawns_208 rfl (lv_at hl 1 rfl) ?_
                      refine va_get (D := (dC, dI)) (ci := 5) (v := .int sS.2.1) (C := RX6) (T := TX6) (N := 9) hx hb hts hinX6 hown hK hP 0 rfl rfl 1 (by decide) hw1 (fun _ h9 => h9) rfl dX6_lawns_209 ?_
                      refine lv_iadd hx hb dX6_lawns_212 ?_
                      refine lv_aload_n hx hb dX6_lawns_213 rfl (lv_at hl 1 rfl) ?_
                      refine va_get (D := (dC, dI)) (ci := 5) (v := .int sS.2.1) (C := RX6) (T := TX6) (N := 9) hx hb hts hinX6 hown hK hP 0 rfl rfl 1 (by decide) hw1 (fun _ h9 => h9) rfl dX6_lawns_214 ?_
                      have hg215 : ¬ (sS.2.1 = 0) := fun hq => by rw [if_pos hq] at hf; exact nomatch hf
                      rw [if_neg hg215] at hf
                      refine lv_irem hx hb dX6_lawns_217 hg215 ?_
                      have hg216 : ¬ ((((((y210 / 4) / sS.1) + v214) + sS.2.1) - ((((y210 / 4) / sS.1) + v214) + sS.2.1) / sS.2.1 * sS.2.1) < 0 ∨ sS.2.1.toNatClampNeg ≤ (((((y210 / 4) / sS.1) + v214) + sS.2.1) - ((((y210 / 4) / sS.1) + v214) + sS.2.1) / sS.2.1 * sS.2.1).toNatClampNeg) := fun hq => by rw [if_pos hq] at hf; exact nomatch hf
                      rw [if_neg hg216] at hf
                      refine sg_aald hx hb hK hP 2 2 rfl rfl (i := (((((y210 / 4) / sS.1) + v214) + sS.2.1) - ((((y210 / 4) / sS.1) + v214) + sS.2.1) / sS.2.1 * sS.2.1)) hg216 dX6_lawns_218 ?_
                      refine lv_iload hx hb dX6_lawns_219 (lv_at hl 7 rfl) ?_
                      refine lv_aload_n hx hb dX6_lawns_221 rfl (lv_at hl 1 rfl) ?_
                      refine va_get (D := (dC, dI)) (ci := 5) (v := .int sS.1) (C := RX6) (T := TX6) (N := 9) hx hb hts hinX6 hown hK hP 0 rfl rfl 0 (by decide) hw0 (fun _ h9 => h9) rfl dX6_lawns_222 ?_
                      refine lv_iadd hx hb dX6_lawns_225 ?_
                      refine lv_aload_n hx hb dX6_lawns_226 rfl (lv_at hl 1 rfl) ?_
                      refine va_get (D := (dC, dI)) (ci := 5) (v := .int sS.1) (C := RX6) (T := TX6) (N := 9) hx hb hts hinX6 hown hK hP 0 rfl rfl 0 (by decide) hw0 (fun _ h9 => h9) rfl dX6_lawns_227 ?_
                      refine lv_irem hx hb dX6_lawns_230 hg212 ?_
                      have hg217 : ¬ ((((((y210 / 4) - (y210 / 4) / sS.1 * sS.1) + v213) + sS.1) - ((((y210 / 4) - (y210 / 4) / sS.1 * sS.1) + v213) + sS.1) / sS.1 * sS.1) < 0 ∨ sS.1.toNatClampNeg ≤ (((((y210 / 4) - (y210 / 4) / sS.1 * sS.1) + v213) + sS.1) - ((((y210 / 4) - (y210 / 4) / sS.1 * sS.1) + v213) + sS.1) / sS.1 * sS.1).toNatClampNeg) := fun hq => by rw [if_pos hq] at hf; exact nomatch hf
                      rw [if_neg hg217] at hf
                      refine sg_iald hx hb hK hP 2 0 rfl rfl (inRow hg216) (i := (((((y210 / 4) - (y210 / 4) / sS.1 * sS.1) + v213) + sS.1) - ((((y210 / 4) - (y210 / 4) / sS.1 * sS.1) + v213) + sS.1) / sS.1 * sS.1)) hg217 dX6_lawns_231 ?_
                      obtain ⟨x218, hx218, hf⟩ := vbind hf
                      refine topi_e hx218 ?_
                      refine lv_istore (lv' := [(8, .int x218), (7, .int (((y210 / 4) / sS.1) + v214)), (0, .ref zsi), (1, .ref z2), (2, .int y209), (3, .int y210), (4, .int ((y210 / 4) - (y210 / 4) / sS.1 * sS.1)), (5, .int ((y210 / 4) / sS.1)), (6, .int (((y210 / 4) - (y210 / 4) / sS.1 * sS.1) + v213))]) hx hb dX6_lawns_232 hl (by decide) rfl (fun ls hl => ?_)
                      refine lv_aload_n hx hb dX6_lawns_234 rfl (lv_at hl 3 rfl) ?_
                      refine lv_iload hx hb dX6_lawns_235 (lv_at hl 7 rfl) ?_
                      have hg219 : ¬ (((y210 / 4) / sS.1) < 0 ∨ sS.2.1.toNatClampNeg ≤ ((y210 / 4) / sS.1).toNatClampNeg) := fun hq => by rw [if_pos hq] at hf; exact nomatch hf
                      rw [if_neg hg219] at hf
                      refine sg_aald hx hb hK hP 2 2 rfl rfl (i := ((y210 / 4) / sS.1)) hg219 dX6_lawns_237 ?_
                      refine lv_iload hx hb dX6_lawns_238 (lv_at hl 6 rfl) ?_
                      have hg220 : ¬ (((y210 / 4) - (y210 / 4) / sS.1 * sS.1) < 0 ∨ sS.1.toNatClampNeg ≤ ((y210 / 4) - (y210 / 4) / sS.1 * sS.1).toNatClampNeg) := fun hq => by rw [if_pos hq] at hf; exact nomatch hf
                      rw [if_neg hg220] at hf
                      refine sg_iald hx hb hK hP 2 0 rfl rfl (inRow hg219) (i := ((y210 / 4) - (y210 / 4) / sS.1 * sS.1)) hg220 dX6_lawns_240 ?_
                      refine lv_if_lt (tgt := 275) hx hb dX6_lawns_241 (by decide) (fun hc => ?_) (fun hc => ?_)
                      · rw [if_pos hc] at hf
                        obtain rfl := Option.some.inj hf
                        exact K239 _ _ _ hP hD hS (lv_sub hl [2, 3, 4, 5] rfl)
                      · rw [if_neg hc] at hf
                        refine lv_iload hx hb dX6_lawns_244 (lv_at hl 0 rfl) ?_
                        refine lv_if_lt (tgt := 275) hx hb dX6_lawns_246 (by decide) (fun hc => ?_) (fun hc => ?_)
                        · rw [if_pos hc] at hf
                          obtain rfl := Option.some.inj hf
                          exact K239 _ _ _ hP hD hS (lv_sub hl [2, 3, 4, 5] rfl)
                        · rw [if_neg hc] at hf
                          refine lv_iload hx hb dX6_lawns_249 (lv_at hl 0 rfl) ?_
                          refine lv_aload_n hx hb dX6_lawns_251 rfl (lv_at hl 3 rfl) ?_
                          refine lv_iload hx hb dX6_lawns_252 (lv_at hl 7 rfl) ?_
                          refine sg_aald hx hb hK hP 2 2 rfl rfl (i := ((y210 / 4) / sS.1)) hg219 dX6_lawns_254 ?_
                          refine lv_iload hx hb dX6_lawns_255 (lv_at hl 6 rfl) ?_
                          refine sg_iald hx hb hK hP 2 0 rfl rfl (inRow hg219) (i := ((y210 / 4) - (y210 / 4) / sS.1 * sS.1)) hg220 dX6_lawns_257 ?_
                          refine lv_icmp_lt (tgt := 264) hx hb dX6_lawns_258 (by decide) (fun hc => ?_) (fun hc => ?_)
                          · rw [if_pos hc] at hf
                            refine lv_aload_n hx hb dX6_lawns_264 rfl (lv_at hl 3 rfl) ?_
                            refine lv_iload hx hb dX6_lawns_265 (lv_at hl 7 rfl) ?_
                            refine sg_aald hx hb hK hP 2 2 rfl rfl (i := ((y210 / 4) / sS.1)) hg219 dX6_lawns_267 ?_
                            refine lv_iload hx hb dX6_lawns_268 (lv_at hl 6 rfl) ?_
                            refine lv_iload hx hb dX6_lawns_270 (lv_at hl 0 rfl) ?_
                            refine sg_iast hx hb hK hP hD hS 2 0 rfl rfl (inRow hg219) (i := ((y210 / 4) - (y210 / 4) / sS.1 * sS.1)) hg220 dX6_lawns_272 (fun H locs hP hD hS => ?_)
                            have hP : va_P (dC, dI) vwCl (wJ [[(zsi, .inr (5, [.int sS.1, .int sS.2.1, .int (bI sS.2.2.1), .int sS.2.2.2.1, .int sS.2.2.2.2.1, .int sS.2.2.2.2.2.1, .int sS.2.2.2.2.2.2.1, .int sS.2.2.2.2.2.2.2, .ref zmo]))], (mt cI cO zmo sS.2.1.toNatClampNeg sS.1.toNatClampNeg rmo mM), (mt cI cO z2 sS.2.1.toNatClampNeg sS.1.toNatClampNeg r3 (upM y211 ((y210 / 4) / sS.1).toNatClampNeg (upd (y211 ((y210 / 4) / sS.1).toNatClampNeg) ((y210 / 4) - (y210 / 4) / sS.1 * sS.1).toNatClampNeg x218)))]) H := hP
                            have hD : va_D (A_X6_lawns cI cJ cO cB zsi zmo rmo sS mM s.heap.size) (wJ [[(zsi, .inr (5, [.int sS.1, .int sS.2.1, .int (bI sS.2.2.1), .int sS.2.2.2.1, .int sS.2.2.2.2.1, .int sS.2.2.2.2.2.1, .int sS.2.2.2.2.2.2.1, .int sS.2.2.2.2.2.2.2, .ref zmo]))], (mt cI cO zmo sS.2.1.toNatClampNeg sS.1.toNatClampNeg rmo mM), (mt cI cO z2 sS.2.1.toNatClampNeg sS.1.toNatClampNeg r3 (upM y211 ((y210 / 4) / sS.1).toNatClampNeg (upd (y211 ((y210 / 4) / sS.1).toNatClampNeg) ((y210 / 4) - (y210 / 4) / sS.1 * sS.1).toNatClampNeg x218)))]) := hD
                            refine lv_iconst (v := 1) hx hb dX6_lawns_273 (by decide) ?_
                            refine lv_istore_n (lv' := [(2, .int 1), (8, .int x218), (7, .int (((y210 / 4) / sS.1) + v214)), (0, .ref zsi), (1, .ref z2), (3, .int y210), (4, .int ((y210 / 4) - (y210 / 4) / sS.1 * sS.1)), (5, .int ((y210 / 4) / sS.1)), (6, .int (((y210 / 4) - (y210 / 4) / sS.1 * sS.1) + v213))]) hx hb dX6_lawns_274 rfl hl (by decide) rfl (fun ls hl => ?_)
                            obtain rfl := Option.some.inj hf
                            exact K239 _ _ _ hP hD hS (lv_sub hl [3, 4, 0, 5] rfl)
                          · rw [if_neg hc] at hf
                            refine lv_goto (tgt := 275) hx hb dX6_lawns_261 (by decide) ?_
                            obtain rfl := Option.some.inj hf
                            exact K239 _ _ _ hP hD hS (lv_sub hl [2, 3, 4, 5] rfl)
                    · rw [if_pos hc] at hf
                      refine lv_iload hx hb dX6_lawns_174 (lv_at hl 7 rfl) ?_
                      refine lv_if_lt (tgt := 275) hx hb dX6_lawns_176 (by decide) (fun hc => ?_) (fun hc => ?_)
                      · rw [if_pos hc] at hf
                        obtain rfl := Option.some.inj hf
                        exact K239 _ _ _ hP hD hS (lv_sub hl [1, 2, 3, 4] rfl)
                      · rw [if_neg hc] at hf
                        refine lv_iload hx hb dX6_lawns_179 (lv_at hl 0 rfl) ?_
                        refine lv_if_lt (tgt := 275) hx hb dX6_lawns_181 (by decide) (fun hc => ?_) (fun hc => ?_)
                        · rw [if_pos hc] at hf
                          obtain rfl := Option.some.inj hf
                          exact K239 _ _ _ hP hD hS (lv_sub hl [1, 2, 3, 4] rfl)
                        · rw [if_neg hc] at hf
                          refine lv_iload hx hb dX6_lawns_184 (lv_at hl 7 rfl) ?_
                          refine lv_aload_n hx hb dX6_lawns_186 rfl (lv_at hl 1 rfl) ?_
                          refine va_get (D := (dC, dI)) (ci := 5) (v := .int sS.1) (C := RX6) (T := TX6) (N := 9) hx hb hts hinX6 hown hK hP 0 rfl rfl 0 (by decide) hw0 (fun _ h9 => h9) rfl dX6_lawns_187 ?_
                          refine lv_icmp_eq (tgt := 275) hx hb dX6_lawns_190 (by decide) (fun hc => ?_) (fun hc => ?_)
                          · rw [if_pos hc] at hf
                            obtain rfl := Option.some.inj hf
                            exact K239 _ _ _ hP hD hS (lv_sub hl [1, 2, 3, 4] rfl)
                          · rw [if_neg hc] at hf
                            refine lv_iload hx hb dX6_lawns_193 (lv_at hl 0 rfl) ?_
                            refine lv_aload_n hx hb dX6_lawns_195 rfl (lv_at hl 1 rfl) ?_
                            refine va_get (D := (dC, dI)) (ci := 5) (v := .int sS.2.1) (C := RX6) (T := TX6) (N := 9) hx hb hts hinX6 hown hK hP 0 rfl rfl 1 (by decide) hw1 (fun _ h9 => h9) rfl dX6_lawns_196 ?_
                            refine lv_icmp_ne (tgt := 205) hx hb dX6_lawns_199 (by decide) (fun hc => ?_) (fun hc => ?_)
                            · rw [if_neg hc] at hf
                              refine lv_aload_n hx hb dX6_lawns_205 rfl (lv_at hl 2 rfl) ?_
                              refine lv_iload hx hb dX6_lawns_206 (lv_at hl 0 rfl) ?_
                              refine lv_aload_n hx hb dX6_lawns_208 rfl (lv_at hl 1 rfl) ?_
                              refine va_get (D := (dC, dI)) (ci := 5) (v := .int sS.2.1) (C := RX6) (T := TX6) (N := 9) hx hb hts hinX6 hown hK hP 0 rfl rfl 1 (by decide) hw1 (fun _ h9 => h9) rfl dX6_lawns_209 ?_
                              refine lv_iadd hx hb dX6_lawns_212 ?_
                              refine lv_aload_n hx hb dX6_lawns_213 rfl (lv_at hl 1 rfl) ?_
                              refine va_get (D := (dC, dI)) (ci := 5) (v := .int sS.2.1) (C := RX6) (T := TX6) (N := 9) hx hb hts hinX6 hown hK hP 0 rfl rfl 1 (by decide) hw1 (fun _ h9 => h9) rfl dX6_lawns_214 ?_
                              have hg221 : ¬ (sS.2.1 = 0) := fun hq => by rw [if_pos hq] at hf; exact nomatch hf
                              rw [if_neg hg221] at hf
                              refine lv_irem hx hb dX6_lawns_217 hg221 ?_
                              have hg222 : ¬ ((((((y210 / 4) / sS.1) + v214) + sS.2.1) - ((((y210 / 4) / sS.1) + v214) + sS.2.1) / sS.2.1 * sS.2.1) < 0 ∨ sS.2.1.toNatClampNeg ≤ (((((y210 / 4) / sS.1) + v214) + sS.2.1) - ((((y210 / 4) / sS.1) + v214) + sS.2.1) / sS.2.1 * sS.2.1).toNatClampNeg) := fun hq => by rw [if_pos hq] at hf; exact nomatch hf
                              rw [if_neg hg222] at hf
                              refine sg_aald hx hb hK hP 2 2 rfl rfl (i := (((((y210 / 4) / sS.1) + v214) + sS.2.1) - ((((y210 / 4) / sS.1) + v214) + sS.2.1) / sS.2.1 * sS.2.1)) hg222 dX6_lawns_218 ?_
                              refine lv_iload hx hb dX6_lawns_219 (lv_at hl 7 rfl) ?_
                              refine lv_aload_n hx hb dX6_lawns_221 rfl (lv_at hl 1 rfl) ?_
                              refine va_get (D := (dC, dI)) (ci := 5) (v := .int sS.1) (C := RX6) (T := TX6) (N := 9) hx hb hts hinX6 hown hK hP 0 rfl rfl 0 (by decide) hw0 (fun _ h9 => h9) rfl dX6_lawns_222 ?_
                              refine lv_iadd hx hb dX6_lawns_225 ?_
                              refine lv_aload_n hx hb dX6_lawns_226 rfl (lv_at hl 1 rfl) ?_
                              refine va_get (D := (dC, dI)) (ci := 5) (v := .int sS.1) (C := RX6) (T := TX6) (N := 9) hx hb hts hinX6 hown hK hP 0 rfl rfl 0 (by decide) hw0 (fun _ h9 => h9) rfl dX6_lawns_227 ?_
                              refine lv_irem hx hb dX6_lawns_230 hg212 ?_
                              have hg223 : ¬ ((((((y210 / 4) - (y210 / 4) / sS.1 * sS.1) + v213) + sS.1) - ((((y210 / 4) - (y210 / 4) / sS.1 * sS.1) + v213) + sS.1) / sS.1 * sS.1) < 0 ∨ sS.1.toNatClampNeg ≤ (((((y210 / 4) - (y210 / 4) / sS.1 * sS.1) + v213) + sS.1) - ((((y210 / 4) - (y210 / 4) / sS.1 * sS.1) + v213) + sS.1) / sS.1 * sS.1).toNatClampNeg) := fun hq => by rw [if_pos hq] at hf; exact nomatch hf
                              rw [if_neg hg223] at hf
                              refine sg_iald hx hb hK hP 2 0 rfl rfl (inRow hg222) (i := (((((y210 / 4) - (y210 / 4) / sS.1 * sS.1) + v213) + sS.1) - ((((y210 / 4) - (y210 / 4) / sS.1 * sS.1) + v213) + sS.1) / sS.1 * sS.1)) hg223 dX6_lawns_231 ?_
                              obtain ⟨x224, hx224, hf⟩ := vbind hf
                              refine topi_e hx224 ?_
                              refine lv_istore (lv' := [(8, .int x224), (7, .int (((y210 / 4) / sS.1) + v214)), (0, .ref zsi), (1, .ref z2), (2, .int y209), (3, .int y210), (4, .int ((y210 / 4) - (y210 / 4) / sS.1 * sS.1)), (5, .int ((y210 / 4) / sS.1)), (6, .int (((y210 / 4) - (y210 / 4) / sS.1 * sS.1) + v213))]) hx hb dX6_lawns_232 hl (by decide) rfl (fun ls hl => ?_)
                              refine lv_aload_n hx hb dX6_lawns_234 rfl (lv_at hl 3 rfl) ?_
                              refine lv_iload hx hb dX6_lawns_235 (lv_at hl 7 rfl) ?_
                              have hg225 : ¬ (((y210 / 4) / sS.1) < 0 ∨ sS.2.1.toNatClampNeg ≤ ((y210 / 4) / sS.1).toNatClampNeg) := fun hq => by rw [if_pos hq] at hf; exact nomatch hf
                              rw [if_neg hg225] at hf
                              refine sg_aald hx hb hK hP 2 2 rfl rfl (i := ((y210 / 4) / sS.1)) hg225 dX6_lawns_237 ?_
                              refine lv_iload hx hb dX6_lawns_238 (lv_at hl 6 rfl) ?_
                              have hg226 : ¬ (((y210 / 4) - (y210 / 4) / sS.1 * sS.1) < 0 ∨ sS.1.toNatClampNeg ≤ ((y210 / 4) - (y210 / 4) / sS.1 * sS.1).toNatClampNeg) := fun hq => by rw [if_pos hq] at hf; exact nomatch hf
                              rw [if_neg hg226] at hf
                              refine sg_iald hx hb hK hP 2 0 rfl rfl (inRow hg225) (i := ((y210 / 4) - (y210 / 4) / sS.1 * sS.1)) hg226 dX6_lawns_240 ?_
                              refine lv_if_lt (tgt := 275) hx hb dX6_lawns_241 (by decide) (fun hc => ?_) (fun hc => ?_)
                              · rw [if_pos hc] at hf
                                obtain rfl := Option.some.inj hf
                                exact K239 _ _ _ hP hD hS (lv_sub hl [2, 3, 4, 5] rfl)
                              · rw [if_neg hc] at hf
                                refine lv_iload hx hb dX6_lawns_244 (lv_at hl 0 rfl) ?_
                                refine lv_if_lt (tgt := 275) hx hb dX6_lawns_246 (by decide) (fun hc => ?_) (fun hc => ?_)
                                · rw [if_pos hc] at hf
                                  obtain rfl := Option.some.inj hf
                                  exact K239 _ _ _ hP hD hS (lv_sub hl [2, 3, 4, 5] rfl)
                                · rw [if_neg hc] at hf
                                  refine lv_iload hx hb dX6_lawns_249 (lv_at hl 0 rfl) ?_
                                  refine lv_aload_n hx hb dX6_lawns_251 rfl (lv_at hl 3 rfl) ?_
                                  refine lv_iload hx hb dX6_lawns_252 (lv_at hl 7 rfl) ?_
                                  refine sg_aald hx hb hK hP 2 2 rfl rfl (i := ((y210 / 4) / sS.1)) hg225 dX6_lawns_254 ?_
                                  refine lv_iload hx hb dX6_lawns_255 (lv_at hl 6 rfl) ?_
                                  refine sg_iald hx hb hK hP 2 0 rfl rfl (inRow hg225) (i := ((y210 / 4) - (y210 / 4) / sS.1 * sS.1)) hg226 dX6_lawns_257 ?_
                                  refine lv_icmp_lt (tgt := 264) hx hb dX6_lawns_258 (by decide) (fun hc => ?_) (fun hc => ?_)
                                  · rw [if_pos hc] at hf
                                    refine lv_aload_n hx hb dX6_lawns_264 rfl (lv_at hl 3 rfl) ?_
                                    refine lv_iload hx hb dX6_lawns_265 (lv_at hl 7 rfl) ?_
                                    refine sg_aald hx hb hK hP 2 2 rfl rfl (i := ((y210 / 4) / sS.1)) hg225 dX6_lawns_267 ?_
                                    refine lv_iload hx hb dX6_lawns_268 (lv_at hl 6 rfl) ?_
                                    refine lv_iload hx hb dX6_lawns_270 (lv_at hl 0 rfl) ?_
                                    refine sg_iast hx hb hK hP hD hS 2 0 rfl rfl (inRow hg225) (i := ((y210 / 4) - (y210 / 4) / sS.1 * sS.1)) hg226 dX6_lawns_272 (fun H locs hP hD hS => ?_)
                                    have hP : va_P (dC, dI) vwCl (wJ [[(zsi, .inr (5, [.int sS.1, .int sS.2.1, .int (bI sS.2.2.1), .int sS.2.2.2.1, .int sS.2.2.2.2.1, .int sS.2.2.2.2.2.1, .int sS.2.2.2.2.2.2.1, .int sS.2.2.2.2.2.2.2, .ref zmo]))], (mt cI cO zmo sS.2.1.toNatClampNeg sS.1.toNatClampNeg rmo mM), (mt cI cO z2 sS.2.1.toNatClampNeg sS.1.toNatClampNeg r3 (upM y211 ((y210 / 4) / sS.1).toNatClampNeg (upd (y211 ((y210 / 4) / sS.1).toNatClampNeg) ((y210 / 4) - (y210 / 4) / sS.1 * sS.1).toNatClampNeg x224)))]) H := hP
                                    have hD : va_D (A_X6_lawns cI cJ cO cB zsi zmo rmo sS mM s.heap.size) (wJ [[(zsi, .inr (5, [.int sS.1, .int sS.2.1, .int (bI sS.2.2.1), .int sS.2.2.2.1, .int sS.2.2.2.2.1, .int sS.2.2.2.2.2.1, .int sS.2.2.2.2.2.2.1, .int sS.2.2.2.2.2.2.2, .ref zmo]))], (mt cI cO zmo sS.2.1.toNatClampNeg sS.1.toNatClampNeg rmo mM), (mt cI cO z2 sS.2.1.toNatClampNeg sS.1.toNatClampNeg r3 (upM y211 ((y210 / 4) / sS.1).toNatClampNeg (upd (y211 ((y210 / 4) / sS.1).toNatClampNeg) ((y210 / 4) - (y210 / 4) / sS.1 * sS.1).toNatClampNeg x224)))]) := hD
                                    refine lv_iconst (v := 1) hx hb dX6_lawns_273 (by decide) ?_
                                    refine lv_istore_n (lv' := [(2, .int 1), (8, .int x224), (7, .int (((y210 / 4) / sS.1) + v214)), (0, .ref zsi), (1, .ref z2), (3, .int y210), (4, .int ((y210 / 4) - (y210 / 4) / sS.1 * sS.1)), (5, .int ((y210 / 4) / sS.1)), (6, .int (((y210 / 4) - (y210 / 4) / sS.1 * sS.1) + v213))]) hx hb dX6_lawns_274 rfl hl (by decide) rfl (fun ls hl => ?_)
                                    obtain rfl := Option.some.inj hf
                                    exact K239 _ _ _ hP hD hS (lv_sub hl [3, 4, 0, 5] rfl)
                                  · rw [if_neg hc] at hf
                                    refine lv_goto (tgt := 275) hx hb dX6_lawns_261 (by decide) ?_
                                    obtain rfl := Option.some.inj hf
                                    exact K239 _ _ _ hP hD hS (lv_sub hl [2, 3, 4, 5] rfl)
                            · rw [if_pos hc] at hf
                              refine lv_goto (tgt := 275) hx hb dX6_lawns_202 (by decide) ?_
                              obtain rfl := Option.some.inj hf
                              exact K239 _ _ _ hP hD hS (lv_sub hl [1, 2, 3, 4] rfl)
                  clear hf; have hf := hv; clear hv
                  refine lv_icmp_ne (tgt := 152) hx hb dX6_lawns_145 (by decide) (fun hc => ?_) (fun hc => ?_)
                  · rw [if_neg hc] at hf
                    refine lv_iload_n hx hb dX6_lawns_152 rfl (lv_at hl 4 rfl) ?_
                    refine lv_iconst (v := 4) hx hb dX6_lawns_153 (by decide) ?_
                    refine lv_irem hx hb dX6_lawns_154 (by decide) ?_
                    refine lv_iconst (v := 3) hx hb dX6_lawns_155 (by decide) ?_
                    refine lv_icmp_ne (tgt := 163) hx hb dX6_lawns_156 (by decide) (fun hc => ?_) (fun hc => ?_)
                    · rw [if_neg hc] at hf
                      refine lv_iconst (v := 0) hx hb dX6_lawns_163 (by decide) ?_
                      obtain rfl := hf
                      exact K238 _ _ _ hP hD hS (lv_sub hl [1, 2, 3, 4, 5, 6, 0] rfl)
                    · rw [if_pos hc] at hf
                      refine lv_iconst (v := (-1)) hx hb dX6_lawns_159 (by decide) ?_
                      refine lv_goto (tgt := 164) hx hb dX6_lawns_160 (by decide) ?_
                      obtain rfl := hf
                      exact K238 _ _ _ hP hD hS (lv_sub hl [1, 2, 3, 4, 5, 6, 0] rfl)
                  · rw [if_pos hc] at hf
                    refine lv_iconst (v := 1) hx hb dX6_lawns_148 (by decide) ?_
                    refine lv_goto (tgt := 164) hx hb dX6_lawns_149 (by decide) ?_
                    obtain rfl := hf
                    exact K238 _ _ _ hP hD hS (lv_sub hl [1, 2, 3, 4, 5, 6, 0] rfl)
                clear hf; have hf := hv; clear hv
                refine lv_if_ne (tgt := 124) hx hb dX6_lawns_117 (by decide) (fun hc => ?_) (fun hc => ?_)
                · rw [if_neg hc] at hf
                  refine lv_iload_n hx hb dX6_lawns_124 rfl (lv_at hl 5 rfl) ?_
                  refine lv_iconst (v := 4) hx hb dX6_lawns_125 (by decide) ?_
                  refine lv_irem hx hb dX6_lawns_126 (by decide) ?_
                  refine lv_iconst (v := 1) hx hb dX6_lawns_127 (by decide) ?_
                  refine lv_icmp_ne (tgt := 135) hx hb dX6_lawns_128 (by decide) (fun hc => ?_) (fun hc => ?_)
                  · rw [if_neg hc] at hf
                    refine lv_iconst (v := 0) hx hb dX6_lawns_135 (by decide) ?_
                    obtain rfl := hf
                    exact K237 _ _ _ hP hD hS (lv_sub hl [2, 3, 4, 5, 1, 0] rfl)
                  · rw [if_pos hc] at hf
                    refine lv_iconst (v := (-1)) hx hb dX6_lawns_131 (by decide) ?_
                    refine lv_goto (tgt := 136) hx hb dX6_lawns_132 (by decide) ?_
                    obtain rfl := hf
                    exact K237 _ _ _ hP hD hS (lv_sub hl [2, 3, 4, 5, 1, 0] rfl)
                · rw [if_pos hc] at hf
                  refine lv_iconst (v := 1) hx hb dX6_lawns_120 (by decide) ?_
                  refine lv_goto (tgt := 136) hx hb dX6_lawns_121 (by decide) ?_
                  obtain rfl := hf
                  exact K237 _ _ _ hP hD hS (lv_sub hl [2, 3, 4, 5, 1, 0] rfl)
          exact lp235 2200 _ _ _ _ _ _ hv hP hD hS (lv_sub hl [2, 3, 1, 0] rfl)
    exact lp232 2200 _ _ _ _ _ hv hP hD hS (lv_sub hl [1, 2, 0] rfl)
  have lp240 : ∀ (nf15 : Nat) (y40 : Int32) (y41 : Nat → Nat → Int32) (H : Heap) (locs : List Loc) (ls : Array Slot), lp_X6_lawns_15 sS mM nf15 y40 y41 = some v59 → va_P (dC, dI) vwCl (wJ [[(zsi, .inr (5, [.int sS.1, .int sS.2.1, .int (bI sS.2.2.1), .int sS.2.2.2.1, .int sS.2.2.2.2.1, .int sS.2.2.2.2.2.1, .int sS.2.2.2.2.2.2.1, .int sS.2.2.2.2.2.2.2, .ref zmo]))], (mt cI cO zmo sS.2.1.toNatClampNeg sS.1.toNatClampNeg rmo mM), (mt cI cO z2 sS.2.1.toNatClampNeg sS.1.toNatClampNeg r3 y41)]) H → va_D (A_X6_lawns cI cJ cO cB zsi zmo rmo sS mM s.heap.size) (wJ [[(zsi, .inr (5, [.int sS.1, .int sS.2.1, .int (bI sS.2.2.1), .int sS.2.2.2.1, .int sS.2.2.2.2.1, .int sS.2.2.2.2.2.1, .int sS.2.2.2.2.2.2.1, .int sS.2.2.2.2.2.2.2, .ref zmo]))], (mt cI cO zmo sS.2.1.toNatClampNeg sS.1.toNatClampNeg rmo mM), (mt cI cO z2 sS.2.1.toNatClampNeg sS.1.toNatClampNeg r3 y41)]) → va_S (A_X6_lawns cI cJ cO cB zsi zmo rmo sS mM s.heap.size) s.heap H locs → lv_has ls 9 [(0, .ref zsi), (1, .ref z2), (2, .int y40)] → W p l e rm_X6_lawns s m args below meth c H locs 9 72 (MQ below (Q_X6_lawns dC dI cI cJ cO cB zsi zmo rmo sS mM s.heap.size R) args s 9 72 (A_X6_lawns cI cJ cO cB zsi zmo rmo sS mM s.heap.size)) (F0 m 15 ls []) := by
    intro nf15
    induction nf15 with
    | zero => intro y40 y41 H locs ls h9; exact nomatch h9
    | succ nf15 ih241 =>
      intro y40 y41 H locs ls hf hP hD hS hl
      rw [lp_X6_lawns_15.eq_2] at hf
      refine lv_iload_n hx hb dX6_lawns_15 rfl (lv_at hl 2 rfl) ?_
      refine lv_aload_n hx hb dX6_lawns_16 rfl (lv_at hl 0 rfl) ?_
      refine va_get (D := (dC, dI)) (ci := 5) (v := .int sS.2.1) (C := RX6) (T := TX6) (N := 9) hx hb hts hinX6 hown hK hP 0 rfl rfl 1 (by decide) hw1 (fun _ h9 => h9) rfl dX6_lawns_17 ?_
      refine lv_icmp_ge (tgt := 67) hx hb dX6_lawns_20 (by decide) (fun hc => ?_) (fun hc => ?_)
      · rw [if_pos hc] at hf
        obtain rfl := Option.some.inj hf
        exact K230 _ _ _ hP hD hS (lv_sub hl [0, 1] rfl)
      · rw [if_neg hc] at hf
        refine lv_iconst (v := 0) hx hb dX6_lawns_23 (by decide) ?_
        refine lv_istore_n (lv' := [(3, .int 0), (0, .ref zsi), (1, .ref z2), (2, .int y40)]) hx hb dX6_lawns_24 rfl hl (by decide) rfl (fun ls hl => ?_)
        obtain ⟨v58, hv, hf⟩ := obind hf
        have K242 : ∀ (H : Heap) (locs : List Loc) (ls : Array Slot), va_P (dC, dI) vwCl (wJ [[(zsi, .inr (5, [.int sS.1, .int sS.2.1, .int (bI sS.2.2.1), .int sS.2.2.2.1, .int sS.2.2.2.2.1, .int sS.2.2.2.2.2.1, .int sS.2.2.2.2.2.2.1, .int sS.2.2.2.2.2.2.2, .ref zmo]))], (mt cI cO zmo sS.2.1.toNatClampNeg sS.1.toNatClampNeg rmo mM), (mt cI cO z2 sS.2.1.toNatClampNeg sS.1.toNatClampNeg r3 v58)]) H → va_D (A_X6_lawns cI cJ cO cB zsi zmo rmo sS mM s.heap.size) (wJ [[(zsi, .inr (5, [.int sS.1, .int sS.2.1, .int (bI sS.2.2.1), .int sS.2.2.2.1, .int sS.2.2.2.2.1, .int sS.2.2.2.2.2.1, .int sS.2.2.2.2.2.2.1, .int sS.2.2.2.2.2.2.2, .ref zmo]))], (mt cI cO zmo sS.2.1.toNatClampNeg sS.1.toNatClampNeg rmo mM), (mt cI cO z2 sS.2.1.toNatClampNeg sS.1.toNatClampNeg r3 v58)]) → va_S (A_X6_lawns cI cJ cO cB zsi zmo rmo sS mM s.heap.size) s.heap H locs → lv_has ls 9 [(0, .ref zsi), (1, .ref z2), (2, .int y40)] → W p l e rm_X6_lawns s m args below meth c H locs 9 72 (MQ below (Q_X6_lawns dC dI cI cJ cO cB zsi zmo rmo sS mM s.heap.size R) args s 9 72 (A_X6_lawns cI cJ cO cB zsi zmo rmo sS mM s.heap.size)) (F0 m 61 ls []) := by
          intro H locs ls hP hD hS hl
          refine lv_iinc (v := (y40 + 1)) (lv' := [(2, .int (y40 + 1)), (0, .ref zsi), (1, .ref z2)]) hx hb dX6_lawns_61 hl (k := 2) rfl rfl (by decide) rfl (fun ls hl => ?_)
          refine lv_goto (tgt := 15) hx hb dX6_lawns_64 (by decide) ?_
          exact ih241 _ _ _ _ _ hf hP hD hS (lv_sub hl [1, 2, 0] rfl)
        have lp243 : ∀ (nf25 : Nat) (y52 : Int32) (y53 : Nat → Nat → Int32) (H : Heap) (locs : List Loc) (ls : Array Slot), lp_X6_lawns_25 sS mM y40 nf25 y52 y53 = some v58 → va_P (dC, dI) vwCl (wJ [[(zsi, .inr (5, [.int sS.1, .int sS.2.1, .int (bI sS.2.2.1), .int sS.2.2.2.1, .int sS.2.2.2.2.1, .int sS.2.2.2.2.2.1, .int sS.2.2.2.2.2.2.1, .int sS.2.2.2.2.2.2.2, .ref zmo]))], (mt cI cO zmo sS.2.1.toNatClampNeg sS.1.toNatClampNeg rmo mM), (mt cI cO z2 sS.2.1.toNatClampNeg sS.1.toNatClampNeg r3 y53)]) H → va_D (A_X6_lawns cI cJ cO cB zsi zmo rmo sS mM s.heap.size) (wJ [[(zsi, .inr (5, [.int sS.1, .int sS.2.1, .int (bI sS.2.2.1), .int sS.2.2.2.1, .int sS.2.2.2.2.1, .int sS.2.2.2.2.2.1, .int sS.2.2.2.2.2.2.1, .int sS.2.2.2.2.2.2.2, .ref zmo]))], (mt cI cO zmo sS.2.1.toNatClampNeg sS.1.toNatClampNeg rmo mM), (mt cI cO z2 sS.2.1.toNatClampNeg sS.1.toNatClampNeg r3 y53)]) → va_S (A_X6_lawns cI cJ cO cB zsi zmo rmo sS mM s.heap.size) s.heap H locs → lv_has ls 9 [(0, .ref zsi), (1, .ref z2), (2, .int y40), (3, .int y52)] → W p l e rm_X6_lawns s m args below meth c H locs 9 72 (MQ below (Q_X6_lawns dC dI cI cJ cO cB zsi zmo rmo sS mM s.heap.size R) args s 9 72 (A_X6_lawns cI cJ cO cB zsi zmo rmo sS mM s.heap.size)) (F0 m 25 ls []) := by
          intro nf25
          induction nf25 with
          | zero => intro y52 y53 H locs ls h9; exact nomatch h9
          | succ nf25 ih244 =>
            intro y52 y53 H locs ls hf hP hD hS hl
            rw [lp_X6_lawns_25.eq_2] at hf
            refine lv_iload_n hx hb dX6_lawns_25 rfl (lv_at hl 3 rfl) ?_
            refine lv_aload_n hx hb dX6_lawns_26 rfl (lv_at hl 0 rfl) ?_
            refine va_get (D := (dC, dI)) (ci := 5) (v := .int sS.1) (C := RX6) (T := TX6) (N := 9) hx hb hts hinX6 hown hK hP 0 rfl rfl 0 (by decide) hw0 (fun _ h9 => h9) rfl dX6_lawns_27 ?_
            refine lv_icmp_ge (tgt := 61) hx hb dX6_lawns_30 (by decide) (fun hc => ?_) (fun hc => ?_)
            · rw [if_pos hc] at hf
              obtain rfl := Option.some.inj hf
              exact K242 _ _ _ hP hD hS (lv_sub hl [0, 1, 2] rfl)
            · rw [if_neg hc] at hf
              refine lv_aload_n hx hb dX6_lawns_33 rfl (lv_at hl 0 rfl) ?_
              refine lv_iload_n hx hb dX6_lawns_34 rfl (lv_at hl 3 rfl) ?_
              refine lv_iload_n hx hb dX6_lawns_35 rfl (lv_at hl 2 rfl) ?_
              obtain ⟨r54, hr54, hf⟩ := obind hf
              have hPc : va_P (dC, dI) vwCl (wJ [[(zsi, .inr (5, [.int sS.1, .int sS.2.1, .int (bI sS.2.2.1), .int sS.2.2.2.1, .int sS.2.2.2.2.1, .int sS.2.2.2.2.2.1, .int sS.2.2.2.2.2.2.1, .int sS.2.2.2.2.2.2.2, .ref zmo]))], (mt cI cO zmo sS.2.1.toNatClampNeg sS.1.toNatClampNeg rmo mM)]) H := sgP (L' := [[(zsi, .inr (5, [.int sS.1, .int sS.2.1, .int (bI sS.2.2.1), .int sS.2.2.2.1, .int sS.2.2.2.2.1, .int sS.2.2.2.2.2.1, .int sS.2.2.2.2.2.2.1, .int sS.2.2.2.2.2.2.2, .ref zmo]))], (mt cI cO zmo sS.2.1.toNatClampNeg sS.1.toNatClampNeg rmo mM)]) hP [0, 1] rfl
              have hDc : va_D (A_X6_lawns cI cJ cO cB zsi zmo rmo sS mM s.heap.size) (wJ [[(zsi, .inr (5, [.int sS.1, .int sS.2.1, .int (bI sS.2.2.1), .int sS.2.2.2.1, .int sS.2.2.2.2.1, .int sS.2.2.2.2.2.1, .int sS.2.2.2.2.2.2.1, .int sS.2.2.2.2.2.2.2, .ref zmo]))], (mt cI cO zmo sS.2.1.toNatClampNeg sS.1.toNatClampNeg rmo mM)]) := sgD (L' := [[(zsi, .inr (5, [.int sS.1, .int sS.2.1, .int (bI sS.2.2.1), .int sS.2.2.2.1, .int sS.2.2.2.2.1, .int sS.2.2.2.2.2.1, .int sS.2.2.2.2.2.2.1, .int sS.2.2.2.2.2.2.2, .ref zmo]))], (mt cI cO zmo sS.2.1.toNatClampNeg sS.1.toNatClampNeg rmo mM)]) hD [0, 1] (by decide) rfl
              have hFc : ∀ q, va_A (wJ [[(zsi, .inr (5, [.int sS.1, .int sS.2.1, .int (bI sS.2.2.1), .int sS.2.2.2.1, .int sS.2.2.2.2.1, .int sS.2.2.2.2.2.1, .int sS.2.2.2.2.2.2.1, .int sS.2.2.2.2.2.2.2, .ref zmo]))], (mt cI cO zmo sS.2.1.toNatClampNeg sS.1.toNatClampNeg rmo mM)]) H.size q → (A_X6_lawns cI cJ cO cB zsi zmo rmo sS mM s.heap.size) q := sg_free (W := [[(zsi, .inr (5, [.int sS.1, .int sS.2.1, .int (bI sS.2.2.1), .int sS.2.2.2.1, .int sS.2.2.2.2.1, .int sS.2.2.2.2.2.1, .int sS.2.2.2.2.2.2.1, .int sS.2.2.2.2.2.2.2, .ref zmo]))], (mt cI cO zmo sS.2.1.toNatClampNeg sS.1.toNatClampNeg rmo mM)]) hD hS hA [0, 1] rfl
              refine va_calli (va_runV (As := [.int y52, .int y40]) (rest := []) ⟨hx, hb, hml, hown, hts⟩ (c_X6_has l dC dI cI cJ cO cB zsi zmo H.size rmo sS mM y52 y40 _ hr54) (cwV 2 hts gX6_lawns_X6_has rfl rfl rfl (by decide +kernel) ⟨Nat.le_of_ble_eq_true rfl, Nat.le_of_ble_eq_true rfl⟩) ⟨fun a U gg mk q => by obtain ⟨q0, q1, qP, qK, qD⟩ := q; exact ⟨q0, q1, qP, va_K.moved (u := U) (U := U.calling gg mk a) (Vm.Alike.refl U.vm) qK, qD⟩, va_recv hK hPc (ci := 5) (q0 := 0) rfl rfl, fun U hU hW => ⟨rfl, by rw [hU], by rw [hU]; exact hPc, va_K.moved hW.alike hK, hDc.weaken (fun _ _ _ _ => trivial)⟩⟩ rfl rfl hl.1 rfl (lv_room (Nat.le_of_ble_eq_true rfl)) dX6_lawns_36 ⟨(Nat.le_of_ble_eq_true rfl), (Nat.le_of_ble_eq_true rfl)⟩) hS (fun q _ h => hFc q h) hFc (fun r_ u_ t H locs ht hvm hw hB hz1 hk1 hS => ?_)
              obtain rfl := hw.symm
              obtain ⟨hP1, -, hD1⟩ := hB
              rw [ht] at hP1
              have hJ := sg_join2 (W := [[(zsi, .inr (5, [.int sS.1, .int sS.2.1, .int (bI sS.2.2.1), .int sS.2.2.2.1, .int sS.2.2.2.2.1, .int sS.2.2.2.2.2.1, .int sS.2.2.2.2.2.2.1, .int sS.2.2.2.2.2.2.2, .ref zmo]))], (mt cI cO zmo sS.2.1.toNatClampNeg sS.1.toNatClampNeg rmo mM)]) (R := [(mt cI cO z2 sS.2.1.toNatClampNeg sS.1.toNatClampNeg r3 y53)]) (W1 := [[(zsi, .inr (5, [.int sS.1, .int sS.2.1, .int (bI sS.2.2.1), .int sS.2.2.2.1, .int sS.2.2.2.2.1, .int sS.2.2.2.2.2.1, .int sS.2.2.2.2.2.2.1, .int sS.2.2.2.2.2.2.2, .ref zmo]))], (mt cI cO zmo sS.2.1.toNatClampNeg sS.1.toNatClampNeg rmo mM)]) hP hD [0, 1] [2] rfl rfl (by decide) (by decide) hk1 hFc hP1 hD1
              have hP : va_P (dC, dI) vwCl (wJ [(mt cI cO z2 sS.2.1.toNatClampNeg sS.1.toNatClampNeg r3 y53), [(zsi, .inr (5, [.int sS.1, .int sS.2.1, .int (bI sS.2.2.1), .int sS.2.2.2.1, .int sS.2.2.2.2.1, .int sS.2.2.2.2.2.1, .int sS.2.2.2.2.2.2.1, .int sS.2.2.2.2.2.2.2, .ref zmo]))], (mt cI cO zmo sS.2.1.toNatClampNeg sS.1.toNatClampNeg rmo mM)]) H := hJ.1
              have hD : va_D (A_X6_lawns cI cJ cO cB zsi zmo rmo sS mM s.heap.size) (wJ [(mt cI cO z2 sS.2.1.toNatClampNeg sS.1.toNatClampNeg r3 y53), [(zsi, .inr (5, [.int sS.1, .int sS.2.1, .int (bI sS.2.2.1), .int sS.2.2.2.1, .int sS.2.2.2.2.1, .int sS.2.2.2.2.2.1, .int sS.2.2.2.2.2.2.1, .int sS.2.2.2.2.2.2.2, .ref zmo]))], (mt cI cO zmo sS.2.1.toNatClampNeg sS.1.toNatClampNeg rmo mM)]) := hJ.2
              have hP := sgP (L' := [[(zsi, .inr (5, [.int sS.1, .int sS.2.1, .int (bI sS.2.2.1), .int sS.2.2.2.1, .int sS.2.2.2.2.1, .int sS.2.2.2.2.2.1, .int sS.2.2.2.2.2.2.1, .int sS.2.2.2.2.2.2.2, .ref zmo]))], (mt cI cO zmo sS.2.1.toNatClampNeg sS.1.toNatClampNeg rmo mM), (mt cI cO z2 sS.2.1.toNatClampNeg sS.1.toNatClampNeg r3 y53)]) hP [1, 2, 0] rfl
              have hD := sgD (L' := [[(zsi, .inr (5, [.int sS.1, .int sS.2.1, .int (bI sS.2.2.1), .int sS.2.2.2.1, .int sS.2.2.2.2.1, .int sS.2.2.2.2.2.1, .int sS.2.2.2.2.2.2.1, .int sS.2.2.2.2.2.2.2, .ref zmo]))], (mt cI cO zmo sS.2.1.toNatClampNeg sS.1.toNatClampNeg rmo mM), (mt cI cO z2 sS.2.1.toNatClampNeg sS.1.toNatClampNeg r3 y53)]) hD [1, 2, 0] (by decide) rfl
              clear hPc hDc hFc hP1 hD1 hk1 hJ
              obtain ⟨v57, hv, hf⟩ := obind hf
              have K245 : ∀ (H : Heap) (locs : List Loc) (ls : Array Slot), va_P (dC, dI) vwCl (wJ [[(zsi, .inr (5, [.int sS.1, .int sS.2.1, .int (bI sS.2.2.1), .int sS.2.2.2.1, .int sS.2.2.2.2.1, .int sS.2.2.2.2.2.1, .int sS.2.2.2.2.2.2.1, .int sS.2.2.2.2.2.2.2, .ref zmo]))], (mt cI cO zmo sS.2.1.toNatClampNeg sS.1.toNatClampNeg rmo mM), (mt cI cO z2 sS.2.1.toNatClampNeg sS.1.toNatClampNeg r3 v57)]) H → va_D (A_X6_lawns cI cJ cO cB zsi zmo rmo sS mM s.heap.size) (wJ [[(zsi, .inr (5, [.int sS.1, .int sS.2.1, .int (bI sS.2.2.1), .int sS.2.2.2.1, .int sS.2.2.2.2.1, .int sS.2.2.2.2.2.1, .int sS.2.2.2.2.2.2.1, .int sS.2.2.2.2.2.2.2, .ref zmo]))], (mt cI cO zmo sS.2.1.toNatClampNeg sS.1.toNatClampNeg rmo mM), (mt cI cO z2 sS.2.1.toNatClampNeg sS.1.toNatClampNeg r3 v57)]) → va_S (A_X6_lawns cI cJ cO cB zsi zmo rmo sS mM s.heap.size) s.heap H locs → lv_has ls 9 [(0, .ref zsi), (1, .ref z2), (2, .int y40), (3, .int y52)] → W p l e rm_X6_lawns s m args below meth c H locs 9 72 (MQ below (Q_X6_lawns dC dI cI cJ cO cB zsi zmo rmo sS mM s.heap.size R) args s 9 72 (A_X6_lawns cI cJ cO cB zsi zmo rmo sS mM s.heap.size)) (F0 m 55 ls []) := by
                intro H locs ls hP hD hS hl
                refine lv_iinc (v := (y52 + 1)) (lv' := [(3, .int (y52 + 1)), (0, .ref zsi), (1, .ref z2), (2, .int y40)]) hx hb dX6_lawns_55 hl (k := 3) rfl rfl (by decide) rfl (fun ls hl => ?_)
                refine lv_goto (tgt := 25) hx hb dX6_lawns_58 (by decide) ?_
                exact ih244 _ _ _ _ _ hf hP hD hS (lv_sub hl [1, 2, 3, 0] rfl)
              clear hf; have hf := hv; clear hv
              refine lv_if_ne (tgt := 55) hx hb dX6_lawns_39 (by decide) (fun hc => ?_) (fun hc => ?_)
              · rw [if_neg hc] at hf
                obtain rfl := Option.some.inj hf
                exact K245 _ _ _ hP hD hS (lv_sub hl [0, 1, 2, 3] rfl)
              · rw [if_pos hc] at hf
                refine lv_aload_n hx hb dX6_lawns_42 rfl (lv_at hl 1 rfl) ?_
                refine lv_iload_n hx hb dX6_lawns_43 rfl (lv_at hl 2 rfl) ?_
                have hg55 : ¬ (y40 < 0 ∨ sS.2.1.toNatClampNeg ≤ y40.toNatClampNeg) := fun hq => by rw [if_pos hq] at hf; exact nomatch hf
                rw [if_neg hg55] at hf
                refine sg_aald hx hb hK hP 2 2 rfl rfl (i := y40) hg55 dX6_lawns_44 ?_
                refine lv_iload_n hx hb dX6_lawns_45 rfl (lv_at hl 3 rfl) ?_
                refine lv_aload_n hx hb dX6_lawns_46 rfl (lv_at hl 0 rfl) ?_
                refine va_get (D := (dC, dI)) (ci := 5) (v := .int sS.1) (C := RX6) (T := TX6) (N := 9) hx hb hts hinX6 hown hK hP 0 rfl rfl 0 (by decide) hw0 (fun _ h9 => h9) rfl dX6_lawns_47 ?_
                refine lv_iload_n hx hb dX6_lawns_50 rfl (lv_at hl 2 rfl) ?_
                refine lv_imul hx hb dX6_lawns_51 ?_
                refine lv_iload_n hx hb dX6_lawns_52 rfl (lv_at hl 3 rfl) ?_
                refine lv_iadd hx hb dX6_lawns_53 ?_
                have hg56 : ¬ (y52 < 0 ∨ sS.1.toNatClampNeg ≤ y52.toNatClampNeg) := fun hq => by rw [if_pos hq] at hf; exact nomatch hf
                rw [if_neg hg56] at hf
                refine sg_iast hx hb hK hP hD hS 2 0 rfl rfl (inRow hg55) (i := y52) hg56 dX6_lawns_54 (fun H locs hP hD hS => ?_)
                have hP : va_P (dC, dI) vwCl (wJ [[(zsi, .inr (5, [.int sS.1, .int sS.2.1, .int (bI sS.2.2.1), .int sS.2.2.2.1, .int sS.2.2.2.2.1, .int sS.2.2.2.2.2.1, .int sS.2.2.2.2.2.2.1, .int sS.2.2.2.2.2.2.2, .ref zmo]))], (mt cI cO zmo sS.2.1.toNatClampNeg sS.1.toNatClampNeg rmo mM), (mt cI cO z2 sS.2.1.toNatClampNeg sS.1.toNatClampNeg r3 (upM y53 y40.toNatClampNeg (upd (y53 y40.toNatClampNeg) y52.toNatClampNeg ((sS.1 * y40) + y52))))]) H := hP
                have hD : va_D (A_X6_lawns cI cJ cO cB zsi zmo rmo sS mM s.heap.size) (wJ [[(zsi, .inr (5, [.int sS.1, .int sS.2.1, .int (bI sS.2.2.1), .int sS.2.2.2.1, .int sS.2.2.2.2.1, .int sS.2.2.2.2.2.1, .int sS.2.2.2.2.2.2.1, .int sS.2.2.2.2.2.2.2, .ref zmo]))], (mt cI cO zmo sS.2.1.toNatClampNeg sS.1.toNatClampNeg rmo mM), (mt cI cO z2 sS.2.1.toNatClampNeg sS.1.toNatClampNeg r3 (upM y53 y40.toNatClampNeg (upd (y53 y40.toNatClampNeg) y52.toNatClampNeg ((sS.1 * y40) + y52))))]) := hD
                obtain rfl := Option.some.inj hf
                exact K245 _ _ _ hP hD hS (lv_sub hl [0, 1, 2, 3] rfl)
        exact lp243 2200 _ _ _ _ _ hv hP hD hS (lv_sub hl [1, 2, 3, 0] rfl)
  exact lp240 2200 _ _ _ _ _ hv hP hD hS (lv_sub hl [2, 1, 0] rfl)
/-! HedgeGlidersLaw$Sim.counts()[I -/
def lp_X6_counts_47 (sS : SiS) (mM : Nat → Nat → Int32) (r4 : (Nat → Nat → Int32)) (y66 : Int32) : Nat → Int32 → Int32 → (Nat → Int32) → (Nat → Int32) → Option (Int32 × (Nat → Int32) × (Nat → Int32))
  | 0, _, _, _, _ => none
  | nf + 1, y85, y86, y87, y88 => if sS.1 ≤ y86 then (some (y85, y87, y88)) else (if y66 < 0 ∨ sS.2.1.toNatClampNeg ≤ y66.toNatClampNeg then none else if y86 < 0 ∨ sS.1.toNatClampNeg ≤ y86.toNatClampNeg then none else bindv (if y85 < (mM y66.toNatClampNeg y86.toNatClampNeg) then (mM y66.toNatClampNeg y86.toNatClampNeg) else y85) fun x91 => Option.bind (if 0 ≤ (r4 y66.toNatClampNeg y86.toNatClampNeg) then (if (r4 y66.toNatClampNeg y86.toNatClampNeg) < 0 ∨ (sS.1 * sS.2.1).toNatClampNeg ≤ (r4 y66.toNatClampNeg y86.toNatClampNeg).toNatClampNeg then none else Option.bind (f_X6_comes sS mM y86 y66) fun r93 => some ((upd y87 (r4 y66.toNatClampNeg y86.toNatClampNeg).toNatClampNeg ((y87 (r4 y66.toNatClampNeg y86.toNatClampNeg).toNatClampNeg) + 1)), (upd y88 (r4 y66.toNatClampNeg y86.toNatClampNeg).toNatClampNeg (vp_nar .boolean ((y88 (r4 y66.toNatClampNeg y86.toNatClampNeg).toNatClampNeg) ||| r93))))) else (some (y87, y88)) : Option ((Nat → Int32) × (Nat → Int32))) fun v94 => lp_X6_counts_47 sS mM r4 y66 nf x91 (y86 + 1) v94.1 v94.2)
def lp_X6_counts_35 (sS : SiS) (mM : Nat → Nat → Int32) (r4 : (Nat → Nat → Int32)) : Nat → Int32 → Int32 → (Nat → Int32) → (Nat → Int32) → Option (Int32 × (Nat → Int32) × (Nat → Int32))
  | 0, _, _, _, _ => none
  | nf + 1, y65, y66, y67, y68 => if sS.2.1 ≤ y66 then (some (y65, y67, y68)) else (Option.bind (lp_X6_counts_47 sS mM r4 y66 100 y65 0 y67 y68) fun v95 => lp_X6_counts_35 sS mM r4 nf v95.1 (y66 + 1) v95.2.1 v95.2.2)
def lp_X6_counts_143 (sS : SiS) (v96 : Int32 × (Nat → Int32) × (Nat → Int32)) : Nat → Int32 → Int32 → Int32 → Int32 → Option (Int32 × Int32 × Int32)
  | 0, _, _, _, _ => none
  | nf + 1, y109, y110, y111, y112 => if (sS.1 * sS.2.1) ≤ y112 then (some (y109, y110, y111)) else (if y112 < 0 ∨ (sS.1 * sS.2.1).toNatClampNeg ≤ y112.toNatClampNeg then none else bindv (if (v96.2.1 y112.toNatClampNeg) ≤ 0 then (0) else (1) : Int32) fun v114 => bindv (if y110 < (v96.2.1 y112.toNatClampNeg) then (v96.2.1 y112.toNatClampNeg) else y110) fun x115 => bindv (if (v96.2.1 y112.toNatClampNeg) ≤ 0 then (0) else (if (v96.2.2 y112.toNatClampNeg) = 0 then (1) else (0)) : Int32) fun v116 => lp_X6_counts_143 sS v96 nf (y109 + v114) x115 (y111 + v116) (y112 + 1))
def f_X6_counts (sS : SiS) (mM : Nat → Nat → Int32) : Option ((Nat → Int32)) := if (sS.1 * sS.2.1) < 0 ∨ 64 < (sS.1 * sS.2.1).toNatClampNeg then none else Option.bind (f_X6_lawns sS mM) fun r4 => Option.bind (lp_X6_counts_35 sS mM r4 100 (-1) 0 (fun _ => 0) (fun _ => 0)) fun v96 => Option.bind (lp_X6_counts_143 sS v96 100 0 0 0 0) fun v117 => Option.bind (f_X6_hedges sS mM) fun r119 => bindv (if (bI sS.2.2.1) = 0 then (0) else (1) : Int32) fun v120 => some (upd (upd (upd (upd (upd (upd (upd (upd (upd (upd (upd (fun _ => 0) (0 : Int32).toNatClampNeg sS.2.2.2.2.2.1) (1 : Int32).toNatClampNeg sS.1) (2 : Int32).toNatClampNeg sS.2.1) (3 : Int32).toNatClampNeg r119) (4 : Int32).toNatClampNeg sS.2.2.2.2.2.2.1) (5 : Int32).toNatClampNeg sS.2.2.2.2.2.2.2) (6 : Int32).toNatClampNeg v120) (7 : Int32).toNatClampNeg v117.1) (8 : Int32).toNatClampNeg v117.2.1) (9 : Int32).toNatClampNeg v117.2.2) (10 : Int32).toNatClampNeg v96.1)
abbrev rm_X6_counts : Room := ({ frames := 3, cells := 12, slots := 211, locals := 71 } : Room)
abbrev A_X6_counts (cI cJ cO cB : ClassId) (zsi zmo : Nat) (rmo : Nat → Nat) (sS : SiS) (mM : Nat → Nat → Int32) (sz : Nat) : Nat → Prop := va_A (wJ [[(zsi, .inr (5, [.int sS.1, .int sS.2.1, .int (bI sS.2.2.1), .int sS.2.2.2.1, .int sS.2.2.2.2.1, .int sS.2.2.2.2.2.1, .int sS.2.2.2.2.2.2.1, .int sS.2.2.2.2.2.2.2, .ref zmo]))], (mt cI cO zmo sS.2.1.toNatClampNeg sS.1.toNatClampNeg rmo mM)]) sz
abbrev Q_X6_counts (dC : Nat → ClassId) (dI : Nat → Nat → Nat) (cI cJ cO cB : ClassId) (zsi zmo : Nat) (rmo : Nat → Nat) (sS : SiS) (mM : Nat → Nat → Int32) (sz : Nat) (R : (Nat → Int32)) : Array Value → State → Outcome → State → Prop := va_Qr (fun _ : Unit => True) (fun u_ ra t => va_P (dC, dI) vwCl (wJ [[(zsi, .inr (5, [.int sS.1, .int sS.2.1, .int (bI sS.2.2.1), .int sS.2.2.2.1, .int sS.2.2.2.2.1, .int sS.2.2.2.2.2.1, .int sS.2.2.2.2.2.2.1, .int sS.2.2.2.2.2.2.2, .ref zmo]))], [(ra, .inl (cI, (11 : Int32).toNatClampNeg, .inl R))], (mt cI cO zmo sS.2.1.toNatClampNeg sS.1.toNatClampNeg rmo mM)]) t.heap ∧ va_K (dC, dI) vwCl [(cI, .int), (cJ, .long), (cO, .array .int), (cB, .boolean)] t ∧ va_D (A_X6_counts cI cJ cO cB zsi zmo rmo sS mM sz) (wJ [[(zsi, .inr (5, [.int sS.1, .int sS.2.1, .int (bI sS.2.2.1), .int sS.2.2.2.1, .int sS.2.2.2.2.1, .int sS.2.2.2.2.2.1, .int sS.2.2.2.2.2.2.1, .int sS.2.2.2.2.2.2.2, .ref zmo]))], [(ra, .inl (cI, (11 : Int32).toNatClampNeg, .inl R))], (mt cI cO zmo sS.2.1.toNatClampNeg sS.1.toNatClampNeg rmo mM)])) (A_X6_counts cI cJ cO cB zsi zmo rmo sS mM sz)
set_option maxHeartbeats 4000000 in
set_option maxRecDepth 100000 in
theorem c_X6_counts (l : Launch) (dC : Nat → ClassId) (dI : Nat → Nat → Nat) (cI cJ cO cB : ClassId) (zsi zmo : Nat) (sz : Nat) (rmo : Nat → Nat) (sS : SiS) (mM : Nat → Nat → Int32) (R : (Nat → Int32)) (hR : f_X6_counts sS mM = some R) : Met l yX6_counts wsX6_counts rm_X6_counts (va_Pc [.ref zsi] (fun U => U.heap.size = sz ∧ va_P (dC, dI) vwCl (wJ [[(zsi, .inr (5, [.int sS.1, .int sS.2.1, .int (bI sS.2.2.1), .int sS.2.2.2.1, .int sS.2.2.2.2.1, .int sS.2.2.2.2.2.1, .int sS.2.2.2.2.2.2.1, .int sS.2.2.2.2.2.2.2, .ref zmo]))], (mt cI cO zmo sS.2.1.toNatClampNeg sS.1.toNatClampNeg rmo mM)]) U.heap ∧ va_K (dC, dI) vwCl [(cI, .int), (cJ, .long), (cO, .array .int), (cB, .boolean)] U ∧ va_D (fun _ => True) (wJ [[(zsi, .inr (5, [.int sS.1, .int sS.2.1, .int (bI sS.2.2.1), .int sS.2.2.2.1, .int sS.2.2.2.2.1, .int sS.2.2.2.2.2.1, .int sS.2.2.2.2.2.2.1, .int sS.2.2.2.2.2.2.2, .ref zmo]))], (mt cI cO zmo sS.2.1.toNatClampNeg sS.1.toNatClampNeg rmo mM)]) ∧ aoE U)) (Q_X6_counts dC dI cI cJ cO cB zsi zmo rmo sS mM sz R) 12 211 (A_X6_counts cI cJ cO cB zsi zmo rmo sS mM sz) := by
  have hf := hR
  refine Met.ofW (cc := cX6_counts) (maxL := 9) (ret := (some (.array .int))) (by decide) rfl ?_
  intro p e s m args below meth c s₁ B hml hv
  obtain ⟨hargs, hsz, hP, hK, hD0, hao⟩ := hv
  have hx := B.exec
  have hb := B.bytes
  have hr := B.returns
  have hts := atoms_spec (ws := wsX6_counts) B.pre
  have hown : s.vm.findClass RX6 = some m.cls := findClass_of_methodNamed B.named
  have hlocks := B.notSynchronized
  subst hsz
  have hK2 : va_K (dC, dI) vwCl [(cI, .int), (cJ, .long)] s := hK.sub [0, 1] rfl
  have hD : va_D (A_X6_counts cI cJ cO cB zsi zmo rmo sS mM s.heap.size) (wJ [[(zsi, .inr (5, [.int sS.1, .int sS.2.1, .int (bI sS.2.2.1), .int sS.2.2.2.1, .int sS.2.2.2.2.1, .int sS.2.2.2.2.2.1, .int sS.2.2.2.2.2.2.1, .int sS.2.2.2.2.2.2.2, .ref zmo]))], (mt cI cO zmo sS.2.1.toNatClampNeg sS.1.toNatClampNeg rmo mM)]) := hD0.self (sz := s.heap.size)
  have hA : ∀ q : Nat, s.heap.size ≤ q → (A_X6_counts cI cJ cO cB zsi zmo rmo sS mM s.heap.size) q := fun q h => Or.inr h
  have hS : va_S (A_X6_counts cI cJ cO cB zsi zmo rmo sS mM s.heap.size) s.heap s.heap [] := va_S.rf
  have hinX6 : ∀ w ∈ wsX60, w ∈ wsX6_counts := by decide +kernel
  have hw0 := hts (.fieldLink RX6 7 "HedgeGlidersLaw$Sim" "w" "I") (by decide +kernel)
  have hw1 := hts (.fieldLink RX6 13 "HedgeGlidersLaw$Sim" "h" "I") (by decide +kernel)
  have hw2 := hts (.arrayClass .int) (by decide +kernel)
  have hw3 := hts (.arrayClass .boolean) (by decide +kernel)
  have hw4 := hts (.fieldLink RX6 26 "HedgeGlidersLaw$Sim" "ages" "[[I") (by decide +kernel)
  have hw5 := hts (.methodLink RX6 73 Lib.Math.max.name) (by decide +kernel)
  have hw6 := hts (.static Lib.Math.max.name) (by decide +kernel)
  have hw7 := hts (.initialized "java/lang/Math") (by decide +kernel)
  have hw8 := hts (.code Lib.Math.max.name Lib.Math.max.code 2 (some .int)) (by decide +kernel)
  have hw9 := hts (.fieldLink RX6 36 "HedgeGlidersLaw$Sim" "year" "I") (by decide +kernel)
  have hw10 := hts (.fieldLink RX6 39 "HedgeGlidersLaw$Sim" "born" "I") (by decide +kernel)
  have hw11 := hts (.fieldLink RX6 42 "HedgeGlidersLaw$Sim" "dead" "I") (by decide +kernel)
  have hw12 := hts (.fieldLink RX6 32 "HedgeGlidersLaw$Sim" "isRound" "Z") (by decide +kernel)
  have hl := lv_entry ([.ref zsi]) (n := 9) (Nat.le_of_ble_eq_true rfl)
  have he0 : entryFrame m args 9 = entryFrame m ([.ref zsi] : List Value).toArray 9 := by rw [hargs]
  rw [he0, lg_entry_eq]
  generalize (lg_sl ([.ref zsi]) ++ List.replicate (9 - (lg_sl ([.ref zsi])).length) Slot.unset).toArray = ls at hl ⊢
  have hl : lv_has ls 9 [(0, .ref zsi)] := hl
  rw [f_X6_counts] at hf
  refine lv_aload_n hx hb dX6_counts_0 rfl (lv_at hl 0 rfl) ?_
  refine va_get (D := (dC, dI)) (ci := 5) (v := .int sS.1) (C := RX6) (T := TX6) (N := 9) hx hb hts hinX6 hown hK hP 0 rfl rfl 0 (by decide) hw0 (fun _ h9 => h9) rfl dX6_counts_1 ?_
  refine lv_aload_n hx hb dX6_counts_4 rfl (lv_at hl 0 rfl) ?_
  refine va_get (D := (dC, dI)) (ci := 5) (v := .int sS.2.1) (C := RX6) (T := TX6) (N := 9) hx hb hts hinX6 hown hK hP 0 rfl rfl 1 (by decide) hw1 (fun _ h9 => h9) rfl dX6_counts_5 ?_
  refine lv_imul hx hb dX6_counts_8 ?_
  have hg2 : ¬ ((sS.1 * sS.2.1) < 0 ∨ 64 < (sS.1 * sS.2.1).toNatClampNeg) := fun hq => by rw [if_pos hq] at hf; exact nomatch hf
  rw [if_neg hg2] at hf
  refine sg_newI hx hb hw2 hK hP hD hS hA 0 rfl (n := (sS.1 * sS.2.1)) (k := 64) hg2 (by decide) (Nat.le_of_ble_eq_true rfl) (Nat.le_of_ble_eq_true rfl) dX6_counts_9 (fun z1 H hP hD hS => ?_)
  have hP := sgP (L' := [[(zsi, .inr (5, [.int sS.1, .int sS.2.1, .int (bI sS.2.2.1), .int sS.2.2.2.1, .int sS.2.2.2.2.1, .int sS.2.2.2.2.2.1, .int sS.2.2.2.2.2.2.1, .int sS.2.2.2.2.2.2.2, .ref zmo]))], [(z1, .inl (cI, (sS.1 * sS.2.1).toNatClampNeg, .inl (fun _ => 0)))], (mt cI cO zmo sS.2.1.toNatClampNeg sS.1.toNatClampNeg rmo mM)]) hP [0, 2, 1] rfl
  have hD := sgD (L' := [[(zsi, .inr (5, [.int sS.1, .int sS.2.1, .int (bI sS.2.2.1), .int sS.2.2.2.1, .int sS.2.2.2.2.1, .int sS.2.2.2.2.2.1, .int sS.2.2.2.2.2.2.1, .int sS.2.2.2.2.2.2.2, .ref zmo]))], [(z1, .inl (cI, (sS.1 * sS.2.1).toNatClampNeg, .inl (fun _ => 0)))], (mt cI cO zmo sS.2.1.toNatClampNeg sS.1.toNatClampNeg rmo mM)]) hD [0, 2, 1] (by decide) rfl
  refine lv_astore_n (lv' := [(1, .ref z1), (0, .ref zsi)]) hx hb dX6_counts_11 rfl hl (by decide) rfl (fun ls hl => ?_)
  refine lv_aload_n hx hb dX6_counts_12 rfl (lv_at hl 1 rfl) ?_
  refine va_get (D := (dC, dI)) (ci := 5) (v := .int sS.1) (C := RX6) (T := TX6) (N := 9) hx hb hts hinX6 hown hK hP 0 rfl rfl 0 (by decide) hw0 (fun _ h9 => h9) rfl dX6_counts_13 ?_
  refine lv_aload_n hx hb dX6_counts_16 rfl (lv_at hl 1 rfl) ?_
  refine va_get (D := (dC, dI)) (ci := 5) (v := .int sS.2.1) (C := RX6) (T := TX6) (N := 9) hx hb hts hinX6 hown hK hP 0 rfl rfl 1 (by decide) hw1 (fun _ h9 => h9) rfl dX6_counts_17 ?_
  refine lv_imul hx hb dX6_counts_20 ?_
  refine sg_newZ hx hb hw3 hK hP hD hS hA 3 rfl (n := (sS.1 * sS.2.1)) (k := 64) hg2 (by decide) (Nat.le_of_ble_eq_true rfl) (Nat.le_of_ble_eq_true rfl) dX6_counts_21 (fun z3 H hP hD hS => ?_)
  have hP := sgP (L' := [[(zsi, .inr (5, [.int sS.1, .int sS.2.1, .int (bI sS.2.2.1), .int sS.2.2.2.1, .int sS.2.2.2.2.1, .int sS.2.2.2.2.2.1, .int sS.2.2.2.2.2.2.1, .int sS.2.2.2.2.2.2.2, .ref zmo]))], [(z1, .inl (cI, (sS.1 * sS.2.1).toNatClampNeg, .inl (fun _ => 0)))], [(z3, .inl (cB, (sS.1 * sS.2.1).toNatClampNeg, .inl (fun _ => 0)))], (mt cI cO zmo sS.2.1.toNatClampNeg sS.1.toNatClampNeg rmo mM)]) hP [0, 1, 3, 2] rfl
  have hD := sgD (L' := [[(zsi, .inr (5, [.int sS.1, .int sS.2.1, .int (bI sS.2.2.1), .int sS.2.2.2.1, .int sS.2.2.2.2.1, .int sS.2.2.2.2.2.1, .int sS.2.2.2.2.2.2.1, .int sS.2.2.2.2.2.2.2, .ref zmo]))], [(z1, .inl (cI, (sS.1 * sS.2.1).toNatClampNeg, .inl (fun _ => 0)))], [(z3, .inl (cB, (sS.1 * sS.2.1).toNatClampNeg, .inl (fun _ => 0)))], (mt cI cO zmo sS.2.1.toNatClampNeg sS.1.toNatClampNeg rmo mM)]) hD [0, 1, 3, 2] (by decide) rfl
  refine lv_astore_n (lv' := [(2, .ref z3), (1, .ref z1), (0, .ref zsi)]) hx hb dX6_counts_23 rfl hl (by decide) rfl (fun ls hl => ?_)
  refine lv_aload_n hx hb dX6_counts_24 rfl (lv_at hl 2 rfl) ?_
  obtain ⟨r4, hr4, hf⟩ := obind hf
  have hPc : va_P (dC, dI) vwCl (wJ [[(zsi, .inr (5, [.int sS.1, .int sS.2.1, .int (bI sS.2.2.1), .int sS.2.2.2.1, .int sS.2.2.2.2.1, .int sS.2.2.2.2.2.1, .int sS.2.2.2.2.2.2.1, .int sS.2.2.2.2.2.2.2, .ref zmo]))], (mt cI cO zmo sS.2.1.toNatClampNeg sS.1.toNatClampNeg rmo mM)]) H := sgP (L' := [[(zsi, .inr (5, [.int sS.1, .int sS.2.1, .int (bI sS.2.2.1), .int sS.2.2.2.1, .int sS.2.2.2.2.1, .int sS.2.2.2.2.2.1, .int sS.2.2.2.2.2.2.1, .int sS.2.2.2.2.2.2.2, .ref zmo]))], (mt cI cO zmo sS.2.1.toNatClampNeg sS.1.toNatClampNeg rmo mM)]) hP [0, 3] rfl
  have hDc : va_D (A_X6_counts cI cJ cO cB zsi zmo rmo sS mM s.heap.size) (wJ [[(zsi, .inr (5, [.int sS.1, .int sS.2.1, .int (bI sS.2.2.1), .int sS.2.2.2.1, .int sS.2.2.2.2.1, .int sS.2.2.2.2.2.1, .int sS.2.2.2.2.2.2.1, .int sS.2.2.2.2.2.2.2, .ref zmo]))], (mt cI cO zmo sS.2.1.toNatClampNeg sS.1.toNatClampNeg rmo mM)]) := sgD (L' := [[(zsi, .inr (5, [.int sS.1, .int sS.2.1, .int (bI sS.2.2.1), .int sS.2.2.2.1, .int sS.2.2.2.2.1, .int sS.2.2.2.2.2.1, .int sS.2.2.2.2.2.2.1, .int sS.2.2.2.2.2.2.2, .ref zmo]))], (mt cI cO zmo sS.2.1.toNatClampNeg sS.1.toNatClampNeg rmo mM)]) hD [0, 3] (by decide) rfl
  have hFc : ∀ q, va_A (wJ [[(zsi, .inr (5, [.int sS.1, .int sS.2.1, .int (bI sS.2.2.1), .int sS.2.2.2.1, .int sS.2.2.2.2.1, .int sS.2.2.2.2.2.1, .int sS.2.2.2.2.2.2.1, .int sS.2.2.2.2.2.2.2, .ref zmo]))], (mt cI cO zmo sS.2.1.toNatClampNeg sS.1.toNatClampNeg rmo mM)]) H.size q → (A_X6_counts cI cJ cO cB zsi zmo rmo sS mM s.heap.size) q := sg_free (W := [[(zsi, .inr (5, [.int sS.1, .int sS.2.1, .int (bI sS.2.2.1), .int sS.2.2.2.1, .int sS.2.2.2.2.1, .int sS.2.2.2.2.2.1, .int sS.2.2.2.2.2.2.1, .int sS.2.2.2.2.2.2.2, .ref zmo]))], (mt cI cO zmo sS.2.1.toNatClampNeg sS.1.toNatClampNeg rmo mM)]) hD hS hA [0, 3] rfl
  refine va_callr (va_runV (As := []) (rest := []) ⟨hx, hb, hml, hown, hts⟩ (c_X6_lawns l dC dI cI cJ cO cB zsi zmo H.size rmo sS mM _ hr4) (cwV 0 hts gX6_counts_X6_lawns rfl rfl rfl (by decide +kernel) ⟨Nat.le_of_ble_eq_true rfl, Nat.le_of_ble_eq_true rfl⟩) ⟨fun a U gg mk q => by obtain ⟨q0, q1, qP, qK, qD, qo⟩ := q; exact ⟨q0, q1, qP, va_K.moved (u := U) (U := U.calling gg mk a) (Vm.Alike.refl U.vm) qK, qD, aoE.same (u := U) (U := U.calling gg mk a) rfl qo⟩, va_recv hK hPc (ci := 5) (q0 := 0) rfl rfl, fun U hU hW => ⟨rfl, by rw [hU], by rw [hU]; exact hPc, va_K.moved hW.alike hK, hDc.weaken (fun _ _ _ _ => trivial), hao.warm hW⟩⟩ rfl rfl hl.1 rfl (lv_room (Nat.le_of_ble_eq_true rfl)) dX6_counts_25 ⟨(Nat.le_of_ble_eq_true rfl), (Nat.le_of_ble_eq_true rfl)⟩) hS (fun q _ h => hFc q h) hFc (fun u_ z5 t H locs ht hvm hw hB hz1 hk1 hS => ?_)
  obtain ⟨r6, rfl⟩ : ∃ z, z = u_ := ⟨_, rfl⟩
  obtain ⟨hP1, -, hD1⟩ := hB
  rw [ht] at hP1
  have hJ := sg_join2 (W := [[(zsi, .inr (5, [.int sS.1, .int sS.2.1, .int (bI sS.2.2.1), .int sS.2.2.2.1, .int sS.2.2.2.2.1, .int sS.2.2.2.2.2.1, .int sS.2.2.2.2.2.2.1, .int sS.2.2.2.2.2.2.2, .ref zmo]))], (mt cI cO zmo sS.2.1.toNatClampNeg sS.1.toNatClampNeg rmo mM)]) (R := [[(z1, .inl (cI, (sS.1 * sS.2.1).toNatClampNeg, .inl (fun _ => 0)))], [(z3, .inl (cB, (sS.1 * sS.2.1).toNatClampNeg, .inl (fun _ => 0)))]]) (W1 := [[(zsi, .inr (5, [.int sS.1, .int sS.2.1, .int (bI sS.2.2.1), .int sS.2.2.2.1, .int sS.2.2.2.2.1, .int sS.2.2.2.2.2.1, .int sS.2.2.2.2.2.2.1, .int sS.2.2.2.2.2.2.2, .ref zmo]))], (mt cI cO zmo sS.2.1.toNatClampNeg sS.1.toNatClampNeg rmo mM), (mt cI cO z5 sS.2.1.toNatClampNeg sS.1.toNatClampNeg r6 r4)]) hP hD [0, 3] [1, 2] rfl rfl (by decide) (by decide) hk1 hFc hP1 hD1
  have hP : va_P (dC, dI) vwCl (wJ [[(z1, .inl (cI, (sS.1 * sS.2.1).toNatClampNeg, .inl (fun _ => 0)))], [(z3, .inl (cB, (sS.1 * sS.2.1).toNatClampNeg, .inl (fun _ => 0)))], [(zsi, .inr (5, [.int sS.1, .int sS.2.1, .int (bI sS.2.2.1), .int sS.2.2.2.1, .int sS.2.2.2.2.1, .int sS.2.2.2.2.2.1, .int sS.2.2.2.2.2.2.1, .int sS.2.2.2.2.2.2.2, .ref zmo]))], (mt cI cO zmo sS.2.1.toNatClampNeg sS.1.toNatClampNeg rmo mM), (mt cI cO z5 sS.2.1.toNatClampNeg sS.1.toNatClampNeg r6 r4)]) H := hJ.1
  have hD : va_D (A_X6_counts cI cJ cO cB zsi zmo rmo sS mM s.heap.size) (wJ [[(z1, .inl (cI, (sS.1 * sS.2.1).toNatClampNeg, .inl (fun _ => 0)))], [(z3, .inl (cB, (sS.1 * sS.2.1).toNatClampNeg, .inl (fun _ => 0)))], [(zsi, .inr (5, [.int sS.1, .int sS.2.1, .int (bI sS.2.2.1), .int sS.2.2.2.1, .int sS.2.2.2.2.1, .int sS.2.2.2.2.2.1, .int sS.2.2.2.2.2.2.1, .int sS.2.2.2.2.2.2.2, .ref zmo]))], (mt cI cO zmo sS.2.1.toNatClampNeg sS.1.toNatClampNeg rmo mM), (mt cI cO z5 sS.2.1.toNatClampNeg sS.1.toNatClampNeg r6 r4)]) := hJ.2
  have hP := sgP (L' := [[(zsi, .inr (5, [.int sS.1, .int sS.2.1, .int (bI sS.2.2.1), .int sS.2.2.2.1, .int sS.2.2.2.2.1, .int sS.2.2.2.2.2.1, .int sS.2.2.2.2.2.2.1, .int sS.2.2.2.2.2.2.2, .ref zmo]))], [(z1, .inl (cI, (sS.1 * sS.2.1).toNatClampNeg, .inl (fun _ => 0)))], [(z3, .inl (cB, (sS.1 * sS.2.1).toNatClampNeg, .inl (fun _ => 0)))], (mt cI cO zmo sS.2.1.toNatClampNeg sS.1.toNatClampNeg rmo mM), (mt cI cO z5 sS.2.1.toNatClampNeg sS.1.toNatClampNeg r6 r4)]) hP [2, 0, 1, 3, 4] rfl
  have hD := sgD (L' := [[(zsi, .inr (5, [.int sS.1, .int sS.2.1, .int (bI sS.2.2.1), .int sS.2.2.2.1, .int sS.2.2.2.2.1, .int sS.2.2.2.2.2.1, .int sS.2.2.2.2.2.2.1, .int sS.2.2.2.2.2.2.2, .ref zmo]))], [(z1, .inl (cI, (sS.1 * sS.2.1).toNatClampNeg, .inl (fun _ => 0)))], [(z3, .inl (cB, (sS.1 * sS.2.1).toNatClampNeg, .inl (fun _ => 0)))], (mt cI cO zmo sS.2.1.toNatClampNeg sS.1.toNatClampNeg rmo mM), (mt cI cO z5 sS.2.1.toNatClampNeg sS.1.toNatClampNeg r6 r4)]) hD [2, 0, 1, 3, 4] (by decide) rfl
  clear hPc hDc hFc hP1 hD1 hk1 hJ
  refine lv_astore_n (lv' := [(3, .ref z5), (2, .ref z3), (1, .ref z1), (0, .ref zsi)]) hx hb dX6_counts_28 rfl hl (by decide) rfl (fun ls hl => ?_)
  refine lv_iconst (v := (-1)) hx hb dX6_counts_29 (by decide) ?_
  refine lv_istore (lv' := [(4, .int (-1)), (3, .ref z5), (2, .ref z3), (1, .ref z1), (0, .ref zsi)]) hx hb dX6_counts_30 hl (by decide) rfl (fun ls hl => ?_)
  refine lv_iconst (v := 0) hx hb dX6_counts_32 (by decide) ?_
  refine lv_istore (lv' := [(5, .int 0), (4, .int (-1)), (3, .ref z5), (2, .ref z3), (1, .ref z1), (0, .ref zsi)]) hx hb dX6_counts_33 hl (by decide) rfl (fun ls hl => ?_)
  obtain ⟨v96, hv, hf⟩ := obind hf
  have K121 : ∀ (H : Heap) (locs : List Loc) (ls : Array Slot), va_P (dC, dI) vwCl (wJ [[(zsi, .inr (5, [.int sS.1, .int sS.2.1, .int (bI sS.2.2.1), .int sS.2.2.2.1, .int sS.2.2.2.2.1, .int sS.2.2.2.2.2.1, .int sS.2.2.2.2.2.2.1, .int sS.2.2.2.2.2.2.2, .ref zmo]))], [(z1, .inl (cI, (sS.1 * sS.2.1).toNatClampNeg, .inl v96.2.1))], [(z3, .inl (cB, (sS.1 * sS.2.1).toNatClampNeg, .inl v96.2.2))], (mt cI cO zmo sS.2.1.toNatClampNeg sS.1.toNatClampNeg rmo mM), (mt cI cO z5 sS.2.1.toNatClampNeg sS.1.toNatClampNeg r6 r4)]) H → va_D (A_X6_counts cI cJ cO cB zsi zmo rmo sS mM s.heap.size) (wJ [[(zsi, .inr (5, [.int sS.1, .int sS.2.1, .int (bI sS.2.2.1), .int sS.2.2.2.1, .int sS.2.2.2.2.1, .int sS.2.2.2.2.2.1, .int sS.2.2.2.2.2.2.1, .int sS.2.2.2.2.2.2.2, .ref zmo]))], [(z1, .inl (cI, (sS.1 * sS.2.1).toNatClampNeg, .inl v96.2.1))], [(z3, .inl (cB, (sS.1 * sS.2.1).toNatClampNeg, .inl v96.2.2))], (mt cI cO zmo sS.2.1.toNatClampNeg sS.1.toNatClampNeg rmo mM), (mt cI cO z5 sS.2.1.toNatClampNeg sS.1.toNatClampNeg r6 r4)]) → va_S (A_X6_counts cI cJ cO cB zsi zmo rmo sS mM s.heap.size) s.heap H locs → lv_has ls 9 [(0, .ref zsi), (1, .ref z1), (2, .ref z3), (4, .int v96.1)] → W p l e rm_X6_counts s m args below meth c H locs 11 200 (MQ below (Q_X6_counts dC dI cI cJ cO cB zsi zmo rmo sS mM s.heap.size R) args s 12 211 (A_X6_counts cI cJ cO cB zsi zmo rmo sS mM s.heap.size)) (F0 m 131 ls []) := by
    intro H locs ls hP hD hS hl
    refine lv_iconst (v := 0) hx hb dX6_counts_131 (by decide) ?_
    refine lv_istore (lv' := [(5, .int 0), (0, .ref zsi), (1, .ref z1), (2, .ref z3), (4, .int v96.1)]) hx hb dX6_counts_132 hl (by decide) rfl (fun ls hl => ?_)
    refine lv_iconst (v := 0) hx hb dX6_counts_134 (by decide) ?_
    refine lv_istore (lv' := [(6, .int 0), (5, .int 0), (0, .ref zsi), (1, .ref z1), (2, .ref z3), (4, .int v96.1)]) hx hb dX6_counts_135 hl (by decide) rfl (fun ls hl => ?_)
    refine lv_iconst (v := 0) hx hb dX6_counts_137 (by decide) ?_
    refine lv_istore (lv' := [(7, .int 0), (6, .int 0), (5, .int 0), (0, .ref zsi), (1, .ref z1), (2, .ref z3), (4, .int v96.1)]) hx hb dX6_counts_138 hl (by decide) rfl (fun ls hl => ?_)
    refine lv_iconst (v := 0) hx hb dX6_counts_140 (by decide) ?_
    refine lv_istore (lv' := [(8, .int 0), (7, .int 0), (6, .int 0), (5, .int 0), (0, .ref zsi), (1, .ref z1), (2, .ref z3), (4, .int v96.1)]) hx hb dX6_counts_141 hl (by decide) rfl (fun ls hl => ?_)
    obtain ⟨v117, hv, hf⟩ := obind hf
    have K122 : ∀ (H : Heap) (locs : List Loc) (ls : Array Slot), va_P (dC, dI) vwCl (wJ [[(zsi, .inr (5, [.int sS.1, .int sS.2.1, .int (bI sS.2.2.1), .int sS.2.2.2.1, .int sS.2.2.2.2.1, .int sS.2.2.2.2.2.1, .int sS.2.2.2.2.2.2.1, .int sS.2.2.2.2.2.2.2, .ref zmo]))], [(z1, .inl (cI, (sS.1 * sS.2.1).toNatClampNeg, .inl v96.2.1))], [(z3, .inl (cB, (sS.1 * sS.2.1).toNatClampNeg, .inl v96.2.2))], (mt cI cO zmo sS.2.1.toNatClampNeg sS.1.toNatClampNeg rmo mM), (mt cI cO z5 sS.2.1.toNatClampNeg sS.1.toNatClampNeg r6 r4)]) H → va_D (A_X6_counts cI cJ cO cB zsi zmo rmo sS mM s.heap.size) (wJ [[(zsi, .inr (5, [.int sS.1, .int sS.2.1, .int (bI sS.2.2.1), .int sS.2.2.2.1, .int sS.2.2.2.2.1, .int sS.2.2.2.2.2.1, .int sS.2.2.2.2.2.2.1, .int sS.2.2.2.2.2.2.2, .ref zmo]))], [(z1, .inl (cI, (sS.1 * sS.2.1).toNatClampNeg, .inl v96.2.1))], [(z3, .inl (cB, (sS.1 * sS.2.1).toNatClampNeg, .inl v96.2.2))], (mt cI cO zmo sS.2.1.toNatClampNeg sS.1.toNatClampNeg rmo mM), (mt cI cO z5 sS.2.1.toNatClampNeg sS.1.toNatClampNeg r6 r4)]) → va_S (A_X6_counts cI cJ cO cB zsi zmo rmo sS mM s.heap.size) s.heap H locs → lv_has ls 9 [(0, .ref zsi), (4, .int v96.1), (5, .int v117.1), (6, .int v117.2.1), (7, .int v117.2.2)] → W p l e rm_X6_counts s m args below meth c H locs 11 200 (MQ below (Q_X6_counts dC dI cI cJ cO cB zsi zmo rmo sS mM s.heap.size R) args s 12 211 (A_X6_counts cI cJ cO cB zsi zmo rmo sS mM s.heap.size)) (F0 m 215 ls []) := by
      intro H locs ls hP hD hS hl
      refine lv_bipush (v := 11) hx hb dX6_counts_215 (by decide) ?_
      refine sg_newI hx hb hw2 hK hP hD hS hA 0 rfl (n := (11 : Int32)) (k := 11) (by decide) (by decide) (Nat.le_of_ble_eq_true rfl) (Nat.le_of_ble_eq_true rfl) dX6_counts_217 (fun z118 H hP hD hS => ?_)
      have hP := sgP (L' := [[(zsi, .inr (5, [.int sS.1, .int sS.2.1, .int (bI sS.2.2.1), .int sS.2.2.2.1, .int sS.2.2.2.2.1, .int sS.2.2.2.2.2.1, .int sS.2.2.2.2.2.2.1, .int sS.2.2.2.2.2.2.2, .ref zmo]))], [(z1, .inl (cI, (sS.1 * sS.2.1).toNatClampNeg, .inl v96.2.1))], [(z3, .inl (cB, (sS.1 * sS.2.1).toNatClampNeg, .inl v96.2.2))], [(z118, .inl (cI, (11 : Int32).toNatClampNeg, .inl (fun _ => 0)))], (mt cI cO zmo sS.2.1.toNatClampNeg sS.1.toNatClampNeg rmo mM), (mt cI cO z5 sS.2.1.toNatClampNeg sS.1.toNatClampNeg r6 r4)]) hP [0, 1, 2, 5, 3, 4] rfl
      have hD := sgD (L' := [[(zsi, .inr (5, [.int sS.1, .int sS.2.1, .int (bI sS.2.2.1), .int sS.2.2.2.1, .int sS.2.2.2.2.1, .int sS.2.2.2.2.2.1, .int sS.2.2.2.2.2.2.1, .int sS.2.2.2.2.2.2.2, .ref zmo]))], [(z1, .inl (cI, (sS.1 * sS.2.1).toNatClampNeg, .inl v96.2.1))], [(z3, .inl (cB, (sS.1 * sS.2.1).toNatClampNeg, .inl v96.2.2))], [(z118, .inl (cI, (11 : Int32).toNatClampNeg, .inl (fun _ => 0)))], (mt cI cO zmo sS.2.1.toNatClampNeg sS.1.toNatClampNeg rmo mM), (mt cI cO z5 sS.2.1.toNatClampNeg sS.1.toNatClampNeg r6 r4)]) hD [0, 1, 2, 5, 3, 4] (by decide) rfl
      refine lv_dup hx hb dX6_counts_219 rfl ?_
      refine lv_iconst (v := 0) hx hb dX6_counts_220 (by decide) ?_
      refine lv_aload_n hx hb dX6_counts_221 rfl (lv_at hl 0 rfl) ?_
      refine va_get (D := (dC, dI)) (ci := 5) (v := .int sS.2.2.2.2.2.1) (C := RX6) (T := TX6) (N := 9) hx hb hts hinX6 hown hK hP 0 rfl rfl 5 (by decide) hw9 (fun _ h9 => h9) rfl dX6_counts_222 ?_
      refine va_iast hx hb hK hP hD hS 3 0 rfl rfl (i := (0 : Int32)) (by unfold vp_in; decide) dX6_counts_225 (fun H locs hP hD hS => ?_)
      have hP : va_P (dC, dI) vwCl (wJ [[(zsi, .inr (5, [.int sS.1, .int sS.2.1, .int (bI sS.2.2.1), .int sS.2.2.2.1, .int sS.2.2.2.2.1, .int sS.2.2.2.2.2.1, .int sS.2.2.2.2.2.2.1, .int sS.2.2.2.2.2.2.2, .ref zmo]))], [(z1, .inl (cI, (sS.1 * sS.2.1).toNatClampNeg, .inl v96.2.1))], [(z3, .inl (cB, (sS.1 * sS.2.1).toNatClampNeg, .inl v96.2.2))], [(z118, .inl (cI, (11 : Int32).toNatClampNeg, .inl (upd (fun _ => 0) (0 : Int32).toNatClampNeg sS.2.2.2.2.2.1)))], (mt cI cO zmo sS.2.1.toNatClampNeg sS.1.toNatClampNeg rmo mM), (mt cI cO z5 sS.2.1.toNatClampNeg sS.1.toNatClampNeg r6 r4)]) H := hP
      have hD : va_D (A_X6_counts cI cJ cO cB zsi zmo rmo sS mM s.heap.size) (wJ [[(zsi, .inr (5, [.int sS.1, .int sS.2.1, .int (bI sS.2.2.1), .int sS.2.2.2.1, .int sS.2.2.2.2.1, .int sS.2.2.2.2.2.1, .int sS.2.2.2.2.2.2.1, .int sS.2.2.2.2.2.2.2, .ref zmo]))], [(z1, .inl (cI, (sS.1 * sS.2.1).toNatClampNeg, .inl v96.2.1))], [(z3, .inl (cB, (sS.1 * sS.2.1).toNatClampNeg, .inl v96.2.2))], [(z118, .inl (cI, (11 : Int32).toNatClampNeg, .inl (upd (fun _ => 0) (0 : Int32).toNatClampNeg sS.2.2.2.2.2.1)))], (mt cI cO zmo sS.2.1.toNatClampNeg sS.1.toNatClampNeg rmo mM), (mt cI cO z5 sS.2.1.toNatClampNeg sS.1.toNatClampNeg r6 r4)]) := hD
      refine lv_dup hx hb dX6_counts_226 rfl ?_
      refine lv_iconst (v := 1) hx hb dX6_counts_227 (by decide) ?_
      refine lv_aload_n hx hb dX6_counts_228 rfl (lv_at hl 0 rfl) ?_
      refine va_get (D := (dC, dI)) (ci := 5) (v := .int sS.1) (C := RX6) (T := TX6) (N := 9) hx hb hts hinX6 hown hK hP 0 rfl rfl 0 (by decide) hw0 (fun _ h9 => h9) rfl dX6_counts_229 ?_
      refine va_iast hx hb hK hP hD hS 3 0 rfl rfl (i := (1 : Int32)) (by unfold vp_in; decide) dX6_counts_232 (fun H locs hP hD hS => ?_)
      have hP : va_P (dC, dI) vwCl (wJ [[(zsi, .inr (5, [.int sS.1, .int sS.2.1, .int (bI sS.2.2.1), .int sS.2.2.2.1, .int sS.2.2.2.2.1, .int sS.2.2.2.2.2.1, .int sS.2.2.2.2.2.2.1, .int sS.2.2.2.2.2.2.2, .ref zmo]))], [(z1, .inl (cI, (sS.1 * sS.2.1).toNatClampNeg, .inl v96.2.1))], [(z3, .inl (cB, (sS.1 * sS.2.1).toNatClampNeg, .inl v96.2.2))], [(z118, .inl (cI, (11 : Int32).toNatClampNeg, .inl (upd (upd (fun _ => 0) (0 : Int32).toNatClampNeg sS.2.2.2.2.2.1) (1 : Int32).toNatClampNeg sS.1)))], (mt cI cO zmo sS.2.1.toNatClampNeg sS.1.toNatClampNeg rmo mM), (mt cI cO z5 sS.2.1.toNatClampNeg sS.1.toNatClampNeg r6 r4)]) H := hP
      have hD : va_D (A_X6_counts cI cJ cO cB zsi zmo rmo sS mM s.heap.size) (wJ [[(zsi, .inr (5, [.int sS.1, .int sS.2.1, .int (bI sS.2.2.1), .int sS.2.2.2.1, .int sS.2.2.2.2.1, .int sS.2.2.2.2.2.1, .int sS.2.2.2.2.2.2.1, .int sS.2.2.2.2.2.2.2, .ref zmo]))], [(z1, .inl (cI, (sS.1 * sS.2.1).toNatClampNeg, .inl v96.2.1))], [(z3, .inl (cB, (sS.1 * sS.2.1).toNatClampNeg, .inl v96.2.2))], [(z118, .inl (cI, (11 : Int32).toNatClampNeg, .inl (upd (upd (fun _ => 0) (0 : Int32).toNatClampNeg sS.2.2.2.2.2.1) (1 : Int32).toNatClampNeg sS.1)))], (mt cI cO zmo sS.2.1.toNatClampNeg sS.1.toNatClampNeg rmo mM), (mt cI cO z5 sS.2.1.toNatClampNeg sS.1.toNatClampNeg r6 r4)]) := hD
      refine lv_dup hx hb dX6_counts_233 rfl ?_
      refine lv_iconst (v := 2) hx hb dX6_counts_234 (by decide) ?_
      refine lv_aload_n hx hb dX6_counts_235 rfl (lv_at hl 0 rfl) ?_
      refine va_get (D := (dC, dI)) (ci := 5) (v := .int sS.2.1) (C := RX6) (T := TX6) (N := 9) hx hb hts hinX6 hown hK hP 0 rfl rfl 1 (by decide) hw1 (fun _ h9 => h9) rfl dX6_counts_236 ?_
      refine va_iast hx hb hK hP hD hS 3 0 rfl rfl (i := (2 : Int32)) (by unfold vp_in; decide) dX6_counts_239 (fun H locs hP hD hS => ?_)
      have hP : va_P (dC, dI) vwCl (wJ [[(zsi, .inr (5, [.int sS.1, .int sS.2.1, .int (bI sS.2.2.1), .int sS.2.2.2.1, .int sS.2.2.2.2.1, .int sS.2.2.2.2.2.1, .int sS.2.2.2.2.2.2.1, .int sS.2.2.2.2.2.2.2, .ref zmo]))], [(z1, .inl (cI, (sS.1 * sS.2.1).toNatClampNeg, .inl v96.2.1))], [(z3, .inl (cB, (sS.1 * sS.2.1).toNatClampNeg, .inl v96.2.2))], [(z118, .inl (cI, (11 : Int32).toNatClampNeg, .inl (upd (upd (upd (fun _ => 0) (0 : Int32).toNatClampNeg sS.2.2.2.2.2.1) (1 : Int32).toNatClampNeg sS.1) (2 : Int32).toNatClampNeg sS.2.1)))], (mt cI cO zmo sS.2.1.toNatClampNeg sS.1.toNatClampNeg rmo mM), (mt cI cO z5 sS.2.1.toNatClampNeg sS.1.toNatClampNeg r6 r4)]) H := hP
      have hD : va_D (A_X6_counts cI cJ cO cB zsi zmo rmo sS mM s.heap.size) (wJ [[(zsi, .inr (5, [.int sS.1, .int sS.2.1, .int (bI sS.2.2.1), .int sS.2.2.2.1, .int sS.2.2.2.2.1, .int sS.2.2.2.2.2.1, .int sS.2.2.2.2.2.2.1, .int sS.2.2.2.2.2.2.2, .ref zmo]))], [(z1, .inl (cI, (sS.1 * sS.2.1).toNatClampNeg, .inl v96.2.1))], [(z3, .inl (cB, (sS.1 * sS.2.1).toNatClampNeg, .inl v96.2.2))], [(z118, .inl (cI, (11 : Int32).toNatClampNeg, .inl (upd (upd (upd (fun _ => 0) (0 : Int32).toNatClampNeg sS.2.2.2.2.2.1) (1 : Int32).toNatClampNeg sS.1) (2 : Int32).toNatClampNeg sS.2.1)))], (mt cI cO zmo sS.2.1.toNatClampNeg sS.1.toNatClampNeg rmo mM), (mt cI cO z5 sS.2.1.toNatClampNeg sS.1.toNatClampNeg r6 r4)]) := hD
      refine lv_dup hx hb dX6_counts_240 rfl ?_
      refine lv_iconst (v := 3) hx hb dX6_counts_241 (by decide) ?_
      refine lv_aload_n hx hb dX6_counts_242 rfl (lv_at hl 0 rfl) ?_
      obtain ⟨r119, hr119, hf⟩ := obind hf
      have hPc : va_P (dC, dI) vwCl (wJ [[(zsi, .inr (5, [.int sS.1, .int sS.2.1, .int (bI sS.2.2.1), .int sS.2.2.2.1, .int sS.2.2.2.2.1, .int sS.2.2.2.2.2.1, .int sS.2.2.2.2.2.2.1, .int sS.2.2.2.2.2.2.2, .ref zmo]))], (mt cI cO zmo sS.2.1.toNatClampNeg sS.1.toNatClampNeg rmo mM)]) H := sgP (L' := [[(zsi, .inr (5, [.int sS.1, .int sS.2.1, .int (bI sS.2.2.1), .int sS.2.2.2.1, .int sS.2.2.2.2.1, .int sS.2.2.2.2.2.1, .int sS.2.2.2.2.2.2.1, .int sS.2.2.2.2.2.2.2, .ref zmo]))], (mt cI cO zmo sS.2.1.toNatClampNeg sS.1.toNatClampNeg rmo mM)]) hP [0, 4] rfl
      have hDc : va_D (A_X6_counts cI cJ cO cB zsi zmo rmo sS mM s.heap.size) (wJ [[(zsi, .inr (5, [.int sS.1, .int sS.2.1, .int (bI sS.2.2.1), .int sS.2.2.2.1, .int sS.2.2.2.2.1, .int sS.2.2.2.2.2.1, .int sS.2.2.2.2.2.2.1, .int sS.2.2.2.2.2.2.2, .ref zmo]))], (mt cI cO zmo sS.2.1.toNatClampNeg sS.1.toNatClampNeg rmo mM)]) := sgD (L' := [[(zsi, .inr (5, [.int sS.1, .int sS.2.1, .int (bI sS.2.2.1), .int sS.2.2.2.1, .int sS.2.2.2.2.1, .int sS.2.2.2.2.2.1, .int sS.2.2.2.2.2.2.1, .int sS.2.2.2.2.2.2.2, .ref zmo]))], (mt cI cO zmo sS.2.1.toNatClampNeg sS.1.toNatClampNeg rmo mM)]) hD [0, 4] (by decide) rfl
      have hFc : ∀ q, va_A (wJ [[(zsi, .inr (5, [.int sS.1, .int sS.2.1, .int (bI sS.2.2.1), .int sS.2.2.2.1, .int sS.2.2.2.2.1, .int sS.2.2.2.2.2.1, .int sS.2.2.2.2.2.2.1, .int sS.2.2.2.2.2.2.2, .ref zmo]))], (mt cI cO zmo sS.2.1.toNatClampNeg sS.1.toNatClampNeg rmo mM)]) H.size q → (A_X6_counts cI cJ cO cB zsi zmo rmo sS mM s.heap.size) q := sg_free (W := [[(zsi, .inr (5, [.int sS.1, .int sS.2.1, .int (bI sS.2.2.1), .int sS.2.2.2.1, .int sS.2.2.2.2.1, .int sS.2.2.2.2.2.1, .int sS.2.2.2.2.2.2.1, .int sS.2.2.2.2.2.2.2, .ref zmo]))], (mt cI cO zmo sS.2.1.toNatClampNeg sS.1.toNatClampNeg rmo mM)]) hD hS hA [0, 4] rfl
      refine va_calli (va_runV (As := []) (rest := [.int 3, .ref z118, .ref z118]) ⟨hx, hb, hml, hown, hts⟩ (c_X6_hedges l dC dI cI cJ cO cB zsi zmo H.size rmo sS mM _ hr119) (cwV 0 hts gX6_counts_X6_hedges rfl rfl rfl (by decide +kernel) ⟨Nat.le_of_ble_eq_true rfl, Nat.le_of_ble_eq_true rfl⟩) ⟨fun a U gg mk q => by obtain ⟨q0, q1, qP, qK, qD⟩ := q; exact ⟨q0, q1, qP, va_K.moved (u := U) (U := U.calling gg mk a) (Vm.Alike.refl U.vm) qK, qD⟩, va_recv hK hPc (ci := 5) (q0 := 0) rfl rfl, fun U hU hW => ⟨rfl, by rw [hU], by rw [hU]; exact hPc, va_K.moved hW.alike hK, hDc.weaken (fun _ _ _ _ => trivial)⟩⟩ rfl rfl hl.1 rfl (lv_room (Nat.le_of_ble_eq_true rfl)) dX6_counts_243 ⟨(Nat.le_of_ble_eq_true rfl), (Nat.le_of_ble_eq_true rfl)⟩) hS (fun q _ h => hFc q h) hFc (fun r_ u_ t H locs ht hvm hw hB hz1 hk1 hS => ?_)
      obtain rfl := hw.symm
      obtain ⟨hP1, -, hD1⟩ := hB
      rw [ht] at hP1
      have hJ := sg_join2 (W := [[(zsi, .inr (5, [.int sS.1, .int sS.2.1, .int (bI sS.2.2.1), .int sS.2.2.2.1, .int sS.2.2.2.2.1, .int sS.2.2.2.2.2.1, .int sS.2.2.2.2.2.2.1, .int sS.2.2.2.2.2.2.2, .ref zmo]))], (mt cI cO zmo sS.2.1.toNatClampNeg sS.1.toNatClampNeg rmo mM)]) (R := [[(z1, .inl (cI, (sS.1 * sS.2.1).toNatClampNeg, .inl v96.2.1))], [(z3, .inl (cB, (sS.1 * sS.2.1).toNatClampNeg, .inl v96.2.2))], [(z118, .inl (cI, (11 : Int32).toNatClampNeg, .inl (upd (upd (upd (fun _ => 0) (0 : Int32).toNatClampNeg sS.2.2.2.2.2.1) (1 : Int32).toNatClampNeg sS.1) (2 : Int32).toNatClampNeg sS.2.1)))], (mt cI cO z5 sS.2.1.toNatClampNeg sS.1.toNatClampNeg r6 r4)]) (W1 := [[(zsi, .inr (5, [.int sS.1, .int sS.2.1, .int (bI sS.2.2.1), .int sS.2.2.2.1, .int sS.2.2.2.2.1, .int sS.2.2.2.2.2.1, .int sS.2.2.2.2.2.2.1, .int sS.2.2.2.2.2.2.2, .ref zmo]))], (mt cI cO zmo sS.2.1.toNatClampNeg sS.1.toNatClampNeg rmo mM)]) hP hD [0, 4] [1, 2, 3, 5] rfl rfl (by decide) (by decide) hk1 hFc hP1 hD1
      have hP : va_P (dC, dI) vwCl (wJ [[(z1, .inl (cI, (sS.1 * sS.2.1).toNatClampNeg, .inl v96.2.1))], [(z3, .inl (cB, (sS.1 * sS.2.1).toNatClampNeg, .inl v96.2.2))], [(z118, .inl (cI, (11 : Int32).toNatClampNeg, .inl (upd (upd (upd (fun _ => 0) (0 : Int32).toNatClampNeg sS.2.2.2.2.2.1) (1 : Int32).toNatClampNeg sS.1) (2 : Int32).toNatClampNeg sS.2.1)))], (mt cI cO z5 sS.2.1.toNatClampNeg sS.1.toNatClampNeg r6 r4), [(zsi, .inr (5, [.int sS.1, .int sS.2.1, .int (bI sS.2.2.1), .int sS.2.2.2.1, .int sS.2.2.2.2.1, .int sS.2.2.2.2.2.1, .int sS.2.2.2.2.2.2.1, .int sS.2.2.2.2.2.2.2, .ref zmo]))], (mt cI cO zmo sS.2.1.toNatClampNeg sS.1.toNatClampNeg rmo mM)]) H := hJ.1
      have hD : va_D (A_X6_counts cI cJ cO cB zsi zmo rmo sS mM s.heap.size) (wJ [[(z1, .inl (cI, (sS.1 * sS.2.1).toNatClampNeg, .inl v96.2.1))], [(z3, .inl (cB, (sS.1 * sS.2.1).toNatClampNeg, .inl v96.2.2))], [(z118, .inl (cI, (11 : Int32).toNatClampNeg, .inl (upd (upd (upd (fun _ => 0) (0 : Int32).toNatClampNeg sS.2.2.2.2.2.1) (1 : Int32).toNatClampNeg sS.1) (2 : Int32).toNatClampNeg sS.2.1)))], (mt cI cO z5 sS.2.1.toNatClampNeg sS.1.toNatClampNeg r6 r4), [(zsi, .inr (5, [.int sS.1, .int sS.2.1, .int (bI sS.2.2.1), .int sS.2.2.2.1, .int sS.2.2.2.2.1, .int sS.2.2.2.2.2.1, .int sS.2.2.2.2.2.2.1, .int sS.2.2.2.2.2.2.2, .ref zmo]))], (mt cI cO zmo sS.2.1.toNatClampNeg sS.1.toNatClampNeg rmo mM)]) := hJ.2
      have hP := sgP (L' := [[(zsi, .inr (5, [.int sS.1, .int sS.2.1, .int (bI sS.2.2.1), .int sS.2.2.2.1, .int sS.2.2.2.2.1, .int sS.2.2.2.2.2.1, .int sS.2.2.2.2.2.2.1, .int sS.2.2.2.2.2.2.2, .ref zmo]))], [(z1, .inl (cI, (sS.1 * sS.2.1).toNatClampNeg, .inl v96.2.1))], [(z3, .inl (cB, (sS.1 * sS.2.1).toNatClampNeg, .inl v96.2.2))], [(z118, .inl (cI, (11 : Int32).toNatClampNeg, .inl (upd (upd (upd (fun _ => 0) (0 : Int32).toNatClampNeg sS.2.2.2.2.2.1) (1 : Int32).toNatClampNeg sS.1) (2 : Int32).toNatClampNeg sS.2.1)))], (mt cI cO zmo sS.2.1.toNatClampNeg sS.1.toNatClampNeg rmo mM), (mt cI cO z5 sS.2.1.toNatClampNeg sS.1.toNatClampNeg r6 r4)]) hP [4, 0, 1, 2, 5, 3] rfl
      have hD := sgD (L' := [[(zsi, .inr (5, [.int sS.1, .int sS.2.1, .int (bI sS.2.2.1), .int sS.2.2.2.1, .int sS.2.2.2.2.1, .int sS.2.2.2.2.2.1, .int sS.2.2.2.2.2.2.1, .int sS.2.2.2.2.2.2.2, .ref zmo]))], [(z1, .inl (cI, (sS.1 * sS.2.1).toNatClampNeg, .inl v96.2.1))], [(z3, .inl (cB, (sS.1 * sS.2.1).toNatClampNeg, .inl v96.2.2))], [(z118, .inl (cI, (11 : Int32).toNatClampNeg, .inl (upd (upd (upd (fun _ => 0) (0 : Int32).toNatClampNeg sS.2.2.2.2.2.1) (1 : Int32).toNatClampNeg sS.1) (2 : Int32).toNatClampNeg sS.2.1)))], (mt cI cO zmo sS.2.1.toNatClampNeg sS.1.toNatClampNeg rmo mM), (mt cI cO z5 sS.2.1.toNatClampNeg sS.1.toNatClampNeg r6 r4)]) hD [4, 0, 1, 2, 5, 3] (by decide) rfl
      clear hPc hDc hFc hP1 hD1 hk1 hJ
      refine va_iast hx hb hK hP hD hS 3 0 rfl rfl (i := (3 : Int32)) (by unfold vp_in; decide) dX6_counts_246 (fun H locs hP hD hS => ?_)
      have hP : va_P (dC, dI) vwCl (wJ [[(zsi, .inr (5, [.int sS.1, .int sS.2.1, .int (bI sS.2.2.1), .int sS.2.2.2.1, .int sS.2.2.2.2.1, .int sS.2.2.2.2.2.1, .int sS.2.2.2.2.2.2.1, .int sS.2.2.2.2.2.2.2, .ref zmo]))], [(z1, .inl (cI, (sS.1 * sS.2.1).toNatClampNeg, .inl v96.2.1))], [(z3, .inl (cB, (sS.1 * sS.2.1).toNatClampNeg, .inl v96.2.2))], [(z118, .inl (cI, (11 : Int32).toNatClampNeg, .inl (upd (upd (upd (upd (fun _ => 0) (0 : Int32).toNatClampNeg sS.2.2.2.2.2.1) (1 : Int32).toNatClampNeg sS.1) (2 : Int32).toNatClampNeg sS.2.1) (3 : Int32).toNatClampNeg r119)))], (mt cI cO zmo sS.2.1.toNatClampNeg sS.1.toNatClampNeg rmo mM), (mt cI cO z5 sS.2.1.toNatClampNeg sS.1.toNatClampNeg r6 r4)]) H := hP
      have hD : va_D (A_X6_counts cI cJ cO cB zsi zmo rmo sS mM s.heap.size) (wJ [[(zsi, .inr (5, [.int sS.1, .int sS.2.1, .int (bI sS.2.2.1), .int sS.2.2.2.1, .int sS.2.2.2.2.1, .int sS.2.2.2.2.2.1, .int sS.2.2.2.2.2.2.1, .int sS.2.2.2.2.2.2.2, .ref zmo]))], [(z1, .inl (cI, (sS.1 * sS.2.1).toNatClampNeg, .inl v96.2.1))], [(z3, .inl (cB, (sS.1 * sS.2.1).toNatClampNeg, .inl v96.2.2))], [(z118, .inl (cI, (11 : Int32).toNatClampNeg, .inl (upd (upd (upd (upd (fun _ => 0) (0 : Int32).toNatClampNeg sS.2.2.2.2.2.1) (1 : Int32).toNatClampNeg sS.1) (2 : Int32).toNatClampNeg sS.2.1) (3 : Int32).toNatClampNeg r119)))], (mt cI cO zmo sS.2.1.toNatClampNeg sS.1.toNatClampNeg rmo mM), (mt cI cO z5 sS.2.1.toNatClampNeg sS.1.toNatClampNeg r6 r4)]) := hD
      refine lv_dup hx hb dX6_counts_247 rfl ?_
      refine lv_iconst (v := 4) hx hb dX6_counts_248 (by decide) ?_
      refine lv_aload_n hx hb dX6_counts_249 rfl (lv_at hl 0 rfl) ?_
      refine va_get (D := (dC, dI)) (ci := 5) (v := .int sS.2.2.2.2.2.2.1) (C := RX6) (T := TX6) (N := 9) hx hb hts hinX6 hown hK hP 0 rfl rfl 6 (by decide) hw10 (fun _ h9 => h9) rfl dX6_counts_250 ?_
      refine va_iast hx hb hK hP hD hS 3 0 rfl rfl (i := (4 : Int32)) (by unfold vp_in; decide) dX6_counts_253 (fun H locs hP hD hS => ?_)
      have hP : va_P (dC, dI) vwCl (wJ [[(zsi, .inr (5, [.int sS.1, .int sS.2.1, .int (bI sS.2.2.1), .int sS.2.2.2.1, .int sS.2.2.2.2.1, .int sS.2.2.2.2.2.1, .int sS.2.2.2.2.2.2.1, .int sS.2.2.2.2.2.2.2, .ref zmo]))], [(z1, .inl (cI, (sS.1 * sS.2.1).toNatClampNeg, .inl v96.2.1))], [(z3, .inl (cB, (sS.1 * sS.2.1).toNatClampNeg, .inl v96.2.2))], [(z118, .inl (cI, (11 : Int32).toNatClampNeg, .inl (upd (upd (upd (upd (upd (fun _ => 0) (0 : Int32).toNatClampNeg sS.2.2.2.2.2.1) (1 : Int32).toNatClampNeg sS.1) (2 : Int32).toNatClampNeg sS.2.1) (3 : Int32).toNatClampNeg r119) (4 : Int32).toNatClampNeg sS.2.2.2.2.2.2.1)))], (mt cI cO zmo sS.2.1.toNatClampNeg sS.1.toNatClampNeg rmo mM), (mt cI cO z5 sS.2.1.toNatClampNeg sS.1.toNatClampNeg r6 r4)]) H := hP
      have hD : va_D (A_X6_counts cI cJ cO cB zsi zmo rmo sS mM s.heap.size) (wJ [[(zsi, .inr (5, [.int sS.1, .int sS.2.1, .int (bI sS.2.2.1), .int sS.2.2.2.1, .int sS.2.2.2.2.1, .int sS.2.2.2.2.2.1, .int sS.2.2.2.2.2.2.1, .int sS.2.2.2.2.2.2.2, .ref zmo]))], [(z1, .inl (cI, (sS.1 * sS.2.1).toNatClampNeg, .inl v96.2.1))], [(z3, .inl (cB, (sS.1 * sS.2.1).toNatClampNeg, .inl v96.2.2))], [(z118, .inl (cI, (11 : Int32).toNatClampNeg, .inl (upd (upd (upd (upd (upd (fun _ => 0) (0 : Int32).toNatClampNeg sS.2.2.2.2.2.1) (1 : Int32).toNatClampNeg sS.1) (2 : Int32).toNatClampNeg sS.2.1) (3 : Int32).toNatClampNeg r119) (4 : Int32).toNatClampNeg sS.2.2.2.2.2.2.1)))], (mt cI cO zmo sS.2.1.toNatClampNeg sS.1.toNatClampNeg rmo mM), (mt cI cO z5 sS.2.1.toNatClampNeg sS.1.toNatClampNeg r6 r4)]) := hD
      refine lv_dup hx hb dX6_counts_254 rfl ?_
      refine lv_iconst (v := 5) hx hb dX6_counts_255 (by decide) ?_
      refine lv_aload_n hx hb dX6_counts_256 rfl (lv_at hl 0 rfl) ?_
      refine va_get (D := (dC, dI)) (ci := 5) (v := .int sS.2.2.2.2.2.2.2) (C := RX6) (T := TX6) (N := 9) hx hb hts hinX6 hown hK hP 0 rfl rfl 7 (by decide) hw11 (fun _ h9 => h9) rfl dX6_counts_257 ?_
      refine va_iast hx hb hK hP hD hS 3 0 rfl rfl (i := (5 : Int32)) (by unfold vp_in; decide) dX6_counts_260 (fun H locs hP hD hS => ?_)
      have hP : va_P (dC, dI) vwCl (wJ [[(zsi, .inr (5, [.int sS.1, .int sS.2.1, .int (bI sS.2.2.1), .int sS.2.2.2.1, .int sS.2.2.2.2.1, .int sS.2.2.2.2.2.1, .int sS.2.2.2.2.2.2.1, .int sS.2.2.2.2.2.2.2, .ref zmo]))], [(z1, .inl (cI, (sS.1 * sS.2.1).toNatClampNeg, .inl v96.2.1))], [(z3, .inl (cB, (sS.1 * sS.2.1).toNatClampNeg, .inl v96.2.2))], [(z118, .inl (cI, (11 : Int32).toNatClampNeg, .inl (upd (upd (upd (upd (upd (upd (fun _ => 0) (0 : Int32).toNatClampNeg sS.2.2.2.2.2.1) (1 : Int32).toNatClampNeg sS.1) (2 : Int32).toNatClampNeg sS.2.1) (3 : Int32).toNatClampNeg r119) (4 : Int32).toNatClampNeg sS.2.2.2.2.2.2.1) (5 : Int32).toNatClampNeg sS.2.2.2.2.2.2.2)))], (mt cI cO zmo sS.2.1.toNatClampNeg sS.1.toNatClampNeg rmo mM), (mt cI cO z5 sS.2.1.toNatClampNeg sS.1.toNatClampNeg r6 r4)]) H := hP
      have hD : va_D (A_X6_counts cI cJ cO cB zsi zmo rmo sS mM s.heap.size) (wJ [[(zsi, .inr (5, [.int sS.1, .int sS.2.1, .int (bI sS.2.2.1), .int sS.2.2.2.1, .int sS.2.2.2.2.1, .int sS.2.2.2.2.2.1, .int sS.2.2.2.2.2.2.1, .int sS.2.2.2.2.2.2.2, .ref zmo]))], [(z1, .inl (cI, (sS.1 * sS.2.1).toNatClampNeg, .inl v96.2.1))], [(z3, .inl (cB, (sS.1 * sS.2.1).toNatClampNeg, .inl v96.2.2))], [(z118, .inl (cI, (11 : Int32).toNatClampNeg, .inl (upd (upd (upd (upd (upd (upd (fun _ => 0) (0 : Int32).toNatClampNeg sS.2.2.2.2.2.1) (1 : Int32).toNatClampNeg sS.1) (2 : Int32).toNatClampNeg sS.2.1) (3 : Int32).toNatClampNeg r119) (4 : Int32).toNatClampNeg sS.2.2.2.2.2.2.1) (5 : Int32).toNatClampNeg sS.2.2.2.2.2.2.2)))], (mt cI cO zmo sS.2.1.toNatClampNeg sS.1.toNatClampNeg rmo mM), (mt cI cO z5 sS.2.1.toNatClampNeg sS.1.toNatClampNeg r6 r4)]) := hD
      refine lv_dup hx hb dX6_counts_261 rfl ?_
      refine lv_bipush (v := 6) hx hb dX6_counts_262 (by decide) ?_
      refine lv_aload_n hx hb dX6_counts_264 rfl (lv_at hl 0 rfl) ?_
      refine va_get (D := (dC, dI)) (ci := 5) (v := .int (bI sS.2.2.1)) (C := RX6) (T := TX6) (N := 9) hx hb hts hinX6 hown hK hP 0 rfl rfl 2 (by decide) hw12 (fun _ h9 => h9) rfl dX6_counts_265 ?_
      obtain ⟨v120, hv, hf⟩ := vbind hf
      have K123 : ∀ (H : Heap) (locs : List Loc) (ls : Array Slot), va_P (dC, dI) vwCl (wJ [[(zsi, .inr (5, [.int sS.1, .int sS.2.1, .int (bI sS.2.2.1), .int sS.2.2.2.1, .int sS.2.2.2.2.1, .int sS.2.2.2.2.2.1, .int sS.2.2.2.2.2.2.1, .int sS.2.2.2.2.2.2.2, .ref zmo]))], [(z1, .inl (cI, (sS.1 * sS.2.1).toNatClampNeg, .inl v96.2.1))], [(z3, .inl (cB, (sS.1 * sS.2.1).toNatClampNeg, .inl v96.2.2))], [(z118, .inl (cI, (11 : Int32).toNatClampNeg, .inl (upd (upd (upd (upd (upd (upd (fun _ => 0) (0 : Int32).toNatClampNeg sS.2.2.2.2.2.1) (1 : Int32).toNatClampNeg sS.1) (2 : Int32).toNatClampNeg sS.2.1) (3 : Int32).toNatClampNeg r119) (4 : Int32).toNatClampNeg sS.2.2.2.2.2.2.1) (5 : Int32).toNatClampNeg sS.2.2.2.2.2.2.2)))], (mt cI cO zmo sS.2.1.toNatClampNeg sS.1.toNatClampNeg rmo mM), (mt cI cO z5 sS.2.1.toNatClampNeg sS.1.toNatClampNeg r6 r4)]) H → va_D (A_X6_counts cI cJ cO cB zsi zmo rmo sS mM s.heap.size) (wJ [[(zsi, .inr (5, [.int sS.1, .int sS.2.1, .int (bI sS.2.2.1), .int sS.2.2.2.1, .int sS.2.2.2.2.1, .int sS.2.2.2.2.2.1, .int sS.2.2.2.2.2.2.1, .int sS.2.2.2.2.2.2.2, .ref zmo]))], [(z1, .inl (cI, (sS.1 * sS.2.1).toNatClampNeg, .inl v96.2.1))], [(z3, .inl (cB, (sS.1 * sS.2.1).toNatClampNeg, .inl v96.2.2))], [(z118, .inl (cI, (11 : Int32).toNatClampNeg, .inl (upd (upd (upd (upd (upd (upd (fun _ => 0) (0 : Int32).toNatClampNeg sS.2.2.2.2.2.1) (1 : Int32).toNatClampNeg sS.1) (2 : Int32).toNatClampNeg sS.2.1) (3 : Int32).toNatClampNeg r119) (4 : Int32).toNatClampNeg sS.2.2.2.2.2.2.1) (5 : Int32).toNatClampNeg sS.2.2.2.2.2.2.2)))], (mt cI cO zmo sS.2.1.toNatClampNeg sS.1.toNatClampNeg rmo mM), (mt cI cO z5 sS.2.1.toNatClampNeg sS.1.toNatClampNeg r6 r4)]) → va_S (A_X6_counts cI cJ cO cB zsi zmo rmo sS mM s.heap.size) s.heap H locs → lv_has ls 9 [(4, .int v96.1), (5, .int v117.1), (6, .int v117.2.1), (7, .int v117.2.2)] → W p l e rm_X6_counts s m args below meth c H locs 12 211 (MQ below (Q_X6_counts dC dI cI cJ cO cB zsi zmo rmo sS mM s.heap.size R) args s 12 211 (A_X6_counts cI cJ cO cB zsi zmo rmo sS mM s.heap.size)) (F0 m 276 ls [.int v120, .int 6, .ref z118, .ref z118]) := by
        intro H locs ls hP hD hS hl
        refine va_iast hx hb hK hP hD hS 3 0 rfl rfl (i := (6 : Int32)) (by unfold vp_in; decide) dX6_counts_276 (fun H locs hP hD hS => ?_)
        have hP : va_P (dC, dI) vwCl (wJ [[(zsi, .inr (5, [.int sS.1, .int sS.2.1, .int (bI sS.2.2.1), .int sS.2.2.2.1, .int sS.2.2.2.2.1, .int sS.2.2.2.2.2.1, .int sS.2.2.2.2.2.2.1, .int sS.2.2.2.2.2.2.2, .ref zmo]))], [(z1, .inl (cI, (sS.1 * sS.2.1).toNatClampNeg, .inl v96.2.1))], [(z3, .inl (cB, (sS.1 * sS.2.1).toNatClampNeg, .inl v96.2.2))], [(z118, .inl (cI, (11 : Int32).toNatClampNeg, .inl (upd (upd (upd (upd (upd (upd (upd (fun _ => 0) (0 : Int32).toNatClampNeg sS.2.2.2.2.2.1) (1 : Int32).toNatClampNeg sS.1) (2 : Int32).toNatClampNeg sS.2.1) (3 : Int32).toNatClampNeg r119) (4 : Int32).toNatClampNeg sS.2.2.2.2.2.2.1) (5 : Int32).toNatClampNeg sS.2.2.2.2.2.2.2) (6 : Int32).toNatClampNeg v120)))], (mt cI cO zmo sS.2.1.toNatClampNeg sS.1.toNatClampNeg rmo mM), (mt cI cO z5 sS.2.1.toNatClampNeg sS.1.toNatClampNeg r6 r4)]) H := hP
        have hD : va_D (A_X6_counts cI cJ cO cB zsi zmo rmo sS mM s.heap.size) (wJ [[(zsi, .inr (5, [.int sS.1, .int sS.2.1, .int (bI sS.2.2.1), .int sS.2.2.2.1, .int sS.2.2.2.2.1, .int sS.2.2.2.2.2.1, .int sS.2.2.2.2.2.2.1, .int sS.2.2.2.2.2.2.2, .ref zmo]))], [(z1, .inl (cI, (sS.1 * sS.2.1).toNatClampNeg, .inl v96.2.1))], [(z3, .inl (cB, (sS.1 * sS.2.1).toNatClampNeg, .inl v96.2.2))], [(z118, .inl (cI, (11 : Int32).toNatClampNeg, .inl (upd (upd (upd (upd (upd (upd (upd (fun _ => 0) (0 : Int32).toNatClampNeg sS.2.2.2.2.2.1) (1 : Int32).toNatClampNeg sS.1) (2 : Int32).toNatClampNeg sS.2.1) (3 : Int32).toNatClampNeg r119) (4 : Int32).toNatClampNeg sS.2.2.2.2.2.2.1) (5 : Int32).toNatClampNeg sS.2.2.2.2.2.2.2) (6 : Int32).toNatClampNeg v120)))], (mt cI cO zmo sS.2.1.toNatClampNeg sS.1.toNatClampNeg rmo mM), (mt cI cO z5 sS.2.1.toNatClampNeg sS.1.toNatClampNeg r6 r4)]) := hD
        refine lv_dup hx hb dX6_counts_277 rfl ?_
        refine lv_bipush (v := 7) hx hb dX6_counts_278 (by decide) ?_
        refine lv_iload hx hb dX6_counts_280 (lv_at hl 1 rfl) ?_
        refine va_iast hx hb hK hP hD hS 3 0 rfl rfl (i := (7 : Int32)) (by unfold vp_in; decide) dX6_counts_282 (fun H locs hP hD hS => ?_)
        have hP : va_P (dC, dI) vwCl (wJ [[(zsi, .inr (5, [.int sS.1, .int sS.2.1, .int (bI sS.2.2.1), .int sS.2.2.2.1, .int sS.2.2.2.2.1, .int sS.2.2.2.2.2.1, .int sS.2.2.2.2.2.2.1, .int sS.2.2.2.2.2.2.2, .ref zmo]))], [(z1, .inl (cI, (sS.1 * sS.2.1).toNatClampNeg, .inl v96.2.1))], [(z3, .inl (cB, (sS.1 * sS.2.1).toNatClampNeg, .inl v96.2.2))], [(z118, .inl (cI, (11 : Int32).toNatClampNeg, .inl (upd (upd (upd (upd (upd (upd (upd (upd (fun _ => 0) (0 : Int32).toNatClampNeg sS.2.2.2.2.2.1) (1 : Int32).toNatClampNeg sS.1) (2 : Int32).toNatClampNeg sS.2.1) (3 : Int32).toNatClampNeg r119) (4 : Int32).toNatClampNeg sS.2.2.2.2.2.2.1) (5 : Int32).toNatClampNeg sS.2.2.2.2.2.2.2) (6 : Int32).toNatClampNeg v120) (7 : Int32).toNatClampNeg v117.1)))], (mt cI cO zmo sS.2.1.toNatClampNeg sS.1.toNatClampNeg rmo mM), (mt cI cO z5 sS.2.1.toNatClampNeg sS.1.toNatClampNeg r6 r4)]) H := hP
        have hD : va_D (A_X6_counts cI cJ cO cB zsi zmo rmo sS mM s.heap.size) (wJ [[(zsi, .inr (5, [.int sS.1, .int sS.2.1, .int (bI sS.2.2.1), .int sS.2.2.2.1, .int sS.2.2.2.2.1, .int sS.2.2.2.2.2.1, .int sS.2.2.2.2.2.2.1, .int sS.2.2.2.2.2.2.2, .ref zmo]))], [(z1, .inl (cI, (sS.1 * sS.2.1).toNatClampNeg, .inl v96.2.1))], [(z3, .inl (cB, (sS.1 * sS.2.1).toNatClampNeg, .inl v96.2.2))], [(z118, .inl (cI, (11 : Int32).toNatClampNeg, .inl (upd (upd (upd (upd (upd (upd (upd (upd (fun _ => 0) (0 : Int32).toNatClampNeg sS.2.2.2.2.2.1) (1 : Int32).toNatClampNeg sS.1) (2 : Int32).toNatClampNeg sS.2.1) (3 : Int32).toNatClampNeg r119) (4 : Int32).toNatClampNeg sS.2.2.2.2.2.2.1) (5 : Int32).toNatClampNeg sS.2.2.2.2.2.2.2) (6 : Int32).toNatClampNeg v120) (7 : Int32).toNatClampNeg v117.1)))], (mt cI cO zmo sS.2.1.toNatClampNeg sS.1.toNatClampNeg rmo mM), (mt cI cO z5 sS.2.1.toNatClampNeg sS.1.toNatClampNeg r6 r4)]) := hD
        refine lv_dup hx hb dX6_counts_283 rfl ?_
        refine lv_bipush (v := 8) hx hb dX6_counts_284 (by decide) ?_
        refine lv_iload hx hb dX6_counts_286 (lv_at hl 2 rfl) ?_
        refine va_iast hx hb hK hP hD hS 3 0 rfl rfl (i := (8 : Int32)) (by unfold vp_in; decide) dX6_counts_288 (fun H locs hP hD hS => ?_)
        have hP : va_P (dC, dI) vwCl (wJ [[(zsi, .inr (5, [.int sS.1, .int sS.2.1, .int (bI sS.2.2.1), .int sS.2.2.2.1, .int sS.2.2.2.2.1, .int sS.2.2.2.2.2.1, .int sS.2.2.2.2.2.2.1, .int sS.2.2.2.2.2.2.2, .ref zmo]))], [(z1, .inl (cI, (sS.1 * sS.2.1).toNatClampNeg, .inl v96.2.1))], [(z3, .inl (cB, (sS.1 * sS.2.1).toNatClampNeg, .inl v96.2.2))], [(z118, .inl (cI, (11 : Int32).toNatClampNeg, .inl (upd (upd (upd (upd (upd (upd (upd (upd (upd (fun _ => 0) (0 : Int32).toNatClampNeg sS.2.2.2.2.2.1) (1 : Int32).toNatClampNeg sS.1) (2 : Int32).toNatClampNeg sS.2.1) (3 : Int32).toNatClampNeg r119) (4 : Int32).toNatClampNeg sS.2.2.2.2.2.2.1) (5 : Int32).toNatClampNeg sS.2.2.2.2.2.2.2) (6 : Int32).toNatClampNeg v120) (7 : Int32).toNatClampNeg v117.1) (8 : Int32).toNatClampNeg v117.2.1)))], (mt cI cO zmo sS.2.1.toNatClampNeg sS.1.toNatClampNeg rmo mM), (mt cI cO z5 sS.2.1.toNatClampNeg sS.1.toNatClampNeg r6 r4)]) H := hP
        have hD : va_D (A_X6_counts cI cJ cO cB zsi zmo rmo sS mM s.heap.size) (wJ [[(zsi, .inr (5, [.int sS.1, .int sS.2.1, .int (bI sS.2.2.1), .int sS.2.2.2.1, .int sS.2.2.2.2.1, .int sS.2.2.2.2.2.1, .int sS.2.2.2.2.2.2.1, .int sS.2.2.2.2.2.2.2, .ref zmo]))], [(z1, .inl (cI, (sS.1 * sS.2.1).toNatClampNeg, .inl v96.2.1))], [(z3, .inl (cB, (sS.1 * sS.2.1).toNatClampNeg, .inl v96.2.2))], [(z118, .inl (cI, (11 : Int32).toNatClampNeg, .inl (upd (upd (upd (upd (upd (upd (upd (upd (upd (fun _ => 0) (0 : Int32).toNatClampNeg sS.2.2.2.2.2.1) (1 : Int32).toNatClampNeg sS.1) (2 : Int32).toNatClampNeg sS.2.1) (3 : Int32).toNatClampNeg r119) (4 : Int32).toNatClampNeg sS.2.2.2.2.2.2.1) (5 : Int32).toNatClampNeg sS.2.2.2.2.2.2.2) (6 : Int32).toNatClampNeg v120) (7 : Int32).toNatClampNeg v117.1) (8 : Int32).toNatClampNeg v117.2.1)))], (mt cI cO zmo sS.2.1.toNatClampNeg sS.1.toNatClampNeg rmo mM), (mt cI cO z5 sS.2.1.toNatClampNeg sS.1.toNatClampNeg r6 r4)]) := hD
        refine lv_dup hx hb dX6_counts_289 rfl ?_
        refine lv_bipush (v := 9) hx hb dX6_counts_290 (by decide) ?_
        refine lv_iload hx hb dX6_counts_292 (lv_at hl 3 rfl) ?_
        refine va_iast hx hb hK hP hD hS 3 0 rfl rfl (i := (9 : Int32)) (by unfold vp_in; decide) dX6_counts_294 (fun H locs hP hD hS => ?_)
        have hP : va_P (dC, dI) vwCl (wJ [[(zsi, .inr (5, [.int sS.1, .int sS.2.1, .int (bI sS.2.2.1), .int sS.2.2.2.1, .int sS.2.2.2.2.1, .int sS.2.2.2.2.2.1, .int sS.2.2.2.2.2.2.1, .int sS.2.2.2.2.2.2.2, .ref zmo]))], [(z1, .inl (cI, (sS.1 * sS.2.1).toNatClampNeg, .inl v96.2.1))], [(z3, .inl (cB, (sS.1 * sS.2.1).toNatClampNeg, .inl v96.2.2))], [(z118, .inl (cI, (11 : Int32).toNatClampNeg, .inl (upd (upd (upd (upd (upd (upd (upd (upd (upd (upd (fun _ => 0) (0 : Int32).toNatClampNeg sS.2.2.2.2.2.1) (1 : Int32).toNatClampNeg sS.1) (2 : Int32).toNatClampNeg sS.2.1) (3 : Int32).toNatClampNeg r119) (4 : Int32).toNatClampNeg sS.2.2.2.2.2.2.1) (5 : Int32).toNatClampNeg sS.2.2.2.2.2.2.2) (6 : Int32).toNatClampNeg v120) (7 : Int32).toNatClampNeg v117.1) (8 : Int32).toNatClampNeg v117.2.1) (9 : Int32).toNatClampNeg v117.2.2)))], (mt cI cO zmo sS.2.1.toNatClampNeg sS.1.toNatClampNeg rmo mM), (mt cI cO z5 sS.2.1.toNatClampNeg sS.1.toNatClampNeg r6 r4)]) H := hP
        have hD : va_D (A_X6_counts cI cJ cO cB zsi zmo rmo sS mM s.heap.size) (wJ [[(zsi, .inr (5, [.int sS.1, .int sS.2.1, .int (bI sS.2.2.1), .int sS.2.2.2.1, .int sS.2.2.2.2.1, .int sS.2.2.2.2.2.1, .int sS.2.2.2.2.2.2.1, .int sS.2.2.2.2.2.2.2, .ref zmo]))], [(z1, .inl (cI, (sS.1 * sS.2.1).toNatClampNeg, .inl v96.2.1))], [(z3, .inl (cB, (sS.1 * sS.2.1).toNatClampNeg, .inl v96.2.2))], [(z118, .inl (cI, (11 : Int32).toNatClampNeg, .inl (upd (upd (upd (upd (upd (upd (upd (upd (upd (upd (fun _ => 0) (0 : Int32).toNatClampNeg sS.2.2.2.2.2.1) (1 : Int32).toNatClampNeg sS.1) (2 : Int32).toNatClampNeg sS.2.1) (3 : Int32).toNatClampNeg r119) (4 : Int32).toNatClampNeg sS.2.2.2.2.2.2.1) (5 : Int32).toNatClampNeg sS.2.2.2.2.2.2.2) (6 : Int32).toNatClampNeg v120) (7 : Int32).toNatClampNeg v117.1) (8 : Int32).toNatClampNeg v117.2.1) (9 : Int32).toNatClampNeg v117.2.2)))], (mt cI cO zmo sS.2.1.toNatClampNeg sS.1.toNatClampNeg rmo mM), (mt cI cO z5 sS.2.1.toNatClampNeg sS.1.toNatClampNeg r6 r4)]) := hD
        refine lv_dup hx hb dX6_counts_295 rfl ?_
        refine lv_bipush (v := 10) hx hb dX6_counts_296 (by decide) ?_
        refine lv_iload hx hb dX6_counts_298 (lv_at hl 0 rfl) ?_
        refine va_iast hx hb hK hP hD hS 3 0 rfl rfl (i := (10 : Int32)) (by unfold vp_in; decide) dX6_counts_300 (fun H locs hP hD hS => ?_)
        have hP : va_P (dC, dI) vwCl (wJ [[(zsi, .inr (5, [.int sS.1, .int sS.2.1, .int (bI sS.2.2.1), .int sS.2.2.2.1, .int sS.2.2.2.2.1, .int sS.2.2.2.2.2.1, .int sS.2.2.2.2.2.2.1, .int sS.2.2.2.2.2.2.2, .ref zmo]))], [(z1, .inl (cI, (sS.1 * sS.2.1).toNatClampNeg, .inl v96.2.1))], [(z3, .inl (cB, (sS.1 * sS.2.1).toNatClampNeg, .inl v96.2.2))], [(z118, .inl (cI, (11 : Int32).toNatClampNeg, .inl (upd (upd (upd (upd (upd (upd (upd (upd (upd (upd (upd (fun _ => 0) (0 : Int32).toNatClampNeg sS.2.2.2.2.2.1) (1 : Int32).toNatClampNeg sS.1) (2 : Int32).toNatClampNeg sS.2.1) (3 : Int32).toNatClampNeg r119) (4 : Int32).toNatClampNeg sS.2.2.2.2.2.2.1) (5 : Int32).toNatClampNeg sS.2.2.2.2.2.2.2) (6 : Int32).toNatClampNeg v120) (7 : Int32).toNatClampNeg v117.1) (8 : Int32).toNatClampNeg v117.2.1) (9 : Int32).toNatClampNeg v117.2.2) (10 : Int32).toNatClampNeg v96.1)))], (mt cI cO zmo sS.2.1.toNatClampNeg sS.1.toNatClampNeg rmo mM), (mt cI cO z5 sS.2.1.toNatClampNeg sS.1.toNatClampNeg r6 r4)]) H := hP
        have hD : va_D (A_X6_counts cI cJ cO cB zsi zmo rmo sS mM s.heap.size) (wJ [[(zsi, .inr (5, [.int sS.1, .int sS.2.1, .int (bI sS.2.2.1), .int sS.2.2.2.1, .int sS.2.2.2.2.1, .int sS.2.2.2.2.2.1, .int sS.2.2.2.2.2.2.1, .int sS.2.2.2.2.2.2.2, .ref zmo]))], [(z1, .inl (cI, (sS.1 * sS.2.1).toNatClampNeg, .inl v96.2.1))], [(z3, .inl (cB, (sS.1 * sS.2.1).toNatClampNeg, .inl v96.2.2))], [(z118, .inl (cI, (11 : Int32).toNatClampNeg, .inl (upd (upd (upd (upd (upd (upd (upd (upd (upd (upd (upd (fun _ => 0) (0 : Int32).toNatClampNeg sS.2.2.2.2.2.1) (1 : Int32).toNatClampNeg sS.1) (2 : Int32).toNatClampNeg sS.2.1) (3 : Int32).toNatClampNeg r119) (4 : Int32).toNatClampNeg sS.2.2.2.2.2.2.1) (5 : Int32).toNatClampNeg sS.2.2.2.2.2.2.2) (6 : Int32).toNatClampNeg v120) (7 : Int32).toNatClampNeg v117.1) (8 : Int32).toNatClampNeg v117.2.1) (9 : Int32).toNatClampNeg v117.2.2) (10 : Int32).toNatClampNeg v96.1)))], (mt cI cO zmo sS.2.1.toNatClampNeg sS.1.toNatClampNeg rmo mM), (mt cI cO z5 sS.2.1.toNatClampNeg sS.1.toNatClampNeg r6 r4)]) := hD
        obtain rfl := Option.some.inj hf
        have hP := sgP (L' := [[(zsi, .inr (5, [.int sS.1, .int sS.2.1, .int (bI sS.2.2.1), .int sS.2.2.2.1, .int sS.2.2.2.2.1, .int sS.2.2.2.2.2.1, .int sS.2.2.2.2.2.2.1, .int sS.2.2.2.2.2.2.2, .ref zmo]))], [(z118, .inl (cI, (11 : Int32).toNatClampNeg, .inl (upd (upd (upd (upd (upd (upd (upd (upd (upd (upd (upd (fun _ => 0) (0 : Int32).toNatClampNeg sS.2.2.2.2.2.1) (1 : Int32).toNatClampNeg sS.1) (2 : Int32).toNatClampNeg sS.2.1) (3 : Int32).toNatClampNeg r119) (4 : Int32).toNatClampNeg sS.2.2.2.2.2.2.1) (5 : Int32).toNatClampNeg sS.2.2.2.2.2.2.2) (6 : Int32).toNatClampNeg v120) (7 : Int32).toNatClampNeg v117.1) (8 : Int32).toNatClampNeg v117.2.1) (9 : Int32).toNatClampNeg v117.2.2) (10 : Int32).toNatClampNeg v96.1)))], (mt cI cO zmo sS.2.1.toNatClampNeg sS.1.toNatClampNeg rmo mM)]) hP [0, 3, 4] rfl
        have hD := sgD (L' := [[(zsi, .inr (5, [.int sS.1, .int sS.2.1, .int (bI sS.2.2.1), .int sS.2.2.2.1, .int sS.2.2.2.2.1, .int sS.2.2.2.2.2.1, .int sS.2.2.2.2.2.2.1, .int sS.2.2.2.2.2.2.2, .ref zmo]))], [(z118, .inl (cI, (11 : Int32).toNatClampNeg, .inl (upd (upd (upd (upd (upd (upd (upd (upd (upd (upd (upd (fun _ => 0) (0 : Int32).toNatClampNeg sS.2.2.2.2.2.1) (1 : Int32).toNatClampNeg sS.1) (2 : Int32).toNatClampNeg sS.2.1) (3 : Int32).toNatClampNeg r119) (4 : Int32).toNatClampNeg sS.2.2.2.2.2.2.1) (5 : Int32).toNatClampNeg sS.2.2.2.2.2.2.2) (6 : Int32).toNatClampNeg v120) (7 : Int32).toNatClampNeg v117.1) (8 : Int32).toNatClampNeg v117.2.1) (9 : Int32).toNatClampNeg v117.2.2) (10 : Int32).toNatClampNeg v96.1)))], (mt cI cO zmo sS.2.1.toNatClampNeg sS.1.toNatClampNeg rmo mM)]) hD [0, 3, 4] (by decide) rfl
        exact W.aret hx hb hr (Or.inr ⟨_, rfl⟩) (Or.inr ⟨_, rfl⟩) (fun t ht hW => ⟨⟨(), z118, rfl, trivial, by rw [ht]; exact hP, va_K.moved hW.alike hK, hD⟩, hS.F ht⟩) hS.2.2 dX6_counts_301
      clear hf; have hf := hv; clear hv
      refine lv_if_eq (tgt := 275) hx hb dX6_counts_268 (by decide) (fun hc => ?_) (fun hc => ?_)
      · rw [if_pos hc] at hf
        refine lv_iconst (v := 0) hx hb dX6_counts_275 (by decide) ?_
        obtain rfl := hf
        exact K123 _ _ _ hP hD hS (lv_sub hl [1, 2, 3, 4] rfl)
      · rw [if_neg hc] at hf
        refine lv_iconst (v := 1) hx hb dX6_counts_271 (by decide) ?_
        refine lv_goto (tgt := 276) hx hb dX6_counts_272 (by decide) ?_
        obtain rfl := hf
        exact K123 _ _ _ hP hD hS (lv_sub hl [1, 2, 3, 4] rfl)
    have lp124 : ∀ (nf143 : Nat) (y109 : Int32) (y110 : Int32) (y111 : Int32) (y112 : Int32) (H : Heap) (locs : List Loc) (ls : Array Slot), lp_X6_counts_143 sS v96 nf143 y109 y110 y111 y112 = some v117 → va_P (dC, dI) vwCl (wJ [[(zsi, .inr (5, [.int sS.1, .int sS.2.1, .int (bI sS.2.2.1), .int sS.2.2.2.1, .int sS.2.2.2.2.1, .int sS.2.2.2.2.2.1, .int sS.2.2.2.2.2.2.1, .int sS.2.2.2.2.2.2.2, .ref zmo]))], [(z1, .inl (cI, (sS.1 * sS.2.1).toNatClampNeg, .inl v96.2.1))], [(z3, .inl (cB, (sS.1 * sS.2.1).toNatClampNeg, .inl v96.2.2))], (mt cI cO zmo sS.2.1.toNatClampNeg sS.1.toNatClampNeg rmo mM), (mt cI cO z5 sS.2.1.toNatClampNeg sS.1.toNatClampNeg r6 r4)]) H → va_D (A_X6_counts cI cJ cO cB zsi zmo rmo sS mM s.heap.size) (wJ [[(zsi, .inr (5, [.int sS.1, .int sS.2.1, .int (bI sS.2.2.1), .int sS.2.2.2.1, .int sS.2.2.2.2.1, .int sS.2.2.2.2.2.1, .int sS.2.2.2.2.2.2.1, .int sS.2.2.2.2.2.2.2, .ref zmo]))], [(z1, .inl (cI, (sS.1 * sS.2.1).toNatClampNeg, .inl v96.2.1))], [(z3, .inl (cB, (sS.1 * sS.2.1).toNatClampNeg, .inl v96.2.2))], (mt cI cO zmo sS.2.1.toNatClampNeg sS.1.toNatClampNeg rmo mM), (mt cI cO z5 sS.2.1.toNatClampNeg sS.1.toNatClampNeg r6 r4)]) → va_S (A_X6_counts cI cJ cO cB zsi zmo rmo sS mM s.heap.size) s.heap H locs → lv_has ls 9 [(0, .ref zsi), (1, .ref z1), (2, .ref z3), (4, .int v96.1), (5, .int y109), (6, .int y110), (7, .int y111), (8, .int y112)] → W p l e rm_X6_counts s m args below meth c H locs 11 200 (MQ below (Q_X6_counts dC dI cI cJ cO cB zsi zmo rmo sS mM s.heap.size R) args s 12 211 (A_X6_counts cI cJ cO cB zsi zmo rmo sS mM s.heap.size)) (F0 m 143 ls []) := by
      intro nf143
      induction nf143 with
      | zero => intro y109 y110 y111 y112 H locs ls h9; exact nomatch h9
      | succ nf143 ih125 =>
        intro y109 y110 y111 y112 H locs ls hf hP hD hS hl
        rw [lp_X6_counts_143.eq_2] at hf
        refine lv_iload hx hb dX6_counts_143 (lv_at hl 7 rfl) ?_
        refine lv_aload_n hx hb dX6_counts_145 rfl (lv_at hl 0 rfl) ?_
        refine va_get (D := (dC, dI)) (ci := 5) (v := .int sS.1) (C := RX6) (T := TX6) (N := 9) hx hb hts hinX6 hown hK hP 0 rfl rfl 0 (by decide) hw0 (fun _ h9 => h9) rfl dX6_counts_146 ?_
        refine lv_aload_n hx hb dX6_counts_149 rfl (lv_at hl 0 rfl) ?_
        refine va_get (D := (dC, dI)) (ci := 5) (v := .int sS.2.1) (C := RX6) (T := TX6) (N := 9) hx hb hts hinX6 hown hK hP 0 rfl rfl 1 (by decide) hw1 (fun _ h9 => h9) rfl dX6_counts_150 ?_
        refine lv_imul hx hb dX6_counts_153 ?_
        refine lv_icmp_ge (tgt := 215) hx hb dX6_counts_154 (by decide) (fun hc => ?_) (fun hc => ?_)
        · rw [if_pos hc] at hf
          obtain rfl := Option.some.inj hf
          exact K122 _ _ _ hP hD hS (lv_sub hl [0, 3, 4, 5, 6] rfl)
        · rw [if_neg hc] at hf
          refine lv_iload hx hb dX6_counts_157 (lv_at hl 4 rfl) ?_
          refine lv_aload_n hx hb dX6_counts_159 rfl (lv_at hl 1 rfl) ?_
          refine lv_iload hx hb dX6_counts_160 (lv_at hl 7 rfl) ?_
          have hg113 : ¬ (y112 < 0 ∨ (sS.1 * sS.2.1).toNatClampNeg ≤ y112.toNatClampNeg) := fun hq => by rw [if_pos hq] at hf; exact nomatch hf
          rw [if_neg hg113] at hf
          refine va_iald hx hb hK hP 1 0 rfl rfl (i := y112) hg113 dX6_counts_162 ?_
          obtain ⟨v114, hv, hf⟩ := vbind hf
          have K126 : ∀ (H : Heap) (locs : List Loc) (ls : Array Slot), va_P (dC, dI) vwCl (wJ [[(zsi, .inr (5, [.int sS.1, .int sS.2.1, .int (bI sS.2.2.1), .int sS.2.2.2.1, .int sS.2.2.2.2.1, .int sS.2.2.2.2.2.1, .int sS.2.2.2.2.2.2.1, .int sS.2.2.2.2.2.2.2, .ref zmo]))], [(z1, .inl (cI, (sS.1 * sS.2.1).toNatClampNeg, .inl v96.2.1))], [(z3, .inl (cB, (sS.1 * sS.2.1).toNatClampNeg, .inl v96.2.2))], (mt cI cO zmo sS.2.1.toNatClampNeg sS.1.toNatClampNeg rmo mM), (mt cI cO z5 sS.2.1.toNatClampNeg sS.1.toNatClampNeg r6 r4)]) H → va_D (A_X6_counts cI cJ cO cB zsi zmo rmo sS mM s.heap.size) (wJ [[(zsi, .inr (5, [.int sS.1, .int sS.2.1, .int (bI sS.2.2.1), .int sS.2.2.2.1, .int sS.2.2.2.2.1, .int sS.2.2.2.2.2.1, .int sS.2.2.2.2.2.2.1, .int sS.2.2.2.2.2.2.2, .ref zmo]))], [(z1, .inl (cI, (sS.1 * sS.2.1).toNatClampNeg, .inl v96.2.1))], [(z3, .inl (cB, (sS.1 * sS.2.1).toNatClampNeg, .inl v96.2.2))], (mt cI cO zmo sS.2.1.toNatClampNeg sS.1.toNatClampNeg rmo mM), (mt cI cO z5 sS.2.1.toNatClampNeg sS.1.toNatClampNeg r6 r4)]) → va_S (A_X6_counts cI cJ cO cB zsi zmo rmo sS mM s.heap.size) s.heap H locs → lv_has ls 9 [(0, .ref zsi), (1, .ref z1), (2, .ref z3), (4, .int v96.1), (6, .int y110), (7, .int y111), (8, .int y112)] → W p l e rm_X6_counts s m args below meth c H locs 11 200 (MQ below (Q_X6_counts dC dI cI cJ cO cB zsi zmo rmo sS mM s.heap.size R) args s 12 211 (A_X6_counts cI cJ cO cB zsi zmo rmo sS mM s.heap.size)) (F0 m 171 ls [.int v114, .int y109]) := by
            intro H locs ls hP hD hS hl
            refine lv_iadd hx hb dX6_counts_171 ?_
            refine lv_istore (lv' := [(5, .int (y109 + v114)), (0, .ref zsi), (1, .ref z1), (2, .ref z3), (4, .int v96.1), (6, .int y110), (7, .int y111), (8, .int y112)]) hx hb dX6_counts_172 hl (by decide) rfl (fun ls hl => ?_)
            refine lv_iload hx hb dX6_counts_174 (lv_at hl 5 rfl) ?_
            refine lv_aload_n hx hb dX6_counts_176 rfl (lv_at hl 2 rfl) ?_
            refine lv_iload hx hb dX6_counts_177 (lv_at hl 7 rfl) ?_
            refine va_iald hx hb hK hP 1 0 rfl rfl (i := y112) hg113 dX6_counts_179 ?_
            refine va_mmax hx hb (hml.trans hl.1.symm) hown hw5 hw6 hw7 hw8 (Nat.le_of_ble_eq_true rfl) (Nat.le_of_ble_eq_true rfl) (Nat.le_of_ble_eq_true rfl) (Nat.le_of_ble_eq_true rfl) dX6_counts_180 ?_
            obtain ⟨x115, hx115, hf⟩ := vbind hf
            refine topi_e hx115 ?_
            refine lv_istore (lv' := [(6, .int x115), (5, .int (y109 + v114)), (0, .ref zsi), (1, .ref z1), (2, .ref z3), (4, .int v96.1), (7, .int y111), (8, .int y112)]) hx hb dX6_counts_183 hl (by decide) rfl (fun ls hl => ?_)
            refine lv_iload hx hb dX6_counts_185 (lv_at hl 6 rfl) ?_
            refine lv_aload_n hx hb dX6_counts_187 rfl (lv_at hl 3 rfl) ?_
            refine lv_iload hx hb dX6_counts_188 (lv_at hl 7 rfl) ?_
            refine va_iald hx hb hK hP 1 0 rfl rfl (i := y112) hg113 dX6_counts_190 ?_
            obtain ⟨v116, hv, hf⟩ := vbind hf
            have K127 : ∀ (H : Heap) (locs : List Loc) (ls : Array Slot), va_P (dC, dI) vwCl (wJ [[(zsi, .inr (5, [.int sS.1, .int sS.2.1, .int (bI sS.2.2.1), .int sS.2.2.2.1, .int sS.2.2.2.2.1, .int sS.2.2.2.2.2.1, .int sS.2.2.2.2.2.2.1, .int sS.2.2.2.2.2.2.2, .ref zmo]))], [(z1, .inl (cI, (sS.1 * sS.2.1).toNatClampNeg, .inl v96.2.1))], [(z3, .inl (cB, (sS.1 * sS.2.1).toNatClampNeg, .inl v96.2.2))], (mt cI cO zmo sS.2.1.toNatClampNeg sS.1.toNatClampNeg rmo mM), (mt cI cO z5 sS.2.1.toNatClampNeg sS.1.toNatClampNeg r6 r4)]) H → va_D (A_X6_counts cI cJ cO cB zsi zmo rmo sS mM s.heap.size) (wJ [[(zsi, .inr (5, [.int sS.1, .int sS.2.1, .int (bI sS.2.2.1), .int sS.2.2.2.1, .int sS.2.2.2.2.1, .int sS.2.2.2.2.2.1, .int sS.2.2.2.2.2.2.1, .int sS.2.2.2.2.2.2.2, .ref zmo]))], [(z1, .inl (cI, (sS.1 * sS.2.1).toNatClampNeg, .inl v96.2.1))], [(z3, .inl (cB, (sS.1 * sS.2.1).toNatClampNeg, .inl v96.2.2))], (mt cI cO zmo sS.2.1.toNatClampNeg sS.1.toNatClampNeg rmo mM), (mt cI cO z5 sS.2.1.toNatClampNeg sS.1.toNatClampNeg r6 r4)]) → va_S (A_X6_counts cI cJ cO cB zsi zmo rmo sS mM s.heap.size) s.heap H locs → lv_has ls 9 [(0, .ref zsi), (1, .ref z1), (2, .ref z3), (4, .int v96.1), (5, .int (y109 + v114)), (6, .int x115), (8, .int y112)] → W p l e rm_X6_counts s m args below meth c H locs 11 200 (MQ below (Q_X6_counts dC dI cI cJ cO cB zsi zmo rmo sS mM s.heap.size R) args s 12 211 (A_X6_counts cI cJ cO cB zsi zmo rmo sS mM s.heap.size)) (F0 m 206 ls [.int v116, .int y111]) := by
              intro H locs ls hP hD hS hl
              refine lv_iadd hx hb dX6_counts_206 ?_
              refine lv_istore (lv' := [(7, .int (y111 + v116)), (0, .ref zsi), (1, .ref z1), (2, .ref z3), (4, .int v96.1), (5, .int (y109 + v114)), (6, .int x115), (8, .int y112)]) hx hb dX6_counts_207 hl (by decide) rfl (fun ls hl => ?_)
              refine lv_iinc (v := (y112 + 1)) (lv' := [(8, .int (y112 + 1)), (7, .int (y111 + v116)), (0, .ref zsi), (1, .ref z1), (2, .ref z3), (4, .int v96.1), (5, .int (y109 + v114)), (6, .int x115)]) hx hb dX6_counts_209 hl (k := 7) rfl rfl (by decide) rfl (fun ls hl => ?_)
              refine lv_goto (tgt := 143) hx hb dX6_counts_212 (by decide) ?_
              exact ih125 _ _ _ _ _ _ _ hf hP hD hS (lv_sub hl [2, 3, 4, 5, 6, 7, 1, 0] rfl)
            clear hf; have hf := hv; clear hv
            refine lv_if_le (tgt := 205) hx hb dX6_counts_191 (by decide) (fun hc => ?_) (fun hc => ?_)
            · rw [if_pos hc] at hf
              refine lv_iconst (v := 0) hx hb dX6_counts_205 (by decide) ?_
              obtain rfl := hf
              exact K127 _ _ _ hP hD hS (lv_sub hl [2, 3, 4, 5, 1, 0, 7] rfl)
            · rw [if_neg hc] at hf
              refine lv_aload_n hx hb dX6_counts_194 rfl (lv_at hl 4 rfl) ?_
              refine lv_iload hx hb dX6_counts_195 (lv_at hl 7 rfl) ?_
              refine va_zald hx hb hK hP 2 3 rfl rfl (i := y112) hg113 dX6_counts_197 ?_
              refine lv_if_ne (tgt := 205) hx hb dX6_counts_198 (by decide) (fun hc => ?_) (fun hc => ?_)
              · rw [if_neg hc] at hf
                refine lv_iconst (v := 0) hx hb dX6_counts_205 (by decide) ?_
                obtain rfl := hf
                exact K127 _ _ _ hP hD hS (lv_sub hl [2, 3, 4, 5, 1, 0, 7] rfl)
              · rw [if_pos hc] at hf
                refine lv_iconst (v := 1) hx hb dX6_counts_201 (by decide) ?_
                refine lv_goto (tgt := 206) hx hb dX6_counts_202 (by decide) ?_
                obtain rfl := hf
                exact K127 _ _ _ hP hD hS (lv_sub hl [2, 3, 4, 5, 1, 0, 7] rfl)
          clear hf; have hf := hv; clear hv
          refine lv_if_le (tgt := 170) hx hb dX6_counts_163 (by decide) (fun hc => ?_) (fun hc => ?_)
          · rw [if_pos hc] at hf
            refine lv_iconst (v := 0) hx hb dX6_counts_170 (by decide) ?_
            obtain rfl := hf
            exact K126 _ _ _ hP hD hS (lv_sub hl [0, 1, 2, 3, 5, 6, 7] rfl)
          · rw [if_neg hc] at hf
            refine lv_iconst (v := 1) hx hb dX6_counts_166 (by decide) ?_
            refine lv_goto (tgt := 171) hx hb dX6_counts_167 (by decide) ?_
            obtain rfl := hf
            exact K126 _ _ _ hP hD hS (lv_sub hl [0, 1, 2, 3, 5, 6, 7] rfl)
    exact lp124 100 _ _ _ _ _ _ _ hv hP hD hS (lv_sub hl [4, 5, 6, 7, 3, 2, 1, 0] rfl)
  have lp128 : ∀ (nf35 : Nat) (y65 : Int32) (y66 : Int32) (y67 : Nat → Int32) (y68 : Nat → Int32) (H : Heap) (locs : List Loc) (ls : Array Slot), lp_X6_counts_35 sS mM r4 nf35 y65 y66 y67 y68 = some v96 → va_P (dC, dI) vwCl (wJ [[(zsi, .inr (5, [.int sS.1, .int sS.2.1, .int (bI sS.2.2.1), .int sS.2.2.2.1, .int sS.2.2.2.2.1, .int sS.2.2.2.2.2.1, .int sS.2.2.2.2.2.2.1, .int sS.2.2.2.2.2.2.2, .ref zmo]))], [(z1, .inl (cI, (sS.1 * sS.2.1).toNatClampNeg, .inl y67))], [(z3, .inl (cB, (sS.1 * sS.2.1).toNatClampNeg, .inl y68))], (mt cI cO zmo sS.2.1.toNatClampNeg sS.1.toNatClampNeg rmo mM), (mt cI cO z5 sS.2.1.toNatClampNeg sS.1.toNatClampNeg r6 r4)]) H → va_D (A_X6_counts cI cJ cO cB zsi zmo rmo sS mM s.heap.size) (wJ [[(zsi, .inr (5, [.int sS.1, .int sS.2.1, .int (bI sS.2.2.1), .int sS.2.2.2.1, .int sS.2.2.2.2.1, .int sS.2.2.2.2.2.1, .int sS.2.2.2.2.2.2.1, .int sS.2.2.2.2.2.2.2, .ref zmo]))], [(z1, .inl (cI, (sS.1 * sS.2.1).toNatClampNeg, .inl y67))], [(z3, .inl (cB, (sS.1 * sS.2.1).toNatClampNeg, .inl y68))], (mt cI cO zmo sS.2.1.toNatClampNeg sS.1.toNatClampNeg rmo mM), (mt cI cO z5 sS.2.1.toNatClampNeg sS.1.toNatClampNeg r6 r4)]) → va_S (A_X6_counts cI cJ cO cB zsi zmo rmo sS mM s.heap.size) s.heap H locs → lv_has ls 9 [(0, .ref zsi), (1, .ref z1), (2, .ref z3), (3, .ref z5), (4, .int y65), (5, .int y66)] → W p l e rm_X6_counts s m args below meth c H locs 11 200 (MQ below (Q_X6_counts dC dI cI cJ cO cB zsi zmo rmo sS mM s.heap.size R) args s 12 211 (A_X6_counts cI cJ cO cB zsi zmo rmo sS mM s.heap.size)) (F0 m 35 ls []) := by
    intro nf35
    induction nf35 with
    | zero => intro y65 y66 y67 y68 H locs ls h9; exact nomatch h9
    | succ nf35 ih129 =>
      intro y65 y66 y67 y68 H locs ls hf hP hD hS hl
      rw [lp_X6_counts_35.eq_2] at hf
      refine lv_iload hx hb dX6_counts_35 (lv_at hl 5 rfl) ?_
      refine lv_aload_n hx hb dX6_counts_37 rfl (lv_at hl 0 rfl) ?_
      refine va_get (D := (dC, dI)) (ci := 5) (v := .int sS.2.1) (C := RX6) (T := TX6) (N := 9) hx hb hts hinX6 hown hK hP 0 rfl rfl 1 (by decide) hw1 (fun _ h9 => h9) rfl dX6_counts_38 ?_
      refine lv_icmp_ge (tgt := 131) hx hb dX6_counts_41 (by decide) (fun hc => ?_) (fun hc => ?_)
      · rw [if_pos hc] at hf
        obtain rfl := Option.some.inj hf
        exact K121 _ _ _ hP hD hS (lv_sub hl [0, 1, 2, 4] rfl)
      · rw [if_neg hc] at hf
        refine lv_iconst (v := 0) hx hb dX6_counts_44 (by decide) ?_
        refine lv_istore (lv' := [(6, .int 0), (0, .ref zsi), (1, .ref z1), (2, .ref z3), (3, .ref z5), (4, .int y65), (5, .int y66)]) hx hb dX6_counts_45 hl (by decide) rfl (fun ls hl => ?_)
        obtain ⟨v95, hv, hf⟩ := obind hf
        have K130 : ∀ (H : Heap) (locs : List Loc) (ls : Array Slot), va_P (dC, dI) vwCl (wJ [[(zsi, .inr (5, [.int sS.1, .int sS.2.1, .int (bI sS.2.2.1), .int sS.2.2.2.1, .int sS.2.2.2.2.1, .int sS.2.2.2.2.2.1, .int sS.2.2.2.2.2.2.1, .int sS.2.2.2.2.2.2.2, .ref zmo]))], [(z1, .inl (cI, (sS.1 * sS.2.1).toNatClampNeg, .inl v95.2.1))], [(z3, .inl (cB, (sS.1 * sS.2.1).toNatClampNeg, .inl v95.2.2))], (mt cI cO zmo sS.2.1.toNatClampNeg sS.1.toNatClampNeg rmo mM), (mt cI cO z5 sS.2.1.toNatClampNeg sS.1.toNatClampNeg r6 r4)]) H → va_D (A_X6_counts cI cJ cO cB zsi zmo rmo sS mM s.heap.size) (wJ [[(zsi, .inr (5, [.int sS.1, .int sS.2.1, .int (bI sS.2.2.1), .int sS.2.2.2.1, .int sS.2.2.2.2.1, .int sS.2.2.2.2.2.1, .int sS.2.2.2.2.2.2.1, .int sS.2.2.2.2.2.2.2, .ref zmo]))], [(z1, .inl (cI, (sS.1 * sS.2.1).toNatClampNeg, .inl v95.2.1))], [(z3, .inl (cB, (sS.1 * sS.2.1).toNatClampNeg, .inl v95.2.2))], (mt cI cO zmo sS.2.1.toNatClampNeg sS.1.toNatClampNeg rmo mM), (mt cI cO z5 sS.2.1.toNatClampNeg sS.1.toNatClampNeg r6 r4)]) → va_S (A_X6_counts cI cJ cO cB zsi zmo rmo sS mM s.heap.size) s.heap H locs → lv_has ls 9 [(0, .ref zsi), (1, .ref z1), (2, .ref z3), (3, .ref z5), (4, .int v95.1), (5, .int y66)] → W p l e rm_X6_counts s m args below meth c H locs 11 200 (MQ below (Q_X6_counts dC dI cI cJ cO cB zsi zmo rmo sS mM s.heap.size R) args s 12 211 (A_X6_counts cI cJ cO cB zsi zmo rmo sS mM s.heap.size)) (F0 m 125 ls []) := by
          intro H locs ls hP hD hS hl
          refine lv_iinc (v := (y66 + 1)) (lv' := [(5, .int (y66 + 1)), (0, .ref zsi), (1, .ref z1), (2, .ref z3), (3, .ref z5), (4, .int v95.1)]) hx hb dX6_counts_125 hl (k := 5) rfl rfl (by decide) rfl (fun ls hl => ?_)
          refine lv_goto (tgt := 35) hx hb dX6_counts_128 (by decide) ?_
          exact ih129 _ _ _ _ _ _ _ hf hP hD hS (lv_sub hl [1, 2, 3, 4, 5, 0] rfl)
        have lp131 : ∀ (nf47 : Nat) (y85 : Int32) (y86 : Int32) (y87 : Nat → Int32) (y88 : Nat → Int32) (H : Heap) (locs : List Loc) (ls : Array Slot), lp_X6_counts_47 sS mM r4 y66 nf47 y85 y86 y87 y88 = some v95 → va_P (dC, dI) vwCl (wJ [[(zsi, .inr (5, [.int sS.1, .int sS.2.1, .int (bI sS.2.2.1), .int sS.2.2.2.1, .int sS.2.2.2.2.1, .int sS.2.2.2.2.2.1, .int sS.2.2.2.2.2.2.1, .int sS.2.2.2.2.2.2.2, .ref zmo]))], [(z1, .inl (cI, (sS.1 * sS.2.1).toNatClampNeg, .inl y87))], [(z3, .inl (cB, (sS.1 * sS.2.1).toNatClampNeg, .inl y88))], (mt cI cO zmo sS.2.1.toNatClampNeg sS.1.toNatClampNeg rmo mM), (mt cI cO z5 sS.2.1.toNatClampNeg sS.1.toNatClampNeg r6 r4)]) H → va_D (A_X6_counts cI cJ cO cB zsi zmo rmo sS mM s.heap.size) (wJ [[(zsi, .inr (5, [.int sS.1, .int sS.2.1, .int (bI sS.2.2.1), .int sS.2.2.2.1, .int sS.2.2.2.2.1, .int sS.2.2.2.2.2.1, .int sS.2.2.2.2.2.2.1, .int sS.2.2.2.2.2.2.2, .ref zmo]))], [(z1, .inl (cI, (sS.1 * sS.2.1).toNatClampNeg, .inl y87))], [(z3, .inl (cB, (sS.1 * sS.2.1).toNatClampNeg, .inl y88))], (mt cI cO zmo sS.2.1.toNatClampNeg sS.1.toNatClampNeg rmo mM), (mt cI cO z5 sS.2.1.toNatClampNeg sS.1.toNatClampNeg r6 r4)]) → va_S (A_X6_counts cI cJ cO cB zsi zmo rmo sS mM s.heap.size) s.heap H locs → lv_has ls 9 [(0, .ref zsi), (1, .ref z1), (2, .ref z3), (3, .ref z5), (4, .int y85), (5, .int y66), (6, .int y86)] → W p l e rm_X6_counts s m args below meth c H locs 11 200 (MQ below (Q_X6_counts dC dI cI cJ cO cB zsi zmo rmo sS mM s.heap.size R) args s 12 211 (A_X6_counts cI cJ cO cB zsi zmo rmo sS mM s.heap.size)) (F0 m 47 ls []) := by
          intro nf47
          induction nf47 with
          | zero => intro y85 y86 y87 y88 H locs ls h9; exact nomatch h9
          | succ nf47 ih132 =>
            intro y85 y86 y87 y88 H locs ls hf hP hD hS hl
            rw [lp_X6_counts_47.eq_2] at hf
            refine lv_iload hx hb dX6_counts_47 (lv_at hl 6 rfl) ?_
            refine lv_aload_n hx hb dX6_counts_49 rfl (lv_at hl 0 rfl) ?_
            refine va_get (D := (dC, dI)) (ci := 5) (v := .int sS.1) (C := RX6) (T := TX6) (N := 9) hx hb hts hinX6 hown hK hP 0 rfl rfl 0 (by decide) hw0 (fun _ h9 => h9) rfl dX6_counts_50 ?_
            refine lv_icmp_ge (tgt := 125) hx hb dX6_counts_53 (by decide) (fun hc => ?_) (fun hc => ?_)
            · rw [if_pos hc] at hf
              obtain rfl := Option.some.inj hf
              exact K130 _ _ _ hP hD hS (lv_sub hl [0, 1, 2, 3, 4, 5] rfl)
            · rw [if_neg hc] at hf
              refine lv_iload hx hb dX6_counts_56 (lv_at hl 4 rfl) ?_
              refine lv_aload_n hx hb dX6_counts_58 rfl (lv_at hl 0 rfl) ?_
              refine va_get (D := (dC, dI)) (ci := 5) (v := .ref zmo) (C := RX6) (T := TX6) (N := 9) hx hb hts hinX6 hown hK hP 0 rfl rfl 8 (by decide) hw4 (fun _ h9 => h9) rfl dX6_counts_59 ?_
              refine lv_iload hx hb dX6_counts_62 (lv_at hl 5 rfl) ?_
              have hg89 : ¬ (y66 < 0 ∨ sS.2.1.toNatClampNeg ≤ y66.toNatClampNeg) := fun hq => by rw [if_pos hq] at hf; exact nomatch hf
              rw [if_neg hg89] at hf
              refine sg_aald hx hb hK hP 3 2 rfl rfl (i := y66) hg89 dX6_counts_64 ?_
              refine lv_iload hx hb dX6_counts_65 (lv_at hl 6 rfl) ?_
              have hg90 : ¬ (y86 < 0 ∨ sS.1.toNatClampNeg ≤ y86.toNatClampNeg) := fun hq => by rw [if_pos hq] at hf; exact nomatch hf
              rw [if_neg hg90] at hf
              refine sg_iald hx hb hK hP 3 0 rfl rfl (inRow hg89) (i := y86) hg90 dX6_counts_67 ?_
              refine va_mmax hx hb (hml.trans hl.1.symm) hown hw5 hw6 hw7 hw8 (Nat.le_of_ble_eq_true rfl) (Nat.le_of_ble_eq_true rfl) (Nat.le_of_ble_eq_true rfl) (Nat.le_of_ble_eq_true rfl) dX6_counts_68 ?_
              obtain ⟨x91, hx91, hf⟩ := vbind hf
              refine topi_e hx91 ?_
              refine lv_istore (lv' := [(4, .int x91), (0, .ref zsi), (1, .ref z1), (2, .ref z3), (3, .ref z5), (5, .int y66), (6, .int y86)]) hx hb dX6_counts_71 hl (by decide) rfl (fun ls hl => ?_)
              refine lv_aload_n hx hb dX6_counts_73 rfl (lv_at hl 4 rfl) ?_
              refine lv_iload hx hb dX6_counts_74 (lv_at hl 5 rfl) ?_
              refine sg_aald hx hb hK hP 4 2 rfl rfl (i := y66) hg89 dX6_counts_76 ?_
              refine lv_iload hx hb dX6_counts_77 (lv_at hl 6 rfl) ?_
              refine sg_iald hx hb hK hP 4 0 rfl rfl (inRow hg89) (i := y86) hg90 dX6_counts_79 ?_
              obtain ⟨v94, hv, hf⟩ := obind hf
              have K133 : ∀ (H : Heap) (locs : List Loc) (ls : Array Slot), va_P (dC, dI) vwCl (wJ [[(zsi, .inr (5, [.int sS.1, .int sS.2.1, .int (bI sS.2.2.1), .int sS.2.2.2.1, .int sS.2.2.2.2.1, .int sS.2.2.2.2.2.1, .int sS.2.2.2.2.2.2.1, .int sS.2.2.2.2.2.2.2, .ref zmo]))], [(z1, .inl (cI, (sS.1 * sS.2.1).toNatClampNeg, .inl v94.1))], [(z3, .inl (cB, (sS.1 * sS.2.1).toNatClampNeg, .inl v94.2))], (mt cI cO zmo sS.2.1.toNatClampNeg sS.1.toNatClampNeg rmo mM), (mt cI cO z5 sS.2.1.toNatClampNeg sS.1.toNatClampNeg r6 r4)]) H → va_D (A_X6_counts cI cJ cO cB zsi zmo rmo sS mM s.heap.size) (wJ [[(zsi, .inr (5, [.int sS.1, .int sS.2.1, .int (bI sS.2.2.1), .int sS.2.2.2.1, .int sS.2.2.2.2.1, .int sS.2.2.2.2.2.1, .int sS.2.2.2.2.2.2.1, .int sS.2.2.2.2.2.2.2, .ref zmo]))], [(z1, .inl (cI, (sS.1 * sS.2.1).toNatClampNeg, .inl v94.1))], [(z3, .inl (cB, (sS.1 * sS.2.1).toNatClampNeg, .inl v94.2))], (mt cI cO zmo sS.2.1.toNatClampNeg sS.1.toNatClampNeg rmo mM), (mt cI cO z5 sS.2.1.toNatClampNeg sS.1.toNatClampNeg r6 r4)]) → va_S (A_X6_counts cI cJ cO cB zsi zmo rmo sS mM s.heap.size) s.heap H locs → lv_has ls 9 [(0, .ref zsi), (1, .ref z1), (2, .ref z3), (3, .ref z5), (4, .int x91), (5, .int y66), (6, .int y86)] → W p l e rm_X6_counts s m args below meth c H locs 11 200 (MQ below (Q_X6_counts dC dI cI cJ cO cB zsi zmo rmo sS mM s.heap.size R) args s 12 211 (A_X6_counts cI cJ cO cB zsi zmo rmo sS mM s.heap.size)) (F0 m 119 ls []) := by
                intro H locs ls hP hD hS hl
                refine lv_iinc (v := (y86 + 1)) (lv' := [(6, .int (y86 + 1)), (0, .ref zsi), (1, .ref z1), (2, .ref z3), (3, .ref z5), (4, .int x91), (5, .int y66)]) hx hb dX6_counts_119 hl (k := 6) rfl rfl (by decide) rfl (fun ls hl => ?_)
                refine lv_goto (tgt := 47) hx hb dX6_counts_122 (by decide) ?_
                exact ih132 _ _ _ _ _ _ _ hf hP hD hS (lv_sub hl [1, 2, 3, 4, 5, 6, 0] rfl)
              clear hf; have hf := hv; clear hv
              refine lv_if_ge (tgt := 86) hx hb dX6_counts_80 (by decide) (fun hc => ?_) (fun hc => ?_)
              · rw [if_pos hc] at hf
                refine lv_aload_n hx hb dX6_counts_86 rfl (lv_at hl 2 rfl) ?_
                refine lv_aload_n hx hb dX6_counts_87 rfl (lv_at hl 4 rfl) ?_
                refine lv_iload hx hb dX6_counts_88 (lv_at hl 5 rfl) ?_
                refine sg_aald hx hb hK hP 4 2 rfl rfl (i := y66) hg89 dX6_counts_90 ?_
                refine lv_iload hx hb dX6_counts_91 (lv_at hl 6 rfl) ?_
                refine sg_iald hx hb hK hP 4 0 rfl rfl (inRow hg89) (i := y86) hg90 dX6_counts_93 ?_
                refine lv_dup2_11 hx hb dX6_counts_94 rfl rfl ?_
                have hg92 : ¬ ((r4 y66.toNatClampNeg y86.toNatClampNeg) < 0 ∨ (sS.1 * sS.2.1).toNatClampNeg ≤ (r4 y66.toNatClampNeg y86.toNatClampNeg).toNatClampNeg) := fun hq => by rw [if_pos hq] at hf; exact nomatch hf
                rw [if_neg hg92] at hf
                refine va_iald hx hb hK hP 1 0 rfl rfl (i := (r4 y66.toNatClampNeg y86.toNatClampNeg)) hg92 dX6_counts_95 ?_
                refine lv_iconst (v := 1) hx hb dX6_counts_96 (by decide) ?_
                refine lv_iadd hx hb dX6_counts_97 ?_
                refine va_iast hx hb hK hP hD hS 1 0 rfl rfl (i := (r4 y66.toNatClampNeg y86.toNatClampNeg)) hg92 dX6_counts_98 (fun H locs hP hD hS => ?_)
                have hP : va_P (dC, dI) vwCl (wJ [[(zsi, .inr (5, [.int sS.1, .int sS.2.1, .int (bI sS.2.2.1), .int sS.2.2.2.1, .int sS.2.2.2.2.1, .int sS.2.2.2.2.2.1, .int sS.2.2.2.2.2.2.1, .int sS.2.2.2.2.2.2.2, .ref zmo]))], [(z1, .inl (cI, (sS.1 * sS.2.1).toNatClampNeg, .inl (upd y87 (r4 y66.toNatClampNeg y86.toNatClampNeg).toNatClampNeg ((y87 (r4 y66.toNatClampNeg y86.toNatClampNeg).toNatClampNeg) + 1))))], [(z3, .inl (cB, (sS.1 * sS.2.1).toNatClampNeg, .inl y88))], (mt cI cO zmo sS.2.1.toNatClampNeg sS.1.toNatClampNeg rmo mM), (mt cI cO z5 sS.2.1.toNatClampNeg sS.1.toNatClampNeg r6 r4)]) H := hP
                have hD : va_D (A_X6_counts cI cJ cO cB zsi zmo rmo sS mM s.heap.size) (wJ [[(zsi, .inr (5, [.int sS.1, .int sS.2.1, .int (bI sS.2.2.1), .int sS.2.2.2.1, .int sS.2.2.2.2.1, .int sS.2.2.2.2.2.1, .int sS.2.2.2.2.2.2.1, .int sS.2.2.2.2.2.2.2, .ref zmo]))], [(z1, .inl (cI, (sS.1 * sS.2.1).toNatClampNeg, .inl (upd y87 (r4 y66.toNatClampNeg y86.toNatClampNeg).toNatClampNeg ((y87 (r4 y66.toNatClampNeg y86.toNatClampNeg).toNatClampNeg) + 1))))], [(z3, .inl (cB, (sS.1 * sS.2.1).toNatClampNeg, .inl y88))], (mt cI cO zmo sS.2.1.toNatClampNeg sS.1.toNatClampNeg rmo mM), (mt cI cO z5 sS.2.1.toNatClampNeg sS.1.toNatClampNeg r6 r4)]) := hD
                refine lv_aload_n hx hb dX6_counts_99 rfl (lv_at hl 3 rfl) ?_
                refine lv_aload_n hx hb dX6_counts_100 rfl (lv_at hl 4 rfl) ?_
                refine lv_iload hx hb dX6_counts_101 (lv_at hl 5 rfl) ?_
                refine sg_aald hx hb hK hP 4 2 rfl rfl (i := y66) hg89 dX6_counts_103 ?_
                refine lv_iload hx hb dX6_counts_104 (lv_at hl 6 rfl) ?_
                refine sg_iald hx hb hK hP 4 0 rfl rfl (inRow hg89) (i := y86) hg90 dX6_counts_106 ?_
                refine lv_dup2_11 hx hb dX6_counts_107 rfl rfl ?_
                refine va_zald hx hb hK hP 2 3 rfl rfl (i := (r4 y66.toNatClampNeg y86.toNatClampNeg)) hg92 dX6_counts_108 ?_
                refine lv_aload_n hx hb dX6_counts_109 rfl (lv_at hl 1 rfl) ?_
                refine lv_iload hx hb dX6_counts_110 (lv_at hl 6 rfl) ?_
                refine lv_iload hx hb dX6_counts_112 (lv_at hl 5 rfl) ?_
                obtain ⟨r93, hr93, hf⟩ := obind hf
                have hPc : va_P (dC, dI) vwCl (wJ [[(zsi, .inr (5, [.int sS.1, .int sS.2.1, .int (bI sS.2.2.1), .int sS.2.2.2.1, .int sS.2.2.2.2.1, .int sS.2.2.2.2.2.1, .int sS.2.2.2.2.2.2.1, .int sS.2.2.2.2.2.2.2, .ref zmo]))], (mt cI cO zmo sS.2.1.toNatClampNeg sS.1.toNatClampNeg rmo mM)]) H := sgP (L' := [[(zsi, .inr (5, [.int sS.1, .int sS.2.1, .int (bI sS.2.2.1), .int sS.2.2.2.1, .int sS.2.2.2.2.1, .int sS.2.2.2.2.2.1, .int sS.2.2.2.2.2.2.1, .int sS.2.2.2.2.2.2.2, .ref zmo]))], (mt cI cO zmo sS.2.1.toNatClampNeg sS.1.toNatClampNeg rmo mM)]) hP [0, 3] rfl
                have hDc : va_D (A_X6_counts cI cJ cO cB zsi zmo rmo sS mM s.heap.size) (wJ [[(zsi, .inr (5, [.int sS.1, .int sS.2.1, .int (bI sS.2.2.1), .int sS.2.2.2.1, .int sS.2.2.2.2.1, .int sS.2.2.2.2.2.1, .int sS.2.2.2.2.2.2.1, .int sS.2.2.2.2.2.2.2, .ref zmo]))], (mt cI cO zmo sS.2.1.toNatClampNeg sS.1.toNatClampNeg rmo mM)]) := sgD (L' := [[(zsi, .inr (5, [.int sS.1, .int sS.2.1, .int (bI sS.2.2.1), .int sS.2.2.2.1, .int sS.2.2.2.2.1, .int sS.2.2.2.2.2.1, .int sS.2.2.2.2.2.2.1, .int sS.2.2.2.2.2.2.2, .ref zmo]))], (mt cI cO zmo sS.2.1.toNatClampNeg sS.1.toNatClampNeg rmo mM)]) hD [0, 3] (by decide) rfl
                have hFc : ∀ q, va_A (wJ [[(zsi, .inr (5, [.int sS.1, .int sS.2.1, .int (bI sS.2.2.1), .int sS.2.2.2.1, .int sS.2.2.2.2.1, .int sS.2.2.2.2.2.1, .int sS.2.2.2.2.2.2.1, .int sS.2.2.2.2.2.2.2, .ref zmo]))], (mt cI cO zmo sS.2.1.toNatClampNeg sS.1.toNatClampNeg rmo mM)]) H.size q → (A_X6_counts cI cJ cO cB zsi zmo rmo sS mM s.heap.size) q := sg_free (W := [[(zsi, .inr (5, [.int sS.1, .int sS.2.1, .int (bI sS.2.2.1), .int sS.2.2.2.1, .int sS.2.2.2.2.1, .int sS.2.2.2.2.2.1, .int sS.2.2.2.2.2.2.1, .int sS.2.2.2.2.2.2.2, .ref zmo]))], (mt cI cO zmo sS.2.1.toNatClampNeg sS.1.toNatClampNeg rmo mM)]) hD hS hA [0, 3] rfl
                refine va_calli (va_runV (As := [.int y86, .int y66]) (rest := [.int (y88 (r4 y66.toNatClampNeg y86.toNatClampNeg).toNatClampNeg), .int (r4 y66.toNatClampNeg y86.toNatClampNeg), .ref z3]) ⟨hx, hb, hml, hown, hts⟩ (c_X6_comes l dC dI cI cJ cO cB zsi zmo H.size rmo sS mM y86 y66 _ hr93) (cwV 2 hts gX6_counts_X6_comes rfl rfl rfl (by decide +kernel) ⟨Nat.le_of_ble_eq_true rfl, Nat.le_of_ble_eq_true rfl⟩) ⟨fun a U gg mk q => by obtain ⟨q0, q1, qP, qK, qD⟩ := q; exact ⟨q0, q1, qP, va_K.moved (u := U) (U := U.calling gg mk a) (Vm.Alike.refl U.vm) qK, qD⟩, va_recv hK hPc (ci := 5) (q0 := 0) rfl rfl, fun U hU hW => ⟨rfl, by rw [hU], by rw [hU]; exact hPc, va_K.moved hW.alike hK, hDc.weaken (fun _ _ _ _ => trivial)⟩⟩ rfl rfl hl.1 rfl (lv_room (Nat.le_of_ble_eq_true rfl)) dX6_counts_114 ⟨(Nat.le_of_ble_eq_true rfl), (Nat.le_of_ble_eq_true rfl)⟩) hS (fun q _ h => hFc q h) hFc (fun r_ u_ t H locs ht hvm hw hB hz1 hk1 hS => ?_)
                obtain rfl := hw.symm
                obtain ⟨hP1, -, hD1⟩ := hB
                rw [ht] at hP1
                have hJ := sg_join2 (W := [[(zsi, .inr (5, [.int sS.1, .int sS.2.1, .int (bI sS.2.2.1), .int sS.2.2.2.1, .int sS.2.2.2.2.1, .int sS.2.2.2.2.2.1, .int sS.2.2.2.2.2.2.1, .int sS.2.2.2.2.2.2.2, .ref zmo]))], (mt cI cO zmo sS.2.1.toNatClampNeg sS.1.toNatClampNeg rmo mM)]) (R := [[(z1, .inl (cI, (sS.1 * sS.2.1).toNatClampNeg, .inl (upd y87 (r4 y66.toNatClampNeg y86.toNatClampNeg).toNatClampNeg ((y87 (r4 y66.toNatClampNeg y86.toNatClampNeg).toNatClampNeg) + 1))))], [(z3, .inl (cB, (sS.1 * sS.2.1).toNatClampNeg, .inl y88))], (mt cI cO z5 sS.2.1.toNatClampNeg sS.1.toNatClampNeg r6 r4)]) (W1 := [[(zsi, .inr (5, [.int sS.1, .int sS.2.1, .int (bI sS.2.2.1), .int sS.2.2.2.1, .int sS.2.2.2.2.1, .int sS.2.2.2.2.2.1, .int sS.2.2.2.2.2.2.1, .int sS.2.2.2.2.2.2.2, .ref zmo]))], (mt cI cO zmo sS.2.1.toNatClampNeg sS.1.toNatClampNeg rmo mM)]) hP hD [0, 3] [1, 2, 4] rfl rfl (by decide) (by decide) hk1 hFc hP1 hD1
                have hP : va_P (dC, dI) vwCl (wJ [[(z1, .inl (cI, (sS.1 * sS.2.1).toNatClampNeg, .inl (upd y87 (r4 y66.toNatClampNeg y86.toNatClampNeg).toNatClampNeg ((y87 (r4 y66.toNatClampNeg y86.toNatClampNeg).toNatClampNeg) + 1))))], [(z3, .inl (cB, (sS.1 * sS.2.1).toNatClampNeg, .inl y88))], (mt cI cO z5 sS.2.1.toNatClampNeg sS.1.toNatClampNeg r6 r4), [(zsi, .inr (5, [.int sS.1, .int sS.2.1, .int (bI sS.2.2.1), .int sS.2.2.2.1, .int sS.2.2.2.2.1, .int sS.2.2.2.2.2.1, .int sS.2.2.2.2.2.2.1, .int sS.2.2.2.2.2.2.2, .ref zmo]))], (mt cI cO zmo sS.2.1.toNatClampNeg sS.1.toNatClampNeg rmo mM)]) H := hJ.1
                have hD : va_D (A_X6_counts cI cJ cO cB zsi zmo rmo sS mM s.heap.size) (wJ [[(z1, .inl (cI, (sS.1 * sS.2.1).toNatClampNeg, .inl (upd y87 (r4 y66.toNatClampNeg y86.toNatClampNeg).toNatClampNeg ((y87 (r4 y66.toNatClampNeg y86.toNatClampNeg).toNatClampNeg) + 1))))], [(z3, .inl (cB, (sS.1 * sS.2.1).toNatClampNeg, .inl y88))], (mt cI cO z5 sS.2.1.toNatClampNeg sS.1.toNatClampNeg r6 r4), [(zsi, .inr (5, [.int sS.1, .int sS.2.1, .int (bI sS.2.2.1), .int sS.2.2.2.1, .int sS.2.2.2.2.1, .int sS.2.2.2.2.2.1, .int sS.2.2.2.2.2.2.1, .int sS.2.2.2.2.2.2.2, .ref zmo]))], (mt cI cO zmo sS.2.1.toNatClampNeg sS.1.toNatClampNeg rmo mM)]) := hJ.2
                have hP := sgP (L' := [[(zsi, .inr (5, [.int sS.1, .int sS.2.1, .int (bI sS.2.2.1), .int sS.2.2.2.1, .int sS.2.2.2.2.1, .int sS.2.2.2.2.2.1, .int sS.2.2.2.2.2.2.1, .int sS.2.2.2.2.2.2.2, .ref zmo]))], [(z1, .inl (cI, (sS.1 * sS.2.1).toNatClampNeg, .inl (upd y87 (r4 y66.toNatClampNeg y86.toNatClampNeg).toNatClampNeg ((y87 (r4 y66.toNatClampNeg y86.toNatClampNeg).toNatClampNeg) + 1))))], [(z3, .inl (cB, (sS.1 * sS.2.1).toNatClampNeg, .inl y88))], (mt cI cO zmo sS.2.1.toNatClampNeg sS.1.toNatClampNeg rmo mM), (mt cI cO z5 sS.2.1.toNatClampNeg sS.1.toNatClampNeg r6 r4)]) hP [3, 0, 1, 4, 2] rfl
                have hD := sgD (L' := [[(zsi, .inr (5, [.int sS.1, .int sS.2.1, .int (bI sS.2.2.1), .int sS.2.2.2.1, .int sS.2.2.2.2.1, .int sS.2.2.2.2.2.1, .int sS.2.2.2.2.2.2.1, .int sS.2.2.2.2.2.2.2, .ref zmo]))], [(z1, .inl (cI, (sS.1 * sS.2.1).toNatClampNeg, .inl (upd y87 (r4 y66.toNatClampNeg y86.toNatClampNeg).toNatClampNeg ((y87 (r4 y66.toNatClampNeg y86.toNatClampNeg).toNatClampNeg) + 1))))], [(z3, .inl (cB, (sS.1 * sS.2.1).toNatClampNeg, .inl y88))], (mt cI cO zmo sS.2.1.toNatClampNeg sS.1.toNatClampNeg rmo mM), (mt cI cO z5 sS.2.1.toNatClampNeg sS.1.toNatClampNeg r6 r4)]) hD [3, 0, 1, 4, 2] (by decide) rfl
                clear hPc hDc hFc hP1 hD1 hk1 hJ
                refine lv_ior hx hb dX6_counts_117 ?_
                refine va_zast hx hb hK hP hD hS 2 3 rfl rfl (i := (r4 y66.toNatClampNeg y86.toNatClampNeg)) hg92 dX6_counts_118 (fun H locs hP hD hS => ?_)
                have hP : va_P (dC, dI) vwCl (wJ [[(zsi, .inr (5, [.int sS.1, .int sS.2.1, .int (bI sS.2.2.1), .int sS.2.2.2.1, .int sS.2.2.2.2.1, .int sS.2.2.2.2.2.1, .int sS.2.2.2.2.2.2.1, .int sS.2.2.2.2.2.2.2, .ref zmo]))], [(z1, .inl (cI, (sS.1 * sS.2.1).toNatClampNeg, .inl (upd y87 (r4 y66.toNatClampNeg y86.toNatClampNeg).toNatClampNeg ((y87 (r4 y66.toNatClampNeg y86.toNatClampNeg).toNatClampNeg) + 1))))], [(z3, .inl (cB, (sS.1 * sS.2.1).toNatClampNeg, .inl (upd y88 (r4 y66.toNatClampNeg y86.toNatClampNeg).toNatClampNeg (vp_nar .boolean ((y88 (r4 y66.toNatClampNeg y86.toNatClampNeg).toNatClampNeg) ||| r93)))))], (mt cI cO zmo sS.2.1.toNatClampNeg sS.1.toNatClampNeg rmo mM), (mt cI cO z5 sS.2.1.toNatClampNeg sS.1.toNatClampNeg r6 r4)]) H := hP
                have hD : va_D (A_X6_counts cI cJ cO cB zsi zmo rmo sS mM s.heap.size) (wJ [[(zsi, .inr (5, [.int sS.1, .int sS.2.1, .int (bI sS.2.2.1), .int sS.2.2.2.1, .int sS.2.2.2.2.1, .int sS.2.2.2.2.2.1, .int sS.2.2.2.2.2.2.1, .int sS.2.2.2.2.2.2.2, .ref zmo]))], [(z1, .inl (cI, (sS.1 * sS.2.1).toNatClampNeg, .inl (upd y87 (r4 y66.toNatClampNeg y86.toNatClampNeg).toNatClampNeg ((y87 (r4 y66.toNatClampNeg y86.toNatClampNeg).toNatClampNeg) + 1))))], [(z3, .inl (cB, (sS.1 * sS.2.1).toNatClampNeg, .inl (upd y88 (r4 y66.toNatClampNeg y86.toNatClampNeg).toNatClampNeg (vp_nar .boolean ((y88 (r4 y66.toNatClampNeg y86.toNatClampNeg).toNatClampNeg) ||| r93)))))], (mt cI cO zmo sS.2.1.toNatClampNeg sS.1.toNatClampNeg rmo mM), (mt cI cO z5 sS.2.1.toNatClampNeg sS.1.toNatClampNeg r6 r4)]) := hD
                obtain rfl := Option.some.inj hf
                exact K133 _ _ _ hP hD hS (lv_sub hl [1, 2, 3, 4, 0, 5, 6] rfl)
              · rw [if_neg hc] at hf
                refine lv_goto (tgt := 119) hx hb dX6_counts_83 (by decide) ?_
                obtain rfl := Option.some.inj hf
                exact K133 _ _ _ hP hD hS (lv_sub hl [1, 2, 3, 4, 0, 5, 6] rfl)
        exact lp131 100 _ _ _ _ _ _ _ hv hP hD hS (lv_sub hl [1, 2, 3, 4, 5, 6, 0] rfl)
  exact lp128 100 _ _ _ _ _ _ _ hv hP hD hS (lv_sub hl [5, 4, 3, 2, 1, 0] rfl)
