/-! HedgeGlidersLaw$Sim.go(I)I -/
def f_X6_go (sS : SiS) (mM : Nat → Nat → Int32) (yr : Int32) : Option (Int32 × SiS × (Nat → Nat → Int32)) := if yr ≤ 1 then (Option.bind (f_X6_pass sS mM) fun r1 => some (r1.1, r1.2.1, r1.2.2)) else (none)
abbrev rm_X6_go : Room := ({ frames := 4, cells := 9, slots := 72, locals := 95 } : Room)
abbrev A_X6_go (cI cJ cO cB : ClassId) (zsi zmo : Nat) (rmo : Nat → Nat) (sS : SiS) (mM : Nat → Nat → Int32) (yr : Int32) (sz : Nat) : Nat → Prop := va_A (wJ [[(zsi, .inr (5, [.int sS.1, .int sS.2.1, .int (bI sS.2.2.1), .int sS.2.2.2.1, .int sS.2.2.2.2.1, .int sS.2.2.2.2.2.1, .int sS.2.2.2.2.2.2.1, .int sS.2.2.2.2.2.2.2, .ref zmo]))], (mt cI cO zmo sS.2.1.toNatClampNeg sS.1.toNatClampNeg rmo mM)]) sz
abbrev Q_X6_go (dC : Nat → ClassId) (dI : Nat → Nat → Nat) (cI cJ cO cB : ClassId) (zsi zmo : Nat) (rmo : Nat → Nat) (sS : SiS) (mM : Nat → Nat → Int32) (yr : Int32) (sz : Nat) (R : Int32 × SiS × (Nat → Nat → Int32)) : Array Value → State → Outcome → State → Prop := va_Qi (fun (r : Int32) (_ : (Nat × (Nat → Nat))) => r = R.1) (fun u_ t => va_P (dC, dI) vwCl (wJ [[(zsi, .inr (5, [.int R.2.1.1, .int R.2.1.2.1, .int (bI R.2.1.2.2.1), .int R.2.1.2.2.2.1, .int R.2.1.2.2.2.2.1, .int R.2.1.2.2.2.2.2.1, .int R.2.1.2.2.2.2.2.2.1, .int R.2.1.2.2.2.2.2.2.2, .ref u_.1]))], (mt cI cO u_.1 R.2.1.2.1.toNatClampNeg R.2.1.1.toNatClampNeg u_.2 R.2.2)]) t.heap ∧ va_K (dC, dI) vwCl [(cI, .int), (cJ, .long), (cO, .array .int), (cB, .boolean)] t ∧ va_D (A_X6_go cI cJ cO cB zsi zmo rmo sS mM yr sz) (wJ [[(zsi, .inr (5, [.int R.2.1.1, .int R.2.1.2.1, .int (bI R.2.1.2.2.1), .int R.2.1.2.2.2.1, .int R.2.1.2.2.2.2.1, .int R.2.1.2.2.2.2.2.1, .int R.2.1.2.2.2.2.2.2.1, .int R.2.1.2.2.2.2.2.2.2, .ref u_.1]))], (mt cI cO u_.1 R.2.1.2.1.toNatClampNeg R.2.1.1.toNatClampNeg u_.2 R.2.2)])) (A_X6_go cI cJ cO cB zsi zmo rmo sS mM yr sz)
set_option maxHeartbeats 4000000 in
set_option maxRecDepth 100000 in
theorem c_X6_go (l : Launch) (dC : Nat → ClassId) (dI : Nat → Nat → Nat) (cI cJ cO cB : ClassId) (zsi zmo : Nat) (sz : Nat) (rmo : Nat → Nat) (sS : SiS) (mM : Nat → Nat → Int32) (yr : Int32) (R : Int32 × SiS × (Nat → Nat → Int32)) (hR : f_X6_go sS mM yr = some R) : Met l yX6_go wsX6_go rm_X6_go (va_Pc [.ref zsi, .int yr] (fun U => U.heap.size = sz ∧ va_P (dC, dI) vwCl (wJ [[(zsi, .inr (5, [.int sS.1, .int sS.2.1, .int (bI sS.2.2.1), .int sS.2.2.2.1, .int sS.2.2.2.2.1, .int sS.2.2.2.2.2.1, .int sS.2.2.2.2.2.2.1, .int sS.2.2.2.2.2.2.2, .ref zmo]))], (mt cI cO zmo sS.2.1.toNatClampNeg sS.1.toNatClampNeg rmo mM)]) U.heap ∧ va_K (dC, dI) vwCl [(cI, .int), (cJ, .long), (cO, .array .int), (cB, .boolean)] U ∧ va_D (fun _ => True) (wJ [[(zsi, .inr (5, [.int sS.1, .int sS.2.1, .int (bI sS.2.2.1), .int sS.2.2.2.1, .int sS.2.2.2.2.1, .int sS.2.2.2.2.2.1, .int sS.2.2.2.2.2.2.1, .int sS.2.2.2.2.2.2.2, .ref zmo]))], (mt cI cO zmo sS.2.1.toNatClampNeg sS.1.toNatClampNeg rmo mM)]) ∧ aoE U)) (Q_X6_go dC dI cI cJ cO cB zsi zmo rmo sS mM yr sz R) 9 72 (A_X6_go cI cJ cO cB zsi zmo rmo sS mM yr sz) := by
  have hf := hR
  refine Met.ofW (cc := cX6_go) (maxL := 3) (ret := (some .int)) (by decide) rfl ?_
  intro p e s m args below meth c s₁ B hml hv
  obtain ⟨hargs, hsz, hP, hK, hD0, hao⟩ := hv
  have hx := B.exec
  have hb := B.bytes
  have hr := B.returns
  have hts := atoms_spec (ws := wsX6_go) B.pre
  have hown : s.vm.findClass RX6 = some m.cls := findClass_of_methodNamed B.named
  have hlocks := B.notSynchronized
  subst hsz
  have hK2 : va_K (dC, dI) vwCl [(cI, .int), (cJ, .long)] s := hK.sub [0, 1] rfl
  have hD : va_D (A_X6_go cI cJ cO cB zsi zmo rmo sS mM yr s.heap.size) (wJ [[(zsi, .inr (5, [.int sS.1, .int sS.2.1, .int (bI sS.2.2.1), .int sS.2.2.2.1, .int sS.2.2.2.2.1, .int sS.2.2.2.2.2.1, .int sS.2.2.2.2.2.2.1, .int sS.2.2.2.2.2.2.2, .ref zmo]))], (mt cI cO zmo sS.2.1.toNatClampNeg sS.1.toNatClampNeg rmo mM)]) := hD0.self (sz := s.heap.size)
  have hA : ∀ q : Nat, s.heap.size ≤ q → (A_X6_go cI cJ cO cB zsi zmo rmo sS mM yr s.heap.size) q := fun q h => Or.inr h
  have hS : va_S (A_X6_go cI cJ cO cB zsi zmo rmo sS mM yr s.heap.size) s.heap s.heap [] := va_S.rf
  have hl := lv_entry ([.ref zsi, .int yr]) (n := 3) (Nat.le_of_ble_eq_true rfl)
  have he0 : entryFrame m args 3 = entryFrame m ([.ref zsi, .int yr] : List Value).toArray 3 := by rw [hargs]
  rw [he0, lg_entry_eq]
  generalize (lg_sl ([.ref zsi, .int yr]) ++ List.replicate (3 - (lg_sl ([.ref zsi, .int yr])).length) Slot.unset).toArray = ls at hl ⊢
  have hl : lv_has ls 3 [(0, .ref zsi), (1, .int yr)] := hl
  rw [f_X6_go] at hf
  refine lv_iconst (v := 1) hx hb dX6_go_0 (by decide) ?_
  refine lv_istore_n (lv' := [(2, .int 1), (0, .ref zsi), (1, .int yr)]) hx hb dX6_go_1 rfl hl (by decide) rfl (fun ls hl => ?_)
  refine lv_iload_n hx hb dX6_go_2 rfl (lv_at hl 0 rfl) ?_
  refine lv_iload_n hx hb dX6_go_3 rfl (lv_at hl 2 rfl) ?_
  refine lv_icmp_ge (tgt := 18) hx hb dX6_go_4 (by decide) (fun hc => ?_) (fun hc => ?_)
  · rw [if_pos hc] at hf
    refine lv_aload_n hx hb dX6_go_18 rfl (lv_at hl 1 rfl) ?_
    obtain ⟨r1, hr1, hf⟩ := obind hf
    have hPc : va_P (dC, dI) vwCl (wJ [[(zsi, .inr (5, [.int sS.1, .int sS.2.1, .int (bI sS.2.2.1), .int sS.2.2.2.1, .int sS.2.2.2.2.1, .int sS.2.2.2.2.2.1, .int sS.2.2.2.2.2.2.1, .int sS.2.2.2.2.2.2.2, .ref zmo]))], (mt cI cO zmo sS.2.1.toNatClampNeg sS.1.toNatClampNeg rmo mM)]) s.heap := sgP (L' := [[(zsi, .inr (5, [.int sS.1, .int sS.2.1, .int (bI sS.2.2.1), .int sS.2.2.2.1, .int sS.2.2.2.2.1, .int sS.2.2.2.2.2.1, .int sS.2.2.2.2.2.2.1, .int sS.2.2.2.2.2.2.2, .ref zmo]))], (mt cI cO zmo sS.2.1.toNatClampNeg sS.1.toNatClampNeg rmo mM)]) hP [0, 1] rfl
    have hDc : va_D (A_X6_go cI cJ cO cB zsi zmo rmo sS mM yr s.heap.size) (wJ [[(zsi, .inr (5, [.int sS.1, .int sS.2.1, .int (bI sS.2.2.1), .int sS.2.2.2.1, .int sS.2.2.2.2.1, .int sS.2.2.2.2.2.1, .int sS.2.2.2.2.2.2.1, .int sS.2.2.2.2.2.2.2, .ref zmo]))], (mt cI cO zmo sS.2.1.toNatClampNeg sS.1.toNatClampNeg rmo mM)]) := sgD (L' := [[(zsi, .inr (5, [.int sS.1, .int sS.2.1, .int (bI sS.2.2.1), .int sS.2.2.2.1, .int sS.2.2.2.2.1, .int sS.2.2.2.2.2.1, .int sS.2.2.2.2.2.2.1, .int sS.2.2.2.2.2.2.2, .ref zmo]))], (mt cI cO zmo sS.2.1.toNatClampNeg sS.1.toNatClampNeg rmo mM)]) hD [0, 1] (by decide) rfl
    have hFc : ∀ q, va_A (wJ [[(zsi, .inr (5, [.int sS.1, .int sS.2.1, .int (bI sS.2.2.1), .int sS.2.2.2.1, .int sS.2.2.2.2.1, .int sS.2.2.2.2.2.1, .int sS.2.2.2.2.2.2.1, .int sS.2.2.2.2.2.2.2, .ref zmo]))], (mt cI cO zmo sS.2.1.toNatClampNeg sS.1.toNatClampNeg rmo mM)]) s.heap.size q → (A_X6_go cI cJ cO cB zsi zmo rmo sS mM yr s.heap.size) q := sg_free (W := [[(zsi, .inr (5, [.int sS.1, .int sS.2.1, .int (bI sS.2.2.1), .int sS.2.2.2.1, .int sS.2.2.2.2.1, .int sS.2.2.2.2.2.1, .int sS.2.2.2.2.2.2.1, .int sS.2.2.2.2.2.2.2, .ref zmo]))], (mt cI cO zmo sS.2.1.toNatClampNeg sS.1.toNatClampNeg rmo mM)]) hD hS hA [0, 1] rfl
    refine va_calli (va_runV (As := []) (rest := []) ⟨hx, hb, hml, hown, hts⟩ (c_X6_pass l dC dI cI cJ cO cB zsi zmo s.heap.size rmo sS mM _ hr1) (cwV 0 hts gX6_go_X6_pass rfl rfl rfl (by decide +kernel) ⟨Nat.le_of_ble_eq_true rfl, Nat.le_of_ble_eq_true rfl⟩) ⟨fun a U gg mk q => by obtain ⟨q0, q1, qP, qK, qD, qo⟩ := q; exact ⟨q0, q1, qP, va_K.moved (u := U) (U := U.calling gg mk a) (Vm.Alike.refl U.vm) qK, qD, aoE.same (u := U) (U := U.calling gg mk a) rfl qo⟩, va_recv hK hPc (ci := 5) (q0 := 0) rfl rfl, fun U hU hW => ⟨rfl, by rw [hU], by rw [hU]; exact hPc, va_K.moved hW.alike hK, hDc.weaken (fun _ _ _ _ => trivial), hao.warm hW⟩⟩ rfl rfl hl.1 rfl (lv_room (Nat.le_of_ble_eq_true rfl)) dX6_go_19 ⟨(Nat.le_of_ble_eq_true rfl), (Nat.le_of_ble_eq_true rfl)⟩) hS (fun q _ h => hFc q h) hFc (fun r_ u_ t H locs ht hvm hw hB hz1 hk1 hS => ?_)
    obtain ⟨z2, r3⟩ := u_
    obtain rfl := hw.symm
    obtain ⟨hP1, -, hD1⟩ := hB
    rw [ht] at hP1
    have hJ := sg_join2 (W := [[(zsi, .inr (5, [.int sS.1, .int sS.2.1, .int (bI sS.2.2.1), .int sS.2.2.2.1, .int sS.2.2.2.2.1, .int sS.2.2.2.2.2.1, .int sS.2.2.2.2.2.2.1, .int sS.2.2.2.2.2.2.2, .ref zmo]))], (mt cI cO zmo sS.2.1.toNatClampNeg sS.1.toNatClampNeg rmo mM)]) (R := []) (W1 := [[(zsi, .inr (5, [.int r1.2.1.1, .int r1.2.1.2.1, .int (bI r1.2.1.2.2.1), .int r1.2.1.2.2.2.1, .int r1.2.1.2.2.2.2.1, .int r1.2.1.2.2.2.2.2.1, .int r1.2.1.2.2.2.2.2.2.1, .int r1.2.1.2.2.2.2.2.2.2, .ref z2]))], (mt cI cO z2 r1.2.1.2.1.toNatClampNeg r1.2.1.1.toNatClampNeg r3 r1.2.2)]) hP hD [0, 1] [] rfl rfl (by decide) (by decide) hk1 hFc hP1 hD1
    have hP : va_P (dC, dI) vwCl (wJ [[(zsi, .inr (5, [.int r1.2.1.1, .int r1.2.1.2.1, .int (bI r1.2.1.2.2.1), .int r1.2.1.2.2.2.1, .int r1.2.1.2.2.2.2.1, .int r1.2.1.2.2.2.2.2.1, .int r1.2.1.2.2.2.2.2.2.1, .int r1.2.1.2.2.2.2.2.2.2, .ref z2]))], (mt cI cO z2 r1.2.1.2.1.toNatClampNeg r1.2.1.1.toNatClampNeg r3 r1.2.2)]) H := hJ.1
    have hD : va_D (A_X6_go cI cJ cO cB zsi zmo rmo sS mM yr s.heap.size) (wJ [[(zsi, .inr (5, [.int r1.2.1.1, .int r1.2.1.2.1, .int (bI r1.2.1.2.2.1), .int r1.2.1.2.2.2.1, .int r1.2.1.2.2.2.2.1, .int r1.2.1.2.2.2.2.2.1, .int r1.2.1.2.2.2.2.2.2.1, .int r1.2.1.2.2.2.2.2.2.2, .ref z2]))], (mt cI cO z2 r1.2.1.2.1.toNatClampNeg r1.2.1.1.toNatClampNeg r3 r1.2.2)]) := hJ.2
    have hP := sgP (L' := [[(zsi, .inr (5, [.int r1.2.1.1, .int r1.2.1.2.1, .int (bI r1.2.1.2.2.1), .int r1.2.1.2.2.2.1, .int r1.2.1.2.2.2.2.1, .int r1.2.1.2.2.2.2.2.1, .int r1.2.1.2.2.2.2.2.2.1, .int r1.2.1.2.2.2.2.2.2.2, .ref z2]))], (mt cI cO z2 r1.2.1.2.1.toNatClampNeg r1.2.1.1.toNatClampNeg r3 r1.2.2)]) hP [0, 1] rfl
    have hD := sgD (L' := [[(zsi, .inr (5, [.int r1.2.1.1, .int r1.2.1.2.1, .int (bI r1.2.1.2.2.1), .int r1.2.1.2.2.2.1, .int r1.2.1.2.2.2.2.1, .int r1.2.1.2.2.2.2.2.1, .int r1.2.1.2.2.2.2.2.2.1, .int r1.2.1.2.2.2.2.2.2.2, .ref z2]))], (mt cI cO z2 r1.2.1.2.1.toNatClampNeg r1.2.1.1.toNatClampNeg r3 r1.2.2)]) hD [0, 1] (by decide) rfl
    clear hPc hDc hFc hP1 hD1 hk1 hJ
    obtain rfl := Option.some.inj hf
    exact W.iret (v := r1.1) hx hb hr (fun t ht hW => ⟨⟨r1.1, ((z2, r3)), rfl, rfl, by rw [ht]; exact hP, va_K.moved hW.alike hK, hD⟩, hS.F ht⟩) hS.2.2 dX6_go_22
  · rw [if_neg hc] at hf
    exact nomatch hf
/-! HedgeGlidersLaw$Sim.<init>()V -/
def f_X6_init  : Option ((Nat → Nat → Int32)) := Option.bind (f_X6_rows 8 8 (-1)) fun r1 => some r1
abbrev rm_X6_init : Room := ({ frames := 1, cells := 9, slots := 72, locals := 28 } : Room)
abbrev A_X6_init (cI cJ cO cB : ClassId) (zsi : Nat)  (sz : Nat) : Nat → Prop := va_A (wJ [[(zsi, .inr (5, [.int 0, .int 0, .int 0, .int 0, .int 0, .int 0, .int 0, .int 0, .null ]))]]) sz
abbrev Q_X6_init (dC : Nat → ClassId) (dI : Nat → Nat → Nat) (cI cJ cO cB : ClassId) (zsi : Nat)  (sz : Nat) (R : (Nat → Nat → Int32)) : Array Value → State → Outcome → State → Prop := va_Qv (fun _ : (Nat × (Nat → Nat)) => True) (fun u_ t => va_P (dC, dI) vwCl (wJ [[(zsi, .inr (5, [.int 8, .int 8, .int (bI false), .int 8, .int 62, .int 0, .int 0, .int 0, .ref u_.1]))], (mt cI cO u_.1 ((8 : Int32).toNatClampNeg) ((8 : Int32).toNatClampNeg) u_.2 R)]) t.heap ∧ va_K (dC, dI) vwCl [(cI, .int), (cJ, .long), (cO, .array .int), (cB, .boolean)] t ∧ va_D (A_X6_init cI cJ cO cB zsi sz) (wJ [[(zsi, .inr (5, [.int 8, .int 8, .int (bI false), .int 8, .int 62, .int 0, .int 0, .int 0, .ref u_.1]))], (mt cI cO u_.1 ((8 : Int32).toNatClampNeg) ((8 : Int32).toNatClampNeg) u_.2 R)])) (A_X6_init cI cJ cO cB zsi sz)
set_option maxHeartbeats 4000000 in
set_option maxRecDepth 100000 in
theorem c_X6_init (l : Launch) (dC : Nat → ClassId) (dI : Nat → Nat → Nat) (cI cJ cO cB : ClassId) (zsi : Nat) (sz : Nat)  (R : (Nat → Nat → Int32)) (hR : f_X6_init = some R) : Met l yX6_init wsX6_init rm_X6_init (va_Pc [.ref zsi] (fun U => U.heap.size = sz ∧ va_P (dC, dI) vwCl (wJ [[(zsi, .inr (5, [.int 0, .int 0, .int 0, .int 0, .int 0, .int 0, .int 0, .int 0, .null ]))]]) U.heap ∧ va_K (dC, dI) vwCl [(cI, .int), (cJ, .long), (cO, .array .int), (cB, .boolean)] U ∧ va_D (fun _ => True) (wJ [[(zsi, .inr (5, [.int 0, .int 0, .int 0, .int 0, .int 0, .int 0, .int 0, .int 0, .null ]))]]) ∧ aoE U)) (Q_X6_init dC dI cI cJ cO cB zsi sz R) 9 72 (A_X6_init cI cJ cO cB zsi sz) := by
  have hf := hR
  refine Met.ofW (cc := cX6_init) (maxL := 1) (ret := none) (by decide) rfl ?_
  intro p e s m args below meth c s₁ B hml hv
  obtain ⟨hargs, hsz, hP, hK, hD0, hao⟩ := hv
  have hx := B.exec
  have hb := B.bytes
  have hr := B.returns
  have hts := atoms_spec (ws := wsX6_init) B.pre
  have hown : s.vm.findClass RX6 = some m.cls := findClass_of_methodNamed B.named
  have hlocks := B.notSynchronized
  have hin : meth.name = "<init>" := (name_of_methodNamed B.named B.method).1
  subst hsz
  have hK2 : va_K (dC, dI) vwCl [(cI, .int), (cJ, .long)] s := hK.sub [0, 1] rfl
  have hD : va_D (A_X6_init cI cJ cO cB zsi s.heap.size) (wJ [[(zsi, .inr (5, [.int 0, .int 0, .int 0, .int 0, .int 0, .int 0, .int 0, .int 0, .null ]))]]) := hD0.self (sz := s.heap.size)
  have hA : ∀ q : Nat, s.heap.size ≤ q → (A_X6_init cI cJ cO cB zsi s.heap.size) q := fun q h => Or.inr h
  have hS : va_S (A_X6_init cI cJ cO cB zsi s.heap.size) s.heap s.heap [] := va_S.rf
  have hinX6 : ∀ w ∈ wsX60, w ∈ wsX6_init := by decide +kernel
  have hw0 := hts (.methodLink RX6 1 objectInit) (by decide +kernel)
  have hw1 := hts (.instanceMethod objectInit) (by decide +kernel)
  have hw2 := hts (.code objectInit ⟨#[0xb1]⟩ 1 none) (by decide +kernel)
  have hw3 := hts (.fieldLink RX6 7 "HedgeGlidersLaw$Sim" "w" "I") (by decide +kernel)
  have hw4 := hts (.fieldLink RX6 13 "HedgeGlidersLaw$Sim" "h" "I") (by decide +kernel)
  have hw5 := hts (.fieldLink RX6 16 "HedgeGlidersLaw$Sim" "births" "I") (by decide +kernel)
  have hw6 := hts (.fieldLink RX6 19 "HedgeGlidersLaw$Sim" "stays" "I") (by decide +kernel)
  have hw7 := hts (.fieldLink RX6 26 "HedgeGlidersLaw$Sim" "ages" "[[I") (by decide +kernel)
  have hl := lv_entry ([.ref zsi]) (n := 1) (Nat.le_of_ble_eq_true rfl)
  have he0 : entryFrame m args 1 = entryFrame m ([.ref zsi] : List Value).toArray 1 := by rw [hargs]
  rw [he0, lg_entry_eq]
  generalize (lg_sl ([.ref zsi]) ++ List.replicate (1 - (lg_sl ([.ref zsi])).length) Slot.unset).toArray = ls at hl ⊢
  have hl : lv_has ls 1 [(0, .ref zsi)] := hl
  rw [f_X6_init] at hf
  refine lv_aload_n hx hb dX6_init_0 rfl (lv_at hl 0 rfl) ?_
  refine W.objInit hx hb hown hw0 hw1 hw2 rfl (by rw [hml]; exact hl.1) rfl dX6_init_1 (Nat.le_of_ble_eq_true rfl) (Nat.le_of_ble_eq_true rfl) ?_
  refine W.eq (g2 := F0 m 4 ls []) rfl ?_
  refine lv_aload_n hx hb dX6_init_4 rfl (lv_at hl 0 rfl) ?_
  refine lv_bipush (v := 8) hx hb dX6_init_5 (by decide) ?_
  refine va_put (D := (dC, dI)) (ci := 5) (v := .int 8) (ty := .int) (C := RX6) (T := TX6) (N := 9) hx hb hts hinX6 tyX6 tyX6_ok nmX6 hown hK hP hD hS 0 rfl rfl 0 (by decide) hw3 (fun _ h9 => h9) rfl (by decide +kernel) rfl rfl (Nat.le_of_ble_eq_true rfl) dX6_init_7 (fun H locs hP hD hS => ?_)
  have hP : va_P (dC, dI) vwCl (wJ [[(zsi, .inr (5, [.int 8, .int 0, .int 0, .int 0, .int 0, .int 0, .int 0, .int 0, .null ]))]]) H := hP
  have hD : va_D (A_X6_init cI cJ cO cB zsi s.heap.size) (wJ [[(zsi, .inr (5, [.int 8, .int 0, .int 0, .int 0, .int 0, .int 0, .int 0, .int 0, .null ]))]]) := hD
  refine lv_aload_n hx hb dX6_init_10 rfl (lv_at hl 0 rfl) ?_
  refine lv_bipush (v := 8) hx hb dX6_init_11 (by decide) ?_
  refine va_put (D := (dC, dI)) (ci := 5) (v := .int 8) (ty := .int) (C := RX6) (T := TX6) (N := 9) hx hb hts hinX6 tyX6 tyX6_ok nmX6 hown hK hP hD hS 0 rfl rfl 1 (by decide) hw4 (fun _ h9 => h9) rfl (by decide +kernel) rfl rfl (Nat.le_of_ble_eq_true rfl) dX6_init_13 (fun H locs hP hD hS => ?_)
  have hP : va_P (dC, dI) vwCl (wJ [[(zsi, .inr (5, [.int 8, .int 8, .int 0, .int 0, .int 0, .int 0, .int 0, .int 0, .null ]))]]) H := hP
  have hD : va_D (A_X6_init cI cJ cO cB zsi s.heap.size) (wJ [[(zsi, .inr (5, [.int 8, .int 8, .int 0, .int 0, .int 0, .int 0, .int 0, .int 0, .null ]))]]) := hD
  refine lv_aload_n hx hb dX6_init_16 rfl (lv_at hl 0 rfl) ?_
  refine lv_bipush (v := 8) hx hb dX6_init_17 (by decide) ?_
  refine va_put (D := (dC, dI)) (ci := 5) (v := .int 8) (ty := .int) (C := RX6) (T := TX6) (N := 9) hx hb hts hinX6 tyX6 tyX6_ok nmX6 hown hK hP hD hS 0 rfl rfl 3 (by decide) hw5 (fun _ h9 => h9) rfl (by decide +kernel) rfl rfl (Nat.le_of_ble_eq_true rfl) dX6_init_19 (fun H locs hP hD hS => ?_)
  have hP : va_P (dC, dI) vwCl (wJ [[(zsi, .inr (5, [.int 8, .int 8, .int 0, .int 8, .int 0, .int 0, .int 0, .int 0, .null ]))]]) H := hP
  have hD : va_D (A_X6_init cI cJ cO cB zsi s.heap.size) (wJ [[(zsi, .inr (5, [.int 8, .int 8, .int 0, .int 8, .int 0, .int 0, .int 0, .int 0, .null ]))]]) := hD
  refine lv_aload_n hx hb dX6_init_22 rfl (lv_at hl 0 rfl) ?_
  refine lv_bipush (v := 62) hx hb dX6_init_23 (by decide) ?_
  refine va_put (D := (dC, dI)) (ci := 5) (v := .int 62) (ty := .int) (C := RX6) (T := TX6) (N := 9) hx hb hts hinX6 tyX6 tyX6_ok nmX6 hown hK hP hD hS 0 rfl rfl 4 (by decide) hw6 (fun _ h9 => h9) rfl (by decide +kernel) rfl rfl (Nat.le_of_ble_eq_true rfl) dX6_init_25 (fun H locs hP hD hS => ?_)
  have hP : va_P (dC, dI) vwCl (wJ [[(zsi, .inr (5, [.int 8, .int 8, .int 0, .int 8, .int 62, .int 0, .int 0, .int 0, .null ]))]]) H := hP
  have hD : va_D (A_X6_init cI cJ cO cB zsi s.heap.size) (wJ [[(zsi, .inr (5, [.int 8, .int 8, .int 0, .int 8, .int 62, .int 0, .int 0, .int 0, .null ]))]]) := hD
  refine lv_aload_n hx hb dX6_init_28 rfl (lv_at hl 0 rfl) ?_
  refine lv_bipush (v := 8) hx hb dX6_init_29 (by decide) ?_
  refine lv_bipush (v := 8) hx hb dX6_init_31 (by decide) ?_
  refine lv_iconst (v := (-1)) hx hb dX6_init_33 (by decide) ?_
  obtain ⟨r1, hr1, hf⟩ := obind hf
  have hPc : va_P (dC, dI) vwCl (wJ []) H := sgP (L' := []) hP [] rfl
  have hDc : va_D (A_X6_init cI cJ cO cB zsi s.heap.size) (wJ []) := sgD (L' := []) hD [] (by decide) rfl
  have hFc : ∀ q, va_A (wJ []) H.size q → (A_X6_init cI cJ cO cB zsi s.heap.size) q := sg_free (W := []) hD hS hA [] rfl
  refine va_callr (va_runS (As := [.int 8, .int 8, .int (-1)]) (rest := [.ref zsi]) ⟨hx, hb, hml, hown, hts⟩ (c_X6_rows l dC dI cI cJ cO cB  H.size 8 8 (-1) _ hr1) (va_cwS 3 hts gX6_init_X6_rows rfl rfl rfl (by decide +kernel) ⟨Nat.le_of_ble_eq_true rfl, Nat.le_of_ble_eq_true rfl⟩) ⟨fun a U gg mk q => by obtain ⟨q0, q1, qP, qK, qD, qo⟩ := q; exact ⟨q0, q1, qP, va_K.moved (u := U) (U := U.calling gg mk a) (Vm.Alike.refl U.vm) qK, qD, aoE.same (u := U) (U := U.calling gg mk a) rfl qo⟩, fun U hU hW => ⟨rfl, by rw [hU], by rw [hU]; exact hPc, va_K.moved hW.alike hK, hDc.weaken (fun _ _ _ _ => trivial), hao.warm hW⟩⟩ rfl rfl hl.1 rfl (lv_room (Nat.le_of_ble_eq_true rfl)) dX6_init_34 ⟨(Nat.le_of_ble_eq_true rfl), (Nat.le_of_ble_eq_true rfl)⟩) hS (fun q _ h => hFc q h) hFc (fun u_ z2 t H locs ht hvm hw hB hz1 hk1 hS => ?_)
  obtain ⟨r3, rfl⟩ : ∃ z, z = u_ := ⟨_, rfl⟩
  obtain ⟨hP1, -, hD1⟩ := hB
  rw [ht] at hP1
  have hJ := sg_join2 (W := []) (R := [[(zsi, .inr (5, [.int 8, .int 8, .int 0, .int 8, .int 62, .int 0, .int 0, .int 0, .null ]))]]) (W1 := [(mt cI cO z2 ((8 : Int32).toNatClampNeg) ((8 : Int32).toNatClampNeg) r3 r1)]) hP hD [] [0] rfl rfl (by decide) (by decide) hk1 hFc hP1 hD1
  have hP : va_P (dC, dI) vwCl (wJ [[(zsi, .inr (5, [.int 8, .int 8, .int 0, .int 8, .int 62, .int 0, .int 0, .int 0, .null ]))], (mt cI cO z2 ((8 : Int32).toNatClampNeg) ((8 : Int32).toNatClampNeg) r3 r1)]) H := hJ.1
  have hD : va_D (A_X6_init cI cJ cO cB zsi s.heap.size) (wJ [[(zsi, .inr (5, [.int 8, .int 8, .int 0, .int 8, .int 62, .int 0, .int 0, .int 0, .null ]))], (mt cI cO z2 ((8 : Int32).toNatClampNeg) ((8 : Int32).toNatClampNeg) r3 r1)]) := hJ.2
  have hP := sgP (L' := [[(zsi, .inr (5, [.int 8, .int 8, .int 0, .int 8, .int 62, .int 0, .int 0, .int 0, .null ]))], (mt cI cO z2 ((8 : Int32).toNatClampNeg) ((8 : Int32).toNatClampNeg) r3 r1)]) hP [0, 1] rfl
  have hD := sgD (L' := [[(zsi, .inr (5, [.int 8, .int 8, .int 0, .int 8, .int 62, .int 0, .int 0, .int 0, .null ]))], (mt cI cO z2 ((8 : Int32).toNatClampNeg) ((8 : Int32).toNatClampNeg) r3 r1)]) hD [0, 1] (by decide) rfl
  clear hPc hDc hFc hP1 hD1 hk1 hJ
  refine va_put (D := (dC, dI)) (ci := 5) (v := .ref z2) (ty := (.array (.array .int))) (C := RX6) (T := TX6) (N := 9) hx hb hts hinX6 tyX6 tyX6_ok nmX6 hown hK hP hD hS 0 rfl rfl 8 (by decide) hw7 (fun _ h9 => h9) rfl (by decide +kernel) rfl rfl (Nat.le_of_ble_eq_true rfl) dX6_init_37 (fun H locs hP hD hS => ?_)
  have hP : va_P (dC, dI) vwCl (wJ [[(zsi, .inr (5, [.int 8, .int 8, .int 0, .int 8, .int 62, .int 0, .int 0, .int 0, .ref z2]))], (mt cI cO z2 ((8 : Int32).toNatClampNeg) ((8 : Int32).toNatClampNeg) r3 r1)]) H := hP
  have hD : va_D (A_X6_init cI cJ cO cB zsi s.heap.size) (wJ [[(zsi, .inr (5, [.int 8, .int 8, .int 0, .int 8, .int 62, .int 0, .int 0, .int 0, .ref z2]))], (mt cI cO z2 ((8 : Int32).toNatClampNeg) ((8 : Int32).toNatClampNeg) r3 r1)]) := hD
  obtain rfl := Option.some.inj hf
  exact W.vret hx hb hr (fun t ht hW => ⟨⟨((z2, r3)), rfl, trivial, by rw [ht]; exact hP, va_K.moved hW.alike hK, hD⟩, hS.F ht⟩) hS.2.2 dX6_init_40
/-! HedgeGlidersLaw.cell([II)I -/
def f_L_cell (Ln : Nat) (xs : Nat → Int32) (kn : Int32) : Option (Int32) := if (Int32.ofNat Ln) ≤ kn then (some (790386105 * (kn + 3))) else (if kn < 0 ∨ Ln ≤ kn.toNatClampNeg then none else some (xs kn.toNatClampNeg))
abbrev rm_L_cell : Room := ({ frames := 0, cells := 0, slots := 0, locals := 0 } : Room)
abbrev A_L_cell (cI cJ cO cB : ClassId) (bS : Nat) (Ln : Nat) (xs : Nat → Int32) (kn : Int32) (sz : Nat) : Nat → Prop := va_A (wJ []) sz
abbrev Q_L_cell (dC : Nat → ClassId) (dI : Nat → Nat → Nat) (cI cJ cO cB : ClassId) (bS : Nat) (Ln : Nat) (xs : Nat → Int32) (kn : Int32) (sz : Nat) (R : Int32) : Array Value → State → Outcome → State → Prop := va_Qi (fun (r : Int32) (_ : Unit) => r = R) (fun u_ t => va_P (dC, dI) vwCl (wJ []) t.heap ∧ va_K (dC, dI) vwCl [(cI, .int), (cJ, .long), (cO, .array .int), (cB, .boolean)] t ∧ va_D (A_L_cell cI cJ cO cB bS Ln xs kn sz) (wJ [])) (A_L_cell cI cJ cO cB bS Ln xs kn sz)
set_option maxHeartbeats 4000000 in
set_option maxRecDepth 100000 in
theorem c_L_cell (l : Launch) (dC : Nat → ClassId) (dI : Nat → Nat → Nat) (cI cJ cO cB : ClassId) (bS : Nat) (sz : Nat) (Ln : Nat) (xs : Nat → Int32) (kn : Int32) (R : Int32) (hR : f_L_cell Ln xs kn = some R) : Met l yL_cell wsL_cell rm_L_cell (va_Pc [.ref bS, .int kn] (fun U => U.heap.size = sz ∧ va_P (dC, dI) vwCl (wJ []) U.heap ∧ va_K (dC, dI) vwCl [(cI, .int), (cJ, .long), (cO, .array .int), (cB, .boolean)] U ∧ va_D (fun _ => True) (wJ []) ∧ bS < sz ∧ ¬ (A_L_cell cI cJ cO cB bS Ln xs kn sz) bS ∧ va_X bS Ln xs U U.heap)) (Q_L_cell dC dI cI cJ cO cB bS Ln xs kn sz R) 0 0 (A_L_cell cI cJ cO cB bS Ln xs kn sz) := by
  have hf := hR
  refine Met.ofW (cc := cL_cell) (maxL := 2) (ret := (some .int)) (by decide) rfl ?_
  intro p e s m args below meth c s₁ B hml hv
  obtain ⟨hargs, hsz, hP, hK, hD0, hXl, hXA, hX⟩ := hv
  have hx := B.exec
  have hb := B.bytes
  have hr := B.returns
  have hts := atoms_spec (ws := wsL_cell) B.pre
  have hown : s.vm.findClass RL = some m.cls := findClass_of_methodNamed B.named
  have hlocks := B.notSynchronized
  subst hsz
  have hK2 : va_K (dC, dI) vwCl [(cI, .int), (cJ, .long)] s := hK.sub [0, 1] rfl
  have hD : va_D (A_L_cell cI cJ cO cB bS Ln xs kn s.heap.size) (wJ []) := hD0.self (sz := s.heap.size)
  have hA : ∀ q : Nat, s.heap.size ≤ q → (A_L_cell cI cJ cO cB bS Ln xs kn s.heap.size) q := fun q h => Or.inr h
  have hS : va_S (A_L_cell cI cJ cO cB bS Ln xs kn s.heap.size) s.heap s.heap [] := va_S.rf
  have hw0 := hts (.constant RL 8 (790386105)) (by decide +kernel)
  have hl := lv_entry ([.ref bS, .int kn]) (n := 2) (Nat.le_of_ble_eq_true rfl)
  have he0 : entryFrame m args 2 = entryFrame m ([.ref bS, .int kn] : List Value).toArray 2 := by rw [hargs]
  rw [he0, lg_entry_eq]
  generalize (lg_sl ([.ref bS, .int kn]) ++ List.replicate (2 - (lg_sl ([.ref bS, .int kn])).length) Slot.unset).toArray = ls at hl ⊢
  have hl : lv_has ls 2 [(0, .ref bS), (1, .int kn)] := hl
  rw [f_L_cell] at hf
  refine lv_iload_n hx hb dL_cell_0 rfl (lv_at hl 1 rfl) ?_
  refine lv_aload_n hx hb dL_cell_1 rfl (lv_at hl 0 rfl) ?_
  refine va_slen hx hb hX hXl hXA hS dL_cell_2 ?_
  refine lv_icmp_ge (tgt := 12) hx hb dL_cell_3 (by decide) (fun hc => ?_) (fun hc => ?_)
  · rw [if_pos hc] at hf
    refine lv_ldc (v := 790386105) hx hb hown hw0 dL_cell_12 ?_
    refine lv_iload_n hx hb dL_cell_14 rfl (lv_at hl 1 rfl) ?_
    refine lv_iconst (v := 3) hx hb dL_cell_15 (by decide) ?_
    refine lv_iadd hx hb dL_cell_16 ?_
    refine lv_imul hx hb dL_cell_17 ?_
    obtain rfl := Option.some.inj hf
    exact W.iret (v := (790386105 * (kn + 3))) hx hb hr (fun t ht hW => ⟨⟨(790386105 * (kn + 3)), (), rfl, rfl, by rw [ht]; exact hP, va_K.moved hW.alike hK, hD⟩, hS.F ht⟩) hS.2.2 dL_cell_18
  · rw [if_neg hc] at hf
    refine lv_aload_n hx hb dL_cell_6 rfl (lv_at hl 0 rfl) ?_
    refine lv_iload_n hx hb dL_cell_7 rfl (lv_at hl 1 rfl) ?_
    have hg1 : ¬ (kn < 0 ∨ Ln ≤ kn.toNatClampNeg) := fun hq => by rw [if_pos hq] at hf; exact nomatch hf
    rw [if_neg hg1] at hf
    refine va_sld hx hb hX hXl hXA hS (i := kn) hg1 dL_cell_8 ?_
    refine lv_goto (tgt := 18) hx hb dL_cell_9 (by decide) ?_
    obtain rfl := Option.some.inj hf
    exact W.iret (v := (xs kn.toNatClampNeg)) hx hb hr (fun t ht hW => ⟨⟨(xs kn.toNatClampNeg), (), rfl, rfl, by rw [ht]; exact hP, va_K.moved hW.alike hK, hD⟩, hS.F ht⟩) hS.2.2 dL_cell_18
