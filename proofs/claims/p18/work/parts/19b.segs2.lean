/-! arrays of references to arrays, made by hand; the class's answers; the script -/
abbrev SiS : Type := Int32 × Int32 × Bool × Int32 × Int32 × Int32 × Int32 × Int32
def oinl {α : Type} (x : Option (α ⊕ String)) : Option α := match x with
  | some (.inl a) => some a
  | _ => none
theorem oinl_e {α : Type} {x : Option (α ⊕ String)} {v : α} (h : oinl x = some v) : x = some (.inl v) := by
  unfold oinl at h
  split at h
  · next a => rw [Option.some.inj h]
  · cases h
def rinl {α : Type} (x : α ⊕ String) : Option α := match x with
  | .inl a => some a
  | .inr _ => none
theorem rinl_e {α : Type} {x : α ⊕ String} {v : α} (h : rinl x = some v) : x = .inl v := by
  cases x with
  | inl a => rw [Option.some.inj h]
  | inr e => cases h
def oplant {α ρ : Type} (x : Option (α ⊕ String)) (f : α → Option ρ) (g : Option ρ) : Option ρ := match x with
  | none => none
  | some (.inl a) => f a
  | some (.inr e) => if e = "java/lang/IllegalStateException" then g else none
theorem oplant_e {α ρ : Type} {x : Option (α ⊕ String)} {f : α → Option ρ} {g : Option ρ} {R : ρ} (h : oplant x f g = some R) : (∃ v, x = some (.inl v) ∧ f v = some R) ∨ (x = some (.inr "java/lang/IllegalStateException") ∧ g = some R) := by
  unfold oplant at h
  split at h
  · cases h
  · next a => exact Or.inl ⟨a, rfl, h⟩
  · next e =>
    by_cases he : e = "java/lang/IllegalStateException"
    · rw [if_pos he] at h; exact Or.inr ⟨by rw [he], h⟩
    · rw [if_neg he] at h; cases h
theorem va_X_same {b L : Nat} {xs : Nat → Int32} {u U : State} (hv : u.vm = U.vm) (hh : u.heap = U.heap) (h : va_X b L xs u u.heap) : va_X b L xs U U.heap := by
  have h2 := va_X.moved (U := U) (by rw [hv]; exact Vm.Alike.refl _) h
  rw [hh] at h2
  exact h2
theorem va_X_call {b L : Nat} {xs : Nat → Int32} {A : Nat → Prop} {s U : State} {H : Heap} {locs : List Loc} (h : va_X b L xs s s.heap) (hl : b < s.heap.size) (hA : ¬ A b) (hS : va_S A s.heap H locs) (hU : U.heap = H) (hW : s.WarmedH U.vm) : va_X b L xs U U.heap := by
  have h1 : va_X b L xs s H := h.kept (hS.2.1 b hl hA)
  have h2 := va_X.moved (U := U) hW.alike h1
  rw [hU]
  exact h2
theorem met_ofWH {l : Launch} {y : MethodName} {ws ws' : List Cond} {rm : Room} {Pc : Array Value → State → Prop} {Qc : Array Value → State → Outcome → State → Prop} {mc ms : Nat} {free : Addr → Prop} {cc : ByteArray} {maxL : Nat} {ret : Option FieldType} {hh : List (Nat × Nat × Nat × Nat)}
    (hy : plainName y.cls = true) (hw : ws = Cond.codeWith y cc maxL ret hh :: ws')
    (body : ∀ p e s m args below meth c s₁, BodyLoose p l y (headSpec ws rm) cc maxL ret e s m args below meth c s₁ → c.maxLocals = maxL → Pc args s →
      W p l e (headSpec ws rm).room s m args below meth c s.heap [] 0 0 (MQ below Qc args s mc ms free) (entryFrame m args maxL)) : Met l y ws rm Pc Qc mc ms free := by
  refine MetFree.of_bodyS (code := cc) (maxLocals := maxL) (ret := ret) hy ?_ ?_
  · intro args s m h hn
    obtain ⟨m9, meth, c, hn9, h1, h2, h3, h4, -, h5, h6, -⟩ := Cond.codeWith_spec (atoms_spec (ws := ws) h _ (by rw [hw]; exact List.mem_cons_self))
    cases hn.symm.trans hn9
    exact ⟨meth, c, h1, h2, h3, h4, h5, h6⟩
  · intro p e s m args below meth c s₁ B hml hP _
    have hh0 : s₁.heap = s.heap := by rw [B.state]; rfl
    obtain ⟨t, a1, o, b1, b2, b3⟩ := body p e s m args below meth c s₁ B hml hP s₁ hh0 (Stand.of_body B)
    exact ⟨t, o, a1, b1, b2, b3⟩
abbrev rE (f : Nat → Option Nat) : (Nat → Int32) ⊕ (Nat → Int64) ⊕ (Nat → UInt32) ⊕ (Nat → UInt64) ⊕ (Nat → Option Nat) := .inr (.inr (.inr (.inr f)))
section VSR
variable {p : Program} {l : Launch} {e : Env} {R : Room} {s : State} {m : MethodId} {args : Array Value} {below : List Frame} {meth : Method} {c : Code} {H : Heap} {locs : List Loc} {cells slots : Nat} {Q : State → Prop}
variable {cc : ByteArray} {pc : Nat} {ls : Array Slot} {rest : List Value} {D : va_G} {cl : List vw_C} {A : Nat → Prop} {tys : List (ClassId × FieldType)} {H0 : Heap}
variable {L : List va_W}
/-- new T[][n], empty -/
theorem sg_newRA (hexec : p.tables.exec = Jvm.exec) (hb : c.code = cc) {own : String} {t : FieldType} {index : Nat} (hown : s.vm.findClass own = some m.cls) (hclink : (Cond.classLink own index (FieldType.array t).toString).before args s = true) (hover : (Cond.arrayOver (.array t)).before args s = true) (hK : va_K D cl tys s) (hP : va_P D cl (wJ L) H) (hD : va_D A (wJ L)) (hS : va_S A H0 H locs) (hA : ∀ q, H0.size ≤ q → A q)
    {n : Int32} {k : Nat} (hn : ¬ n < 0) (hN : n.toNatClampNeg = k) (hk : k ≤ 1000) (hcells : cells + 1 ≤ R.cells) (hslots : slots + k ≤ R.slots) (hdg : decode cc pc = .ok (.anewarray index, 3))
    (kk : ∀ (q : Nat) (cA : ClassId) (H1 : Heap), va_K D cl (tys ++ [(cA, .array t)]) s → va_P D cl (wJ (L ++ [[(q, .inl (cA, k, rE (fun _ => none)))]])) H1 → va_D A (wJ (L ++ [[(q, .inl (cA, k, rE (fun _ => none)))]])) → va_S A H0 H1 locs →
      W p l e R s m args below meth c H1 locs (cells + 1) (slots + k) Q (F0 m (pc + 3) ls (.ref q :: rest))) : W p l e R s m args below meth c H locs cells slots Q (F0 m pc ls (.int n :: rest)) := by
  subst hN
  refine W.anewA hexec hb hown hclink hover rfl hdg rfl hn (by omega) hcells hslots fun cA kA comp f1 f2 f3 f4 => ?_
  generalize hH1 : H.push ({ cls := cA, slots := Array.replicate n.toNatClampNeg .null, vm := .none } : Cell) = H1
  have z1 : H1.size = H.size + 1 := by rw [← hH1, Array.size_push]
  have e1 : H1[H.size]? = some (arrV cA n.toNatClampNeg (fun _ => .null)) := by rw [← hH1, Array.getElem?_push_size, ← arrV_new]
  have o1 : ∀ q : Nat, q < H.size → H1[q]? = H[q]? := fun q hq => by rw [← hH1, Array.getElem?_push, if_neg (Nat.ne_of_lt hq)]
  have hAr : ArrOfT s cA (.array t) := fun N z => ⟨(fun k h => by cases h), kA, f2, comp, f3⟩
  have hk2 : ∀ (k : Nat) (x : Nat × va_E), (wJ L)[k]? = some x → H1[x.1]? = H[x.1]? := fun k x hx => o1 x.1 ((hP k x hx).lt)
  have hP1 : va_P D cl (wJ L ++ [(H.size, .inl (cA, n.toNatClampNeg, rE (fun _ => none)))]) H1 := (hP.kept hk2).app (vaP_mem.mpr fun x hx => by
    obtain rfl := List.mem_singleton.mp hx
    exact e1)
  have hD1 : va_D A (wJ L ++ [(H.size, .inl (cA, n.toNatClampNeg, rE (fun _ => none)))]) := hD.push hP rfl (hA _ hS.1)
  rw [← wJ_snoc] at hP1 hD1
  refine kk H.size cA H1 ⟨hK.1, fun k x hx => ?_⟩ hP1 hD1 ⟨Nat.le_trans hS.1 (by omega), fun x h1 h2 => (o1 x (Nat.lt_of_lt_of_le h1 hS.1)).trans (hS.2.1 x h1 h2), hS.2.2⟩
  by_cases hl : k < tys.length
  · rw [List.getElem?_append_left hl] at hx
    exact hK.2 k x hx
  · rw [List.getElem?_append_right (by omega)] at hx
    have hz : k - tys.length < 1 := (List.getElem?_eq_some_iff.mp hx).1
    rw [show k - tys.length = 0 by omega] at hx
    cases hx
    exact ⟨hAr, f1⟩
/-- a reference to an array into an array of such -/
theorem sg_astA (hexec : p.tables.exec = Jvm.exec) (hb : c.code = cc) (hK : va_K D cl tys s) (hP : va_P D cl (wJ L) H) (hD : va_D A (wJ L)) (hS : va_S A H0 H locs) (i0 i1 t0 : Nat) {t : FieldType} {cA cV : ClassId} {a v n nv : Nat} {f : Nat → Option Nat} {x : (Nat → Int32) ⊕ (Nat → Int64) ⊕ (Nat → UInt32) ⊕ (Nat → UInt64) ⊕ (Nat → Option Nat)}
    (ha : L[i0]? = some [(a, .inl (cA, n, rE f))]) (hv : L[i1]? = some [(v, .inl (cV, nv, x))]) (ht : tys[t0]? = some (cA, .array t)) (hover : (Cond.arrayOver (.array t)).before args s = true) (hR : s.vm.findClass (FieldType.array t).toString = some cV) {i : Int32} (hin : vp_in i n) (hdg : decode cc pc = .ok (.aastore, 1))
    (kk : ∀ (H1 : Heap) (locs1 : List Loc), va_P D cl (wJ (L.set i0 [(a, .inl (cA, n, rE (va_up f i.toNatClampNeg (some v))))])) H1 → va_D A (wJ (L.set i0 [(a, .inl (cA, n, rE (va_up f i.toNatClampNeg (some v))))])) → va_S A H0 H1 locs1 → W p l e R s m args below meth c H1 locs1 cells slots Q (F0 m (pc + 1) ls rest)) : W p l e R s m args below meth c H locs cells slots Q (F0 m pc ls (.ref v :: .int i :: .ref a :: rest)) := by
  have hlt : i.toNatClampNeg < n := inRow hin
  have h0 : ¬ i < 0 := fun q => hin (Or.inl q)
  obtain ⟨k0, w1, w2⟩ := seg_get (j := 0) ha rfl
  obtain ⟨k1, w3, -⟩ := seg_get (j := 0) hv rfl
  have g1 : H[v]? = some (vp_cell cV (nv, x)) := hP k1 _ w3
  obtain ⟨comp, cA2, kA, k3, -, j1, j2, k4⟩ := arrayOverA_spec hover
  cases ((hK.2 t0 _ ht).2 : s.vm.findClass ("[" ++ (FieldType.array t).toString) = some cA).symm.trans k4
  cases k3.symm.trans hR
  obtain ⟨kE, hkE, -⟩ := Vm.findClass_spec k3
  have gc : (vp_cell cV (nv, x)).cls = cV := by rcases x with x | x | x | x | x <;> rfl
  have gv : (vp_cell cV (nv, x)).vm = .none := by rcases x with x | x | x | x | x <;> rfl
  refine W.aast hexec hb (hP k0 _ w1) (fun q h => by cases h) (fun h => by cases h) j1 j2 rfl hkE ⟨h0, by show _ < (arrV _ _ _).slots.size; rw [arrV_size]; exact hlt⟩ g1 (fun q h => by rw [gv] at h; cases h) (by rw [gc]; exact hkE) (by rw [gc]; exact va_asg _ _) rfl rfl hdg fun H1 e z oq => ?_
  have P1 := hP.set hD w1 (e := .inl (cA, n, rE (va_up f i.toNatClampNeg (some v)))) (H1 := H1) (by
    show H1[a]? = some (vp_cell _ _)
    rw [e]
    rw [vp_cell_q, vp_cell_q, arrV_store]
    congr 2
    funext q
    by_cases hq : q = i.toNatClampNeg
    · subst hq
      simp [updV, va_up, va_rf]
    · simp [updV, va_up, hq]) oq
  have D1 := hD.set (e := .inl (cA, n, rE (va_up f i.toNatClampNeg (some v)))) w1
  rw [w2] at P1 D1
  exact kk H1 _ P1 D1 (hS.put z oq (hD.2 k0 _ w1))
/-- a reference out of an array of references to arrays -/
theorem sg_aaldA (hexec : p.tables.exec = Jvm.exec) (hb : c.code = cc) (hK : va_K D cl tys s) (hP : va_P D cl (wJ L) H) (i0 t0 : Nat) {t : FieldType} {cA : ClassId} {a n v : Nat} {f : Nat → Option Nat} (ha : L[i0]? = some [(a, .inl (cA, n, rE f))]) (ht : tys[t0]? = some (cA, .array t)) {i : Int32} (hf : f i.toNatClampNeg = some v) (hin : vp_in i n) (hdg : decode cc pc = .ok (.aaload, 1))
    (kk : W p l e R s m args below meth c H locs cells slots Q (F0 m (pc + 1) ls (.ref v :: rest))) : W p l e R s m args below meth c H locs cells slots Q (F0 m pc ls (.int i :: .ref a :: rest)) := by
  obtain ⟨k, hk, -⟩ := seg_get (j := 0) ha rfl
  have hlt := inRow hin
  refine W.aald (v := .ref v) (ty := .array t) hexec hb (hP k _ hk) ((hK.2 t0 _ ht).1 n (fun j => va_rf (f j))) rfl (fun q => by cases q) (by show ¬ (i < 0 ∨ (arrV _ _ _).slots.size ≤ _); rw [arrV_size]; exact hin) (by show (arrV _ _ _).slots[_]? = _; rw [arrV_read _ _ hlt, hf]; rfl) rfl rfl hdg kk
end VSR
theorem va_AOA.moved {t : FieldType} {u U : State} (hvm : u.vm.Alike U.vm) (h : va_AOA t u) : va_AOA t U := arrayOver_alikeB (s := u) hvm h
/-- arrays of arrays, and arrays of those, are known -/
def aoE (U : State) : Prop := va_AOA .int U ∧ va_AOA (.array .int) U
theorem aoE.same {u U : State} (hv : u.vm = U.vm) (h : aoE u) : aoE U := ⟨va_AOA.moved (by rw [hv]; exact Vm.Alike.refl _) h.1, va_AOA.moved (by rw [hv]; exact Vm.Alike.refl _) h.2⟩
theorem aoE.warm {s U : State} (hW : s.WarmedH U.vm) (h : aoE s) : aoE U := ⟨va_AOA.moved hW.alike h.1, va_AOA.moved hW.alike h.2⟩
theorem sg_join2 {A0 : Nat → Prop} {D : va_G} {cl : List vw_C} {L W R W1 : List va_W} {H H1 : Heap} (hP : va_P D cl (wJ L) H) (hD : va_D A0 (wJ L)) (isC isR : List Nat) (hC : isC.map (fun i => L[i]?) = W.map some) (hR : isR.map (fun i => L[i]?) = R.map some) (hn : va_nd isR = true) (hdis : ∀ i ∈ isR, i ∉ isC)
    (hk : ∀ q : Nat, q < H.size → ¬ va_A (wJ W) H.size q → H1[q]? = H[q]?) (hF : ∀ q, va_A (wJ W) H.size q → A0 q) (hP1 : va_P D cl (wJ W1) H1) (hD1 : va_D (va_A (wJ W) H.size) (wJ W1)) : va_P D cl (wJ (R ++ W1)) H1 ∧ va_D A0 (wJ (R ++ W1)) := by
  rw [wJ_app]
  exact sg_join hP hD isC isR hC hR hn hdis hk hF hP1 hD1
theorem ne_lit {k n j : Nat} (h : j < n) : k + n ≠ j := by omega
