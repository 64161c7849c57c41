/-! worlds in pieces: a piece is one cell, or an array of arrays with its rows -/
def wJ : List va_W → va_W
  | [] => []
  | s :: r => s ++ wJ r
theorem wJ_app : ∀ (a b : List va_W), wJ (a ++ b) = wJ a ++ wJ b
  | [], b => rfl
  | s :: r, b => by
    show s ++ wJ (r ++ b) = (s ++ wJ r) ++ wJ b
    rw [wJ_app r b, List.append_assoc]
theorem wJ_snoc (a : List va_W) (x : va_W) : wJ (a ++ [x]) = wJ a ++ x := by
  rw [wJ_app]
  show wJ a ++ (x ++ []) = _
  rw [List.append_nil]
theorem wJ_mem {q : Nat × va_E} : ∀ {L : List va_W}, q ∈ wJ L ↔ ∃ s, s ∈ L ∧ q ∈ s
  | [] => ⟨fun h => (List.not_mem_nil h).elim, fun ⟨s, h, _⟩ => (List.not_mem_nil h).elim⟩
  | s :: r => by
    show q ∈ s ++ wJ r ↔ _
    rw [List.mem_append, wJ_mem (L := r)]
    constructor
    · rintro (h | ⟨t, h1, h2⟩)
      · exact ⟨s, List.mem_cons_self, h⟩
      · exact ⟨t, List.mem_cons_of_mem _ h1, h2⟩
    · rintro ⟨t, h1, h2⟩
      rcases List.mem_cons.mp h1 with h3 | h3
      · subst h3; exact Or.inl h2
      · exact Or.inr ⟨t, h3, h2⟩
theorem vaP_mem {D : va_G} {cl : List vw_C} {ws : va_W} {H : Heap} : va_P D cl ws H ↔ ∀ q, q ∈ ws → va_at D cl q H :=
  ⟨fun h q hq => by obtain ⟨k, hk⟩ := List.getElem?_of_mem hq; exact h k q hk, fun h k q hk => h q (List.mem_of_getElem? hk)⟩
def sgR (a b : va_W) : Prop := ∀ x, x ∈ a → ∀ y, y ∈ b → x.1 ≠ y.1
theorem vaD_pw {A : Nat → Prop} {ws : va_W} : va_D A ws ↔ ws.Pairwise (fun x y => x.1 ≠ y.1) ∧ ∀ q, q ∈ ws → A q.1 := by
  constructor
  · intro h
    refine ⟨List.pairwise_iff_getElem.mpr (fun i j hi hj hij e => ?_), fun q hq => ?_⟩
    · have := h.1 i j _ _ (List.getElem?_eq_getElem hi) (List.getElem?_eq_getElem hj) e
      omega
    · obtain ⟨k, hk⟩ := List.getElem?_of_mem hq; exact h.2 k q hk
  · rintro ⟨h1, h2⟩
    refine ⟨fun i j p q hi hj e => ?_, fun k q hk => h2 q (List.mem_of_getElem? hk)⟩
    obtain ⟨li, ei⟩ := List.getElem?_eq_some_iff.mp hi
    obtain ⟨lj, ej⟩ := List.getElem?_eq_some_iff.mp hj
    rw [List.pairwise_iff_getElem] at h1
    rcases Nat.lt_trichotomy i j with g | g | g
    · exact absurd (by rw [ei, ej]; exact e) (h1 i j li lj g)
    · exact g
    · exact absurd (by rw [ei, ej]; exact e.symm) (h1 j i lj li g)
theorem wJ_pw : ∀ {L : List va_W}, (wJ L).Pairwise (fun x y => x.1 ≠ y.1) ↔ (∀ s, s ∈ L → s.Pairwise (fun x y => x.1 ≠ y.1)) ∧ L.Pairwise sgR
  | [] => ⟨fun _ => ⟨fun s h => (List.not_mem_nil h).elim, List.Pairwise.nil⟩, fun _ => List.Pairwise.nil⟩
  | s :: r => by
    show (s ++ wJ r).Pairwise _ ↔ _
    rw [List.pairwise_append, wJ_pw (L := r), List.pairwise_cons]
    constructor
    · rintro ⟨h1, ⟨h2, h3⟩, h4⟩
      refine ⟨fun t ht => ?_, fun t ht x hx y hy => h4 x hx y (wJ_mem.mpr ⟨t, ht, hy⟩), h3⟩
      rcases List.mem_cons.mp ht with g | g
      · subst g; exact h1
      · exact h2 t g
    · rintro ⟨h1, h2, h3⟩
      refine ⟨h1 s List.mem_cons_self, ⟨fun t ht => h1 t (List.mem_cons_of_mem _ ht), h3⟩, fun x hx y hy => ?_⟩
      obtain ⟨t, ht, hy⟩ := wJ_mem.mp hy
      exact h2 t ht x hx y hy
theorem sgR.symm {a b : va_W} (h : sgR a b) : sgR b a := fun x hx y hy e => h y hy x hx e.symm
theorem sg_at {L L' : List va_W} {is : List Nat} (hs : is.map (fun i => L[i]?) = L'.map some) {k : Nat} {s : va_W} (h : L'[k]? = some s) : ∃ i, is[k]? = some i ∧ L[i]? = some s := by
  have h1 : (is.map (fun i => L[i]?))[k]? = some (some s) := by rw [hs, List.getElem?_map, h]; rfl
  rw [List.getElem?_map] at h1
  cases hi : is[k]? with
  | none => rw [hi] at h1; cases h1
  | some i => rw [hi] at h1; exact ⟨i, rfl, Option.some.inj h1⟩
theorem sg_in {L L' : List va_W} {is : List Nat} (hs : is.map (fun i => L[i]?) = L'.map some) {s : va_W} (h : s ∈ L') : s ∈ L := by
  obtain ⟨k, hk⟩ := List.getElem?_of_mem h
  obtain ⟨i, -, hi⟩ := sg_at hs hk
  exact List.mem_of_getElem? hi
theorem sgP {D : va_G} {cl : List vw_C} {L L' : List va_W} {H : Heap} (h : va_P D cl (wJ L) H) (is : List Nat) (hs : is.map (fun i => L[i]?) = L'.map some) : va_P D cl (wJ L') H := by
  rw [vaP_mem] at h ⊢
  intro q hq
  obtain ⟨s, h1, h2⟩ := wJ_mem.mp hq
  exact h q (wJ_mem.mpr ⟨s, sg_in hs h1, h2⟩)
theorem sg_pw {L L' : List va_W} {is : List Nat} (hs : is.map (fun i => L[i]?) = L'.map some) (hn : va_nd is = true) (h : L.Pairwise sgR) : L'.Pairwise sgR := by
  rw [List.pairwise_iff_getElem] at h ⊢
  intro i j hi hj hij
  obtain ⟨a, a1, a2⟩ := sg_at hs (List.getElem?_eq_getElem hi)
  obtain ⟨b, b1, b2⟩ := sg_at hs (List.getElem?_eq_getElem hj)
  obtain ⟨la, ea⟩ := List.getElem?_eq_some_iff.mp a2
  obtain ⟨lb, eb⟩ := List.getElem?_eq_some_iff.mp b2
  rcases Nat.lt_trichotomy a b with g | g | g
  · rw [← ea, ← eb]; exact h a b la lb g
  · subst g
    have := va_nd_inj is hn i j a a1 b1
    omega
  · rw [← ea, ← eb]; exact (h b a lb la g).symm
theorem sgD {A : Nat → Prop} {L L' : List va_W} (hD : va_D A (wJ L)) (is : List Nat) (hn : va_nd is = true) (hs : is.map (fun i => L[i]?) = L'.map some) : va_D A (wJ L') := by
  rw [vaD_pw] at hD ⊢
  obtain ⟨h1, h2⟩ := hD
  rw [wJ_pw] at h1
  refine ⟨wJ_pw.mpr ⟨fun s h => h1.1 s (sg_in hs h), sg_pw hs hn h1.2⟩, fun q hq => ?_⟩
  obtain ⟨s, g1, g2⟩ := wJ_mem.mp hq
  exact h2 q (wJ_mem.mpr ⟨s, sg_in hs g1, g2⟩)
theorem vaA_mem {ws : va_W} {sz q : Nat} : va_A ws sz q ↔ (∃ x, x ∈ ws ∧ x.1 = q) ∨ sz ≤ q := by
  constructor
  · rintro (⟨k, e, h⟩ | h)
    · exact Or.inl ⟨_, List.mem_of_getElem? h, rfl⟩
    · exact Or.inr h
  · rintro (⟨x, h, rfl⟩ | h)
    · obtain ⟨k, hk⟩ := List.getElem?_of_mem h
      exact Or.inl ⟨k, x.2, hk⟩
    · exact Or.inr h
theorem sg_free {A0 : Nat → Prop} {L W : List va_W} {H0 H : Heap} {locs : List Loc} (hD : va_D A0 (wJ L)) (hS : va_S A0 H0 H locs) (hA : ∀ q, H0.size ≤ q → A0 q) (isC : List Nat) (hC : isC.map (fun i => L[i]?) = W.map some) : ∀ q, va_A (wJ W) H.size q → A0 q := by
  intro q h
  rcases vaA_mem.mp h with ⟨x, hx, rfl⟩ | h
  · obtain ⟨s, g1, g2⟩ := wJ_mem.mp hx
    exact (vaD_pw.mp hD).2 x (wJ_mem.mpr ⟨s, sg_in hC g1, g2⟩)
  · exact hA q (Nat.le_trans hS.1 h)
/-- behind a call: the caller's other pieces, and the callee's -/
theorem sg_join {A0 : Nat → Prop} {D : va_G} {cl : List vw_C} {L W R : List va_W} {w1 : va_W} {H H1 : Heap} (hP : va_P D cl (wJ L) H) (hD : va_D A0 (wJ L)) (isC isR : List Nat) (hC : isC.map (fun i => L[i]?) = W.map some) (hR : isR.map (fun i => L[i]?) = R.map some) (hn : va_nd isR = true) (hdis : ∀ i ∈ isR, i ∉ isC)
    (hk : ∀ q : Nat, q < H.size → ¬ va_A (wJ W) H.size q → H1[q]? = H[q]?) (hF : ∀ q, va_A (wJ W) H.size q → A0 q) (hP1 : va_P D cl w1 H1) (hD1 : va_D (va_A (wJ W) H.size) w1) : va_P D cl (wJ R ++ w1) H1 ∧ va_D A0 (wJ R ++ w1) := by
  have pw := (wJ_pw.mp (vaD_pw.mp hD).1)
  have apart : ∀ q, q ∈ wJ R → q.1 < H.size ∧ ¬ va_A (wJ W) H.size q.1 := by
    intro q hq
    obtain ⟨s, g1, g2⟩ := wJ_mem.mp hq
    have hl := (vaP_mem.mp hP q (wJ_mem.mpr ⟨s, sg_in hR g1, g2⟩)).lt
    refine ⟨hl, fun h => ?_⟩
    rcases vaA_mem.mp h with ⟨x, h, e⟩ | h
    · obtain ⟨t, f1, f2⟩ := wJ_mem.mp h
      obtain ⟨k, hk⟩ := List.getElem?_of_mem g1
      obtain ⟨i, i1, i2⟩ := sg_at hR hk
      obtain ⟨k', hk'⟩ := List.getElem?_of_mem f1
      obtain ⟨j, j1, j2⟩ := sg_at hC hk'
      have hij : i ≠ j := fun e9 => by subst e9; exact hdis i (List.mem_of_getElem? i1) (List.mem_of_getElem? j1)
      obtain ⟨li, ei⟩ := List.getElem?_eq_some_iff.mp i2
      obtain ⟨lj, ej⟩ := List.getElem?_eq_some_iff.mp j2
      have p2 := List.pairwise_iff_getElem.mp pw.2
      rcases Nat.lt_or_gt_of_ne hij with g | g
      · have := p2 i j li lj g
        rw [ei, ej] at this
        exact this q g2 x f2 e.symm
      · have := p2 j i lj li g
        rw [ei, ej] at this
        exact this x f2 q g2 e
    · omega
  refine ⟨va_P.app (vaP_mem.mpr fun q hq => ?_) hP1, va_D.app (sgD hD isR hn hR) (hD1.weaken (fun k q _ h => hF q.1 h)) (fun i j x y hx hy hxy => ?_)⟩
  · obtain ⟨s, g1, g2⟩ := wJ_mem.mp hq
    obtain ⟨a1, a2⟩ := apart q hq
    exact (vaP_mem.mp hP q (wJ_mem.mpr ⟨s, sg_in hR g1, g2⟩)).kept (hk q.1 a1 a2)
  · exact (apart x (List.mem_of_getElem? hx)).2 (by rw [hxy]; exact hD1.2 j y hy)
/-- an array of arrays, with its rows -/
def mt (c cO : ClassId) (z h w : Nat) (r : Nat → Nat) (M : Nat → Nat → Int32) : va_W := (z, .inl (cO, h, .inr (.inr (.inr (.inr (fun i => if i < h then some (r i) else none)))))) :: (List.range h).map (fun y => (r y, .inl (c, w, .inl (M y))))
def upM (M : Nat → Nat → Int32) (y : Nat) (g : Nat → Int32) : Nat → Nat → Int32 := fun j => if j = y then g else M j
theorem seg_get : ∀ {L : List va_W} {i : Nat} {s : va_W} {j : Nat} {q : Nat × va_E}, L[i]? = some s → s[j]? = some q → ∃ k, (wJ L)[k]? = some q ∧ ∀ q', (wJ L).set k q' = wJ (L.set i (s.set j q'))
  | [], i, s, j, q, h, _ => by simp at h
  | t :: r, 0, s, j, q, h, hq => by
    have e : t = s := by simpa using h
    subst e
    have hl := (List.getElem?_eq_some_iff.mp hq).1
    refine ⟨j, ?_, fun q' => ?_⟩
    · show (t ++ wJ r)[j]? = _
      rw [List.getElem?_append_left hl]; exact hq
    · show (t ++ wJ r).set j q' = t.set j q' ++ wJ r
      rw [List.set_append_left j q' hl]
  | t :: r, i + 1, s, j, q, h, hq => by
    have h' : r[i]? = some s := by simpa using h
    obtain ⟨k, h1, h2⟩ := seg_get h' hq
    refine ⟨t.length + k, ?_, fun q' => ?_⟩
    · show (t ++ wJ r)[t.length + k]? = _
      rw [List.getElem?_append_right (by omega), Nat.add_sub_cancel_left]; exact h1
    · show (t ++ wJ r).set (t.length + k) q' = t ++ wJ (r.set i (s.set j q'))
      rw [List.set_append_right _ _ (by omega), Nat.add_sub_cancel_left, h2]
theorem seg_out {L : List va_W} {i : Nat} {c cO : ClassId} {z h w : Nat} {r : Nat → Nat} {M : Nat → Nat → Int32} (hs : L[i]? = some (mt c cO z h w r M)) : ∃ k : Nat, (wJ L)[k]? = some (z, (.inl (cO, h, .inr (.inr (.inr (.inr (fun i => if i < h then some (r i) else none))))) : va_E)) := by
  obtain ⟨k, h1, -⟩ := seg_get (j := 0) (q := (z, (.inl (cO, h, .inr (.inr (.inr (.inr (fun i => if i < h then some (r i) else none))))) : va_E))) hs rfl
  exact ⟨k, h1⟩
theorem mt_row {c cO : ClassId} {z h w : Nat} {r : Nat → Nat} {M : Nat → Nat → Int32} {y : Nat} (hy : y < h) : (mt c cO z h w r M)[y + 1]? = some (r y, .inl (c, w, .inl (M y))) := by
  show ((List.range h).map _)[y]? = _
  rw [List.getElem?_map, List.getElem?_range hy]
  rfl
theorem mt_set {c cO : ClassId} {z h w : Nat} {r : Nat → Nat} {M : Nat → Nat → Int32} {y : Nat} (g : Nat → Int32) : (mt c cO z h w r M).set (y + 1) (r y, .inl (c, w, .inl g)) = mt c cO z h w r (upM M y g) := by
  show _ :: ((List.range h).map _).set y _ = _ :: _
  congr 1
  apply List.ext_getElem?
  intro j
  rw [List.getElem?_set]
  by_cases hj : y = j
  · subst hj
    simp only [if_true, List.length_map, List.length_range]
    by_cases hl : y < h
    · rw [if_pos hl, List.getElem?_map, List.getElem?_range hl]
      simp [upM]
    · rw [if_neg hl, List.getElem?_map, List.getElem?_eq_none (by simpa using Nat.le_of_not_lt hl)]
      rfl
  · rw [if_neg hj, List.getElem?_map, List.getElem?_map]
    by_cases hl : j < h
    · rw [List.getElem?_range hl]
      simp [upM, Ne.symm hj]
    · rw [List.getElem?_eq_none (by simpa using Nat.le_of_not_lt hl)]
      rfl
theorem seg_row {L : List va_W} {i : Nat} {c cO : ClassId} {z h w : Nat} {r : Nat → Nat} {M : Nat → Nat → Int32} (hs : L[i]? = some (mt c cO z h w r M)) {y : Nat} (hy : y < h) : ∃ k, (wJ L)[k]? = some (r y, .inl (c, w, .inl (M y))) ∧ ∀ g : Nat → Int32, (wJ L).set k (r y, .inl (c, w, .inl g)) = wJ (L.set i (mt c cO z h w r (upM M y g))) := by
  obtain ⟨k, h1, h2⟩ := seg_get hs (mt_row hy)
  exact ⟨k, h1, fun g => by rw [h2, mt_set]⟩
theorem inRow {y : Int32} {h : Nat} (hg : vp_in y h) : y.toNatClampNeg < h := Nat.not_le.mp fun q => hg (Or.inr q)
section VSG
variable {p : Program} {l : Launch} {e : Env} {R : Room} {s : State} {m : MethodId} {args : Array Value} {below : List Frame} {meth : Method} {c : Code} {H : Heap} {locs : List Loc} {cells slots : Nat} {Q : State → Prop}
variable {cc : ByteArray} {pc : Nat} {ls : Array Slot} {rest : List Value} {D : va_G} {cl : List vw_C} {A : Nat → Prop} {tys : List (ClassId × FieldType)} {H0 : Heap}
variable {L : List va_W} {cA cO : ClassId} {z h w : Nat} {r : Nat → Nat} {M : Nat → Nat → Int32}
/-- a row of an array of arrays -/
theorem sg_aald (hexec : p.tables.exec = Jvm.exec) (hb : c.code = cc) (hK : va_K D cl tys s) (hP : va_P D cl (wJ L) H) (i0 t0 : Nat) (hs : L[i0]? = some (mt cA cO z h w r M)) (ht : tys[t0]? = some (cO, .array .int)) {i : Int32} (hin : vp_in i h) (hdg : decode cc pc = .ok (.aaload, 1))
    (kk : W p l e R s m args below meth c H locs cells slots Q (F0 m (pc + 1) ls (.ref (r i.toNatClampNeg) :: rest))) : W p l e R s m args below meth c H locs cells slots Q (F0 m pc ls (.int i :: .ref z :: rest)) := by
  obtain ⟨k, hk⟩ := seg_out hs
  have hlt := inRow hin
  refine W.aald (v := .ref (r i.toNatClampNeg)) (ty := .array .int) hexec hb (hP k _ hk) ((hK.2 t0 _ ht).1 h (fun j => va_rf (if j < h then some (r j) else none))) rfl (fun q => by cases q) (by show ¬ (i < 0 ∨ (arrV _ _ _).slots.size ≤ _); rw [arrV_size]; exact hin) (by show (arrV _ _ _).slots[_]? = _; rw [arrV_read _ _ hlt]; simp [va_rf, hlt]) rfl rfl hdg kk
theorem sg_iald (hexec : p.tables.exec = Jvm.exec) (hb : c.code = cc) (hK : va_K D cl tys s) (hP : va_P D cl (wJ L) H) (i0 t0 : Nat) (hs : L[i0]? = some (mt cA cO z h w r M)) (ht : tys[t0]? = some (cA, .int)) {y : Nat} (hy : y < h) {i : Int32} (hin : vp_in i w) (hdg : decode cc pc = .ok (.iaload, 1))
    (kk : W p l e R s m args below meth c H locs cells slots Q (F0 m (pc + 1) ls (.int (M y i.toNatClampNeg) :: rest))) : W p l e R s m args below meth c H locs cells slots Q (F0 m pc ls (.int i :: .ref (r y) :: rest)) := by
  obtain ⟨k, hk, -⟩ := seg_row hs hy
  exact va_iald hexec hb hK hP k t0 hk ht hin hdg kk
theorem sg_iast (hexec : p.tables.exec = Jvm.exec) (hb : c.code = cc) (hK : va_K D cl tys s) (hP : va_P D cl (wJ L) H) (hD : va_D A (wJ L)) (hS : va_S A H0 H locs) (i0 t0 : Nat) (hs : L[i0]? = some (mt cA cO z h w r M)) (ht : tys[t0]? = some (cA, .int)) {y : Nat} (hy : y < h) {i x : Int32} (hin : vp_in i w) (hdg : decode cc pc = .ok (.iastore, 1))
    (kk : ∀ (H1 : Heap) (locs1 : List Loc), va_P D cl (wJ (L.set i0 (mt cA cO z h w r (upM M y (upd (M y) i.toNatClampNeg x))))) H1 → va_D A (wJ (L.set i0 (mt cA cO z h w r (upM M y (upd (M y) i.toNatClampNeg x))))) → va_S A H0 H1 locs1 → W p l e R s m args below meth c H1 locs1 cells slots Q (F0 m (pc + 1) ls rest)) : W p l e R s m args below meth c H locs cells slots Q (F0 m pc ls (.int x :: .int i :: .ref (r y) :: rest)) := by
  obtain ⟨k, hk, h2⟩ := seg_row hs hy
  refine va_iast hexec hb hK hP hD hS k t0 hk ht hin hdg (fun H1 locs1 a b d => ?_)
  rw [h2] at a b
  exact kk H1 locs1 a b d
theorem sg_alen (hexec : p.tables.exec = Jvm.exec) (hb : c.code = cc) (hK : va_K D cl tys s) (hP : va_P D cl (wJ L) H) (i0 t0 : Nat) (hs : L[i0]? = some (mt cA cO z h w r M)) (ht : tys[t0]? = some (cO, .array .int)) (hdg : decode cc pc = .ok (.arraylength, 1))
    (kk : W p l e R s m args below meth c H locs cells slots Q (F0 m (pc + 1) ls (.int (Int32.ofNat h) :: rest))) : W p l e R s m args below meth c H locs cells slots Q (F0 m pc ls (.ref z :: rest)) := by
  obtain ⟨k, hk⟩ := seg_out hs
  exact va_alen hexec hb hK hP k t0 hk ht rfl hdg kk
theorem sg_rlen (hexec : p.tables.exec = Jvm.exec) (hb : c.code = cc) (hK : va_K D cl tys s) (hP : va_P D cl (wJ L) H) (i0 t0 : Nat) (hs : L[i0]? = some (mt cA cO z h w r M)) (ht : tys[t0]? = some (cA, .int)) {y : Nat} (hy : y < h) (hdg : decode cc pc = .ok (.arraylength, 1))
    (kk : W p l e R s m args below meth c H locs cells slots Q (F0 m (pc + 1) ls (.int (Int32.ofNat w) :: rest))) : W p l e R s m args below meth c H locs cells slots Q (F0 m pc ls (.ref (r y) :: rest)) := by
  obtain ⟨k, hk, -⟩ := seg_row hs hy
  exact va_alen hexec hb hK hP k t0 hk ht rfl hdg kk
theorem va_K_one {U : State} {c1 c2 : ClassId} {t1 t2 : Nat} {tys' : List (ClassId × FieldType)} {ty : FieldType} (hK : va_K D cl tys' U) (h1 : tys'[t1]? = some (c1, ty)) (h2 : tys'[t2]? = some (c2, ty)) (hty : ∀ C, ty ≠ .object C) : c1 = c2 := by
  have a := (hK.2 t1 _ h1).2
  have b := (hK.2 t2 _ h2).2
  unfold va_RA at a b
  cases ty with
  | object C => exact absurd rfl (hty C)
  | _ => exact Option.some.inj (a.symm.trans b)
/-- new T[n] for whole numbers: a piece more -/
theorem sg_newI (hexec : p.tables.exec = Jvm.exec) (hb : c.code = cc) (harr : (Cond.arrayClass .int).before args s = true) (hK : va_K D cl tys s) (hP : va_P D cl (wJ L) H) (hD : va_D A (wJ L)) (hS : va_S A H0 H locs) (hA : ∀ q, H0.size ≤ q → A q) (t0 : Nat) (ht : tys[t0]? = some (cA, .int))
    {n : Int32} {k : Nat} (hn : ¬ (n < 0 ∨ k < n.toNatClampNeg)) (hk : k ≤ 1000) (hcells : cells + 1 ≤ R.cells) (hslots : slots + k ≤ R.slots) (hdg : decode cc pc = .ok (.newarray .int, 2))
    (kk : ∀ (q : Nat) (H1 : Heap), va_P D cl (wJ (L ++ [[(q, .inl (cA, n.toNatClampNeg, .inl (fun _ => 0)))]])) H1 → va_D A (wJ (L ++ [[(q, .inl (cA, n.toNatClampNeg, .inl (fun _ => 0)))]])) → va_S A H0 H1 locs →
      W p l e R s m args below meth c H1 locs (cells + 1) (slots + k) Q (F0 m (pc + 2) ls (.ref q :: rest))) : W p l e R s m args below meth c H locs cells slots Q (F0 m pc ls (.int n :: rest)) := by
  have h1 : n.toNatClampNeg ≤ k := Nat.not_lt.mp fun q => hn (Or.inr q)
  refine va_newa (atype := .int) (a0 := (n.toNatClampNeg, .inl (fun _ => 0))) hexec hb harr rfl hK hP hD hS hA (fun cA => rfl) (fun q => hn (Or.inl q)) rfl (show n.toNatClampNeg * 4 ≤ 536870912 by omega) hcells (by show slots + n.toNatClampNeg ≤ _; omega) hdg (fun q c2 H1 K1 P1 D1 S1 => ?_)
  have ht2 : (tys ++ [(c2, FieldType.int)])[tys.length]? = some (c2, .int) := by rw [List.getElem?_append_right (Nat.le_refl _), Nat.sub_self]; rfl
  have ht1 : (tys ++ [(c2, FieldType.int)])[t0]? = some (cA, .int) := by rw [List.getElem?_append_left (List.getElem?_eq_some_iff.mp ht).1]; exact ht
  have e := va_K_one K1 ht1 ht2 (fun C => by intro q; cases q)
  subst e
  rw [← wJ_snoc] at P1 D1
  exact W.widen (Nat.le_refl _) (by omega) (kk q H1 P1 D1 S1)
theorem sg_newZ (hexec : p.tables.exec = Jvm.exec) (hb : c.code = cc) (harr : (Cond.arrayClass .boolean).before args s = true) (hK : va_K D cl tys s) (hP : va_P D cl (wJ L) H) (hD : va_D A (wJ L)) (hS : va_S A H0 H locs) (hA : ∀ q, H0.size ≤ q → A q) (t0 : Nat) (ht : tys[t0]? = some (cA, .boolean))
    {n : Int32} {k : Nat} (hn : ¬ (n < 0 ∨ k < n.toNatClampNeg)) (hk : k ≤ 1000) (hcells : cells + 1 ≤ R.cells) (hslots : slots + k ≤ R.slots) (hdg : decode cc pc = .ok (.newarray .boolean, 2))
    (kk : ∀ (q : Nat) (H1 : Heap), va_P D cl (wJ (L ++ [[(q, .inl (cA, n.toNatClampNeg, .inl (fun _ => 0)))]])) H1 → va_D A (wJ (L ++ [[(q, .inl (cA, n.toNatClampNeg, .inl (fun _ => 0)))]])) → va_S A H0 H1 locs →
      W p l e R s m args below meth c H1 locs (cells + 1) (slots + k) Q (F0 m (pc + 2) ls (.ref q :: rest))) : W p l e R s m args below meth c H locs cells slots Q (F0 m pc ls (.int n :: rest)) := by
  have h1 : n.toNatClampNeg ≤ k := Nat.not_lt.mp fun q => hn (Or.inr q)
  refine va_newa (atype := .boolean) (a0 := (n.toNatClampNeg, .inl (fun _ => 0))) hexec hb harr rfl hK hP hD hS hA (fun cA => rfl) (fun q => hn (Or.inl q)) rfl (show n.toNatClampNeg * 1 ≤ 536870912 by omega) hcells (by show slots + n.toNatClampNeg ≤ _; omega) hdg (fun q c2 H1 K1 P1 D1 S1 => ?_)
  have ht2 : (tys ++ [(c2, FieldType.boolean)])[tys.length]? = some (c2, .boolean) := by rw [List.getElem?_append_right (Nat.le_refl _), Nat.sub_self]; rfl
  have ht1 : (tys ++ [(c2, FieldType.boolean)])[t0]? = some (cA, .boolean) := by rw [List.getElem?_append_left (List.getElem?_eq_some_iff.mp ht).1]; exact ht
  have e := va_K_one K1 ht1 ht2 (fun C => by intro q; cases q)
  subst e
  rw [← wJ_snoc] at P1 D1
  exact W.widen (Nat.le_refl _) (by omega) (kk q H1 P1 D1 S1)
/-- new int[n][k] -/
theorem sg_newM (hexec : p.tables.exec = Jvm.exec) (hb : c.code = cc) {own : String} {index : Nat} (hown : s.vm.findClass own = some m.cls) (hclink : (Cond.classLink own index "[[I").before args s = true) (hover : (Cond.arrayOver (.array .int)).before args s = true) (harr : (Cond.arrayClass .int).before args s = true)
    (hK : va_K D cl tys s) (hP : va_P D cl (wJ L) H) (hD : va_D A (wJ L)) (hS : va_S A H0 H locs) (hA : ∀ q, H0.size ≤ q → A q) (t0 t1 : Nat) (ht0 : tys[t0]? = some (cA, .int)) (ht1 : tys[t1]? = some (cO, .array .int)) {n k : Int32} (hn : ¬ (n < 0 ∨ 8 < n.toNatClampNeg)) (hk : ¬ (k < 0 ∨ 8 < k.toNatClampNeg))
    (hcells : cells + 9 ≤ R.cells) (hslots : slots + 72 ≤ R.slots) (hdg : decode cc pc = .ok (.multianewarray index 2, 4))
    (kk : ∀ (q : Nat) (r : Nat → Nat) (H1 : Heap), va_P D cl (wJ (L ++ [mt cA cO q n.toNatClampNeg k.toNatClampNeg r (fun _ _ => 0)])) H1 → va_D A (wJ (L ++ [mt cA cO q n.toNatClampNeg k.toNatClampNeg r (fun _ _ => 0)])) → va_S A H0 H1 locs →
      W p l e R s m args below meth c H1 locs (cells + 9) (slots + 72) Q (F0 m (pc + 4) ls (.ref q :: rest))) : W p l e R s m args below meth c H locs cells slots Q (F0 m pc ls (.int k :: .int n :: rest)) := by
  have h1 : n.toNatClampNeg ≤ 8 := Nat.not_lt.mp fun q => hn (Or.inr q)
  have h2 : k.toNatClampNeg ≤ 8 := Nat.not_lt.mp fun q => hk (Or.inr q)
  have h3 : n.toNatClampNeg * k.toNatClampNeg ≤ 64 := Nat.mul_le_mul h1 h2
  have eX : wJ L = wJ L ++ va_pl [] (fun _ => .inl (cA, 0, .inl (fun _ => 0))) := (List.append_nil _).symm
  have hP' := hP
  have hD' := hD
  rw [eX] at hP' hD'
  have hcy : s.vm.findClass (FieldType.array .int).toString = some cA := (hK.2 t0 _ ht0).2
  refine va_mna (ty := .int) (cy := cA) (z := (k.toNatClampNeg, .inl (fun _ => 0))) hexec hb hown hclink (va_AOA.of hover) harr hcy hK hP' hD' hS hA (fun q => hn (Or.inl q)) (fun q => hk (Or.inl q)) rfl rfl (by omega) (show k.toNatClampNeg * 4 ≤ 536870912 by omega) (by omega) rfl rfl (by omega) (by omega) (fun c => ?_) hdg (fun q r c2 H1 hr hr2 K1 P1 D1 S1 => ?_)
  · show ({ cls := c, slots := Array.replicate k.toNatClampNeg (.int 0), vm := .none } : Cell) = arrV c k.toNatClampNeg (fun _ => .int 0)
    rw [arrV_new]
  have ht2 : (tys ++ [(c2, FieldType.array .int)])[tys.length]? = some (c2, .array .int) := by rw [List.getElem?_append_right (Nat.le_refl _), Nat.sub_self]; rfl
  have ht3 : (tys ++ [(c2, FieldType.array .int)])[t1]? = some (cO, .array .int) := by rw [List.getElem?_append_left (List.getElem?_eq_some_iff.mp ht1).1]; exact ht1
  have e := va_K_one K1 ht3 ht2 (fun C => by intro q; cases q)
  subst e
  have eR : ((wJ L ++ [(q, (.inl (cO, n.toNatClampNeg, .inr (.inr (.inr (.inr (fun i => if i < n.toNatClampNeg then some (r i) else none))))) : va_E))]) ++ va_pl ([] ++ (List.range n.toNatClampNeg).map r) (vr_up (fun _ => .inl (cA, 0, .inl (fun _ => 0))) ((List.range n.toNatClampNeg).map r) (.inl (cA, k.toNatClampNeg, .inl (fun _ => 0))))) = wJ (L ++ [mt cA cO q n.toNatClampNeg k.toNatClampNeg r (fun _ _ => 0)]) := by
    rw [wJ_snoc, List.append_assoc]
    congr 1
    show _ :: _ = _ :: _
    congr 1
    rw [List.nil_append]
    unfold va_pl
    rw [List.map_map]
    apply List.map_congr_left
    intro a ha
    have : r a ∈ (List.range n.toNatClampNeg).map r := List.mem_map.mpr ⟨a, ha, rfl⟩
    simp only [Function.comp, vr_up_in this]
  rw [eR] at P1 D1
  exact W.widen (by omega) (by omega) (kk q r H1 P1 D1 S1)
end VSG
