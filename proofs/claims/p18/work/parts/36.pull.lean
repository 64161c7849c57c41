theorem lt_wh {w h x y : Nat} (hx : x < w) (hy : y < h) : w * y + x < w * h := by
  have h1 : w * (y + 1) ≤ w * h := Nat.mul_le_mul_left w hy
  rw [Nat.mul_add, Nat.mul_one] at h1
  omega
theorem wh_64 {w h : Nat} (hW : WH w h) : w * h ≤ 64 := by
  obtain ⟨w3, w8, h3, h8⟩ := hW
  exact Nat.le_trans (Nat.mul_le_mul w8 h8) (by decide)
theorem l_toN {k : Nat} (h : k < 2 ^ 31) : (nI k).toNatClampNeg = k := nI_clamp h
theorem cell_inj {w x y x' y' : Nat} (hx : x < w) (hx' : x' < w) (h : w * y + x = w * y' + x') : x = x' ∧ y = y' := by
  have h1 : (w * y + x) % w = x := by rw [Nat.mul_add_mod, Nat.mod_eq_of_lt hx]
  have h2 : (w * y' + x') % w = x' := by rw [Nat.mul_add_mod, Nat.mod_eq_of_lt hx']
  have hw : 0 < w := by omega
  have h3 : (w * y + x) / w = y := by rw [Nat.mul_add_div hw, Nat.div_eq_of_lt hx, Nat.add_zero]
  have h4 : (w * y' + x') / w = y' := by rw [Nat.mul_add_div hw, Nat.div_eq_of_lt hx', Nat.add_zero]
  rw [h] at h1 h3
  exact ⟨h1.symm.trans h2, h3.symm.trans h4⟩
theorem cntN_0 {p : Nat → Bool} : ∀ {n : Nat}, (∀ i, i < n → p i = false) → cntN p n = 0
  | 0, _ => rfl
  | n + 1, h => by
    show cntN p n + (p n).toNat = 0
    rw [cntN_0 (fun i hi => h i (Nat.lt_succ_of_lt hi)), h n (Nat.lt_succ_self n)]
    rfl
theorem cntN_or {p q : Nat → Bool} : ∀ {n : Nat}, (∀ i, i < n → ¬ (p i = true ∧ q i = true)) → cntN (fun i => p i || q i) n = cntN p n + cntN q n
  | 0, _ => rfl
  | n + 1, h => by
    show cntN (fun i => p i || q i) n + (p n || q n).toNat = (cntN p n + (p n).toNat) + (cntN q n + (q n).toNat)
    rw [cntN_or (fun i hi => h i (Nat.lt_succ_of_lt hi))]
    have h1 := h n (Nat.lt_succ_self n)
    have h2 : (p n || q n).toNat = (p n).toNat + (q n).toNat := by
      revert h1
      cases p n <;> cases q n <;> simp
    omega
theorem cntN_one {p : Nat → Bool} {k : Nat} : ∀ {n : Nat}, cntN (fun j => p j && decide (j = k)) n = if k < n then (p k).toNat else 0
  | 0 => rfl
  | n + 1 => by
    show cntN (fun j => p j && decide (j = k)) n + (p n && decide (n = k)).toNat = _
    rw [cntN_one]
    rcases Nat.lt_trichotomy k n with h | h | h
    · rw [if_pos h, if_pos (by omega), decide_eq_false (by omega)]; simp
    · subst h
      rw [if_neg (Nat.lt_irrefl _), if_pos (Nat.lt_succ_self _), decide_eq_true rfl]; simp
    · rw [if_neg (by omega), if_neg (by omega), decide_eq_false (by omega)]; simp
/-- whether a cell has a hedge behind a year -/
def cmB (bi st : Int32) (f : Nat → Nat → Bool) (w h : Nat) (rd : Bool) (x y : Nat) : Bool := rb (if f x y = true then st else bi) (cnt8 f w h rd x y)
theorem xy_64 {w h x y : Nat} (hW : WH w h) (hx : x < w) (hy : y < h) : 8 * y + x < 64 ∧ w * y + x < 64 := by
  have h1 := lt_wh hx hy
  have h2 := wh_64 hW
  obtain ⟨w3, w8, h3, h8⟩ := hW
  omega
/-- a cell by its number -/
theorem k_xy {w h k : Nat} (hk : k < w * h) (hw : 0 < w) : k % w < w ∧ k / w < h ∧ w * (k / w) + k % w = k := ⟨Nat.mod_lt _ hw, Nat.div_lt_of_lt_mul hk, Nat.div_add_mod k w⟩
theorem og_cong {w h : Nat} {f f' : Nat → Nat → Bool} (hf : ∀ x y, x < w → y < h → f x y = f' x y) {ox oy : Option Nat} (hx : ∀ x, ox = some x → x < w) (hy : ∀ y, oy = some y → y < h) : og f ox oy = og f' ox oy := by
  cases ox with
  | none => rfl
  | some x =>
    cases oy with
    | none => rfl
    | some y => exact hf x y (hx x rfl) (hy y rfl)
theorem cnt8_cong {w h : Nat} {rd : Bool} (hW : WH w h) {f f' : Nat → Nat → Bool} (hf : ∀ x y, x < w → y < h → f x y = f' x y) {x y : Nat} (hx : x < w) (hy : y < h) : cnt8 f w h rd x y = cnt8 f' w h rd x y := by
  have nx : ∀ x', nxt w rd x = some x' → x' < w := fun x' e => nxt_lt hW.1 e
  have px : ∀ x', prv w rd x = some x' → x' < w := fun x' e => prv_lt hW.1 hx e
  have ny : ∀ x', nxt h rd y = some x' → x' < h := fun x' e => nxt_lt hW.2.2.1 e
  have py : ∀ x', prv h rd y = some x' → x' < h := fun x' e => prv_lt hW.2.2.1 hy e
  have sx : ∀ x', some x = some x' → x' < w := fun x' e => by cases e; exact hx
  have sy : ∀ x', some y = some x' → x' < h := fun x' e => by cases e; exact hy
  unfold cnt8
  rw [og_cong hf nx ny, og_cong hf sx ny, og_cong hf px ny, og_cong hf nx sy, og_cong hf px sy, og_cong hf nx py, og_cong hf sx py, og_cong hf px py]
theorem cmB_cong {w h : Nat} {rd : Bool} (hW : WH w h) {f f' : Nat → Nat → Bool} (hf : ∀ x y, x < w → y < h → f x y = f' x y) (bi st : Int32) {x y : Nat} (hx : x < w) (hy : y < h) : cmB bi st f w h rd x y = cmB bi st f' w h rd x y := by
  unfold cmB
  rw [cnt8_cong hW hf hx hy, hf x y hx hy]
theorem gyl : ∀ (nf k : Nat) (a : Nat → Int32), k ≤ 64 → 64 - k < nf → ∃ v, lp_X2_growYear_67 nf (nI k) a = some v ∧ ∀ j, v j = if k ≤ j ∧ j < 64 then a j + 1 else a j
  | 0, _, _, _, hh => absurd hh (Nat.not_lt_zero _)
  | nf + 1, k, a, hk, hh => by
    rw [lp_X2_growYear_67.eq_2]
    by_cases q : 64 ≤ k
    · rw [if_pos (show (64 : Int32) ≤ nI k from (nI_leI (a := 64) (by decide) (by omega)).mpr q)]
      exact ⟨a, rfl, fun j => by rw [if_neg (by omega)]⟩
    · rw [if_neg (show ¬ (64 : Int32) ≤ nI k from fun z => q ((nI_leI (a := 64) (by decide) (by omega)).mp z)), if_neg (l_out (by omega) (by decide)), if_neg (l_out (by omega) (by decide)), l_toN (by omega), nI_1]
      obtain ⟨v, h1, h2⟩ := gyl nf (k + 1) (upd a k (a k + 1)) (by omega) (by omega)
      refine ⟨v, h1, fun j => ?_⟩
      rw [h2 j]
      by_cases e : j = k
      · subst e
        rw [if_neg (by omega), pk_us, if_pos (by omega)]
      · rw [pk_un e]
        by_cases z : k ≤ j ∧ j < 64
        · rw [if_pos z, if_pos (by omega)]
        · rw [if_neg z, if_neg (by omega)]
theorem pyl (cs : Int64) : ∀ (nf k : Nat) (a : Nat → Int32), k ≤ 64 → 64 - k < nf → ∃ v, lp_X2_putYoung_12 cs nf (nI k) a = some v ∧ ∀ j, v j = if k ≤ j ∧ cb cs j = true then 0 else a j
  | 0, _, _, _, hh => absurd hh (Nat.not_lt_zero _)
  | nf + 1, k, a, hk, hh => by
    rw [lp_X2_putYoung_12.eq_2]
    by_cases q : 64 ≤ k
    · rw [if_pos (show (64 : Int32) ≤ nI k from (nI_leI (a := 64) (by decide) (by omega)).mpr q)]
      refine ⟨a, rfl, fun j => ?_⟩
      rw [if_neg]
      rintro ⟨h1, h2⟩
      have := cb_lt h2
      omega
    · rw [if_neg (show ¬ (64 : Int32) ≤ nI k from fun z => q ((nI_leI (a := 64) (by decide) (by omega)).mp z)), nI_1, if_neg (l_out (by omega) (by decide)), l_toN (by omega)]
      have e0 : (if ((jushr cs (nI k)) &&& 1) = 0 then (some a) else (some (upd a k 0)) : Option (Nat → Int32)) = some (if cb cs k = true then upd a k 0 else a) := by
        by_cases c : cb cs k = true
        · rw [if_neg (fun z => by rw [(tu_0 (by omega)).mp z] at c; exact nomatch c), if_pos c]
        · rw [if_pos ((tu_0 (by omega)).mpr (by simpa using c)), if_neg c]
      rw [e0, Option.bind_some]
      obtain ⟨v, h1, h2⟩ := pyl cs nf (k + 1) (if cb cs k = true then upd a k 0 else a) (by omega) (by omega)
      refine ⟨v, h1, fun j => ?_⟩
      rw [h2 j]
      by_cases e : j = k
      · subst e
        rw [if_neg (by omega)]
        by_cases c : cb cs j = true
        · rw [if_pos c, if_pos ⟨Nat.le_refl _, c⟩, pk_us]
        · rw [if_neg c, if_neg (fun z => c z.2)]
      · have e1 : (if cb cs k = true then upd a k 0 else a) j = a j := by
          by_cases c : cb cs k = true
          · rw [if_pos c, pk_un e]
          · rw [if_neg c]
        rw [e1]
        by_cases z : k ≤ j ∧ cb cs j = true
        · rw [if_pos z, if_pos ⟨by omega, z.2⟩]
        · rw [if_neg z, if_neg (fun z' => z ⟨by omega, z'.2⟩)]
theorem py_ok (d : GaS) (a : Nat → Int32) (cs : Int64) : ∃ v, f_X2_putYoung d a cs = some ((d.1 ||| cs, d.2.1, d.2.2.1, d.2.2.2), v) ∧ ∀ j, v j = if cb cs j = true then 0 else a j := by
  obtain ⟨v, h1, h2⟩ := pyl cs 100 0 a (by decide) (by decide)
  refine ⟨v, ?_, fun j => ?_⟩
  · unfold f_X2_putYoung
    have h1' : lp_X2_putYoung_12 cs 100 0 a = some v := h1
    rw [h1']
    rfl
  · rw [h2 j]
    by_cases c : cb cs j = true
    · rw [if_pos ⟨Nat.zero_le _, c⟩, if_pos c]
    · rw [if_neg (fun z => c z.2), if_neg c]
theorem or_comm64 (x y : Int64) : x ||| y = y ||| x := cb_ext (fun i _ => by rw [cb_or, cb_or, Bool.or_comm])
/-! ===== one step over open cells, both sides ===== -/
def SB (f : Nat → Nat → Bool) (w h : Nat) (rd : Bool) (x y : Nat) : Bool := ((og f (nxt w rd x) (some y) || og f (prv w rd x) (some y)) || og f (some x) (nxt h rd y)) || og f (some x) (prv h rd y)
theorem wB_ok {g : GrS} {w h : Nat} {rd : Bool} (hW : WH w h) (hG : GOK g w h rd) {c op : Int64} (hc : InC w h c) (ho : InC w h op) : InC w h (f_X3_withBeside g c op) ∧ ∀ x y, x < w → y < h → BC (f_X3_withBeside g c op) x y = ((BC c x y || SB (BC c) w h rd x y) && BC op x y) := by
  refine ⟨fun i hi => ?_, fun x y hx hy => ?_⟩
  · unfold f_X3_withBeside at hi
    rw [cb_and, Bool.and_eq_true] at hi
    exact ho i hi.2
  · have L := (left_ok hW hG hc).2 x y hx hy
    have R := (right_ok hW hG hc).2 x y hx hy
    have U := (up_ok hW hG hc).2 x y hx hy
    have D := (down_ok hW hG hc).2 x y hx hy
    unfold f_X3_withBeside
    have e : BC (((((c ||| (f_X3_left g c)) ||| (f_X3_right g c)) ||| (f_X3_up g c)) ||| (f_X3_down g c)) &&& op) x y = (((((BC c x y || BC (f_X3_left g c) x y) || BC (f_X3_right g c) x y) || BC (f_X3_up g c) x y) || BC (f_X3_down g c) x y) && BC op x y) := by
      unfold BC
      rw [cb_and, cb_or, cb_or, cb_or, cb_or]
    rw [e, L, R, U, D]
    unfold SB
    simp only [Bool.or_assoc]
theorem sym_nxt {w x x' : Nat} {rd : Bool} (hx : x < w) (hx' : x' < w) : nxt w rd x' = some x ↔ prv w rd x = some x' := by
  unfold nxt prv
  by_cases q : x' + 1 < w
  · rw [if_pos q]
    by_cases z : 0 < x
    · rw [if_pos z]
      constructor <;> intro e
      · cases e; rfl
      · have : x - 1 = x' := Option.some.inj e
        congr 1; omega
    · rw [if_neg z]
      cases rd with
      | true =>
        constructor <;> intro e
        · cases e; omega
        · have : w - 1 = x' := Option.some.inj e
          omega
      | false =>
        constructor <;> intro e
        · cases e; omega
        · exact nomatch e
  · rw [if_neg q]
    by_cases z : 0 < x
    · rw [if_pos z]
      cases rd with
      | true =>
        constructor <;> intro e
        · have : 0 = x := Option.some.inj e
          omega
        · have : x - 1 = x' := Option.some.inj e
          omega
      | false =>
        constructor <;> intro e
        · exact nomatch e
        · have : x - 1 = x' := Option.some.inj e
          omega
    · rw [if_neg z]
      have h1 : x' = w - 1 := by omega
      have h2 : x = 0 := by omega
      subst h1; subst h2
      cases rd with
      | true => exact ⟨fun _ => rfl, fun _ => rfl⟩
      | false => exact ⟨fun e => absurd e (by simp), fun e => absurd e (by simp)⟩
theorem og_ex {f : Nat → Nat → Bool} {ox oy : Option Nat} : og f ox oy = true ↔ ∃ x y, ox = some x ∧ oy = some y ∧ f x y = true := by
  constructor
  · intro h
    cases ox with
    | none => exact nomatch h
    | some x =>
      cases oy with
      | none => exact nomatch h
      | some y => exact ⟨x, y, rfl, rfl, h⟩
  · rintro ⟨x, y, rfl, rfl, h⟩
    exact h
theorem SB_ex {f : Nat → Nat → Bool} {w h x y : Nat} {rd : Bool} : SB f w h rd x y = true ↔ ∃ x' y', f x' y' = true ∧ ((nxt w rd x = some x' ∧ y = y') ∨ (prv w rd x = some x' ∧ y = y') ∨ (x = x' ∧ nxt h rd y = some y') ∨ (x = x' ∧ prv h rd y = some y')) := by
  unfold SB
  rw [Bool.or_eq_true, Bool.or_eq_true, Bool.or_eq_true, og_ex, og_ex, og_ex, og_ex]
  constructor
  · rintro (((⟨x', y', h1, h2, h3⟩ | ⟨x', y', h1, h2, h3⟩) | ⟨x', y', h1, h2, h3⟩) | ⟨x', y', h1, h2, h3⟩)
    · exact ⟨x', y', h3, Or.inl ⟨h1, Option.some.inj h2⟩⟩
    · exact ⟨x', y', h3, Or.inr (Or.inl ⟨h1, Option.some.inj h2⟩)⟩
    · exact ⟨x', y', h3, Or.inr (Or.inr (Or.inl ⟨Option.some.inj h1, h2⟩))⟩
    · exact ⟨x', y', h3, Or.inr (Or.inr (Or.inr ⟨Option.some.inj h1, h2⟩))⟩
  · rintro ⟨x', y', h3, (⟨h1, h2⟩ | ⟨h1, h2⟩ | ⟨h1, h2⟩ | ⟨h1, h2⟩)⟩
    · exact Or.inl (Or.inl (Or.inl ⟨x', y', h1, congrArg some h2, h3⟩))
    · exact Or.inl (Or.inl (Or.inr ⟨x', y', h1, congrArg some h2, h3⟩))
    · exact Or.inl (Or.inr ⟨x', y', congrArg some h1, h2, h3⟩)
    · exact Or.inr ⟨x', y', congrArg some h1, h2, h3⟩
theorem SB_lt {f : Nat → Nat → Bool} {w h x y x' y' : Nat} {rd : Bool} (hW : WH w h) (hx : x < w) (hy : y < h) (e : (nxt w rd x = some x' ∧ y = y') ∨ (prv w rd x = some x' ∧ y = y') ∨ (x = x' ∧ nxt h rd y = some y') ∨ (x = x' ∧ prv h rd y = some y')) : x' < w ∧ y' < h := by
  rcases e with ⟨h1, h2⟩ | ⟨h1, h2⟩ | ⟨h1, h2⟩ | ⟨h1, h2⟩
  · exact ⟨nxt_lt hW.1 h1, h2 ▸ hy⟩
  · exact ⟨prv_lt hW.1 hx h1, h2 ▸ hy⟩
  · exact ⟨h1 ▸ hx, nxt_lt hW.2.2.1 h2⟩
  · exact ⟨h1 ▸ hx, prv_lt hW.2.2.1 hy h2⟩
/-- who lies beside whom goes both ways -/
theorem adj_sym {w h x y x' y' : Nat} {rd : Bool} (hx : x < w) (hy : y < h) (hx' : x' < w) (hy' : y' < h) : ((nxt w rd x = some x' ∧ y = y') ∨ (prv w rd x = some x' ∧ y = y') ∨ (x = x' ∧ nxt h rd y = some y') ∨ (x = x' ∧ prv h rd y = some y')) ↔ ((nxt w rd x' = some x ∧ y' = y) ∨ (prv w rd x' = some x ∧ y' = y) ∨ (x' = x ∧ nxt h rd y' = some y) ∨ (x' = x ∧ prv h rd y' = some y)) := by
  rw [sym_nxt (x := x') (x' := x) hx' hx, sym_nxt (x := x) (x' := x') hx hx', sym_nxt (x := y') (x' := y) hy' hy, sym_nxt (x := y) (x' := y') hy hy']
  constructor
  · rintro (⟨h1, h2⟩ | ⟨h1, h2⟩ | ⟨h1, h2⟩ | ⟨h1, h2⟩)
    · exact Or.inr (Or.inl ⟨h1, h2.symm⟩)
    · exact Or.inl ⟨h1, h2.symm⟩
    · exact Or.inr (Or.inr (Or.inr ⟨h1.symm, h2⟩))
    · exact Or.inr (Or.inr (Or.inl ⟨h1.symm, h2⟩))
  · rintro (⟨h1, h2⟩ | ⟨h1, h2⟩ | ⟨h1, h2⟩ | ⟨h1, h2⟩)
    · exact Or.inr (Or.inl ⟨h1, h2.symm⟩)
    · exact Or.inl ⟨h1, h2.symm⟩
    · exact Or.inr (Or.inr (Or.inr ⟨h1.symm, h2⟩))
    · exact Or.inr (Or.inr (Or.inl ⟨h1.symm, h2⟩))
theorem wB_sub {g : GrS} {c op : Int64} {i : Nat} (h : cb (f_X3_withBeside g c op) i = true) : cb op i = true := by
  unfold f_X3_withBeside at h
  rw [cb_and, Bool.and_eq_true] at h
  exact h.2
theorem wB_grow {g : GrS} {c op : Int64} (hsub : ∀ i, cb c i = true → cb op i = true) {i : Nat} (h : cb c i = true) : cb (f_X3_withBeside g c op) i = true := by
  unfold f_X3_withBeside
  rw [cb_and, cb_or, cb_or, cb_or, cb_or, h, hsub i h]
  simp
theorem wB_pc {g : GrS} {c op : Int64} (hsub : ∀ i, cb c i = true → cb op i = true) (hne : ¬ f_X3_withBeside g c op = c) : pc c + 1 ≤ pc (f_X3_withBeside g c op) := by
  refine cntN_lt (fun i _ h => wB_grow hsub h) ?_
  apply Classical.byContradiction
  intro q
  refine hne (cb_ext (fun i hi => ?_))
  cases h1 : cb c i with
  | true => exact wB_grow hsub h1
  | false =>
    cases h2 : cb (f_X3_withBeside g c op) i with
    | false => rfl
    | true => exact absurd ⟨i, hi, h1, h2⟩ q
theorem pc_pos {x : Int64} : 0 < pc x ↔ ¬ x = 0 := by
  unfold pc
  rw [cntN_pos, cb_nz]
theorem openC_b {g : GrS} {w h : Nat} {rd : Bool} (hG : GOK g w h rd) (hs : Int64) {i : Nat} (hi : i < 64) : cb (f_X3_open g hs) i = (decide (i % 8 < w ∧ i / 8 < h) && !cb hs i) := by
  unfold f_X3_open
  rw [cb_and, cb_not hi, (hG.2.2.2 i hi).1]
/-- whole lawns alone are left -/
def CL (w h : Nat) (rd : Bool) (op rest : Int64) : Prop := ∀ x y, x < w → y < h → BC op x y = true → SB (BC rest) w h rd x y = true → BC rest x y = true
theorem lw_eq {g : GrS} {w h : Nat} {rd : Bool} (hW : WH w h) (hG : GOK g w h rd) {op rest : Int64} (ho : InC w h op) (hr : ∀ i, cb rest i = true → cb op i = true) (hcl : CL w h rd op rest) : ∀ (nf : Nat) (c : Int64) (i : Int32), (∀ j, cb c j = true → cb rest j = true) → lp_X3_lawn_8 g op nf c i = lp_X3_lawn_8 g rest nf c i
  | 0, _, _, _ => rfl
  | nf + 1, c, i, hc => by
    have hco : InC w h c := fun j hj => ho j (hr j (hc j hj))
    have hro : InC w h rest := fun j hj => ho j (hr j hj)
    obtain ⟨i1, b1⟩ := wB_ok hW hG hco ho
    obtain ⟨i2, b2⟩ := wB_ok hW hG hco hro
    have key : f_X3_withBeside g c op = f_X3_withBeside g c rest := by
      refine cb_ext (fun j hj => ?_)
      by_cases q : j % 8 < w ∧ j / 8 < h
      · have e1 := b1 _ _ q.1 q.2
        have e2 := b2 _ _ q.1 q.2
        have ej : 8 * (j / 8) + j % 8 = j := by omega
        unfold BC at e1 e2
        rw [ej] at e1 e2
        rw [e1, e2]
        cases h1 : (cb c j || SB (BC c) w h rd (j % 8) (j / 8)) with
        | false => 
          have h1' : (cb c j || SB (fun x y => cb c (8 * y + x)) w h rd (j % 8) (j / 8)) = false := h1
          rw [h1']
          rfl
        | true =>
          have h1' : (cb c j || SB (fun x y => cb c (8 * y + x)) w h rd (j % 8) (j / 8)) = true := h1
          rw [h1', Bool.true_and, Bool.true_and]
          cases h2 : cb rest j with
          | true => exact hr j h2
          | false =>
            cases h3 : cb op j with
            | false => rfl
            | true =>
              exfalso
              rw [Bool.or_eq_true] at h1
              rcases h1 with h1 | h1
              · rw [hc j h1] at h2
                exact nomatch h2
              · obtain ⟨x', y', z1, z2⟩ := SB_ex.mp h1
                have : BC rest (j % 8) (j / 8) = true := hcl _ _ q.1 q.2 (by unfold BC; rw [ej]; exact h3) (SB_ex.mpr ⟨x', y', hc _ z1, z2⟩)
                unfold BC at this
                rw [ej, h2] at this
                exact nomatch this
      · have z : ∀ c, InC w h c → cb c j = false := fun c hc' => by
          cases hh : cb c j with
          | false => rfl
          | true => exact absurd (hc' j hh) q
        rw [z _ i1, z _ i2]
    rw [lp_X3_lawn_8.eq_2, lp_X3_lawn_8.eq_2, key, lw_eq hW hG ho hr hcl nf (f_X3_withBeside g c rest) (i + 1) (fun j hj => wB_sub hj)]
theorem CL_next {g : GrS} {w h : Nat} {rd : Bool} (hW : WH w h) (hG : GOK g w h rd) {op rest L : Int64} (hro : InC w h rest) (hL : ∀ i, cb L i = true → cb rest i = true) (hfix : f_X3_withBeside g L rest = L) (hcl : CL w h rd op rest) : CL w h rd op (rest &&& (L ^^^ (-1))) := by
  obtain ⟨i1, b1⟩ := wB_ok hW hG (fun j hj => hro j (hL j hj)) hro
  rw [hfix] at b1
  have bt' : ∀ x y, x < w → y < h → BC (rest &&& (L ^^^ (-1))) x y = (BC rest x y && !BC L x y) := fun x y hx hy => by
    unfold BC
    rw [cb_and, cb_not (xy_64 hW hx hy).1]
  intro x y hx hy h1 h2
  obtain ⟨x', y', z1, z2⟩ := SB_ex.mp h2
  obtain ⟨k1, k2⟩ := SB_lt (f := BC rest) hW hx hy z2
  rw [bt' x' y' k1 k2, Bool.and_eq_true] at z1
  have hrest := hcl x y hx hy h1 (SB_ex.mpr ⟨x', y', z1.1, z2⟩)
  rw [bt' x y hx hy, hrest, Bool.true_and]
  cases hh : BC L x y with
  | false => rfl
  | true =>
    exfalso
    have e := b1 x' y' k1 k2
    have hsb : SB (BC L) w h rd x' y' = true := SB_ex.mpr ⟨x, y, hh, (adj_sym hx hy k1 k2).mp z2⟩
    rw [hsb, Bool.or_true, z1.1] at e
    rw [e] at z1
    exact absurd z1.2 (by decide)
theorem steps_st {g : GrS} {to op c : Int64} (hfix : f_X3_withBeside g c op = c) (h0 : (c &&& to) = 0) : ∀ (nf i : Nat), i ≤ 64 → 64 - i < nf → lp_X3_steps_9 g to op nf c (nI i) = some (-1)
  | 0, _, _, h => absurd h (Nat.not_lt_zero _)
  | nf + 1, i, hi, h => by
    rw [lp_X3_steps_9.eq_2]
    by_cases q : 64 ≤ i
    · rw [if_pos (show (64 : Int32) ≤ nI i from (nI_leI (a := 64) (by decide) (by omega)).mpr q)]
    · rw [if_neg (show ¬ (64 : Int32) ≤ nI i from fun z => q ((nI_leI (a := 64) (by decide) (by omega)).mp z)), if_pos h0, hfix, nI_1]
      exact steps_st hfix h0 nf (i + 1) (by omega) (by omega)
/-- cells that there are -/
theorem hasC {g : GrS} {w h : Nat} {rd : Bool} (hW : WH w h) (hG : GOK g w h rd) (cx cy : Int32) : (f_X3_has g cx cy = 0 ∨ f_X3_has g cx cy = 1) ∧ (¬ f_X3_has g cx cy = 0 ↔ ∃ x y, x < w ∧ y < h ∧ cx = nI x ∧ cy = nI y) := by
  obtain ⟨w3, w8, h3, h8⟩ := hW
  unfold f_X3_has
  rw [hG.1, hG.2.1]
  by_cases c1 : cx < 0
  · rw [if_pos c1]
    refine ⟨Or.inl rfl, fun z => absurd rfl z, ?_⟩
    rintro ⟨x, y, hx, hy, rfl, rfl⟩
    exact absurd c1 (nI_pos (by omega))
  · rw [if_neg c1]
    obtain ⟨x, hx31, rfl⟩ := nI_of c1
    by_cases c2 : nI w ≤ nI x
    · rw [if_pos c2]
      refine ⟨Or.inl rfl, fun z => absurd rfl z, ?_⟩
      rintro ⟨x', y, hx, hy, e, rfl⟩
      have := (nI_leI (by omega) hx31).mp c2
      have := (nI_eq hx31 (by omega)).mp e
      omega
    · rw [if_neg c2]
      have hx : x < w := by
        rcases Nat.lt_or_ge x w with q | q
        · exact q
        · exact absurd ((nI_leI (by omega) hx31).mpr q) c2
      by_cases c3 : cy < 0
      · rw [if_pos c3]
        refine ⟨Or.inl rfl, fun z => absurd rfl z, ?_⟩
        rintro ⟨x', y, hx, hy, e, rfl⟩
        exact absurd c3 (nI_pos (by omega))
      · rw [if_neg c3]
        obtain ⟨y, hy31, rfl⟩ := nI_of c3
        by_cases c4 : nI h ≤ nI y
        · rw [if_pos c4]
          refine ⟨Or.inl rfl, fun z => absurd rfl z, ?_⟩
          rintro ⟨x', y', hx', hy', e, e2⟩
          have := (nI_leI (by omega) hy31).mp c4
          have := (nI_eq hy31 (by omega)).mp e2
          omega
        · rw [if_neg c4]
          have hy : y < h := by
            rcases Nat.lt_or_ge y h with q | q
            · exact q
            · exact absurd ((nI_leI (by omega) hy31).mpr q) c4
          exact ⟨Or.inr rfl, fun _ => ⟨x, y, hx, hy, rfl, rfl⟩, fun _ => by decide⟩
/-! ===== what is gone through cell by cell ===== -/
def foldN {α : Type} (F : α → Nat → α) (s : α) : Nat → α
  | 0 => s
  | n + 1 => F (foldN F s n) n
theorem foldN_add {α : Type} (F : α → Nat → α) (s : α) (m : Nat) : ∀ n, foldN F s (m + n) = foldN (fun a i => F a (m + i)) (foldN F s m) n
  | 0 => rfl
  | n + 1 => by
    show F (foldN F s (m + n)) (m + n) = F (foldN (fun a i => F a (m + i)) (foldN F s m) n) (m + n)
    rw [foldN_add F s m n]
theorem foldN_cong {α : Type} {F G : α → Nat → α} {s : α} : ∀ {n : Nat}, (∀ a i, i < n → F a i = G a i) → foldN F s n = foldN G s n
  | 0, _ => rfl
  | n + 1, h => by
    show F (foldN F s n) n = G (foldN G s n) n
    rw [foldN_cong (fun a i hi => h a i (Nat.lt_succ_of_lt hi)), h _ n (Nat.lt_succ_self n)]
theorem foldN_id {α : Type} {F : α → Nat → α} {s : α} : ∀ {n : Nat}, (∀ a i, i < n → F a i = a) → foldN F s n = s
  | 0, _ => rfl
  | n + 1, h => by
    show F (foldN F s n) n = s
    rw [h _ n (Nat.lt_succ_self n), foldN_id (fun a i hi => h a i (Nat.lt_succ_of_lt hi))]
def oF (c : Int64) (a : Nat → Int32) (b : Int32) (i : Nat) : Int32 := if cb c i = true then (if a i ≤ b then b else a i) else b
def sF (c : Int64) (a : Nat → Int32) (b : Int32) (i : Nat) : Int32 := if cb c i = true then b + a i else b
theorem oldC_l (d : GaS) (a : Nat → Int32) : ∀ (nf k : Nat) (b : Int32), k ≤ 64 → 64 - k < nf → lp_X2_oldest_4 d a nf b (nI k) = some (foldN (fun b i => oF d.1 a b (k + i)) b (64 - k))
  | 0, _, _, _, hh => absurd hh (Nat.not_lt_zero _)
  | nf + 1, k, b, hk, hh => by
    rw [lp_X2_oldest_4.eq_2]
    by_cases q : 64 ≤ k
    · rw [if_pos (show (64 : Int32) ≤ nI k from (nI_leI (a := 64) (by decide) (by omega)).mpr q), show 64 - k = 0 by omega]
      rfl
    · rw [if_neg (show ¬ (64 : Int32) ≤ nI k from fun z => q ((nI_leI (a := 64) (by decide) (by omega)).mp z)), if_neg (l_out (by omega) (by decide)), if_neg (l_out (by omega) (by decide)), l_toN (by omega), nI_1]
      have e : (if ((jushr d.1 (nI k)) &&& 1) = 0 then (some b) else (if (a k) ≤ b then (some b) else (some (a k))) : Option Int32) = some (oF d.1 a b k) := by
        unfold oF
        by_cases c : cb d.1 k = true
        · rw [if_neg (fun z => by rw [(tu_0 (by omega)).mp z] at c; exact nomatch c), if_pos c]
          by_cases c2 : a k ≤ b
          · rw [if_pos c2, if_pos c2]
          · rw [if_neg c2, if_neg c2]
        · rw [if_pos ((tu_0 (by omega)).mpr (by simpa using c)), if_neg c]
      rw [e, Option.bind_some, oldC_l d a nf (k + 1) _ (by omega) (by omega), show 64 - k = 1 + (64 - (k + 1)) by omega, foldN_add]
      congr 1
      exact foldN_cong (fun b i _ => by rw [show k + 1 + i = k + (1 + i) by omega])
theorem sumC_l (d : GaS) (a : Nat → Int32) : ∀ (nf k : Nat) (b : Int32), k ≤ 64 → 64 - k < nf → lp_X2_ageOfAll_4 d a nf b (nI k) = some (foldN (fun b i => sF d.1 a b (k + i)) b (64 - k))
  | 0, _, _, _, hh => absurd hh (Nat.not_lt_zero _)
  | nf + 1, k, b, hk, hh => by
    rw [lp_X2_ageOfAll_4.eq_2]
    by_cases q : 64 ≤ k
    · rw [if_pos (show (64 : Int32) ≤ nI k from (nI_leI (a := 64) (by decide) (by omega)).mpr q), show 64 - k = 0 by omega]
      rfl
    · rw [if_neg (show ¬ (64 : Int32) ≤ nI k from fun z => q ((nI_leI (a := 64) (by decide) (by omega)).mp z)), if_neg (l_out (by omega) (by decide)), l_toN (by omega), nI_1]
      have e : (if ((jushr d.1 (nI k)) &&& 1) = 0 then (some b) else (some (b + a k)) : Option Int32) = some (sF d.1 a b k) := by
        unfold sF
        by_cases c : cb d.1 k = true
        · rw [if_neg (fun z => by rw [(tu_0 (by omega)).mp z] at c; exact nomatch c), if_pos c]
        · rw [if_pos ((tu_0 (by omega)).mpr (by simpa using c)), if_neg c]
      rw [e, Option.bind_some, sumC_l d a nf (k + 1) _ (by omega) (by omega), show 64 - k = 1 + (64 - (k + 1)) by omega, foldN_add]
      congr 1
      exact foldN_cong (fun b i _ => by rw [show k + 1 + i = k + (1 + i) by omega])
theorem max_le (x y : Int32) : (if x < y then y else x) = (if y ≤ x then x else y) := by
  by_cases c : x < y
  · rw [if_pos c, if_neg (fun z => by
      have h1 := Int32.lt_iff_toInt_lt.mp c
      have h2 := Int32.le_iff_toInt_le.mp z
      omega)]
  · rw [if_neg c, if_pos (by
      rw [Int32.le_iff_toInt_le]
      rw [Int32.lt_iff_toInt_lt] at c
      omega)]
theorem ar_tab : ∀ a b d e : Bool, ((((if a = true then (1 : Int32) else 0) + (if b = true then 2 else 0)) + (if d = true then 4 else 0)) + (if e = true then 8 else 0)) = nI (a.toNat + 2 * b.toNat + 4 * d.toNat + 8 * e.toNat) := by decide
theorem worth_b (x : Int64) {k : Nat} (hk : k < 64) (v : Int32) : f_X0_worth (x &&& ob k) v = if cb x k = true then v else 0 := by
  unfold f_X0_worth
  by_cases c : cb x k = true
  · rw [if_pos c, if_neg (fun z => by rw [(and_ob hk).mp z] at c; exact nomatch c)]
  · rw [if_neg c, if_pos ((and_ob hk).mpr (by simpa using c))]
theorem around_ok (q : CrS) {k : Nat} (hk : k < 64) : f_X0_around q (ob k) = nI (vq q k) := by
  unfold f_X0_around vq
  rw [worth_b _ hk, worth_b _ hk, worth_b _ hk, worth_b _ hk]
  exact ar_tab _ _ _ _
theorem hh_ok (d : GaS) {k : Nat} (hk : k < 64) : f_X2_hasHedge d (ob k) = if cb d.1 k = true then 1 else 0 := by
  unfold f_X2_hasHedge
  by_cases c : cb d.1 k = true
  · rw [if_pos c, if_neg (fun z => by rw [(and_ob hk).mp z] at c; exact nomatch c)]
  · rw [if_neg c, if_pos ((and_ob hk).mpr (by simpa using c))]
theorem jshl_ob (k : Nat) : jshl 1 (nI k) = ob k := rfl
def rzB (w h : Nat) : Bool := match lp_X3_resize_46 (nI w) (nI h) 100 0 0 0 with
  | none => false
  | some v => (List.range 64).all fun i => (cb v.1 i == decide (i % 8 < w ∧ i / 8 < h)) && (cb v.2 i == decide (i % 8 = 0 ∧ i / 8 < h)) && (cb (jshl v.2 (nI w - 1)) i == decide (i % 8 + 1 = w ∧ i / 8 < h)) && (cb ((jshl 1 (nI w)) - 1) i == decide (i / 8 = 0 ∧ i % 8 < w)) && (cb (jshl ((jshl 1 (nI w)) - 1) (8 * (nI h - 1))) i == decide (i / 8 + 1 = h ∧ i % 8 < w))
theorem rz_t : ∀ a, a < 6 → ∀ b, b < 6 → rzB (a + 3) (b + 3) = true := by decide +kernel
theorem resize_ok (g : GrS) {w h : Nat} (hW : WH w h) : ∃ g', f_X3_resize g (nI w) (nI h) = some g' ∧ GOK g' w h g.2.2.1 := by
  obtain ⟨w3, w8, h3, h8⟩ := hW
  have t := rz_t (w - 3) (by omega) (h - 3) (by omega)
  rw [show w - 3 + 3 = w by omega, show h - 3 + 3 = h by omega] at t
  unfold rzB at t
  unfold f_X3_resize
  cases e : lp_X3_resize_46 (nI w) (nI h) 100 0 0 0 with
  | none => rw [e] at t; exact nomatch t
  | some v =>
    rw [e] at t
    refine ⟨_, rfl, rfl, rfl, rfl, fun i hi => ?_⟩
    have ti := List.all_eq_true.mp t i (List.mem_range.mpr hi)
    simp only [Bool.and_eq_true, beq_iff_eq] at ti
    exact ⟨ti.1.1.1.1, ti.1.1.1.2, ti.1.1.2, ti.1.2, ti.2⟩
theorem copy_l (a : Nat → Int32) : ∀ (nf k : Nat) (b : Nat → Int32), k ≤ 64 → 64 - k < nf → ∃ v, lp_X2_copyFrom_2 a nf (nI k) b = some v ∧ ∀ j, v j = if k ≤ j ∧ j < 64 then a j else b j
  | 0, _, _, _, hh => absurd hh (Nat.not_lt_zero _)
  | nf + 1, k, b, hk, hh => by
    rw [lp_X2_copyFrom_2.eq_2]
    by_cases q : 64 ≤ k
    · rw [if_pos (show (64 : Int32) ≤ nI k from (nI_leI (a := 64) (by decide) (by omega)).mpr q)]
      exact ⟨b, rfl, fun j => by rw [if_neg (by omega)]⟩
    · have qn : ¬ (64 : Int32) ≤ nI k := fun z => q ((nI_leI (a := 64) (by decide) (by omega)).mp z)
      rw [if_neg qn, if_neg qn, if_neg (l_out (by omega) (by decide)), if_neg (l_out (by omega) (by decide)), l_toN (by omega), nI_1]
      obtain ⟨v, e1, e2⟩ := copy_l a nf (k + 1) (upd b k (a k)) (by omega) (by omega)
      refine ⟨v, e1, fun j => ?_⟩
      rw [e2]
      unfold upd
      by_cases e : j = k
      · rw [e, if_neg (by omega), if_pos rfl, if_pos (by omega)]
      · by_cases f : k ≤ j ∧ j < 64
        · rw [if_pos f, if_pos (by omega)]
        · rw [if_neg f, if_neg (by omega), if_neg e]
/-! ===== advise, digest ===== -/
theorem fold_nest {α : Type} {w : Nat} (G : α → Nat → α) (s : α) : ∀ h, foldN G s (w * h) = foldN (fun b y => foldN (fun b x => G b (w * y + x)) b w) s h
  | 0 => rfl
  | h + 1 => by
    rw [Nat.mul_add, Nat.mul_one, foldN_add, fold_nest G s h]
    rfl
theorem nlt_le {x y : Int32} : ¬ x < y ↔ y ≤ x := by
  rw [Int32.lt_iff_toInt_lt, Int32.le_iff_toInt_le]
  omega
/-! ===== the years that come: period ===== -/
def sqC (g : GrS) (r : RuS) (c : Int64) : Nat → Int64
  | 0 => c
  | j + 1 => (f_X4_behindYears r g (sqC g r c j) 1).getD 0
theorem fc_l {g : GrS} {r : RuS} {c : Int64} (hq : ∀ j, f_X4_behindYears r g (sqC g r c j) 1 = some (sqC g r c (j + 1))) : ∀ (nf k : Nat) (co : Nat → Int64), k ≤ 61 → 61 - k < nf → ∃ v, lp_X5_foreseeComing_10 g r nf (sqC g r c k) (nI k) co = some v ∧ ∀ j, v j = if k ≤ j ∧ j < 61 then sqC g r c j else co j
  | 0, _, _, _, hh => absurd hh (Nat.not_lt_zero _)
  | nf + 1, k, co, hk, hh => by
    rw [lp_X5_foreseeComing_10.eq_2]
    by_cases q : 61 ≤ k
    · rw [if_pos (show (61 : Int32) ≤ nI k from (nI_leI (a := 61) (by decide) (by omega)).mpr q)]
      exact ⟨co, rfl, fun j => by rw [if_neg (by omega)]⟩
    · rw [if_neg (show ¬ (61 : Int32) ≤ nI k from fun z => q ((nI_leI (a := 61) (by decide) (by omega)).mp z)), if_neg (l_out (by omega) (by decide)), hq k, Option.bind_some, l_toN (by omega), nI_1]
      obtain ⟨v, e1, e2⟩ := fc_l hq nf (k + 1) (vp_updL co k (sqC g r c k)) (by omega) (by omega)
      refine ⟨v, e1, fun j => ?_⟩
      rw [e2]
      unfold vp_updL
      by_cases e : j = k
      · rw [e, if_neg (by omega), if_pos rfl, if_pos (by omega)]
      · by_cases f : k ≤ j ∧ j < 61
        · rw [if_pos f, if_pos (by omega)]
        · rw [if_neg f, if_neg (by omega), if_neg e]
theorem foc_ok {g : GrS} {r : RuS} {d : GaS} (hq : ∀ j, f_X4_behindYears r g (sqC g r d.1 j) 1 = some (sqC g r d.1 (j + 1))) (co : Nat → Int64) : ∃ v, f_X5_foreseeComing g r d co = some v ∧ ∀ j, j ≤ 60 → v j = sqC g r d.1 j := by
  obtain ⟨v, e1, e2⟩ := fc_l hq 100 0 co (by decide) (by decide)
  refine ⟨v, ?_, fun j hj => by rw [e2, if_pos (by omega)]⟩
  unfold f_X5_foreseeComing
  have e1' : lp_X5_foreseeComing_10 g r 100 (f_X2_hedges d) 0 co = some v := e1
  rw [e1', Option.bind_some]
/-! ===== plant ===== -/
def pt (p : Int32) (k : Nat) : Bool := decide (¬ f_X1_has p (nI (k % 3)) (nI (k / 3)) = 0)
theorem hasN {g : GrS} {w h : Nat} {rd : Bool} (hW : WH w h) (hG : GOK g w h rd) {X Y : Nat} (hX : X < 99) (hY : Y < 99) : f_X3_has g (nI X) (nI Y) = 0 ↔ ¬ (X < w ∧ Y < h) := by
  have w8 := hW.2.1
  have h8 := hW.2.2.2
  constructor
  · intro z q
    exact (hasC hW hG _ _).2.mpr ⟨X, Y, q.1, q.2, rfl, rfl⟩ z
  · intro z
    apply Classical.byContradiction
    intro q
    obtain ⟨x, y, hx, hy, e1, e2⟩ := (hasC hW hG _ _).2.mp q
    have := (nI_eq (by omega) (by omega)).mp e1
    have := (nI_eq (by omega) (by omega)).mp e2
    exact z (by omega)
theorem wr_ok {w X : Nat} (hw : 3 ≤ w) (hw8 : w ≤ 8) (hX : X < 2 * w) : f_X1_wrapped (nI X) (nI w) = nI (X % w) := by
  unfold f_X1_wrapped
  by_cases c : w ≤ X
  · rw [if_pos ((nI_leI (by omega) (by omega)).mpr c), pk_sub (a := X) (b := w) c, Nat.mod_eq_sub_mod c, Nat.mod_eq_of_lt (by omega)]
  · rw [if_neg (fun z => c ((nI_leI (by omega) (by omega)).mp z)), Nat.mod_eq_of_lt (by omega)]
/-- the places of a figure put at x, y -/
def ccC (w h x y k : Nat) : Nat := 8 * ((y + k / 3) % h) + (x + k % 3) % w
def plF (w h x y : Nat) (p : Int32) (c : Int64) (k : Nat) : Int64 := if pt p k = true then c ||| ob (ccC w h x y k) else c
theorem cells_i {g : GrS} {w h : Nat} {rd : Bool} (hW : WH w h) (hG : GOK g w h rd) {x y : Nat} (hx : x < w) (hy : y < h) (p : Int32) {j : Nat} (hj : j < 3) : ∀ (nf i : Nat) (c : Int64), i ≤ 3 → 3 - i < nf → lp_X1_cells_15 g p (nI x) (nI y) (nI j) nf c (nI i) = some (foldN (fun c t => plF w h x y p c (3 * j + (i + t))) c (3 - i))
  | 0, _, _, _, hh => absurd hh (Nat.not_lt_zero _)
  | nf + 1, i, c, hi, hh => by
    obtain ⟨w3, w8, h3, h8⟩ := id hW
    rw [lp_X1_cells_15.eq_2]
    by_cases q : 3 ≤ i
    · rw [if_pos (show (3 : Int32) ≤ nI i from (nI_leI (a := 3) (by decide) (by omega)).mpr q), show 3 - i = 0 by omega]
      rfl
    · rw [if_neg (show ¬ (3 : Int32) ≤ nI i from fun z => q ((nI_leI (a := 3) (by decide) (by omega)).mp z)), nI_1]
      simp only [bindv]
      have e : (if (f_X1_has p (nI i) (nI j)) = 0 then c else (c ||| (f_X3_cell (f_X1_wrapped (nI x + nI i) (f_X3_wide g)) (f_X1_wrapped (nI y + nI j) (f_X3_high g)))) : Int64) = plF w h x y p c (3 * j + i) := by
        unfold plF pt ccC
        rw [show (3 * j + i) % 3 = i by omega, show (3 * j + i) / 3 = j by omega, show f_X3_wide g = nI w from hG.1, show f_X3_high g = nI h from hG.2.1, nI_add, nI_add, wr_ok w3 w8 (by omega), wr_ok h3 h8 (by omega), l_cell]
        by_cases c0 : f_X1_has p (nI i) (nI j) = 0
        · rw [if_pos c0, decide_eq_false (fun z => z c0), if_neg (by decide)]
        · rw [if_neg c0, decide_eq_true c0, if_pos rfl]
      rw [e, cells_i hW hG hx hy p hj nf (i + 1) _ (by omega) (by omega), show 3 - i = 1 + (3 - (i + 1)) by omega, foldN_add]
      refine congrArg some (foldN_cong (fun b t _ => ?_))
      show plF w h x y p b (3 * j + (i + 1 + t)) = plF w h x y p b (3 * j + (i + (1 + t)))
      rw [show i + 1 + t = i + (1 + t) by omega]
theorem cells_o {g : GrS} {w h : Nat} {rd : Bool} (hW : WH w h) (hG : GOK g w h rd) {x y : Nat} (hx : x < w) (hy : y < h) (p : Int32) : ∀ (nf j : Nat) (c : Int64), j ≤ 3 → 3 - j < nf → lp_X1_cells_6 g p (nI x) (nI y) nf c (nI j) = some (foldN (fun c t => foldN (fun c k => plF w h x y p c (3 * (j + t) + k)) c 3) c (3 - j))
  | 0, _, _, _, hh => absurd hh (Nat.not_lt_zero _)
  | nf + 1, j, c, hj, hh => by
    rw [lp_X1_cells_6.eq_2]
    by_cases q : 3 ≤ j
    · rw [if_pos (show (3 : Int32) ≤ nI j from (nI_leI (a := 3) (by decide) (by omega)).mpr q), show 3 - j = 0 by omega]
      rfl
    · have h0 : nI 0 = 0 := rfl
      have e := cells_i hW hG hx hy p (j := j) (by omega) 100 0 c (by decide) (by decide)
      rw [h0] at e
      rw [if_neg (show ¬ (3 : Int32) ≤ nI j from fun z => q ((nI_leI (a := 3) (by decide) (by omega)).mp z)), nI_1, e, Option.bind_some, cells_o hW hG hx hy p nf (j + 1) _ (by omega) (by omega), show 3 - j = 1 + (3 - (j + 1)) by omega, foldN_add]
      have z1 : foldN (fun c t => plF w h x y p c (3 * j + (0 + t))) c (3 - 0) = foldN (fun c t => foldN (fun c k => plF w h x y p c (3 * (j + t) + k)) c 3) c 1 := by
        show foldN (fun c t => plF w h x y p c (3 * j + (0 + t))) c (3 - 0) = foldN (fun c k => plF w h x y p c (3 * (j + 0) + k)) c 3
        exact foldN_cong (fun b i _ => by rw [Nat.zero_add, Nat.add_zero])
      rw [z1]
      refine congrArg some (foldN_cong (fun b t _ => ?_))
      show foldN (fun c k => plF w h x y p c (3 * (j + 1 + t) + k)) b 3 = foldN (fun c k => plF w h x y p c (3 * (j + (1 + t)) + k)) b 3
      rw [show j + 1 + t = j + (1 + t) by omega]
theorem cells_ok {g : GrS} {w h : Nat} {rd : Bool} (hW : WH w h) (hG : GOK g w h rd) {x y : Nat} (hx : x < w) (hy : y < h) (p : Int32) : f_X1_cells g p (nI x) (nI y) = some (foldN (plF w h x y p) 0 9) := by
  have h0 : nI 0 = 0 := rfl
  have e := cells_o hW hG hx hy p 100 0 0 (by decide) (by decide)
  rw [h0] at e
  unfold f_X1_cells
  rw [e, Option.bind_some, show (9 : Nat) = 3 * 3 from rfl, fold_nest]
  refine congrArg some (foldN_cong (fun b t _ => ?_))
  show foldN (fun c k => plF w h x y p c (3 * (0 + t) + k)) b 3 = foldN (fun c k => plF w h x y p c (3 * t + k)) b 3
  rw [Nat.zero_add]
theorem cc_in {w h x y k : Nat} (hW : WH w h) : (x + k % 3) % w < w ∧ (y + k / 3) % h < h := ⟨Nat.mod_lt _ (by have := hW.1; omega), Nat.mod_lt _ (by have := hW.2.2.1; omega)⟩
/-- whether it fits -/
def okk (w h x y : Nat) (p : Int32) (k : Nat) : Bool := !pt p k || decide (x + k % 3 < w ∧ y + k / 3 < h)
theorem fit_st {g : GrS} {w h : Nat} {rd : Bool} (hW : WH w h) (hG : GOK g w h rd) {x y : Nat} (hx : x < w) (hy : y < h) (p : Int32) {j i : Nat} (hj : j < 3) (hi : i < 3) (nf : Nat) : lp_X1_fits_12 g p (nI x) (nI y) (nI j) (nf + 1) (nI i) = if okk w h x y p (3 * j + i) = true then lp_X1_fits_12 g p (nI x) (nI y) (nI j) nf (nI (i + 1)) else some (.inr 0) := by
  have w8 := hW.2.1
  have h8 := hW.2.2.2
  rw [lp_X1_fits_12.eq_2, if_neg (show ¬ (3 : Int32) ≤ nI i from fun z => by
    have := (nI_leI (a := 3) (by decide) (by omega)).mp z
    omega), nI_1]
  unfold okk pt
  rw [show (3 * j + i) % 3 = i by omega, show (3 * j + i) / 3 = j by omega]
  by_cases c0 : f_X1_has p (nI i) (nI j) = 0
  · rw [if_pos c0, decide_eq_false (fun z => z c0), if_pos (show (!false || decide (x + i < w ∧ y + j < h)) = true from rfl)]
  · rw [if_neg c0, decide_eq_true c0, nI_add, nI_add]
    by_cases c : x + i < w ∧ y + j < h
    · rw [if_neg (fun z => (hasN hW hG (by omega) (by omega)).mp z c), decide_eq_true c, if_pos (show (!true || true) = true from rfl)]
    · rw [if_pos ((hasN hW hG (by omega) (by omega)).mpr c), decide_eq_false c, if_neg (by decide)]
theorem fit_end {g : GrS} {w h : Nat} {x y : Nat} (p : Int32) {j : Nat} (nf : Nat) : lp_X1_fits_12 g p (nI x) (nI y) (nI j) (nf + 1) (nI 3) = some (.inl ()) := by
  rw [lp_X1_fits_12.eq_2, if_pos (by decide)]
theorem fit_i {g : GrS} {w h : Nat} {rd : Bool} (hW : WH w h) (hG : GOK g w h rd) {x y : Nat} (hx : x < w) (hy : y < h) (p : Int32) {j : Nat} (hj : j < 3) : lp_X1_fits_12 g p (nI x) (nI y) (nI j) 100 0 = if (okk w h x y p (3 * j) = true ∧ okk w h x y p (3 * j + 1) = true ∧ okk w h x y p (3 * j + 2) = true) then some (.inl ()) else some (.inr 0) := by
  have h0 : (0 : Int32) = nI 0 := rfl
  rw [h0, fit_st hW hG hx hy p hj (by decide) 99, Nat.add_zero]
  by_cases c0 : okk w h x y p (3 * j) = true
  · rw [if_pos c0, fit_st hW hG hx hy p hj (by decide) 98]
    by_cases c1 : okk w h x y p (3 * j + 1) = true
    · rw [if_pos c1, fit_st hW hG hx hy p hj (by decide) 97]
      by_cases c2 : okk w h x y p (3 * j + 2) = true
      · rw [if_pos c2, if_pos ⟨c0, c1, c2⟩]
        exact fit_end (w := w) (h := h) p 96
      · rw [if_neg c2, if_neg (fun z => c2 z.2.2), h0]
    · rw [if_neg c1, if_neg (fun z => c1 z.2.1), h0]
  · rw [if_neg c0, if_neg (fun z => c0 z.1), h0]
theorem fit_ok {g : GrS} {w h : Nat} {rd : Bool} (hW : WH w h) (hG : GOK g w h rd) {x y : Nat} (hx : x < w) (hy : y < h) (p : Int32) : (f_X1_fits g p (nI x) (nI y) = some 1 ∧ ∀ k, k < 9 → okk w h x y p k = true) ∨ (f_X1_fits g p (nI x) (nI y) = some 0 ∧ ¬ ∀ k, k < 9 → okk w h x y p k = true) := by
  unfold f_X1_fits
  have h0 : (0 : Int32) = nI 0 := rfl
  have st : ∀ j, j < 3 → ∀ nf, lp_X1_fits_3 g p (nI x) (nI y) (nf + 1) (nI j) = if (okk w h x y p (3 * j) = true ∧ okk w h x y p (3 * j + 1) = true ∧ okk w h x y p (3 * j + 2) = true) then lp_X1_fits_3 g p (nI x) (nI y) nf (nI (j + 1)) else some 0 := by
    intro j hj nf
    rw [lp_X1_fits_3.eq_2, if_neg (show ¬ (3 : Int32) ≤ nI j from fun z => by
      have := (nI_leI (a := 3) (by decide) (by omega)).mp z
      omega), fit_i hW hG hx hy p hj, nI_1]
    by_cases c : (okk w h x y p (3 * j) = true ∧ okk w h x y p (3 * j + 1) = true ∧ okk w h x y p (3 * j + 2) = true)
    · rw [if_pos c, if_pos c]; rfl
    · rw [if_neg c, if_neg c]; rfl
  rw [h0, st 0 (by decide) 99]
  by_cases c0 : (okk w h x y p (3 * 0) = true ∧ okk w h x y p (3 * 0 + 1) = true ∧ okk w h x y p (3 * 0 + 2) = true)
  · rw [if_pos c0, st 1 (by decide) 98]
    by_cases c1 : (okk w h x y p (3 * 1) = true ∧ okk w h x y p (3 * 1 + 1) = true ∧ okk w h x y p (3 * 1 + 2) = true)
    · rw [if_pos c1, st 2 (by decide) 97]
      by_cases c2 : (okk w h x y p (3 * 2) = true ∧ okk w h x y p (3 * 2 + 1) = true ∧ okk w h x y p (3 * 2 + 2) = true)
      · rw [if_pos c2]
        refine Or.inl ⟨?_, fun k hk => by
          match k, hk with
          | 0, _ => exact c0.1
          | 1, _ => exact c0.2.1
          | 2, _ => exact c0.2.2
          | 3, _ => exact c1.1
          | 4, _ => exact c1.2.1
          | 5, _ => exact c1.2.2
          | 6, _ => exact c2.1
          | 7, _ => exact c2.2.1
          | 8, _ => exact c2.2.2⟩
        show lp_X1_fits_3 g p (nI x) (nI y) (96 + 1) (nI 3) = some 1
        rw [lp_X1_fits_3.eq_2, if_pos (by decide)]
      · rw [if_neg c2]; exact Or.inr ⟨rfl, fun z => c2 ⟨z _ (by decide), z _ (by decide), z _ (by decide)⟩⟩
    · rw [if_neg c1]; exact Or.inr ⟨rfl, fun z => c1 ⟨z _ (by decide), z _ (by decide), z _ (by decide)⟩⟩
  · rw [if_neg c0]; exact Or.inr ⟨rfl, fun z => c0 ⟨z _ (by decide), z _ (by decide), z _ (by decide)⟩⟩
