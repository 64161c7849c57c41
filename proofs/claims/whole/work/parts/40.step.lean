/-! ===== one step over open cells, both sides ===== -/
def SB (f : Nat → Nat → Bool) (w h : Nat) (rd : Bool) (x y : Nat) : Bool := ((og f (nxt w rd x) (some y) || og f (prv w rd x) (some y)) || og f (some x) (nxt h rd y)) || og f (some x) (prv h rd y)
theorem wB_ok {g : GrS} {w h : Nat} {rd : Bool} (hW : WH w h) (hG : GOK g w h rd) {c op : Int64} (hc : InC w h c) (ho : InC w h op) : InC w h (f_X3_withBeside g c op) ∧ ∀ x y, x < w → y < h → BC (f_X3_withBeside g c op) x y = ((BC c x y || SB (BC c) w h rd x y) && BC op x y) := by
  refine ⟨fun i hi => ?_, fun x y hx hy => ?_⟩
  · unfold f_X3_withBeside at hi
    rw [cb_and, Bool.and_eq_true] at hi
    exact ho i hi.2
  · have L := (left_ok hW hG hc).2 x y hx hy
    have R := (right_ok hW hG hc).2 x y hx hy
    have U := (up_ok hW hG hc).2 x y hx hy
    have D := (down_ok hW hG hc).2 x y hx hy
    unfold f_X3_withBeside
    have e : BC (((((c ||| (f_X3_left g c)) ||| (f_X3_right g c)) ||| (f_X3_up g c)) ||| (f_X3_down g c)) &&& op) x y = (((((BC c x y || BC (f_X3_left g c) x y) || BC (f_X3_right g c) x y) || BC (f_X3_up g c) x y) || BC (f_X3_down g c) x y) && BC op x y) := by
      unfold BC
      rw [cb_and, cb_or, cb_or, cb_or, cb_or]
    rw [e, L, R, U, D]
    unfold SB
    simp only [Bool.or_assoc]
theorem sym_nxt {w x x' : Nat} {rd : Bool} (hx : x < w) (hx' : x' < w) : nxt w rd x' = some x ↔ prv w rd x = some x' := by
  unfold nxt prv
  by_cases q : x' + 1 < w
  · rw [if_pos q]
    by_cases z : 0 < x
    · rw [if_pos z]
      constructor <;> intro e
      · cases e; rfl
      · have : x - 1 = x' := Option.some.inj e
        congr 1; omega
    · rw [if_neg z]
      cases rd with
      | true =>
        constructor <;> intro e
        · cases e; omega
        · have : w - 1 = x' := Option.some.inj e
          omega
      | false =>
        constructor <;> intro e
        · cases e; omega
        · exact nomatch e
  · rw [if_neg q]
    by_cases z : 0 < x
    · rw [if_pos z]
      cases rd with
      | true =>
        constructor <;> intro e
        · have : 0 = x := Option.some.inj e
          omega
        · have : x - 1 = x' := Option.some.inj e
          omega
      | false =>
        constructor <;> intro e
        · exact nomatch e
        · have : x - 1 = x' := Option.some.inj e
          omega
    · rw [if_neg z]
      have h1 : x' = w - 1 := by omega
      have h2 : x = 0 := by omega
      subst h1; subst h2
      cases rd with
      | true => exact ⟨fun _ => rfl, fun _ => rfl⟩
      | false => exact ⟨fun e => absurd e (by simp), fun e => absurd e (by simp)⟩
theorem og_ex {f : Nat → Nat → Bool} {ox oy : Option Nat} : og f ox oy = true ↔ ∃ x y, ox = some x ∧ oy = some y ∧ f x y = true := by
  constructor
  · intro h
    cases ox with
    | none => exact nomatch h
    | some x =>
      cases oy with
      | none => exact nomatch h
      | some y => exact ⟨x, y, rfl, rfl, h⟩
  · rintro ⟨x, y, rfl, rfl, h⟩
    exact h
theorem SB_ex {f : Nat → Nat → Bool} {w h x y : Nat} {rd : Bool} : SB f w h rd x y = true ↔ ∃ x' y', f x' y' = true ∧ ((nxt w rd x = some x' ∧ y = y') ∨ (prv w rd x = some x' ∧ y = y') ∨ (x = x' ∧ nxt h rd y = some y') ∨ (x = x' ∧ prv h rd y = some y')) := by
  unfold SB
  rw [Bool.or_eq_true, Bool.or_eq_true, Bool.or_eq_true, og_ex, og_ex, og_ex, og_ex]
  constructor
  · rintro (((⟨x', y', h1, h2, h3⟩ | ⟨x', y', h1, h2, h3⟩) | ⟨x', y', h1, h2, h3⟩) | ⟨x', y', h1, h2, h3⟩)
    · exact ⟨x', y', h3, Or.inl ⟨h1, Option.some.inj h2⟩⟩
    · exact ⟨x', y', h3, Or.inr (Or.inl ⟨h1, Option.some.inj h2⟩)⟩
    · exact ⟨x', y', h3, Or.inr (Or.inr (Or.inl ⟨Option.some.inj h1, h2⟩))⟩
    · exact ⟨x', y', h3, Or.inr (Or.inr (Or.inr ⟨Option.some.inj h1, h2⟩))⟩
  · rintro ⟨x', y', h3, (⟨h1, h2⟩ | ⟨h1, h2⟩ | ⟨h1, h2⟩ | ⟨h1, h2⟩)⟩
    · exact Or.inl (Or.inl (Or.inl ⟨x', y', h1, congrArg some h2, h3⟩))
    · exact Or.inl (Or.inl (Or.inr ⟨x', y', h1, congrArg some h2, h3⟩))
    · exact Or.inl (Or.inr ⟨x', y', congrArg some h1, h2, h3⟩)
    · exact Or.inr ⟨x', y', congrArg some h1, h2, h3⟩
theorem SB_lt {f : Nat → Nat → Bool} {w h x y x' y' : Nat} {rd : Bool} (hW : WH w h) (hx : x < w) (hy : y < h) (e : (nxt w rd x = some x' ∧ y = y') ∨ (prv w rd x = some x' ∧ y = y') ∨ (x = x' ∧ nxt h rd y = some y') ∨ (x = x' ∧ prv h rd y = some y')) : x' < w ∧ y' < h := by
  rcases e with ⟨h1, h2⟩ | ⟨h1, h2⟩ | ⟨h1, h2⟩ | ⟨h1, h2⟩
  · exact ⟨nxt_lt hW.1 h1, h2 ▸ hy⟩
  · exact ⟨prv_lt hW.1 hx h1, h2 ▸ hy⟩
  · exact ⟨h1 ▸ hx, nxt_lt hW.2.2.1 h2⟩
  · exact ⟨h1 ▸ hx, prv_lt hW.2.2.1 hy h2⟩
/-- who lies beside whom goes both ways -/
theorem adj_sym {w h x y x' y' : Nat} {rd : Bool} (hx : x < w) (hy : y < h) (hx' : x' < w) (hy' : y' < h) : ((nxt w rd x = some x' ∧ y = y') ∨ (prv w rd x = some x' ∧ y = y') ∨ (x = x' ∧ nxt h rd y = some y') ∨ (x = x' ∧ prv h rd y = some y')) ↔ ((nxt w rd x' = some x ∧ y' = y) ∨ (prv w rd x' = some x ∧ y' = y) ∨ (x' = x ∧ nxt h rd y' = some y) ∨ (x' = x ∧ prv h rd y' = some y)) := by
  rw [sym_nxt (x := x') (x' := x) hx' hx, sym_nxt (x := x) (x' := x') hx hx', sym_nxt (x := y') (x' := y) hy' hy, sym_nxt (x := y) (x' := y') hy hy']
  constructor
  · rintro (⟨h1, h2⟩ | ⟨h1, h2⟩ | ⟨h1, h2⟩ | ⟨h1, h2⟩)
    · exact Or.inr (Or.inl ⟨h1, h2.symm⟩)
    · exact Or.inl ⟨h1, h2.symm⟩
    · exact Or.inr (Or.inr (Or.inr ⟨h1.symm, h2⟩))
    · exact Or.inr (Or.inr (Or.inl ⟨h1.symm, h2⟩))
  · rintro (⟨h1, h2⟩ | ⟨h1, h2⟩ | ⟨h1, h2⟩ | ⟨h1, h2⟩)
    · exact Or.inr (Or.inl ⟨h1, h2.symm⟩)
    · exact Or.inl ⟨h1, h2.symm⟩
    · exact Or.inr (Or.inr (Or.inr ⟨h1.symm, h2⟩))
    · exact Or.inr (Or.inr (Or.inl ⟨h1.symm, h2⟩))
theorem hit_iff {w : Nat} {d : Option Nat × Option Nat} {x y : Nat} (hx : x < w) (hd : ∀ x', d.1 = some x' → x' < w) : hit w d (w * y + x) = true ↔ d.1 = some x ∧ d.2 = some y := by
  obtain ⟨ox, oy⟩ := d
  cases ox with
  | none => exact ⟨fun h => absurd h (by simp [hit]), fun h => absurd h.1 (by simp)⟩
  | some x' =>
    cases oy with
    | none => exact ⟨fun h => absurd h (by simp [hit]), fun h => absurd h.2 (by simp)⟩
    | some y' =>
      show decide (w * y + x = w * y' + x') = true ↔ _
      rw [decide_eq_true_eq]
      constructor
      · intro e
        obtain ⟨h1, h2⟩ := cell_inj hx (hd x' rfl) e
        exact ⟨congrArg some h1.symm, congrArg some h2.symm⟩
      · rintro ⟨h1, h2⟩
        cases h1; cases h2; rfl
theorem B4_iff {w h : Nat} {rd : Bool} (hW : WH w h) {x y x' y' : Nat} (hx : x < w) (hy : y < h) (hx' : x' < w) (hy' : y' < h) : cb (B4 w h rd x' y') (w * y + x) = true ↔ ((nxt w rd x = some x' ∧ y = y') ∨ (prv w rd x = some x' ∧ y = y') ∨ (x = x' ∧ nxt h rd y = some y') ∨ (x = x' ∧ prv h rd y = some y')) := by
  have h64 := (xy_64 hW hx hy).2
  have nx : ∀ z, nxt w rd x' = some z → z < w := fun z e => nxt_lt hW.1 e
  have px : ∀ z, prv w rd x' = some z → z < w := fun z e => prv_lt hW.1 hx' e
  have ny : ∀ z, nxt h rd y' = some z → z < h := fun z e => nxt_lt hW.2.2.1 e
  have py : ∀ z, prv h rd y' = some z → z < h := fun z e => prv_lt hW.2.2.1 hy' e
  have sx : ∀ z, some x' = some z → z < w := fun z e => by cases e; exact hx'
  have sy : ∀ z, some y' = some z → z < h := fun z e => by cases e; exact hy'
  rw [adj_sym hx hy hx' hy']
  unfold B4
  rw [cb_or, cb_or, cb_or, cb_oI hW px sy h64, cb_oI hW nx sy h64, cb_oI hW sx py h64, cb_oI hW sx ny h64, Bool.or_eq_true, Bool.or_eq_true, Bool.or_eq_true, hit_iff hx px, hit_iff hx nx, hit_iff hx sx, hit_iff hx sx]
  simp only [Option.some.injEq]
  constructor
  · rintro (((h1 | h1) | h1) | h1)
    · exact Or.inr (Or.inl h1)
    · exact Or.inl h1
    · exact Or.inr (Or.inr (Or.inr h1))
    · exact Or.inr (Or.inr (Or.inl h1))
  · rintro (h1 | h1 | h1 | h1)
    · exact Or.inl (Or.inl (Or.inr h1))
    · exact Or.inl (Or.inl (Or.inl h1))
    · exact Or.inr h1
    · exact Or.inl (Or.inr h1)
theorem inner_l {m : MoS} {w h : Nat} {rd : Bool} (hW : WH w h) (hM : MOK m w h rd) (fB : Nat → Int64) (op last : Int64) : ∀ (nf k : Nat) (made : Int64), k ≤ w * h → w * h - k < nf → ∃ r, lp_X7_lawn_25 m fB op last nf made (nI k) = some r ∧ ∀ j, j < 64 → (cb r j = true ↔ (cb made j = true ∨ ∃ i, k ≤ i ∧ i < w * h ∧ cb last i = true ∧ cb (fB i) j = true ∧ cb op j = true))
  | 0, _, _, _, hh => absurd hh (Nat.not_lt_zero _)
  | nf + 1, k, made, hk, hh => by
    have h64 := wh_64 hW
    rw [lp_X7_lawn_25.eq_2]
    have e0 : m.2.1 * m.2.2.1 = nI (w * h) := by rw [hM.1, hM.2.1, pk_mul]
    rw [e0]
    by_cases q : w * h ≤ k
    · rw [if_pos ((nI_leI (by omega) (by omega)).mpr q)]
      refine ⟨made, rfl, fun j hj => ⟨Or.inl, fun z => z.elim id ?_⟩⟩
      rintro ⟨i, h1, h2, -⟩
      omega
    · rw [if_neg (fun z => q ((nI_leI (by omega) (by omega)).mp z)), if_neg (l_out (by omega) (by decide)), l_toN (by omega), nI_1]
      have e1 : (if ((jshr last (nI k)) &&& 1) = 1 then (some (made ||| ((fB k) &&& op))) else (some made) : Option Int64) = some (if cb last k = true then made ||| ((fB k) &&& op) else made) := by
        by_cases c : cb last k = true
        · rw [if_pos ((ts_1 (by omega)).mpr c), if_pos c]
        · rw [if_neg (fun z => c ((ts_1 (by omega)).mp z)), if_neg c]
      rw [e1, Option.bind_some]
      obtain ⟨r, h1, h2⟩ := inner_l hW hM fB op last nf (k + 1) (if cb last k = true then made ||| ((fB k) &&& op) else made) (by omega) (by omega)
      refine ⟨r, h1, fun j hj => ?_⟩
      rw [h2 j hj]
      constructor
      · rintro (z | ⟨i, z1, z2, z3⟩)
        · by_cases c : cb last k = true
          · rw [if_pos c, cb_or, cb_and, Bool.or_eq_true, Bool.and_eq_true] at z
            rcases z with z | ⟨z1, z2⟩
            · exact Or.inl z
            · exact Or.inr ⟨k, Nat.le_refl _, by omega, c, z1, z2⟩
          · rw [if_neg c] at z
            exact Or.inl z
        · exact Or.inr ⟨i, by omega, z2, z3⟩
      · rintro (z | ⟨i, z1, z2, z3, z4, z5⟩)
        · left
          by_cases c : cb last k = true
          · rw [if_pos c, cb_or, z]; rfl
          · rw [if_neg c]; exact z
        · by_cases e : i = k
          · subst e
            left
            rw [if_pos z3, cb_or, cb_and, z4, z5, Bool.or_eq_true]
            exact Or.inr rfl
          · exact Or.inr ⟨i, by omega, z2, z3, z4, z5⟩
/-- a step: the class's and the model's are the same -/
theorem step_ok {g : GrS} {m : MoS} {w h : Nat} {rd : Bool} (hW : WH w h) (hG : GOK g w h rd) (hM : MOK m w h rd) {fR fB : Nat → Int64} (hT : TOK w h rd fR fB) {c hs op opm : Int64} (a : RelB w h c hs) (o : RelB w h op opm) (hsub : ∀ i, cb c i = true → cb op i = true) {mask : Int64} (hmask : ∀ x y, x < w → y < h → BM w mask x y = BM w opm x y) : ∃ n, lp_X7_lawn_25 m fB mask hs 100 hs 0 = some n ∧ RelB w h (f_X3_withBeside g c op) n := by
  obtain ⟨r, h1, h2⟩ := inner_l hW hM fB mask hs 100 0 hs (Nat.zero_le _) (by have := wh_64 hW; omega)
  obtain ⟨wi, wb⟩ := wB_ok hW hG a.2.1 o.2.1
  have hw0 : 0 < w := by have := hW.1; omega
  have hin : ∀ j, j < 64 → (cb r j = true ↔ (cb hs j = true ∨ ∃ x' y', x' < w ∧ y' < h ∧ BM w hs x' y' = true ∧ cb (B4 w h rd x' y') j = true ∧ cb mask j = true)) := fun j hj => by
    rw [h2 j hj]
    constructor
    · rintro (z | ⟨i, -, z2, z3, z4, z5⟩)
      · exact Or.inl z
      · obtain ⟨k1, k2, k3⟩ := k_xy z2 hw0
        refine Or.inr ⟨i % w, i / w, k1, k2, ?_, ?_, z5⟩
        · unfold BM; rw [k3]; exact z3
        · rw [← (hT _ _ k1 k2).1, k3]; exact z4
    · rintro (z | ⟨x', y', k1, k2, z3, z4, z5⟩)
      · exact Or.inl z
      · exact Or.inr ⟨w * y' + x', Nat.zero_le _, lt_wh k1 k2, z3, by rw [(hT _ _ k1 k2).1]; exact z4, z5⟩
  refine ⟨r, h1, fun x y hx hy => ?_, wi, fun k hk => ?_⟩
  · rw [wb x y hx hy]
    have h64 := (xy_64 hW hx hy).2
    rw [Bool.eq_iff_iff, Bool.and_eq_true, Bool.or_eq_true, SB_ex]
    show _ ↔ cb r (w * y + x) = true
    rw [hin _ h64]
    constructor
    · rintro ⟨z | ⟨x', y', z1, z2⟩, z3⟩
      · left
        have := a.1 x y hx hy
        rw [z] at this
        exact this.symm
      · right
        obtain ⟨k1, k2⟩ := SB_lt (f := BC c) hW hx hy z2
        refine ⟨x', y', k1, k2, by rw [← a.1 x' y' k1 k2]; exact z1, (B4_iff hW hx hy k1 k2).mpr z2, ?_⟩
        have e1 := hmask x y hx hy
        have e2 := o.1 x y hx hy
        rw [← e2, z3] at e1
        exact e1
    · rintro (z | ⟨x', y', k1, k2, z1, z2, z3⟩)
      · have e := a.1 x y hx hy
        have e' : BC c x y = true := e.trans z
        exact ⟨Or.inl e', hsub _ e'⟩
      · refine ⟨Or.inr ⟨x', y', (a.1 x' y' k1 k2).trans z1, (B4_iff hW hx hy k1 k2).mp z2⟩, ?_⟩
        rw [o.1 x y hx hy, ← hmask x y hx hy]
        exact z3
  · rcases Nat.lt_or_ge k (w * h) with q | q
    · exact q
    · have h64 := cb_lt hk
      rcases (hin k h64).mp hk with z | ⟨x', y', k1, k2, z1, z2, z3⟩
      · exact a.2.2 k z
      · exfalso
        have nx : ∀ z, nxt w rd x' = some z → z < w := fun z e => nxt_lt hW.1 e
        have px : ∀ z, prv w rd x' = some z → z < w := fun z e => prv_lt hW.1 k1 e
        have ny : ∀ z, nxt h rd y' = some z → z < h := fun z e => nxt_lt hW.2.2.1 e
        have py : ∀ z, prv h rd y' = some z → z < h := fun z e => prv_lt hW.2.2.1 k2 e
        have sx : ∀ z, some x' = some z → z < w := fun z e => by cases e; exact k1
        have sy : ∀ z, some y' = some z → z < h := fun z e => by cases e; exact k2
        have big : ∀ d : Option Nat × Option Nat, (∀ z, d.1 = some z → z < w) → (∀ z, d.2 = some z → z < h) → hit w d k = true → False := by
          rintro ⟨ox, oy⟩ b1 b2 b3
          cases ox with
          | none => exact nomatch b3
          | some x2 =>
            cases oy with
            | none => exact nomatch b3
            | some y2 =>
              have e : k = w * y2 + x2 := of_decide_eq_true b3
              have := lt_wh (b1 x2 rfl) (b2 y2 rfl)
              omega
        unfold B4 at z2
        rw [cb_or, cb_or, cb_or, cb_oI hW px sy h64, cb_oI hW nx sy h64, cb_oI hW sx py h64, cb_oI hW sx ny h64, Bool.or_eq_true, Bool.or_eq_true, Bool.or_eq_true] at z2
        rcases z2 with ((z2 | z2) | z2) | z2
        · exact big _ px sy z2
        · exact big _ nx sy z2
        · exact big _ sx py z2
        · exact big _ sx ny z2
theorem wB_sub {g : GrS} {c op : Int64} {i : Nat} (h : cb (f_X3_withBeside g c op) i = true) : cb op i = true := by
  unfold f_X3_withBeside at h
  rw [cb_and, Bool.and_eq_true] at h
  exact h.2
theorem wB_grow {g : GrS} {c op : Int64} (hsub : ∀ i, cb c i = true → cb op i = true) {i : Nat} (h : cb c i = true) : cb (f_X3_withBeside g c op) i = true := by
  unfold f_X3_withBeside
  rw [cb_and, cb_or, cb_or, cb_or, cb_or, h, hsub i h]
  simp
theorem wB_pc {g : GrS} {c op : Int64} (hsub : ∀ i, cb c i = true → cb op i = true) (hne : ¬ f_X3_withBeside g c op = c) : pc c + 1 ≤ pc (f_X3_withBeside g c op) := by
  refine cntN_lt (fun i _ h => wB_grow hsub h) ?_
  apply Classical.byContradiction
  intro q
  refine hne (cb_ext (fun i hi => ?_))
  cases h1 : cb c i with
  | true => exact wB_grow hsub h1
  | false =>
    cases h2 : cb (f_X3_withBeside g c op) i with
    | false => rfl
    | true => exact absurd ⟨i, hi, h1, h2⟩ q
/-- the lawn's loops -/
theorem lawn_l {g : GrS} {m : MoS} {w h : Nat} {rd : Bool} (hW : WH w h) (hG : GOK g w h rd) (hM : MOK m w h rd) {fR fB : Nat → Int64} (hT : TOK w h rd fR fB) {op opm : Int64} (o : RelB w h op opm) : ∀ (nf nf' i : Nat) (c hs n : Int64), RelB w h c hs → (∀ i, cb c i = true → cb op i = true) → lp_X7_lawn_25 m fB opm hs 100 hs 0 = some n → i + 1 ≤ pc c → 64 - i < nf → 64 - i < nf' → ∃ rc rm, lp_X3_lawn_8 g op nf c (nI i) = some rc ∧ lp_X7_lawn_10 m fB opm nf' n hs = some rm ∧ RelB w h rc rm ∧ (∀ i, cb rc i = true → cb op i = true) ∧ f_X3_withBeside g rc op = rc ∧ ∀ i, cb c i = true → cb rc i = true
  | 0, _, _, _, _, _, _, _, _, _, h, _ => absurd h (Nat.not_lt_zero _)
  | _ + 1, 0, _, _, _, _, _, _, _, _, _, h => absurd h (Nat.not_lt_zero _)
  | nf + 1, nf' + 1, i, c, hs, n, a, hsub, hn, hp, hf, hf' => by
    have hp64 := pc_le c
    obtain ⟨n2, s1, s2⟩ := step_ok hW hG hM hT a o hsub (fun _ _ _ _ => rfl)
    rw [hn] at s1
    cases s1
    rw [lp_X3_lawn_8.eq_2, lp_X7_lawn_10.eq_2, if_neg (show ¬ (64 : Int32) ≤ nI i from fun z => by
      have := (nI_leI (a := 64) (by decide) (by omega)).mp z
      omega)]
    have hiff : f_X3_withBeside g c op = c ↔ n = hs := RelB_inj hW s2 a
    by_cases e : f_X3_withBeside g c op = c
    · rw [if_pos e, if_pos (hiff.mp e)]
      refine ⟨c, n, rfl, rfl, ?_, hsub, e, fun _ h => h⟩
      rw [hiff.mp e]
      exact a
    · rw [if_neg e, if_neg (fun z => e (hiff.mpr z))]
      obtain ⟨n3, t1, -⟩ := step_ok hW hG hM hT s2 o (fun i h => wB_sub h) (fun _ _ _ _ => rfl)
      rw [t1, Option.bind_some, nI_1]
      have hg := wB_pc hsub e
      obtain ⟨rc, rm, u1, u2, u3, u4, u5, u6⟩ := lawn_l hW hG hM hT o nf nf' (i + 1) (f_X3_withBeside g c op) n n3 s2 (fun i h => wB_sub h) t1 (by omega) (by omega) (by omega)
      exact ⟨rc, rm, u1, u2, u3, u4, u5, fun i h => u6 i (wB_grow hsub h)⟩
theorem wB_0 {g : GrS} {w h : Nat} {rd : Bool} (hW : WH w h) (hG : GOK g w h rd) {op opm : Int64} (o : RelB w h op opm) : f_X3_withBeside g 0 op = 0 := by
  obtain ⟨wi, wb⟩ := wB_ok hW hG (RelB_0 (w := w) (h := h)).2.1 o.2.1
  have z : ∀ x y, BC 0 x y = false := fun x y => cb_0 _
  have zo : ∀ ox oy, og (BC 0) ox oy = false := fun ox oy => by cases ox <;> cases oy <;> first | rfl | exact z _ _
  have : RelB w h (f_X3_withBeside g 0 op) 0 := ⟨fun x y hx hy => by
    rw [wb x y hx hy, z]
    unfold SB BM
    rw [zo, zo, zo, zo, cb_0]
    rfl, wi, (RelB_0 (w := w) (h := h)).2.2⟩
  exact (RelB_z hW this).mpr rfl
theorem pc_pos {x : Int64} : 0 < pc x ↔ ¬ x = 0 := by
  unfold pc
  rw [cntN_pos, cb_nz]
theorem lawn_ok {g : GrS} {m : MoS} {w h : Nat} {rd : Bool} (hW : WH w h) (hG : GOK g w h rd) (hM : MOK m w h rd) {fR fB : Nat → Int64} (hT : TOK w h rd fR fB) {op opm : Int64} (o : RelB w h op opm) {ce : Int64} {k : Nat} (a : RelB w h ce (ob k)) : ∃ rc rm, f_X3_lawn g ce op = some rc ∧ f_X7_lawn m fB opm (nI k) = some rm ∧ RelB w h rc rm ∧ (∀ i, cb rc i = true → cb op i = true) ∧ f_X3_withBeside g rc op = rc ∧ ∀ i, cb ce i = true → cb op i = true → cb rc i = true := by
  have a0 := RelB_and a o
  have hsub : ∀ i, cb (ce &&& op) i = true → cb op i = true := fun i h => by
    rw [cb_and, Bool.and_eq_true] at h
    exact h.2
  have hstart : ∀ i, cb ce i = true → cb op i = true → cb (ce &&& op) i = true := fun i h1 h2 => by rw [cb_and, h1, h2]; rfl
  unfold f_X3_lawn f_X7_lawn
  have hob : jshl 1 (nI k) = ob k := rfl
  rw [hob]
  by_cases z : ce &&& op = 0
  · have z' := (RelB_z hW a0).mp z
    rw [z, z', lp_X7_lawn_10.eq_2, if_pos rfl, lp_X3_lawn_8.eq_2, if_neg (by decide), if_pos (wB_0 hW hG o)]
    refine ⟨0, 0, rfl, rfl, RelB_0, fun i h => absurd h (by rw [cb_0]; decide), wB_0 hW hG o, fun i h1 h2 => ?_⟩
    have := hstart i h1 h2
    rw [z] at this
    exact this
  · have z' : ¬ ob k &&& opm = 0 := fun q => z ((RelB_z hW a0).mpr q)
    obtain ⟨n, s1, s2⟩ := step_ok hW hG hM hT a0 o hsub (fun _ _ _ _ => rfl)
    obtain ⟨rc, rm, u1, u2, u3, u4, u5, u6⟩ := lawn_l hW hG hM hT o 100 99 0 _ _ n a0 hsub s1 (pc_pos.mpr z) (by decide) (by decide)
    have u1' : lp_X3_lawn_8 g op 100 (ce &&& op) 0 = some rc := u1
    rw [lp_X7_lawn_10.eq_2, if_neg z', s1, Option.bind_some, u2, u1']
    exact ⟨rc, rm, rfl, rfl, u3, u4, u5, fun i h1 h2 => u6 i (hstart i h1 h2)⟩
