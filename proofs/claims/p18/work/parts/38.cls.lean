/-! the class's garden in the words of its cells -/
theorem bx {w h x y : Nat} (hW : WH w h) (hx : x < w) (hy : y < h) : 8 * y + x < 64 ∧ (8 * y + x) / 8 = y ∧ (8 * y + x) % 8 = x := by
  obtain ⟨w3, w8, h3, h8⟩ := hW
  omega
theorem in_cell {w h : Nat} {c : Int64} (hc : InC w h c) {i : Nat} (hi : cb c i = true) : ∃ x y, x < w ∧ y < h ∧ i = 8 * y + x := ⟨i % 8, i / 8, (hc i hi).1, (hc i hi).2, by omega⟩
theorem InC_and {w h : Nat} {a b : Int64} (h1 : InC w h a) : InC w h (a &&& b) := fun i hi => by
  rw [cb_and, Bool.and_eq_true] at hi
  exact h1 i hi.1
theorem InC_or {w h : Nat} {a b : Int64} (h1 : InC w h a) (h2 : InC w h b) : InC w h (a ||| b) := fun i hi => by
  rw [cb_or, Bool.or_eq_true] at hi
  exact hi.elim (h1 i) (h2 i)
theorem InC_ob {w h x y : Nat} (hW : WH w h) (hx : x < w) (hy : y < h) : InC w h (ob (8 * y + x)) := fun i hi => by
  obtain ⟨l, d, m⟩ := bx hW hx hy
  rw [cb_ob l (cb_lt hi), decide_eq_true_eq] at hi
  subst hi
  rw [d, m]
  exact ⟨hx, hy⟩
theorem B_ext {w h : Nat} {a b : Int64} (ha : InC w h a) (hb : InC w h b) (e : ∀ x y, x < w → y < h → BC a x y = BC b x y) : a = b := by
  refine cb_ext (fun i _ => ?_)
  cases e1 : cb a i with
  | true =>
    obtain ⟨x, y, hx, hy, rfl⟩ := in_cell ha e1
    exact (e1.symm.trans (e x y hx hy))
  | false =>
    cases e2 : cb b i with
    | false => rfl
    | true =>
      obtain ⟨x, y, hx, hy, rfl⟩ := in_cell hb e2
      have := e x y hx hy
      unfold BC at this
      rw [e1, e2] at this
      cases this
theorem next_c {g : GrS} {r : RuS} {w h : Nat} {rd : Bool} (hW : WH w h) (hG : GOK g w h rd) {hs : Int64} (hc : InC w h hs) : ∃ b t, f_X4_born r g hs = some b ∧ f_X4_staying r g hs = some t ∧ f_X4_behindYears r g hs 1 = some (b ||| t) ∧ InC w h b ∧ InC w h t ∧ InC w h (b ||| t) ∧ (∀ i, cb t i = true → cb hs i = true) ∧ (∀ i, cb b i = true → cb hs i = false) ∧ ∀ x y, x < w → y < h → BC b x y = (!BC hs x y && cmB r.1 r.2 (BC hs) w h rd x y) ∧ BC t x y = (BC hs x y && cmB r.1 r.2 (BC hs) w h rd x y) ∧ BC (b ||| t) x y = cmB r.1 r.2 (BC hs) w h rd x y := by
  obtain ⟨b, eb, hb⟩ := born_ok hG r hs
  obtain ⟨t, et, ht⟩ := stay_ok g r hs
  have ib : InC w h b := fun i hi => by
    rw [hb i (cb_lt hi), Bool.and_eq_true, Bool.and_eq_true, decide_eq_true_eq] at hi
    exact hi.1.1
  have th : ∀ i, cb t i = true → cb hs i = true := fun i hi => by
    rw [ht i (cb_lt hi), Bool.and_eq_true] at hi
    exact hi.1
  have bh : ∀ i, cb b i = true → cb hs i = false := fun i hi => by
    rw [hb i (cb_lt hi), Bool.and_eq_true, Bool.and_eq_true] at hi
    have := hi.1.2
    cases e : cb hs i with
    | false => rfl
    | true => rw [e] at this; cases this
  have it : InC w h t := fun i hi => hc i (th i hi)
  refine ⟨b, t, eb, et, ?_, ib, it, InC_or ib it, th, bh, fun x y hx hy => ?_⟩
  · unfold f_X4_behindYears
    rw [lp_X4_behindYears_6.eq_2, if_neg (show ¬ (1 : Int32) ≤ 0 by decide), eb, Option.bind_some, et, Option.bind_some, lp_X4_behindYears_6.eq_2, if_pos (show (1 : Int32) ≤ 0 + 1 by decide)]
    rfl
  · obtain ⟨l, d, m⟩ := bx hW hx hy
    have eB : BC b x y = (!BC hs x y && cmB r.1 r.2 (BC hs) w h rd x y) := by
      unfold cmB
      show cb b (8 * y + x) = _
      rw [hb _ l, d, m, look_c hW hG hc hx hy]
      show ((decide (x < w ∧ y < h) && !BC hs x y) && _) = _
      cases BC hs x y <;> simp [hx, hy]
    have eT : BC t x y = (BC hs x y && cmB r.1 r.2 (BC hs) w h rd x y) := by
      unfold cmB
      show cb t (8 * y + x) = _
      rw [ht _ l, look_c hW hG hc hx hy]
      show (BC hs x y && _) = _
      cases BC hs x y <;> simp
    refine ⟨eB, eT, ?_⟩
    show cb (b ||| t) (8 * y + x) = _
    rw [cb_or]
    show (BC b x y || BC t x y) = _
    rw [eB, eT]
    cases BC hs x y <;> simp
theorem sq_c {g : GrS} {r : RuS} {w h : Nat} {rd : Bool} (hW : WH w h) (hG : GOK g w h rd) {c : Int64} (hc : InC w h c) : ∀ j, InC w h (sqC g r c j) ∧ f_X4_behindYears r g (sqC g r c j) 1 = some (sqC g r c (j + 1)) := by
  have key : ∀ j, InC w h (sqC g r c j) → InC w h (sqC g r c (j + 1)) ∧ f_X4_behindYears r g (sqC g r c j) 1 = some (sqC g r c (j + 1)) := fun j hj => by
    obtain ⟨b, t, -, -, e, -, -, i, -⟩ := next_c (r := r) hW hG hj
    have e2 : sqC g r c (j + 1) = b ||| t := by
      show (f_X4_behindYears r g (sqC g r c j) 1).getD 0 = _
      rw [e]; rfl
    rw [e2]
    exact ⟨i, e⟩
  intro j
  induction j with
  | zero => exact ⟨hc, (key 0 hc).2⟩
  | succ j ih => exact ⟨(key j ih.1).1, (key (j + 1) (key j ih.1).1).2⟩
theorem grow_c {g : GrS} {r : RuS} {w h : Nat} {rd : Bool} (hW : WH w h) (hG : GOK g w h rd) {d : GaS} (a : Nat → Int32) (hc : InC w h d.1) : ∃ b t a', f_X4_born r g d.1 = some b ∧ f_X4_staying r g d.1 = some t ∧ f_X2_growYear d a g r = some ((t ||| b, d.2.1 + 1, d.2.2.1 + nI (pc b), d.2.2.2 + nI (pc (d.1 &&& (t ^^^ (-1))))), a') ∧ (∀ i, i < 64 → a' i = if cb b i = true then 0 else a i + 1) ∧ t ||| b = sqC g r d.1 1 := by
  obtain ⟨b, t, eb, et, e, -⟩ := next_c (r := r) hW hG hc
  obtain ⟨v, e1, hv⟩ := gyl 100 0 a (by decide) (by decide)
  obtain ⟨v2, e2, hv2⟩ := py_ok (t, d.2.1, (d.2.2.1 + (f_J13_bitCount_95d88 b)), (d.2.2.2 + (f_J13_bitCount_95d88 (d.1 &&& (t ^^^ (-1)))))) v b
  refine ⟨b, t, v2, eb, et, ?_, fun i hi => ?_, ?_⟩
  · unfold f_X2_growYear
    rw [eb, Option.bind_some, et, Option.bind_some, show lp_X2_growYear_67 100 0 a = some v from e1, Option.bind_some, e2, Option.bind_some, bc_pc, bc_pc]
  · rw [hv2 i]
    by_cases q : cb b i = true
    · rw [if_pos q, if_pos q]
    · rw [if_neg q, if_neg q, hv i, if_pos ⟨Nat.zero_le _, hi⟩]
  · show _ = (f_X4_behindYears r g (sqC g r d.1 0) 1).getD 0
    rw [show sqC g r d.1 0 = d.1 from rfl, e, or_comm64]
    rfl
theorem grows_l {g : GrS} {r : RuS} {w h : Nat} {rd : Bool} (hW : WH w h) (hG : GOK g w h rd) {Y : Nat} (hY : Y ≤ 50) {c : Int64} (hc : InC w h c) : ∀ (nf j : Nat) (a : Nat → Int32) (q1 q2 q3 : Int32), j ≤ Y → Y - j < nf → ∃ v, lp_X2_growYears_2 g r (nI Y) nf (nI j) a (sqC g r c j) q1 q2 q3 = some v ∧ v.2.1 = sqC g r c Y
  | 0, _, _, _, _, _, _, h => absurd h (Nat.not_lt_zero _)
  | nf + 1, j, a, q1, q2, q3, hj, hf => by
    rw [lp_X2_growYears_2.eq_2]
    by_cases e : j = Y
    · subst e
      rw [if_pos (by rw [l_le (by omega) (by omega)]; exact Nat.le_refl _)]
      exact ⟨_, rfl, rfl⟩
    · rw [if_neg (by rw [l_le (by omega) (by omega)]; omega)]
      obtain ⟨b, t, a', -, -, e1, -, e2⟩ := grow_c (r := r) hW hG (d := (sqC g r c j, q1, q2, q3)) a (sq_c hW hG hc j).1
      rw [e1, Option.bind_some, nI_1]
      have e3 : t ||| b = sqC g r c (j + 1) := e2.trans rfl
      show ∃ v, lp_X2_growYears_2 g r (nI Y) nf (nI (j + 1)) a' (t ||| b) _ _ _ = some v ∧ _
      rw [e3]
      exact grows_l hW hG hY hc nf (j + 1) a' _ _ _ (by omega) (by omega)
theorem grows_c {g : GrS} {r : RuS} {w h : Nat} {rd : Bool} (hW : WH w h) (hG : GOK g w h rd) {Y : Nat} (hY : Y ≤ 50) {d : GaS} (a : Nat → Int32) (hc : InC w h d.1) : ∃ d' a', f_X2_growYears d a g r (nI Y) = some (d', a') ∧ d'.1 = sqC g r d.1 Y := by
  obtain ⟨v, e1, e2⟩ := grows_l (r := r) hW hG hY hc 100 0 a d.2.1 d.2.2.1 d.2.2.2 (Nat.zero_le _) (by omega)
  refine ⟨v.2, v.1, ?_, e2⟩
  unfold f_X2_growYears
  rw [show lp_X2_growYears_2 g r (nI Y) 100 0 a d.1 d.2.1 d.2.2.1 d.2.2.2 = some v from e1]
  rfl
theorem grow1_c (g : GrS) (r : RuS) (d : GaS) (a : Nat → Int32) {q : GaS × (Nat → Int32)} (e : f_X2_growYear d a g r = some q) : f_X2_growYears d a g r 1 = some q := by
  unfold f_X2_growYears
  rw [lp_X2_growYears_2.eq_2, if_neg (show ¬ (1 : Int32) ≤ 0 by decide), show f_X2_growYear (d.1, d.2.1, d.2.2.1, d.2.2.2) a g r = some q from e, Option.bind_some, lp_X2_growYears_2.eq_2, if_pos (show (1 : Int32) ≤ 0 + 1 by decide)]
  rfl
theorem copy_c (dF : GaS) (aF : Nat → Int32) (d : GaS) (a : Nat → Int32) : ∃ v, f_X2_copyFrom dF aF d a = some (d, v) ∧ ∀ j, j < 64 → v j = a j := by
  obtain ⟨v, e1, e2⟩ := copy_l a 100 0 aF (by decide) (by decide)
  refine ⟨v, ?_, fun j hj => by rw [e2 j, if_pos ⟨Nat.zero_le _, hj⟩]⟩
  unfold f_X2_copyFrom
  rw [show lp_X2_copyFrom_2 a 100 0 aF = some v from e1]
  rfl
/-! what is told -/
theorem has_c {g : GrS} {w h : Nat} {rd : Bool} (hW : WH w h) (hG : GOK g w h rd) {x y : Nat} (hx : x < w) (hy : y < h) : ¬ f_X3_has g (nI x) (nI y) = 0 := (hasC hW hG _ _).2.mpr ⟨x, y, hx, hy, rfl, rfl⟩
theorem told_e {g : GrS} {r : RuS} {d : GaS} {a : Nat → Int32} {w h : Nat} {rd : Bool} (hW : WH w h) (hG : GOK g w h rd) {x y : Nat} (hx : x < w) (hy : y < h) {k : Nat} (hk : k < 5) {v : Int32} (e : f_X5_fact g r d a (nI x) (nI y) (nI k) = some v) : f_X5_told g r d a (nI x) (nI y) (nI k) = some (.inl v) := by
  unfold f_X5_told
  rw [if_neg (has_c hW hG hx hy), if_neg (nI_lt0 k (by omega)), if_pos (by rw [show (5 : Int32) = nI 5 from rfl, l_lt (by omega) (by omega)]; exact hk), e]
  rfl
theorem told0 {g : GrS} {r : RuS} {d : GaS} {a : Nat → Int32} {w h : Nat} {rd : Bool} (hW : WH w h) (hG : GOK g w h rd) {x y : Nat} (hx : x < w) (hy : y < h) : f_X5_told g r d a (nI x) (nI y) 0 = some (.inl (b01 (BC d.1 x y))) := by
  refine told_e (k := 0) hW hG hx hy (by decide) ?_
  unfold f_X5_fact
  rw [if_pos (show nI 0 = 0 from rfl), l_cell, hh_ok d (bx hW hx hy).1]
  show _ = some (b01 (cb d.1 (8 * y + x)))
  cases cb d.1 (8 * y + x) <;> rfl
theorem told1 {g : GrS} {r : RuS} {d : GaS} {a : Nat → Int32} {w h : Nat} {rd : Bool} (hW : WH w h) (hG : GOK g w h rd) (hc : InC w h d.1) {x y : Nat} (hx : x < w) (hy : y < h) : f_X5_told g r d a (nI x) (nI y) 1 = some (.inl (nI (cnt8 (BC d.1) w h rd x y))) := by
  refine told_e (k := 1) hW hG hx hy (by decide) ?_
  unfold f_X5_fact
  rw [if_neg (show ¬ nI 1 = 0 by decide), if_pos (show nI 1 = 1 from rfl), l_cell]
  unfold f_X4_neighbours
  rw [around_ok _ (bx hW hx hy).1]
  show some (nI (vq (f_X0_lookAround g d.1) (8 * y + x))) = _
  rw [look_c hW hG hc hx hy]
theorem told2 {g : GrS} {r : RuS} {d : GaS} {a : Nat → Int32} {w h : Nat} {rd : Bool} (hW : WH w h) (hG : GOK g w h rd) {x y : Nat} (hx : x < w) (hy : y < h) : f_X5_told g r d a (nI x) (nI y) 2 = some (.inl (if BC d.1 x y = true then a (8 * y + x) else -1)) := by
  refine told_e (k := 2) hW hG hx hy (by decide) ?_
  obtain ⟨l, -, -⟩ := bx hW hx hy
  unfold f_X5_fact
  rw [if_neg (show ¬ nI 2 = 0 by decide), if_neg (show ¬ nI 2 = 1 by decide), if_pos (show nI 2 = 2 from rfl), l_cell, hh_ok d l]
  show _ = some (if cb d.1 (8 * y + x) = true then _ else _)
  cases cb d.1 (8 * y + x) with
  | false => rfl
  | true =>
    rw [if_pos rfl, if_neg (show ¬ (1 : Int32) = 0 by decide), if_pos rfl]
    unfold f_X2_age
    rw [show (8 : Int32) = nI 8 from rfl, pk_mul, nI_add, if_neg (nI_lt0 _ (by omega)), if_neg (by rw [show (64 : Int32) = nI 64 from rfl, l_le (by omega) (by omega)]; omega), if_neg (l_out l (by decide)), l_toN (by omega)]
    rfl
theorem told4 {g : GrS} {r : RuS} {d : GaS} {a : Nat → Int32} {w h : Nat} {rd : Bool} (hW : WH w h) (hG : GOK g w h rd) (hc : InC w h d.1) {x y : Nat} (hx : x < w) (hy : y < h) : f_X5_told g r d a (nI x) (nI y) 4 = some (.inl (b01 (BC (sqC g r d.1 1) x y))) := by
  refine told_e (k := 4) hW hG hx hy (by decide) ?_
  obtain ⟨l, -, -⟩ := bx hW hx hy
  unfold f_X5_fact
  rw [if_neg (show ¬ nI 4 = 0 by decide), if_neg (show ¬ nI 4 = 1 by decide), if_neg (show ¬ nI 4 = 2 by decide), if_neg (show ¬ nI 4 = 3 by decide), show f_X4_behindYears r g (f_X2_hedges d) 1 = some (sqC g r d.1 1) from (sq_c hW hG hc 0).2, Option.bind_some, l_cell]
  show _ = some (b01 (cb (sqC g r d.1 1) (8 * y + x)))
  cases e : cb (sqC g r d.1 1) (8 * y + x) with
  | false => rw [if_pos ((and_ob l).mpr e)]; rfl
  | true => rw [if_neg (fun q => by rw [(and_ob l).mp q] at e; cases e)]; rfl
/-! counts of bits are counts of cells -/
theorem pc_cells {w h : Nat} (hW : WH w h) {c : Int64} (hc : InC w h c) : pc c = cells2 w h (BC c) := by
  obtain ⟨w3, w8, h3, h8⟩ := hW
  have rows : ∀ y, y ≤ h → cntN (cb c) (8 * y) = cntN (fun k => BC c (k % w) (k / w)) (w * y) := by
    intro y
    induction y with
    | zero => intro _; rfl
    | succ y ih =>
      intro hy
      rw [cells2_row, ← ih (by omega), show 8 * (y + 1) = 8 * y + (w + (8 - w)) by omega, cntN_add, cntN_add]
      have e1 : cntN (fun i => cb c (8 * y + (w + i))) (8 - w) = 0 := cntN_0 (fun i hi => by
        cases q : cb c (8 * y + (w + i)) with
        | false => rfl
        | true => have := hc _ q; omega)
      rw [e1, Nat.add_zero]
      rfl
  have tail : cntN (fun i => cb c (8 * h + i)) (64 - 8 * h) = 0 := cntN_0 (fun i hi => by
    cases q : cb c (8 * h + i) with
    | false => rfl
    | true => have := hc _ q; omega)
  unfold pc
  rw [show 64 = 8 * h + (64 - 8 * h) by omega, cntN_add, tail, Nat.add_zero, rows h (Nat.le_refl _)]
  rfl
theorem cells2_le (w h : Nat) (p : Nat → Nat → Bool) : cells2 w h p ≤ w * h := cntN_le _ _
