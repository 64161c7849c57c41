/-! ===== the same garden, both sides ===== -/
theorem RelB_in {w h : Nat} {c m : Int64} (h1 : RelB w h c m) {i : Nat} : cb c i = true → i % 8 < w ∧ i / 8 < h := h1.2.1 i
theorem RelB_mk {w h : Nat} {c m : Int64} (h1 : ∀ x y, x < w → y < h → BC c x y = BM w m x y) (h2 : InC w h c) (h3 : InM w h m) : RelB w h c m := ⟨h1, h2, h3⟩
theorem RelB_or {w h : Nat} {c m c' m' : Int64} (a : RelB w h c m) (b : RelB w h c' m') : RelB w h (c ||| c') (m ||| m') := by
  refine ⟨fun x y hx hy => ?_, fun i hi => ?_, fun k hk => ?_⟩
  · have h1 := a.1 x y hx hy
    have h2 := b.1 x y hx hy
    unfold BC BM at *
    rw [cb_or, cb_or, h1, h2]
  · rw [cb_or, Bool.or_eq_true] at hi
    exact hi.elim (a.2.1 i) (b.2.1 i)
  · rw [cb_or, Bool.or_eq_true] at hk
    exact hk.elim (a.2.2 k) (b.2.2 k)
theorem RelB_and {w h : Nat} {c m c' m' : Int64} (a : RelB w h c m) (b : RelB w h c' m') : RelB w h (c &&& c') (m &&& m') := by
  refine ⟨fun x y hx hy => ?_, fun i hi => ?_, fun k hk => ?_⟩
  · have h1 := a.1 x y hx hy
    have h2 := b.1 x y hx hy
    unfold BC BM at *
    rw [cb_and, cb_and, h1, h2]
  · rw [cb_and, Bool.and_eq_true] at hi
    exact a.2.1 i hi.1
  · rw [cb_and, Bool.and_eq_true] at hk
    exact a.2.2 k hk.1
theorem xy_64 {w h x y : Nat} (hW : WH w h) (hx : x < w) (hy : y < h) : 8 * y + x < 64 ∧ w * y + x < 64 := by
  have h1 := lt_wh hx hy
  have h2 := wh_64 hW
  obtain ⟨w3, w8, h3, h8⟩ := hW
  omega
theorem RelB_andn {w h : Nat} (hW : WH w h) {c m c' m' : Int64} (a : RelB w h c m) (b : RelB w h c' m') : RelB w h (c &&& (c' ^^^ (-1))) (m &&& (m' ^^^ (-1))) := by
  refine ⟨fun x y hx hy => ?_, fun i hi => ?_, fun k hk => ?_⟩
  · have h1 := a.1 x y hx hy
    have h2 := b.1 x y hx hy
    obtain ⟨q1, q2⟩ := xy_64 hW hx hy
    unfold BC BM at *
    rw [cb_and, cb_and, cb_not q1, cb_not q2, h1, h2]
  · rw [cb_and, Bool.and_eq_true] at hi
    exact a.2.1 i hi.1
  · rw [cb_and, Bool.and_eq_true] at hk
    exact a.2.2 k hk.1
theorem RelB_0 {w h : Nat} : RelB w h 0 0 := ⟨fun x y _ _ => by unfold BC BM; rw [cb_0, cb_0], fun i hi => absurd hi (by rw [cb_0]; decide), fun k hk => absurd hk (by rw [cb_0]; decide)⟩
theorem RelB_ob {w h x y : Nat} (hW : WH w h) (hx : x < w) (hy : y < h) : RelB w h (ob (8 * y + x)) (ob (w * y + x)) := by
  obtain ⟨q1, q2⟩ := xy_64 hW hx hy
  have w8 := hW.2.1
  refine ⟨fun x' y' hx' hy' => ?_, fun i hi => ?_, fun k hk => ?_⟩
  · obtain ⟨q3, q4⟩ := xy_64 hW hx' hy'
    unfold BC BM
    rw [cb_ob q1 q3, cb_ob q2 q4]
    by_cases e : x' = x ∧ y' = y
    · rw [e.1, e.2, decide_eq_true rfl, decide_eq_true rfl]
    · rw [decide_eq_false (by omega), decide_eq_false (fun z => e (cell_inj hx' hx z))]
  · have hl := cb_lt hi
    rw [cb_ob q1 hl, decide_eq_true_eq] at hi
    omega
  · have hl := cb_lt hk
    rw [cb_ob q2 hl, decide_eq_true_eq] at hk
    have := lt_wh hx hy
    omega
/-- a cell by its number -/
theorem k_xy {w h k : Nat} (hk : k < w * h) (hw : 0 < w) : k % w < w ∧ k / w < h ∧ w * (k / w) + k % w = k := ⟨Nat.mod_lt _ hw, Nat.div_lt_of_lt_mul hk, Nat.div_add_mod k w⟩
theorem RelB_inj {w h : Nat} (hW : WH w h) {c m c' m' : Int64} (a : RelB w h c m) (b : RelB w h c' m') : c = c' ↔ m = m' := by
  have hw : 0 < w := by have := hW.1; omega
  constructor
  · intro e
    subst e
    refine cb_ext (fun k hk => ?_)
    by_cases q : k < w * h
    · obtain ⟨h1, h2, h3⟩ := k_xy q hw
      have e1 := a.1 _ _ h1 h2
      have e2 := b.1 _ _ h1 h2
      unfold BM at e1 e2
      rw [h3] at e1 e2
      rw [← e1, ← e2]
    · have z : ∀ m, InM w h m → cb m k = false := fun m hm => by
        cases hc : cb m k with
        | false => rfl
        | true => exact absurd (hm k hc) q
      rw [z m a.2.2, z m' b.2.2]
  · intro e
    subst e
    refine cb_ext (fun i hi => ?_)
    by_cases q : i % 8 < w ∧ i / 8 < h
    · have e1 := a.1 _ _ q.1 q.2
      have e2 := b.1 _ _ q.1 q.2
      unfold BC at e1 e2
      rw [show 8 * (i / 8) + i % 8 = i by omega] at e1 e2
      rw [e1, e2]
    · have z : ∀ c, InC w h c → cb c i = false := fun c hc' => by
        cases hc : cb c i with
        | false => rfl
        | true => exact absurd (hc' i hc) q
      rw [z c a.2.1, z c' b.2.1]
theorem RelB_z {w h : Nat} (hW : WH w h) {c m : Int64} (a : RelB w h c m) : c = 0 ↔ m = 0 := RelB_inj hW a RelB_0
theorem rows_cnt {w h : Nat} (hW : WH w h) {c m : Int64} (a : RelB w h c m) : ∀ y, y ≤ h → cntN (cb c) (8 * y) = cntN (cb m) (w * y)
  | 0, _ => rfl
  | y + 1, hy => by
    have w8 := hW.2.1
    rw [show 8 * (y + 1) = 8 * y + (w + (8 - w)) by omega, show w * (y + 1) = w * y + w by rw [Nat.mul_add, Nat.mul_one], cntN_add, cntN_add, rows_cnt hW a y (by omega), cntN_add]
    have e1 : cntN (fun i => cb c (8 * y + (w + i))) (8 - w) = 0 := cntN_0 (fun i hi => by
      cases hc : cb c (8 * y + (w + i)) with
      | false => rfl
      | true =>
        have := a.2.1 _ hc
        omega)
    have e2 : cntN (fun i => cb c (8 * y + i)) w = cntN (fun i => cb m (w * y + i)) w := cntN_cong (fun i hi => a.1 i y hi (by omega))
    rw [e1, e2]
    rfl
theorem RelB_pc {w h : Nat} (hW : WH w h) {c m : Int64} (a : RelB w h c m) : pc c = pc m := by
  have h64 := wh_64 hW
  have h8 := hW.2.2.2
  unfold pc
  have e1 : cntN (cb c) 64 = cntN (cb c) (8 * h) := by
    rw [show (64 : Nat) = 8 * h + (64 - 8 * h) by omega, cntN_add, cntN_0 (n := 64 - 8 * h) (fun i hi => ?_), Nat.add_zero]
    cases hc : cb c (8 * h + i) with
    | false => rfl
    | true =>
      have := a.2.1 _ hc
      omega
  have e2 : cntN (cb m) 64 = cntN (cb m) (w * h) := by
    rw [show (64 : Nat) = w * h + (64 - w * h) by omega, cntN_add, cntN_0 (n := 64 - w * h) (fun i hi => ?_), Nat.add_zero]
    cases hc : cb m (w * h + i) with
    | false => rfl
    | true =>
      have := a.2.2 _ hc
      omega
  rw [e1, e2, rows_cnt hW a h (Nat.le_refl h)]
theorem RelB_bc {w h : Nat} (hW : WH w h) {c m : Int64} (a : RelB w h c m) : f_J13_bitCount_95d88 c = f_J13_bitCount_95d88 m := by rw [bc_pc, bc_pc, RelB_pc hW a]
theorem og_cong {w h : Nat} {f f' : Nat → Nat → Bool} (hf : ∀ x y, x < w → y < h → f x y = f' x y) {ox oy : Option Nat} (hx : ∀ x, ox = some x → x < w) (hy : ∀ y, oy = some y → y < h) : og f ox oy = og f' ox oy := by
  cases ox with
  | none => rfl
  | some x =>
    cases oy with
    | none => rfl
    | some y => exact hf x y (hx x rfl) (hy y rfl)
theorem cnt8_cong {w h : Nat} {rd : Bool} (hW : WH w h) {f f' : Nat → Nat → Bool} (hf : ∀ x y, x < w → y < h → f x y = f' x y) {x y : Nat} (hx : x < w) (hy : y < h) : cnt8 f w h rd x y = cnt8 f' w h rd x y := by
  have nx : ∀ x', nxt w rd x = some x' → x' < w := fun x' e => nxt_lt hW.1 e
  have px : ∀ x', prv w rd x = some x' → x' < w := fun x' e => prv_lt hW.1 hx e
  have ny : ∀ x', nxt h rd y = some x' → x' < h := fun x' e => nxt_lt hW.2.2.1 e
  have py : ∀ x', prv h rd y = some x' → x' < h := fun x' e => prv_lt hW.2.2.1 hy e
  have sx : ∀ x', some x = some x' → x' < w := fun x' e => by cases e; exact hx
  have sy : ∀ x', some y = some x' → x' < h := fun x' e => by cases e; exact hy
  unfold cnt8
  rw [og_cong hf nx ny, og_cong hf sx ny, og_cong hf px ny, og_cong hf nx sy, og_cong hf px sy, og_cong hf nx py, og_cong hf sx py, og_cong hf px py]
theorem cmB_cong {w h : Nat} {rd : Bool} (hW : WH w h) {f f' : Nat → Nat → Bool} (hf : ∀ x y, x < w → y < h → f x y = f' x y) (bi st : Int32) {x y : Nat} (hx : x < w) (hy : y < h) : cmB bi st f w h rd x y = cmB bi st f' w h rd x y := by
  unfold cmB
  rw [cnt8_cong hW hf hx hy, hf x y hx hy]
/-- a year: the class's births and those that stay, the model's next -/
theorem year_ok {g : GrS} {m : MoS} {r : RuS} {w h : Nat} {rd : Bool} (hW : WH w h) (hG : GOK g w h rd) (hM : MOK m w h rd) (hr : m.2.2.2.2.1 = r.1 ∧ m.2.2.2.2.2 = r.2) {fR fB : Nat → Int64} (hT : TOK w h rd fR fB) {c hs : Int64} (a : RelB w h c hs) :
    ∃ b s n, f_X4_born r g c = some b ∧ f_X4_staying r g c = some s ∧ f_X7_next m fR hs = some n ∧ RelB w h (b ||| s) n ∧ RelB w h b (n &&& (hs ^^^ (-1))) ∧ RelB w h s (n &&& hs) ∧ RelB w h (c &&& (s ^^^ (-1))) (hs &&& (n ^^^ (-1))) := by
  obtain ⟨b, b1, b2⟩ := born_ok hG r c
  obtain ⟨s, s1, s2⟩ := stay_ok g r c
  obtain ⟨n, n1, n2, n3⟩ := next_ok hW hM hT hs
  rw [hr.1, hr.2] at n3
  have bit : ∀ x y, x < w → y < h → BM w n x y = rb (if BC c x y = true then r.2 else r.1) (vq (f_X0_lookAround g c) (8 * y + x)) := fun x y hx hy => by
    rw [n3 x y hx hy, look_c hW hG a.2.1 hx hy, ← cmB_cong hW a.1 r.1 r.2 hx hy]
    rfl
  have fb : ∀ x y, x < w → y < h → BC b x y = (!BC c x y && rb r.1 (vq (f_X0_lookAround g c) (8 * y + x))) := fun x y hx hy => by
    obtain ⟨q1, -⟩ := xy_64 hW hx hy
    have w8 := hW.2.1
    unfold BC
    rw [b2 _ q1, decide_eq_true (show (8 * y + x) % 8 < w ∧ (8 * y + x) / 8 < h by omega), Bool.true_and]
  have fs : ∀ x y, x < w → y < h → BC s x y = (BC c x y && rb r.2 (vq (f_X0_lookAround g c) (8 * y + x))) := fun x y hx hy => by
    obtain ⟨q1, -⟩ := xy_64 hW hx hy
    unfold BC
    rw [s2 _ q1]
  have ib : InC w h b := fun i hi => by
    rw [b2 i (cb_lt hi), Bool.and_eq_true, Bool.and_eq_true, decide_eq_true_eq] at hi
    exact hi.1.1
  have is : InC w h s := fun i hi => by
    rw [s2 i (cb_lt hi), Bool.and_eq_true] at hi
    exact a.2.1 i hi.1
  refine ⟨b, s, n, b1, s1, n1, ⟨fun x y hx hy => ?_, fun i hi => ?_, n2⟩, ⟨fun x y hx hy => ?_, ib, fun k hk => ?_⟩, ⟨fun x y hx hy => ?_, is, fun k hk => ?_⟩, ?_⟩
  · have e : BC (b ||| s) x y = (BC b x y || BC s x y) := cb_or _ _ _
    rw [e, fb x y hx hy, fs x y hx hy, bit x y hx hy]
    cases BC c x y <;> simp
  · rw [cb_or, Bool.or_eq_true] at hi
    exact hi.elim (ib i) (is i)
  · obtain ⟨-, q2⟩ := xy_64 hW hx hy
    have e : BM w (n &&& (hs ^^^ (-1))) x y = (BM w n x y && !BM w hs x y) := by unfold BM; rw [cb_and, cb_not q2]
    rw [e, fb x y hx hy, bit x y hx hy, ← a.1 x y hx hy]
    cases BC c x y <;> simp
  · rw [cb_and, Bool.and_eq_true] at hk
    exact n2 k hk.1
  · have e : BM w (n &&& hs) x y = (BM w n x y && BM w hs x y) := cb_and _ _ _
    rw [e, fs x y hx hy, bit x y hx hy, ← a.1 x y hx hy]
    cases BC c x y <;> simp
  · rw [cb_and, Bool.and_eq_true] at hk
    exact n2 k hk.1
  · refine ⟨fun x y hx hy => ?_, fun i hi => ?_, fun k hk => ?_⟩
    · obtain ⟨q1, q2⟩ := xy_64 hW hx hy
      have e1 : BC (c &&& (s ^^^ (-1))) x y = (BC c x y && !BC s x y) := by unfold BC; rw [cb_and, cb_not q1]
      have e2 : BM w (hs &&& (n ^^^ (-1))) x y = (BM w hs x y && !BM w n x y) := by unfold BM; rw [cb_and, cb_not q2]
      rw [e1, e2, fs x y hx hy, bit x y hx hy, ← a.1 x y hx hy]
      cases BC c x y <;> simp
    · rw [cb_and, Bool.and_eq_true] at hi
      exact a.2.1 i hi.1
    · rw [cb_and, Bool.and_eq_true] at hk
      exact a.2.2 k hk.1
/-- one year by itself -/
theorem beh1_ok {g : GrS} {m : MoS} {r : RuS} {w h : Nat} {rd : Bool} (hW : WH w h) (hG : GOK g w h rd) (hM : MOK m w h rd) (hr : m.2.2.2.2.1 = r.1 ∧ m.2.2.2.2.2 = r.2) {fR fB : Nat → Int64} (hT : TOK w h rd fR fB) {c hs : Int64} (a : RelB w h c hs) : ∃ c' n, f_X4_behindYears r g c 1 = some c' ∧ f_X7_next m fR hs = some n ∧ RelB w h c' n := by
  obtain ⟨b, s, n, h1, h2, h3, h4, -⟩ := year_ok hW hG hM hr hT a
  refine ⟨b ||| s, n, ?_, h3, h4⟩
  unfold f_X4_behindYears
  rw [lp_X4_behindYears_6.eq_2, if_neg (by decide), h1, Option.bind_some, h2, Option.bind_some, lp_X4_behindYears_6.eq_2, if_pos (by decide)]
  rfl
theorem beh2_ok {g : GrS} {m : MoS} {r : RuS} {w h : Nat} {rd : Bool} (hW : WH w h) (hG : GOK g w h rd) (hM : MOK m w h rd) (hr : m.2.2.2.2.1 = r.1 ∧ m.2.2.2.2.2 = r.2) {fR fB : Nat → Int64} (hT : TOK w h rd fR fB) {c hs : Int64} (a : RelB w h c hs) : ∃ c' n n', f_X4_behindYears r g c 2 = some c' ∧ f_X7_next m fR hs = some n ∧ f_X7_next m fR n = some n' ∧ RelB w h c' n' := by
  obtain ⟨b, s, n, h1, h2, h3, h4, -⟩ := year_ok hW hG hM hr hT a
  obtain ⟨b', s', n', h1', h2', h3', h4', -⟩ := year_ok hW hG hM hr hT h4
  refine ⟨b' ||| s', n, n', ?_, h3, h3', h4'⟩
  unfold f_X4_behindYears
  rw [lp_X4_behindYears_6.eq_2, if_neg (by decide), h1, Option.bind_some, h2, Option.bind_some, lp_X4_behindYears_6.eq_2, if_neg (by decide), h1', Option.bind_some, h2', Option.bind_some, lp_X4_behindYears_6.eq_2, if_pos (by decide)]
  rfl
