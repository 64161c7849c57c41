/-! ways: as long forth as back, and inside a lawn -/
/-- what is reached in so many steps -/
def rch (g : GrS) (op c : Int64) : Nat → Int64
  | 0 => c
  | n + 1 => f_X3_withBeside g (rch g op c n) op
theorem rch_sub {g : GrS} {op c : Int64} (hc : Sub c op) : ∀ n, Sub (rch g op c n) op
  | 0 => hc
  | _ + 1 => fun i z => wB_sub z
theorem rch_grow {g : GrS} {op c : Int64} (hc : Sub c op) {n : Nat} : Sub (rch g op c n) (rch g op c (n + 1)) := fun i z => wB_grow (rch_sub hc n) z
theorem rch_mono {g : GrS} {op c : Int64} (hc : Sub c op) {n m : Nat} (h : n ≤ m) : Sub (rch g op c n) (rch g op c m) := by
  induction m with
  | zero => rw [show n = 0 by omega]; exact fun i z => z
  | succ m ih =>
    by_cases e : n = m + 1
    · rw [e]; exact fun i z => z
    · exact fun i z => rch_grow hc i (ih (by omega) i z)
theorem rch_fix {g : GrS} {op c : Int64} {n : Nat} (e : rch g op c (n + 1) = rch g op c n) : ∀ m, n ≤ m → rch g op c m = rch g op c n := by
  intro m
  induction m with
  | zero => intro h; rw [show n = 0 by omega]
  | succ m ih =>
    intro h
    by_cases q : n = m + 1
    · rw [q]
    · show f_X3_withBeside g (rch g op c m) op = _
      rw [ih (by omega)]
      exact e
/-- while it grows, it grows by one cell or more -/
theorem rch_pc {g : GrS} {op c : Int64} (hc : Sub c op) : ∀ n, (∀ m, m < n → ¬ rch g op c (m + 1) = rch g op c m) → pc c + n ≤ pc (rch g op c n)
  | 0, _ => Nat.le_refl _
  | n + 1, h => by
    have h1 := rch_pc hc n (fun m hm => h m (by omega))
    have h2 := wB_pc (rch_sub hc n) (h n (by omega))
    show _ ≤ pc (f_X3_withBeside g (rch g op c n) op)
    omega
theorem steps_l {g : GrS} {op to c0 : Int64} (hc : Sub c0 op) : ∀ (nf i : Nat), i ≤ 64 → 64 - i < nf → (∃ n, i ≤ n ∧ n < 64 ∧ ¬ (rch g op c0 n &&& to) = 0 ∧ (∀ m, i ≤ m → m < n → (rch g op c0 m &&& to) = 0) ∧ lp_X3_steps_9 g to op nf (rch g op c0 i) (nI i) = some (nI n)) ∨ ((∀ m, i ≤ m → m < 64 → (rch g op c0 m &&& to) = 0) ∧ lp_X3_steps_9 g to op nf (rch g op c0 i) (nI i) = some (-1))
  | 0, _, _, h => absurd h (Nat.not_lt_zero _)
  | nf + 1, i, hi, hf => by
    rw [lp_X3_steps_9.eq_2]
    by_cases e : i = 64
    · rw [if_pos (by rw [show (64 : Int32) = nI 64 from rfl, l_le (by omega) (by omega)]; omega)]
      exact Or.inr ⟨fun m h1 h2 => by omega, rfl⟩
    · rw [if_neg (by rw [show (64 : Int32) = nI 64 from rfl, l_le (by omega) (by omega)]; omega)]
      by_cases z : (rch g op c0 i &&& to) = 0
      · rw [if_pos z, nI_1]
        rcases steps_l hc nf (i + 1) (by omega) (by omega) with ⟨n, h1, h2, h3, h4, h5⟩ | ⟨h1, h2⟩
        · refine Or.inl ⟨n, by omega, h2, h3, fun m m1 m2 => ?_, h5⟩
          by_cases q : m = i
          · rw [q]; exact z
          · exact h4 m (by omega) m2
        · refine Or.inr ⟨fun m m1 m2 => ?_, h2⟩
          by_cases q : m = i
          · rw [q]; exact z
          · exact h1 m (by omega) m2
      · rw [if_neg z]
        exact Or.inl ⟨i, Nat.le_refl _, by omega, z, fun m m1 m2 => by omega, rfl⟩
/-- the cell b is reached from a in n steps, or fewer -/
def rc (g : GrS) (op : Int64) (a b n : Nat) : Prop := cb (rch g op (ob a &&& op) n) b = true
theorem oba_sub (a : Nat) (op : Int64) : Sub (ob a &&& op) op := fun i z => by rw [cb_and, Bool.and_eq_true] at z; exact z.2
theorem rc_step {g : GrS} {w h : Nat} {rd : Bool} (hW : WH w h) (hG : GOK g w h rd) {op : Int64} (ho : InC w h op) {a n : Nat} {x y : Nat} (hx : x < w) (hy : y < h) : rc g op a (8 * y + x) (n + 1) ↔ BC op x y = true ∧ (rc g op a (8 * y + x) n ∨ ∃ x' y', x' < w ∧ y' < h ∧ rc g op a (8 * y' + x') n ∧ Ad w h rd x y x' y') := by
  obtain ⟨-, e⟩ := wB_ok hW hG (Sub_in (rch_sub (g := g) (oba_sub a op) n) ho) ho
  have e := e x y hx hy
  unfold rc
  show BC (f_X3_withBeside g (rch g op (ob a &&& op) n) op) x y = true ↔ _
  rw [e, Bool.and_eq_true, Bool.or_eq_true, SB_ex, and_comm]
  refine and_congr Iff.rfl (or_congr Iff.rfl ⟨?_, ?_⟩)
  · rintro ⟨x', y', h1, h2⟩
    obtain ⟨l1, l2⟩ := SB_lt (f := BC (rch g op (ob a &&& op) n)) hW hx hy h2
    exact ⟨x', y', l1, l2, h1, h2⟩
  · rintro ⟨x', y', -, -, h1, h2⟩
    exact ⟨x', y', h1, h2⟩
theorem rc_0 {g : GrS} {op : Int64} {a b : Nat} (ha : a < 64) (hb : b < 64) : rc g op a b 0 ↔ b = a ∧ cb op a = true := by
  unfold rc
  show cb (ob a &&& op) b = true ↔ _
  rw [cb_and, Bool.and_eq_true, cb_ob ha hb, decide_eq_true_eq]
  constructor
  · rintro ⟨rfl, h⟩; exact ⟨rfl, h⟩
  · rintro ⟨rfl, h⟩; exact ⟨rfl, h⟩
theorem rc_op {g : GrS} {op : Int64} {a b n : Nat} (h : rc g op a b n) : cb op b = true := rch_sub (oba_sub a op) n b h
/-- one step at the other end -/
theorem rc_front {g : GrS} {w h : Nat} {rd : Bool} (hW : WH w h) (hG : GOK g w h rd) {op : Int64} (ho : InC w h op) {ax ay cx cy : Nat} (hax : ax < w) (hay : ay < h) (hcx : cx < w) (hcy : cy < h) (hop : BC op ax ay = true) (had : Ad w h rd cx cy ax ay) : ∀ (n : Nat) {x y : Nat}, x < w → y < h → rc g op (8 * cy + cx) (8 * y + x) n → rc g op (8 * ay + ax) (8 * y + x) (n + 1)
  | 0, x, y, hx, hy, hr => by
    obtain ⟨l1, -, -⟩ := bx hW hcx hcy
    obtain ⟨l2, d2, m2⟩ := bx hW hx hy
    obtain ⟨l3, -, -⟩ := bx hW hax hay
    obtain ⟨e, o⟩ := (rc_0 l1 l2).mp hr
    have ex : x = cx := by obtain ⟨w3, w8, -⟩ := hW; omega
    have ey : y = cy := by obtain ⟨w3, w8, -⟩ := hW; omega
    subst ex; subst ey
    exact (rc_step hW hG ho hx hy).mpr ⟨o, Or.inr ⟨ax, ay, hax, hay, (rc_0 l3 l3).mpr ⟨rfl, hop⟩, had⟩⟩
  | n + 1, x, y, hx, hy, hr => by
    obtain ⟨o, hr⟩ := (rc_step hW hG ho hx hy).mp hr
    refine (rc_step hW hG ho hx hy).mpr ⟨o, ?_⟩
    rcases hr with hr | ⟨x', y', hx', hy', hr, ha⟩
    · exact Or.inl (rc_front hW hG ho hax hay hcx hcy hop had n hx hy hr)
    · exact Or.inr ⟨x', y', hx', hy', rc_front hW hG ho hax hay hcx hcy hop had n hx' hy' hr, ha⟩
theorem rc_sym {g : GrS} {w h : Nat} {rd : Bool} (hW : WH w h) (hG : GOK g w h rd) {op : Int64} (ho : InC w h op) {ax ay : Nat} (hax : ax < w) (hay : ay < h) : ∀ (n : Nat) {x y : Nat}, x < w → y < h → rc g op (8 * ay + ax) (8 * y + x) n → rc g op (8 * y + x) (8 * ay + ax) n
  | 0, x, y, hx, hy, hr => by
    obtain ⟨l2, -, -⟩ := bx hW hx hy
    obtain ⟨l3, -, -⟩ := bx hW hax hay
    obtain ⟨e, o⟩ := (rc_0 l3 l2).mp hr
    exact (rc_0 l2 l3).mpr ⟨e.symm, by rw [e]; exact o⟩
  | n + 1, x, y, hx, hy, hr => by
    obtain ⟨o, hr⟩ := (rc_step hW hG ho hx hy).mp hr
    rcases hr with hr | ⟨x', y', hx', hy', hr, ha⟩
    · exact rch_grow (oba_sub _ op) _ (rc_sym hW hG ho hax hay n hx hy hr)
    · exact rc_front hW hG ho hx hy hx' hy' o ((adj_sym hx hy hx' hy').mp ha) n hax hay (rc_sym hW hG ho hax hay n hx' hy' hr)
theorem rch_Lw {g : GrS} {w h : Nat} {rd : Bool} (hW : WH w h) (hG : GOK g w h rd) {op : Int64} (ho : InC w h op) {a : Nat} (ha : cb op a = true) : ∀ n, Sub (rch g op (ob a &&& op) n) (Lw g op a)
  | 0 => fun i z => by
    obtain ⟨-, -, -, m, -⟩ := Lw_ok hW hG ho ha
    have z : cb (ob a &&& op) i = true := z
    have zl := cb_lt z
    rw [cb_and, Bool.and_eq_true, cb_ob (cb_lt ha) zl, decide_eq_true_eq] at z
    rw [z.1]; exact m
  | n + 1 => by
    obtain ⟨-, -, c, -, -⟩ := Lw_ok hW hG ho ha
    exact wB_min hW hG ho (rch_sub (oba_sub a op) n) c (rch_Lw hW hG ho ha n)
/-- the answer of a way, in words: -1, or so many steps, fewer than the lawn has cells -/
theorem way_c {g : GrS} {w h : Nat} {rd : Bool} (hW : WH w h) (hG : GOK g w h rd) {d : GaS} (ho : InC w h (f_X3_open g d.1)) {x y x' y' : Nat} (hx : x < w) (hy : y < h) (hx' : x' < w) (hy' : y' < h) : ∃ v, f_X5_way g d (nI x) (nI y) (nI x') (nI y') = some (.inl v) ∧ ((∃ n, v = nI n ∧ n < 64 ∧ rc g (f_X3_open g d.1) (8 * y + x) (8 * y' + x') n ∧ ∀ m, m < n → ¬ rc g (f_X3_open g d.1) (8 * y + x) (8 * y' + x') m) ∨ (v = -1 ∧ ∀ m, m < 64 → ¬ rc g (f_X3_open g d.1) (8 * y + x) (8 * y' + x') m)) := by
  obtain ⟨l, -, -⟩ := bx hW hx hy
  obtain ⟨l', -, -⟩ := bx hW hx' hy'
  have hc := oba_sub (8 * y + x) (f_X3_open g d.1)
  have key : ∀ m, (rch g (f_X3_open g d.1) (ob (8 * y + x) &&& f_X3_open g d.1) m &&& ob (8 * y' + x')) = 0 ↔ ¬ rc g (f_X3_open g d.1) (8 * y + x) (8 * y' + x') m := fun m => by
    rw [and_ob l']
    unfold rc
    cases cb (rch g (f_X3_open g d.1) (ob (8 * y + x) &&& f_X3_open g d.1) m) (8 * y' + x') <;> simp
  unfold f_X5_way
  rw [if_neg (has_c hW hG hx hy), if_neg (has_c hW hG hx' hy'), l_cell, l_cell]
  unfold f_X3_steps
  rw [show f_X2_open d g = f_X3_open g d.1 from rfl]
  rcases steps_l (g := g) (to := ob (8 * y' + x')) hc 100 0 (by decide) (by decide) with ⟨n, -, n2, n3, n4, n5⟩ | ⟨n1, n2⟩
  · rw [show lp_X3_steps_9 g (ob (8 * y' + x')) (f_X3_open g d.1) 100 (ob (8 * y + x) &&& f_X3_open g d.1) 0 = some (nI n) from n5]
    exact ⟨_, rfl, Or.inl ⟨n, rfl, n2, Classical.byContradiction (fun q => n3 ((key n).mpr q)), fun m hm => (key m).mp (n4 m (Nat.zero_le _) hm)⟩⟩
  · rw [show lp_X3_steps_9 g (ob (8 * y' + x')) (f_X3_open g d.1) 100 (ob (8 * y + x) &&& f_X3_open g d.1) 0 = some (-1) from n2]
    exact ⟨_, rfl, Or.inr ⟨rfl, fun m hm => (key m).mp (n1 m (Nat.zero_le _) hm)⟩⟩
theorem way_sym {g : GrS} {w h : Nat} {rd : Bool} (hW : WH w h) (hG : GOK g w h rd) {d : GaS} (ho : InC w h (f_X3_open g d.1)) {x y x' y' : Nat} (hx : x < w) (hy : y < h) (hx' : x' < w) (hy' : y' < h) : f_X5_way g d (nI x) (nI y) (nI x') (nI y') = f_X5_way g d (nI x') (nI y') (nI x) (nI y) := by
  obtain ⟨v, e, hv⟩ := way_c (d := d) hW hG ho hx hy hx' hy'
  obtain ⟨u, f, hu⟩ := way_c (d := d) hW hG ho hx' hy' hx hy
  rw [e, f]
  have s1 : ∀ m, rc g (f_X3_open g d.1) (8 * y + x) (8 * y' + x') m → rc g (f_X3_open g d.1) (8 * y' + x') (8 * y + x) m := fun m z => rc_sym hW hG ho hx hy m hx' hy' z
  have s2 : ∀ m, rc g (f_X3_open g d.1) (8 * y' + x') (8 * y + x) m → rc g (f_X3_open g d.1) (8 * y + x) (8 * y' + x') m := fun m z => rc_sym hW hG ho hx' hy' m hx hy z
  rcases hv with ⟨n, rfl, n1, n2, n3⟩ | ⟨rfl, n1⟩ <;> rcases hu with ⟨k, rfl, k1, k2, k3⟩ | ⟨rfl, k1⟩
  · have : n = k := by
      rcases Nat.lt_trichotomy n k with q | q | q
      · exact absurd (s1 n n2) (k3 n q)
      · exact q
      · exact absurd (s2 k k2) (n3 k q)
    rw [this]
  · exact absurd (s1 n n2) (k1 n n1)
  · exact absurd (s2 k k2) (n1 k k1)
  · rfl
/-- inside a lawn: fewer steps than it has cells -/
theorem way_in {g : GrS} {w h : Nat} {rd : Bool} (hW : WH w h) (hG : GOK g w h rd) {op : Int64} (ho : InC w h op) {a b n : Nat} (hr : rc g op a b n) (hm : ∀ m, m < n → ¬ rc g op a b m) (ha : a < 64) : cb op a = true ∧ cb (Lw g op a) b = true ∧ n < pc (Lw g op a) := by
  have hop : cb op a = true := by
    cases e : cb op a with
    | true => rfl
    | false =>
      have z : ob a &&& op = 0 := cb_z.mpr (fun i hi => by
        rw [cb_and, cb_ob ha hi]
        by_cases q : i = a
        · subst q; rw [e, Bool.and_false]
        · simp [q])
      have hz : ∀ k, rch g op 0 k = 0 := by
        intro k
        induction k with
        | zero => rfl
        | succ k ih =>
          show f_X3_withBeside g (rch g op 0 k) op = 0
          rw [ih]
          exact (fix_CL hW hG ho (fun i z => by rw [cb_0] at z; cases z)).mpr (fun x y hx hy _ s => by
            obtain ⟨x', y', h1, -⟩ := SB_ex.mp s
            unfold BC at h1
            rw [cb_0] at h1; cases h1)
      unfold rc at hr
      rw [z, hz, cb_0] at hr
      cases hr
  have hL := rch_Lw hW hG ho hop n b hr
  refine ⟨hop, hL, ?_⟩
  have hg : ∀ m, m < n → ¬ rch g op (ob a &&& op) (m + 1) = rch g op (ob a &&& op) m := fun m hmn e => by
    have := rch_fix e n (by omega)
    unfold rc at hr
    rw [this] at hr
    exact hm m hmn hr
  have h1 := rch_pc (g := g) (oba_sub a op) n hg
  have h2 : pc (rch g op (ob a &&& op) n) ≤ pc (Lw g op a) := cntN_mono (fun i _ z => rch_Lw hW hG ho hop n i z)
  have h3 : 0 < pc (ob a &&& op) := cntN_pos.mpr ⟨a, ha, by rw [cb_and, cb_ob ha ha, hop]; simp⟩
  omega
