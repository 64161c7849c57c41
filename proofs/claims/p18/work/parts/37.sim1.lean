/-! the law's own garden: a cell, its neighbours, what comes -/
def cX (w : Nat) (rd : Bool) (x a : Nat) : Int32 × Option Nat := if a = 0 then (nI x - 1, prv w rd x) else if a = 1 then (nI x, some x) else (nI x + 1, nxt w rd x)
def cT (w x a : Nat) : Bool := (match (cX w true x a).2 with
  | some x' => decide (x' < w) && decide ((((cX w true x a).1 + nI w) - ((cX w true x a).1 + nI w) / nI w * nI w) = nI x') && decide (¬ nI w = 0)
  | none => false) && (match (cX w false x a).2 with
  | some x' => decide (x' < w) && decide ((cX w false x a).1 = nI x')
  | none => decide ((cX w false x a).1 < 0) || decide (nI w ≤ (cX w false x a).1))
theorem cT_t : ∀ v, v < 6 → ∀ x, x < v + 3 → ∀ a, a < 3 → cT (v + 3) x a = true := by decide +kernel
theorem cT_s {w x a : Nat} (h3 : 3 ≤ w) (h8 : w ≤ 8) (hx : x < w) (ha : a < 3) : cT w x a = true := by
  have := cT_t (w - 3) (by omega) x (by omega) a ha
  rwa [show w - 3 + 3 = w by omega] at this
theorem cT_r {w x a : Nat} (h3 : 3 ≤ w) (h8 : w ≤ 8) (hx : x < w) (ha : a < 3) : ∃ x', (cX w true x a).2 = some x' ∧ x' < w ∧ (((cX w true x a).1 + nI w) - ((cX w true x a).1 + nI w) / nI w * nI w) = nI x' ∧ ¬ nI w = 0 := by
  have h := cT_s h3 h8 hx ha
  unfold cT at h
  rw [Bool.and_eq_true] at h
  have h := h.1
  cases e : (cX w true x a).2 with
  | none => rw [e] at h; cases h
  | some x' =>
    rw [e] at h
    simp only [Bool.and_eq_true, decide_eq_true_eq] at h
    exact ⟨x', rfl, h.1.1, h.1.2, h.2⟩
theorem cT_f {w x a : Nat} (h3 : 3 ≤ w) (h8 : w ≤ 8) (hx : x < w) (ha : a < 3) : (∃ x', (cX w false x a).2 = some x' ∧ x' < w ∧ (cX w false x a).1 = nI x') ∨ ((cX w false x a).2 = none ∧ ((cX w false x a).1 < 0 ∨ nI w ≤ (cX w false x a).1)) := by
  have h := cT_s h3 h8 hx ha
  unfold cT at h
  rw [Bool.and_eq_true] at h
  have h := h.2
  cases e : (cX w false x a).2 with
  | none =>
    rw [e] at h
    simp only [Bool.or_eq_true, decide_eq_true_eq] at h
    exact Or.inr ⟨rfl, h⟩
  | some x' =>
    rw [e] at h
    simp only [Bool.and_eq_true, decide_eq_true_eq] at h
    exact Or.inl ⟨x', rfl, h.1, h.2⟩
def simB (M : Nat → Nat → Int32) (x y : Nat) : Bool := decide (¬ M y x < 0)
theorem simB_t {M : Nat → Nat → Int32} {x y : Nat} : simB M x y = true ↔ ¬ M y x < 0 := by unfold simB; exact decide_eq_true_iff
theorem simB_f {M : Nat → Nat → Int32} {x y : Nat} : simB M x y = false ↔ M y x < 0 := by
  unfold simB
  rw [decide_eq_false_iff_not, Decidable.not_not]
def SOK (s : SiS) (w h : Nat) (rd : Bool) : Prop := s.1 = nI w ∧ s.2.1 = nI h ∧ s.2.2.1 = rd
def b01 (b : Bool) : Int32 := if b = true then 1 else 0
theorem nI_lt0 (k : Nat) (hk : k < 100) : ¬ nI k < 0 := nI_pos (by omega)
theorem has_end (M : Nat → Nat → Int32) (x y : Nat) : (if M y x < 0 then (some 0) else (some 1) : Option Int32) = some (b01 (simB M x y)) := by
  unfold b01
  by_cases h : M y x < 0
  · rw [if_pos h, if_neg (by rw [simB_f.mpr h]; decide)]
  · rw [if_neg h, if_pos (simB_t.mpr h)]
theorem has_ok {s : SiS} {M : Nat → Nat → Int32} {w h : Nat} {rd : Bool} (hW : WH w h) (hs : SOK s w h rd) {x y a b : Nat} (hx : x < w) (hy : y < h) (ha : a < 3) (hb : b < 3) : f_X6_has s M (cX w rd x a).1 (cX h rd y b).1 = some (b01 (og (simB M) (cX w rd x a).2 (cX h rd y b).2)) := by
  obtain ⟨w3, w8, h3, h8⟩ := hW
  obtain ⟨e1, e2, e3⟩ := hs
  unfold f_X6_has
  rw [e1, e2, e3, l_toN (show w < 2 ^ 31 by omega), l_toN (show h < 2 ^ 31 by omega)]
  cases rd with
  | true =>
    obtain ⟨x', p1, p2, p3, p4⟩ := cT_r w3 w8 hx ha
    obtain ⟨y', q1, q2, q3, q4⟩ := cT_r h3 h8 hy hb
    rw [if_neg bI_t, if_neg q4, q3, p3, if_neg (l_out q2 (by omega)), if_neg p4, if_neg (l_out p2 (by omega)), l_toN (show y' < 2 ^ 31 by omega), l_toN (show x' < 2 ^ 31 by omega), p1, q1, has_end]
    rfl
  | false =>
    rw [if_pos bI_f]
    rcases cT_f w3 w8 hx ha with ⟨x', p1, p2, p3⟩ | ⟨p1, p2⟩
    · rcases cT_f h3 h8 hy hb with ⟨y', q1, q2, q3⟩ | ⟨q1, q2⟩
      · rw [p3, q3, if_neg (nI_lt0 x' (by omega)), if_neg (by rw [l_le (by omega) (by omega)]; omega), if_neg (nI_lt0 y' (by omega)), if_neg (by rw [l_le (by omega) (by omega)]; omega), if_neg (l_out q2 (by omega)), if_neg (l_out p2 (by omega)), l_toN (show y' < 2 ^ 31 by omega), l_toN (show x' < 2 ^ 31 by omega), p1, q1, has_end]
        rfl
      · have e : og (simB M) (cX w false x a).2 (cX h false y b).2 = false := by rw [q1, p1]; rfl
        rw [e, p3, if_neg (nI_lt0 x' (by omega)), if_neg (by rw [l_le (by omega) (by omega)]; omega)]
        by_cases q0 : (cX h false y b).1 < 0
        · rw [if_pos q0]; rfl
        · rw [if_neg q0, if_pos (q2.resolve_left q0)]; rfl
    · have e : og (simB M) (cX w false x a).2 (cX h false y b).2 = false := by rw [p1]; cases (cX h false y b).2 <;> rfl
      rw [e]
      by_cases p0 : (cX w false x a).1 < 0
      · rw [if_pos p0]; rfl
      · rw [if_neg p0, if_pos (p2.resolve_left p0)]; rfl
theorem has_at {s : SiS} {M : Nat → Nat → Int32} {w h : Nat} {rd : Bool} (hW : WH w h) (hs : SOK s w h rd) {x y : Nat} (hx : x < w) (hy : y < h) : f_X6_has s M (nI x) (nI y) = some (b01 (simB M x y)) := has_ok (a := 1) (b := 1) hW hs hx hy (by decide) (by decide)
theorem b01_0 (b : Bool) : b01 b = 0 ↔ b = false := by cases b <;> decide
theorem st3 : ∀ y, y < 8 → ¬ (nI y + 1 < nI y - 1) ∧ (nI y - 1) + 1 = nI y ∧ ¬ (nI y + 1 < nI y) ∧ ¬ (nI y + 1 < nI y + 1) ∧ nI y + 1 < nI y + 1 + 1 := by decide +kernel
theorem b01_v (b : Bool) : (if b01 b = 0 then (0 : Int32) else 1) = b01 b := by cases b <;> rfl
theorem near_i {s : SiS} {M : Nat → Nat → Int32} {w h : Nat} {rd : Bool} (hW : WH w h) (hs : SOK s w h rd) {x y a : Nat} (hx : x < w) (hy : y < h) (ha : a < 3) (v : Int32) : lp_X6_near_33 s M (nI y) (cX w rd x a).1 100 v (nI y - 1) = some (v + b01 (og (simB M) (cX w rd x a).2 (cX h rd y 0).2) + b01 (og (simB M) (cX w rd x a).2 (cX h rd y 1).2) + b01 (og (simB M) (cX w rd x a).2 (cX h rd y 2).2)) := by
  obtain ⟨t1, t2, t3, t4, t5⟩ := st3 y (by have := hW.2.2.2; omega)
  have h0 := has_ok (M := M) (b := 0) hW hs hx hy ha (by decide)
  have h1 := has_ok (M := M) (b := 1) hW hs hx hy ha (by decide)
  have h2 := has_ok (M := M) (b := 2) hW hs hx hy ha (by decide)
  rw [show (cX h rd y 0).1 = nI y - 1 from rfl] at h0
  rw [show (cX h rd y 1).1 = nI y from rfl] at h1
  rw [show (cX h rd y 2).1 = nI y + 1 from rfl] at h2
  rw [lp_X6_near_33.eq_2, if_neg t1, h0, Option.bind_some]
  simp only [bindv]
  rw [b01_v, t2, lp_X6_near_33.eq_2, if_neg t3, h1, Option.bind_some]
  simp only [bindv]
  rw [b01_v, lp_X6_near_33.eq_2, if_neg t4, h2, Option.bind_some]
  simp only [bindv]
  rw [b01_v, lp_X6_near_33.eq_2, if_pos t5]
theorem sum9 : ∀ a b c d e f g h i : Bool, (((((((((((if b01 e = 0 then (0 : Int32) else -1) + b01 a) + b01 b) + b01 c) + b01 d) + b01 e) + b01 f) + b01 g) + b01 h) + b01 i)) = nI (i.toNat + f.toNat + c.toNat + h.toNat + b.toNat + g.toNat + d.toNat + a.toNat) := by decide +kernel
theorem near_ok {s : SiS} {M : Nat → Nat → Int32} {w h : Nat} {rd : Bool} (hW : WH w h) (hs : SOK s w h rd) {x y : Nat} (hx : x < w) (hy : y < h) : f_X6_near s M (nI x) (nI y) = some (nI (cnt8 (simB M) w h rd x y)) := by
  obtain ⟨t1, t2, t3, t4, t5⟩ := st3 x (by have := hW.2.1; omega)
  have n0 := fun v => near_i (M := M) (a := 0) hW hs hx hy (by decide) v
  have n1 := fun v => near_i (M := M) (a := 1) hW hs hx hy (by decide) v
  have n2 := fun v => near_i (M := M) (a := 2) hW hs hx hy (by decide) v
  rw [show (cX w rd x 0).1 = nI x - 1 from rfl] at n0
  rw [show (cX w rd x 1).1 = nI x from rfl] at n1
  rw [show (cX w rd x 2).1 = nI x + 1 from rfl] at n2
  unfold f_X6_near
  rw [has_at hW hs hx hy, Option.bind_some]
  simp only [bindv]
  rw [lp_X6_near_20.eq_2, if_neg t1, n0, Option.bind_some, t2, lp_X6_near_20.eq_2, if_neg t3, n1, Option.bind_some, lp_X6_near_20.eq_2, if_neg t4, n2, Option.bind_some, lp_X6_near_20.eq_2, if_pos t5, Option.bind_some]
  refine congrArg some ?_
  exact sum9 (og (simB M) (cX w rd x 0).2 (cX h rd y 0).2) (og (simB M) (cX w rd x 0).2 (cX h rd y 1).2) (og (simB M) (cX w rd x 0).2 (cX h rd y 2).2) (og (simB M) (cX w rd x 1).2 (cX h rd y 0).2) (simB M x y) (og (simB M) (cX w rd x 1).2 (cX h rd y 2).2) (og (simB M) (cX w rd x 2).2 (cX h rd y 0).2) (og (simB M) (cX w rd x 2).2 (cX h rd y 1).2) (og (simB M) (cX w rd x 2).2 (cX h rd y 2).2)
theorem cnt8_le (f : Nat → Nat → Bool) (w h : Nat) (rd : Bool) (x y : Nat) : cnt8 f w h rd x y ≤ 8 := by
  unfold cnt8
  have q := fun b : Bool => bn_le b
  have := q (og f (nxt w rd x) (nxt h rd y)); have := q (og f (some x) (nxt h rd y)); have := q (og f (prv w rd x) (nxt h rd y)); have := q (og f (nxt w rd x) (some y)); have := q (og f (prv w rd x) (some y)); have := q (og f (nxt w rd x) (prv h rd y)); have := q (og f (some x) (prv h rd y)); have := q (og f (prv w rd x) (prv h rd y))
  omega
theorem rb_tab : ∀ n, n < 9 → ∀ r, r < 512 → rb (nI r) n = decide (r / 2 ^ n % 2 = 1) := by decide +kernel
theorem half_d (r : Nat) (hr : r < 512) : nI r / 2 = nI (r / 2) := pk_div (a := r) (d := 2) (by omega) (by decide) (by decide)
theorem half_m (r : Nat) (hr : r < 512) : nI r - nI r / 2 * 2 = nI (r % 2) := pk_rem (a := r) (d := 2) (by omega) (by decide) (by decide)
theorem comes_l {s : SiS} {M : Nat → Nat → Int32} {w h : Nat} {rd : Bool} (hW : WH w h) (hs : SOK s w h rd) {x y : Nat} (hx : x < w) (hy : y < h) : ∀ (nf k r : Nat), k ≤ cnt8 (simB M) w h rd x y → cnt8 (simB M) w h rd x y - k < nf → r < 512 → lp_X6_comes_24 s M (nI x) (nI y) nf (nI r) (nI k) = some (nI (r / 2 ^ (cnt8 (simB M) w h rd x y - k)))
  | 0, _, _, _, h, _ => absurd h (Nat.not_lt_zero _)
  | nf + 1, k, r, hk, hf, hr => by
    have c8 := cnt8_le (simB M) w h rd x y
    rw [lp_X6_comes_24.eq_2, near_ok hW hs hx hy, Option.bind_some]
    by_cases e : cnt8 (simB M) w h rd x y ≤ k
    · rw [if_pos (by rw [l_le (by omega) (by omega)]; exact e), show cnt8 (simB M) w h rd x y - k = 0 by omega, Nat.pow_zero, Nat.div_one]
    · rw [if_neg (by rw [l_le (by omega) (by omega)]; exact e), half_d r hr, nI_1, comes_l hW hs hx hy nf (k + 1) (r / 2) (by omega) (by omega) (by omega), Nat.div_div_eq_div_mul, ← Nat.pow_succ', show (cnt8 (simB M) w h rd x y - (k + 1)).succ = cnt8 (simB M) w h rd x y - k by omega]
def RuOK (s : SiS) : Prop := ∃ a b : Nat, a < 512 ∧ b < 512 ∧ s.2.2.2.1 = nI a ∧ s.2.2.2.2.1 = nI b
theorem simc_ok {s : SiS} {M : Nat → Nat → Int32} {w h : Nat} {rd : Bool} (hW : WH w h) (hs : SOK s w h rd) (hr : RuOK s) {x y : Nat} (hx : x < w) (hy : y < h) : f_X6_comes s M (nI x) (nI y) = some (b01 (cmB s.2.2.2.1 s.2.2.2.2.1 (simB M) w h rd x y)) := by
  obtain ⟨bi, st, hb, hst, e1, e2⟩ := hr
  have c8 := cnt8_le (simB M) w h rd x y
  unfold f_X6_comes cmB
  rw [has_at hW hs hx hy, Option.bind_some, e1, e2]
  simp only [bindv]
  have key : ∀ r, r < 512 → (Option.bind (lp_X6_comes_24 s M (nI x) (nI y) 100 (nI r) 0) fun v10 => if (v10 - v10 / 2 * 2) = 1 then (some 1) else (some 0)) = some (b01 (rb (nI r) (cnt8 (simB M) w h rd x y))) := by
    intro r hr
    have h1 := comes_l (M := M) hW hs hx hy 100 0 r (Nat.zero_le _) (by omega) hr
    rw [show nI 0 = 0 from rfl, Nat.sub_zero] at h1
    rw [h1, Option.bind_some]
    have h2 : r / 2 ^ (cnt8 (simB M) w h rd x y) < 512 := Nat.lt_of_le_of_lt (Nat.div_le_self _ _) hr
    rw [half_m _ h2, rb_tab _ (by omega) r hr]
    rcases Nat.mod_two_eq_zero_or_one (r / 2 ^ (cnt8 (simB M) w h rd x y)) with e | e <;> rw [e] <;> rfl
  cases e : simB M x y with
  | true => rw [if_neg (by decide), if_pos rfl]; exact key st hst
  | false => rw [if_pos (by decide), if_neg (by decide)]; exact key bi hb
/-! loops that count -/
theorem for_inv {α β : Type} {n : Nat} (P : Nat → α → Prop) (L : Nat → Int32 → α → Option β) (out : α → β) (h1 : ∀ (nf k : Nat) (a : α), k < n → P k a → ∃ a', P (k + 1) a' ∧ L (nf + 1) (nI k) a = L nf (nI (k + 1)) a') (h2 : ∀ (nf : Nat) (a : α), P n a → L (nf + 1) (nI n) a = some (out a)) : ∀ (nf k : Nat) (a : α), k ≤ n → n - k < nf → P k a → ∃ r, P n r ∧ L nf (nI k) a = some (out r)
  | 0, _, _, _, h, _ => absurd h (Nat.not_lt_zero _)
  | nf + 1, k, a, hk, hf, hp => by
    by_cases e : k = n
    · subst e; exact ⟨a, hp, h2 nf a hp⟩
    · obtain ⟨a', q1, q2⟩ := h1 nf k a (by omega) hp
      obtain ⟨r, r1, r2⟩ := for_inv P L out h1 h2 nf (k + 1) a' (by omega) (by omega) q1
      exact ⟨r, r1, q2.trans r2⟩
theorem for_fold {α : Type} {n : Nat} (G : α → Nat → α) (L : Nat → Int32 → α → Option α) (h1 : ∀ (nf k : Nat) (a : α), k < n → L (nf + 1) (nI k) a = L nf (nI (k + 1)) (G a k)) (h2 : ∀ (nf : Nat) (a : α), L (nf + 1) (nI n) a = some a) (nf : Nat) (hf : n < nf) (a : α) : L nf (nI 0) a = some (foldN G a n) := by
  obtain ⟨r, r1, r2⟩ := for_inv (n := n) (fun k b => b = foldN G a k) L id (fun nf k b hk hp => ⟨G b k, by subst hp; rfl, h1 nf k b hk⟩) (fun nf b _ => h2 nf b) nf 0 a (Nat.zero_le _) (by omega) rfl
  rw [r2, r1]
  rfl
/-- a count over all cells, row by row -/
def cells2 (w h : Nat) (p : Nat → Nat → Bool) : Nat := cntN (fun k => p (k % w) (k / w)) (w * h)
theorem cells2_row (w : Nat) (p : Nat → Nat → Bool) (y : Nat) : cntN (fun k => p (k % w) (k / w)) (w * (y + 1)) = cntN (fun k => p (k % w) (k / w)) (w * y) + cntN (fun x => p x y) w := by
  rw [show w * (y + 1) = w * y + w by rw [Nat.mul_add, Nat.mul_one], cntN_add]
  congr 1
  refine cntN_cong (fun i hi => ?_)
  rw [show (w * y + i) % w = i by rw [Nat.mul_add_mod, Nat.mod_eq_of_lt hi], show (w * y + i) / w = y by rw [Nat.mul_add_div (by omega), Nat.div_eq_of_lt hi, Nat.add_zero]]
theorem cells2_cong {w h : Nat} {p q : Nat → Nat → Bool} (hw : 0 < w) (e : ∀ x y, x < w → y < h → p x y = q x y) : cells2 w h p = cells2 w h q := by
  refine cntN_cong (fun k hk => ?_)
  obtain ⟨h1, h2, -⟩ := k_xy hk hw
  exact e _ _ h1 h2
theorem fold_cnt {p : Nat → Bool} {G : Int32 → Nat → Int32} {a : Nat} : ∀ n, (∀ v k, k < n → G v k = v + b01 (p k)) → foldN G (nI a) n = nI (a + cntN p n)
  | 0, _ => rfl
  | n + 1, hG => by
    show G (foldN G (nI a) n) n = _
    rw [fold_cnt n (fun v k hk => hG v k (by omega)), hG _ n (by omega)]
    show nI (a + cntN p n) + b01 (p n) = nI (a + (cntN p n + (p n).toNat))
    cases p n with
    | true => rw [show b01 true = nI 1 from rfl, nI_add]; rfl
    | false => rw [show b01 false = nI 0 from rfl, nI_add]; rfl
theorem simh_ok {s : SiS} {M : Nat → Nat → Int32} {w h : Nat} {rd : Bool} (hW : WH w h) (hs : SOK s w h rd) : f_X6_hedges s M = some (nI (cells2 w h (simB M))) := by
  have w64 := wh_64 hW
  obtain ⟨w3, w8, h3, h8⟩ := hW
  obtain ⟨e1, e2, -⟩ := hs
  have inner : ∀ (y v : Nat), y < h → lp_X6_hedges_37 s M (nI y) 100 (nI v) 0 = some (nI (v + cntN (fun x => simB M x y) w)) := by
    intro y v hy
    have := for_fold (n := w) (fun a x => a + b01 (simB M x y)) (fun nf i a => lp_X6_hedges_37 s M (nI y) nf a i) (fun nf k a hk => by
      show lp_X6_hedges_37 s M (nI y) (nf + 1) a (nI k) = _
      rw [lp_X6_hedges_37.eq_2, e1, l_toN (show w < 2 ^ 31 by omega), show Int32.ofNat w = nI w from rfl, if_neg (by rw [l_le (by omega) (by omega)]; omega), if_neg (l_out hk (by omega)), l_toN (show y < 2 ^ 31 by omega), l_toN (show k < 2 ^ 31 by omega), nI_1]
      simp only [bindv]
      by_cases q : M y k < 0
      · rw [if_pos q, simB_f.mpr q]; rfl
      · rw [if_neg q, simB_t.mpr q]; rfl) (fun nf a => by
      show lp_X6_hedges_37 s M (nI y) (nf + 1) a (nI w) = _
      rw [lp_X6_hedges_37.eq_2, e1, l_toN (show w < 2 ^ 31 by omega), show Int32.ofNat w = nI w from rfl, if_pos (by rw [l_le (by omega) (by omega)]; exact Nat.le_refl _)]) 100 (by omega) (nI v)
    rw [show (0 : Int32) = nI 0 from rfl]
    refine this.trans (congrArg some ?_)
    exact fold_cnt w (fun v k _ => rfl)
  have := for_inv (n := h) (fun y a => a = nI (cntN (fun k => simB M (k % w) (k / w)) (w * y))) (fun nf i a => lp_X6_hedges_13 s M nf a i) id (fun nf y a hy hp => ⟨_, rfl, by
    subst hp
    show lp_X6_hedges_13 s M (nf + 1) _ (nI y) = _
    rw [lp_X6_hedges_13.eq_2, e2, l_toN (show h < 2 ^ 31 by omega), show Int32.ofNat h = nI h from rfl, if_neg (by rw [l_le (by omega) (by omega)]; omega), if_neg (l_out hy (by omega)), inner y _ hy, Option.bind_some, nI_1, cells2_row]⟩) (fun nf a _ => by
    show lp_X6_hedges_13 s M (nf + 1) a (nI h) = _
    rw [lp_X6_hedges_13.eq_2, e2, l_toN (show h < 2 ^ 31 by omega), show Int32.ofNat h = nI h from rfl, if_pos (by rw [l_le (by omega) (by omega)]; exact Nat.le_refl _)]
    rfl) 100 0 0 (Nat.zero_le _) (by omega) rfl
  obtain ⟨r, r1, r2⟩ := this
  unfold f_X6_hedges
  rw [show lp_X6_hedges_13 s M 100 0 0 = some r from r2, Option.bind_some, r1]
  rfl
