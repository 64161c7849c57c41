/-! ===== neighbours counted: the model ===== -/
def atI (w : Nat) (ox oy : Option Nat) : Int32 := match ox, oy with
  | some x, some y => nI (w * y + x)
  | _, _ => (-1)
/-- a place and its sides: 0 ahead of it, 1 itself, 2 behind it -/
def cX (w : Nat) (rd : Bool) (x a : Nat) : Int32 × Option Nat := if a = 0 then (nI x - 1, prv w rd x) else if a = 1 then (nI x, some x) else (nI x + 1, nxt w rd x)
def cXp (w : Nat) (rd : Bool) (q : Int32 × Option Nat) : Bool := match q.2 with
  | some x' => decide ((q.1 + nI w) - (q.1 + nI w) / nI w * nI w = nI x') && decide (x' < w) && (decide (f_X7_isIn q.1 0 (nI w - 1) = 0) || decide (q.1 = nI x'))
  | none => decide (f_X7_isIn q.1 0 (nI w - 1) = 0) && !rd
theorem cX_t : ∀ v, v < 6 → ∀ x, x < v + 3 → ∀ a, a < 3 → (cXp (v + 3) true (cX (v + 3) true x a) = true ∧ cXp (v + 3) false (cX (v + 3) false x a) = true ∧ (f_X7_isIn (cX (v + 3) false x a).1 0 (nI (v + 3) - 1) = 0 → (cX (v + 3) false x a).2 = none)) := by decide +kernel
theorem cX_s {w x a : Nat} {rd : Bool} (hw : 3 ≤ w) (hw8 : w ≤ 8) (hx : x < w) (ha : a < 3) : cXp w rd (cX w rd x a) = true ∧ (rd = false → f_X7_isIn (cX w rd x a).1 0 (nI w - 1) = 0 → (cX w rd x a).2 = none) := by
  have h := cX_t (w - 3) (by omega) x (by omega) a ha
  rw [Nat.sub_add_cancel hw] at h
  cases rd with
  | true => exact ⟨h.1, fun e => nomatch e⟩
  | false => exact ⟨h.2.1, fun _ => h.2.2⟩
def MOK (m : MoS) (w h : Nat) (rd : Bool) : Prop := m.2.1 = nI w ∧ m.2.2.1 = nI h ∧ m.2.2.2.1 = rd
theorem at_ok {m : MoS} {w h : Nat} {rd : Bool} (hW : WH w h) (hM : MOK m w h rd) {x y a b : Nat} (hx : x < w) (hy : y < h) (ha : a < 3) (hb : b < 3) : f_X7_at m (cX w rd x a).1 (cX h rd y b).1 = some (atI w (cX w rd x a).2 (cX h rd y b).2) := by
  obtain ⟨m1, m2, m3⟩ := hM
  obtain ⟨w3, w8, h3, h8⟩ := hW
  obtain ⟨px, nx⟩ := cX_s (rd := rd) w3 w8 hx ha
  obtain ⟨py, ny⟩ := cX_s (rd := rd) h3 h8 hy hb
  unfold f_X7_at f_X7_isCell
  rw [m1, m2, m3]
  revert px py nx ny
  generalize cX w rd x a = qx
  generalize cX h rd y b = qy
  obtain ⟨vx, ox⟩ := qx
  obtain ⟨vy, oy⟩ := qy
  intro px nx py ny
  dsimp only at px nx py ny ⊢
  have hw0 : ¬ nI w = 0 := fun e => by rw [show (0 : Int32) = nI 0 from rfl, nI_eq (by omega) (by decide)] at e; omega
  have hh0 : ¬ nI h = 0 := fun e => by rw [show (0 : Int32) = nI 0 from rfl, nI_eq (by omega) (by decide)] at e; omega
  have key : ∀ x' y', (ox = some x' → oy = some y' → (vx + nI w) - (vx + nI w) / nI w * nI w = nI x' → (vy + nI h) - (vy + nI h) / nI h * nI h = nI y' → (if nI h = 0 then (none : Option Int32) else if nI w = 0 then none else some ((nI w * ((vy + nI h) - (vy + nI h) / nI h * nI h)) + ((vx + nI w) - (vx + nI w) / nI w * nI w))) = some (atI w ox oy)) := by
    intro x' y' e1 e2 e3 e4
    rw [if_neg hh0, if_neg hw0, e3, e4, e1, e2]
    show some (nI w * nI y' + nI x') = some (nI (w * y' + x'))
    rw [pk_mul, nI_add]
  by_cases ix : f_X7_isIn vx 0 (nI w - 1) = 0
  · rw [if_pos ix, if_pos rfl]
    cases rd with
    | false =>
      rw [if_pos bI_f, nx rfl ix]
      rfl
    | true =>
      rw [if_neg bI_t]
      cases ox with
      | none => simp [cXp] at px
      | some x' =>
        cases oy with
        | none => simp [cXp] at py
        | some y' =>
          simp only [cXp, Bool.and_eq_true, decide_eq_true_eq] at px py
          exact key x' y' rfl rfl px.1.1 py.1.1
  · rw [if_neg ix]
    by_cases iy : f_X7_isIn vy 0 (nI h - 1) = 0
    · rw [if_pos iy, if_pos rfl]
      cases rd with
      | false =>
        rw [if_pos bI_f, ny rfl iy]
        cases ox <;> rfl
      | true =>
        rw [if_neg bI_t]
        cases ox with
        | none => simp [cXp] at px
        | some x' =>
          cases oy with
          | none => simp [cXp] at py
          | some y' =>
            simp only [cXp, Bool.and_eq_true, decide_eq_true_eq] at px py
            exact key x' y' rfl rfl px.1.1 py.1.1
    · rw [if_neg iy, if_neg (show ¬ (1 : Int32) = 0 by decide)]
      cases ox with
      | none => simp [cXp] at px; exact absurd px.1 ix
      | some x' =>
        cases oy with
        | none => simp [cXp] at py; exact absurd py.1 iy
        | some y' =>
          simp only [cXp, Bool.and_eq_true, Bool.or_eq_true, decide_eq_true_eq] at px py
          have e1 : vx = nI x' := px.2.resolve_left ix
          have e2 : vy = nI y' := py.2.resolve_left iy
          rw [e1, e2]
          show some (nI w * nI y' + nI x') = some (nI (w * y' + x'))
          rw [pk_mul, nI_add]
/-- one cell's bit, if there is the cell -/
def oI (w : Nat) (ox oy : Option Nat) : Int64 := f_X7_bit (atI w ox oy)
def hit (w : Nat) (d : Option Nat × Option Nat) (j : Nat) : Bool := match d.1, d.2 with
  | some x, some y => decide (j = w * y + x)
  | _, _ => false
theorem lt_wh {w h x y : Nat} (hx : x < w) (hy : y < h) : w * y + x < w * h := by
  have h1 : w * (y + 1) ≤ w * h := Nat.mul_le_mul_left w hy
  rw [Nat.mul_add, Nat.mul_one] at h1
  omega
theorem wh_64 {w h : Nat} (hW : WH w h) : w * h ≤ 64 := by
  obtain ⟨w3, w8, h3, h8⟩ := hW
  exact Nat.le_trans (Nat.mul_le_mul w8 h8) (by decide)
theorem cb_oI {w h : Nat} (hW : WH w h) {ox oy : Option Nat} (hx : ∀ x, ox = some x → x < w) (hy : ∀ y, oy = some y → y < h) {j : Nat} (hj : j < 64) : cb (oI w ox oy) j = hit w (ox, oy) j := by
  unfold oI f_X7_bit
  cases ox with
  | none =>
    show cb (if (-1 : Int32) = -1 then 0 else _) j = false
    rw [if_pos rfl, cb_0]
  | some x =>
    cases oy with
    | none =>
      show cb (if (-1 : Int32) = -1 then 0 else _) j = false
      rw [if_pos rfl, cb_0]
    | some y =>
      have hl := lt_wh (hx x rfl) (hy y rfl)
      have h64 := wh_64 hW
      show cb (if nI (w * y + x) = -1 then 0 else jshl 1 (nI (w * y + x))) j = decide (j = w * y + x)
      have hne : ¬ nI (w * y + x) = -1 := fun e => by
        have h1 : ¬ nI (w * y + x) < 0 := nI_pos (by omega)
        rw [e] at h1
        exact h1 (by decide)
      rw [if_neg hne]
      exact cb_ob (by omega) hj
def B4 (w h : Nat) (rd : Bool) (x y : Nat) : Int64 := (((oI w (prv w rd x) (some y)) ||| (oI w (nxt w rd x) (some y))) ||| (oI w (some x) (prv h rd y))) ||| (oI w (some x) (nxt h rd y))
def B8 (w h : Nat) (rd : Bool) (x y : Nat) : Int64 := ((((B4 w h rd x y) ||| (oI w (prv w rd x) (prv h rd y))) ||| (oI w (nxt w rd x) (prv h rd y))) ||| (oI w (prv w rd x) (nxt h rd y))) ||| (oI w (nxt w rd x) (nxt h rd y))
/-- the tables of the model -/
def TOK (w h : Nat) (rd : Bool) (fR fB : Nat → Int64) : Prop := ∀ x y, x < w → y < h → fB (w * y + x) = B4 w h rd x y ∧ fR (w * y + x) = B8 w h rd x y
theorem l_toN {k : Nat} (h : k < 2 ^ 31) : (nI k).toNatClampNeg = k := nI_clamp h
theorem link_l {m : MoS} {w h : Nat} {rd : Bool} (hW : WH w h) (hM : MOK m w h rd) : ∀ (nf k : Nat) (fR fB : Nat → Int64), k ≤ w * h → w * h - k < nf → ∃ v, lp_X7_link_2 m nf (nI k) fR fB = some v ∧ (∀ j, j < k → v.1 j = fR j ∧ v.2 j = fB j) ∧ ∀ x y, x < w → y < h → k ≤ w * y + x → v.2 (w * y + x) = B4 w h rd x y ∧ v.1 (w * y + x) = B8 w h rd x y
  | 0, _, _, _, _, hh => absurd hh (Nat.not_lt_zero _)
  | nf + 1, k, fR, fB, hk, hh => by
    have h64 := wh_64 hW
    have hwp : 0 < w := by have := hW.1; omega
    rw [lp_X7_link_2.eq_2]
    have e0 : m.2.1 * m.2.2.1 = nI (w * h) := by rw [hM.1, hM.2.1, pk_mul]
    rw [e0]
    by_cases q : w * h ≤ k
    · rw [if_pos ((nI_leI (by omega) (by omega)).mpr q)]
      refine ⟨(fR, fB), rfl, fun j _ => ⟨rfl, rfl⟩, fun x y hx hy hle => ?_⟩
      have := lt_wh hx hy
      omega
    · rw [if_neg (fun z => q ((nI_leI (by omega) (by omega)).mp z))]
      have hx : k % w < w := Nat.mod_lt _ hwp
      have hy : k / w < h := Nat.div_lt_of_lt_mul (by omega)
      have hkk : w * (k / w) + k % w = k := Nat.div_add_mod k w
      have hw31 : w < 2 ^ 31 := by have := hW.2.1; omega
      have hw0 : ¬ m.2.1 = 0 := fun e => by
        rw [hM.1, show (0 : Int32) = nI 0 from rfl, nI_eq hw31 (by decide)] at e; omega
      rw [if_neg hw0, if_neg hw0]
      have ex : nI k - nI k / m.2.1 * m.2.1 = nI (k % w) := by rw [hM.1]; exact pk_rem (by omega) hwp hw31
      have ey : nI k / m.2.1 = nI (k / w) := by rw [hM.1]; exact pk_div (by omega) hwp hw31
      rw [ex, ey]
      have a1 : f_X7_at m (nI (k % w) - 1) (nI (k / w)) = some (atI w (prv w rd (k % w)) (some (k / w))) := at_ok (a := 0) (b := 1) hW hM hx hy (by decide) (by decide)
      have a2 : f_X7_at m (nI (k % w) + 1) (nI (k / w)) = some (atI w (nxt w rd (k % w)) (some (k / w))) := at_ok (a := 2) (b := 1) hW hM hx hy (by decide) (by decide)
      have a3 : f_X7_at m (nI (k % w)) (nI (k / w) - 1) = some (atI w (some (k % w)) (prv h rd (k / w))) := at_ok (a := 1) (b := 0) hW hM hx hy (by decide) (by decide)
      have a4 : f_X7_at m (nI (k % w)) (nI (k / w) + 1) = some (atI w (some (k % w)) (nxt h rd (k / w))) := at_ok (a := 1) (b := 2) hW hM hx hy (by decide) (by decide)
      have a5 : f_X7_at m (nI (k % w) - 1) (nI (k / w) - 1) = some (atI w (prv w rd (k % w)) (prv h rd (k / w))) := at_ok (a := 0) (b := 0) hW hM hx hy (by decide) (by decide)
      have a6 : f_X7_at m (nI (k % w) + 1) (nI (k / w) - 1) = some (atI w (nxt w rd (k % w)) (prv h rd (k / w))) := at_ok (a := 2) (b := 0) hW hM hx hy (by decide) (by decide)
      have a7 : f_X7_at m (nI (k % w) - 1) (nI (k / w) + 1) = some (atI w (prv w rd (k % w)) (nxt h rd (k / w))) := at_ok (a := 0) (b := 2) hW hM hx hy (by decide) (by decide)
      have a8 : f_X7_at m (nI (k % w) + 1) (nI (k / w) + 1) = some (atI w (nxt w rd (k % w)) (nxt h rd (k / w))) := at_ok (a := 2) (b := 2) hW hM hx hy (by decide) (by decide)
      have ho : ¬ (nI k < 0 ∨ 64 ≤ k) := by
        have h1 := l_out (i := k) (N := 64) (by omega) (by decide)
        rw [l_toN (by omega)] at h1
        exact h1
      rw [a1, a2, a3, a4, a5, a6, a7, a8]
      simp only [Option.bind_some, if_neg ho, l_toN (show k < 2 ^ 31 by omega), nI_1]
      have eB : ((((f_X7_bit (atI w (prv w rd (k % w)) (some (k / w)))) ||| (f_X7_bit (atI w (nxt w rd (k % w)) (some (k / w))))) ||| (f_X7_bit (atI w (some (k % w)) (prv h rd (k / w))))) ||| (f_X7_bit (atI w (some (k % w)) (nxt h rd (k / w))))) = B4 w h rd (k % w) (k / w) := rfl
      rw [eB]
      have eR : (((((vp_updL fB k (B4 w h rd (k % w) (k / w))) k) ||| (f_X7_bit (atI w (prv w rd (k % w)) (prv h rd (k / w))))) ||| (f_X7_bit (atI w (nxt w rd (k % w)) (prv h rd (k / w))))) ||| (f_X7_bit (atI w (prv w rd (k % w)) (nxt h rd (k / w))))) ||| (f_X7_bit (atI w (nxt w rd (k % w)) (nxt h rd (k / w)))) = B8 w h rd (k % w) (k / w) := by
        rw [pk_uLs]; rfl
      rw [eR]
      obtain ⟨v, h1, h2, h3⟩ := link_l hW hM nf (k + 1) (vp_updL fR k (B8 w h rd (k % w) (k / w))) (vp_updL fB k (B4 w h rd (k % w) (k / w))) (by omega) (by omega)
      refine ⟨v, h1, fun j hj => ?_, fun x y hx' hy' hle => ?_⟩
      · obtain ⟨z1, z2⟩ := h2 j (by omega)
        exact ⟨z1.trans (pk_uLn (by omega)), z2.trans (pk_uLn (by omega))⟩
      · by_cases e : k = w * y + x
        · have ex2 : k % w = x := by rw [e, Nat.mul_add_mod, Nat.mod_eq_of_lt hx']
          have ey2 : k / w = y := by rw [e, Nat.mul_add_div hwp, Nat.div_eq_of_lt hx', Nat.add_zero]
          obtain ⟨z1, z2⟩ := h2 k (by omega)
          rw [← e]
          rw [pk_uLs] at z1 z2
          rw [ex2, ey2] at z1 z2
          exact ⟨z2, z1⟩
        · exact h3 x y hx' hy' (by omega)
theorem link_ok {m : MoS} {w h : Nat} {rd : Bool} (hW : WH w h) (hM : MOK m w h rd) (fR fB : Nat → Int64) : ∃ v, f_X7_link m fR fB = some v ∧ TOK w h rd v.1 v.2 := by
  obtain ⟨v, h1, h2, h3⟩ := link_l hW hM 100 0 fR fB (Nat.zero_le _) (by have := wh_64 hW; omega)
  refine ⟨v, ?_, fun x y hx hy => h3 x y hx hy (Nat.zero_le _)⟩
  unfold f_X7_link
  have h1' : lp_X7_link_2 m 100 0 fR fB = some v := h1
  rw [h1']
  rfl
