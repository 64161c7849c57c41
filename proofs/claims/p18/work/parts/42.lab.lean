/-! the law's own lawns: labels -/
def cU (w x a : Nat) : Bool := match (cX w false x a).2 with
  | some _ => true
  | none => decide ((cX w false x a).1 < 0) || decide ((cX w false x a).1 = nI w)
theorem cU_t : ∀ v, v < 6 → ∀ x, x < v + 3 → ∀ a, a < 3 → cU (v + 3) x a = true := by decide +kernel
theorem cU_s {w x a : Nat} (h3 : 3 ≤ w) (h8 : w ≤ 8) (hx : x < w) (ha : a < 3) (e : (cX w false x a).2 = none) : (cX w false x a).1 < 0 ∨ (cX w false x a).1 = nI w := by
  have := cU_t (w - 3) (by omega) x (by omega) a ha
  rw [show w - 3 + 3 = w by omega] at this
  unfold cU at this
  rw [e] at this
  simpa only [Bool.or_eq_true, decide_eq_true_eq] using this
def axd (d : Nat) : Nat := if d = 0 then 2 else if d = 1 then 0 else 1
def ayd (d : Nat) : Nat := if d = 2 then 2 else if d = 3 then 0 else 1
theorem axd_t : ∀ d, d < 4 → ∀ x, x < 8 → ∀ w, w < 9 → (nI x + (if nI d = 0 then (1 : Int32) else (if nI d = 1 then (-1) else 0))) = (cX w false x (axd d)).1 := by decide +kernel
theorem ayd_t : ∀ d, d < 4 → ∀ x, x < 8 → ∀ w, w < 9 → (nI x + (if nI d = 2 then (1 : Int32) else (if nI d = 3 then (-1) else 0))) = (cX w false x (ayd d)).1 := by decide +kernel
theorem cX_1 (w : Nat) (rd rd' : Bool) (x a : Nat) : (cX w rd x a).1 = (cX w rd' x a).1 := by
  unfold cX
  by_cases h0 : a = 0
  · rw [if_pos h0, if_pos h0]
  · by_cases h1 : a = 1
    · rw [if_neg h0, if_neg h0, if_pos h1, if_pos h1]
    · rw [if_neg h0, if_neg h0, if_neg h1, if_neg h1]
theorem axd_lt : ∀ d, d < 4 → axd d < 3 ∧ ayd d < 3 := by decide
/-- the cell beside x, y in the direction d -/
def nb (w h : Nat) (rd : Bool) (x y d : Nat) : Option Nat × Option Nat := ((cX w rd x (axd d)).2, (cX h rd y (ayd d)).2)
theorem nb_ad {w h : Nat} {rd : Bool} {x y d x' y' : Nat} (hd : d < 4) (e1 : (nb w h rd x y d).1 = some x') (e2 : (nb w h rd x y d).2 = some y') : Ad w h rd x y x' y' := by
  unfold Ad
  match d, hd with
  | 0, _ => exact Or.inl ⟨e1, Option.some.inj e2⟩
  | 1, _ => exact Or.inr (Or.inl ⟨e1, Option.some.inj e2⟩)
  | 2, _ => exact Or.inr (Or.inr (Or.inl ⟨Option.some.inj e1, e2⟩))
  | 3, _ => exact Or.inr (Or.inr (Or.inr ⟨Option.some.inj e1, e2⟩))
theorem ad_nb {w h : Nat} {rd : Bool} {x y x' y' : Nat} (a : Ad w h rd x y x' y') : ∃ d, d < 4 ∧ (nb w h rd x y d).1 = some x' ∧ (nb w h rd x y d).2 = some y' := by
  rcases a with ⟨a, rfl⟩ | ⟨a, rfl⟩ | ⟨rfl, a⟩ | ⟨rfl, a⟩
  · exact ⟨0, by decide, a, rfl⟩
  · exact ⟨1, by decide, a, rfl⟩
  · exact ⟨2, by decide, rfl, a⟩
  · exact ⟨3, by decide, rfl, a⟩
/-- one look of the law's spreading -/
def stp (w h : Nat) (rd : Bool) (x y d : Nat) (a : Int32 × (Nat → Nat → Int32)) : Int32 × (Nat → Nat → Int32) := match (nb w h rd x y d).1, (nb w h rd x y d).2 with
  | some x', some y' => if a.2 y x < 0 then a else if a.2 y' x' < 0 then a else if a.2 y' x' < a.2 y x then (1, upM a.2 y (upd (a.2 y) x (a.2 y' x'))) else a
  | _, _ => a
theorem stp_end (L : Nat → Nat → Int32) (f : Int32) (x y x' y' : Nat) : (if L y x < 0 then (some (f, L)) else (if L y' x' < 0 then (some (f, L)) else (if L y' x' < L y x then (some (1, (upM L y (upd (L y) x (L y' x'))))) else (some (f, L)))) : Option (Int32 × (Nat → Nat → Int32))) = some (if L y x < 0 then (f, L) else if L y' x' < 0 then (f, L) else if L y' x' < L y x then (1, upM L y (upd (L y) x (L y' x'))) else (f, L)) := by
  by_cases h1 : L y x < 0
  · rw [if_pos h1, if_pos h1]
  · rw [if_neg h1, if_neg h1]
    by_cases h2 : L y' x' < 0
    · rw [if_pos h2, if_pos h2]
    · rw [if_neg h2, if_neg h2]
      by_cases h3 : L y' x' < L y x
      · rw [if_pos h3, if_pos h3]
      · rw [if_neg h3, if_neg h3]
theorem l77 {w h : Nat} {rd : Bool} {bi st yr b0 d0 : Int32} (hW : WH w h) (nf : Nat) {x y d : Nat} (hx : x < w) (hy : y < h) (hd : d < 4) (a : Int32 × (Nat → Nat → Int32)) : lp_X6_lawns_77 (nI w, nI h, rd, bi, st, yr, b0, d0) (nf + 1) a.1 (nI (4 * (w * y + x) + d)) a.2 = lp_X6_lawns_77 (nI w, nI h, rd, bi, st, yr, b0, d0) nf (stp w h rd x y d a).1 (nI (4 * (w * y + x) + d + 1)) (stp w h rd x y d a).2 := by
  have w64 := wh_64 hW
  obtain ⟨w3, w8, h3, h8⟩ := id hW
  have hk := k_lt hx hy
  obtain ⟨kx, ky⟩ := xy_k (y := y) hx
  have e4 : nI (4 * (w * y + x) + d) / 4 = nI (w * y + x) := by
    rw [show (4 : Int32) = nI 4 from rfl, pk_div (by omega) (by decide) (by decide), show (4 * (w * y + x) + d) / 4 = w * y + x by omega]
  have e5 : nI (4 * (w * y + x) + d) - nI (w * y + x) * 4 = nI d := by
    have := pk_rem (a := 4 * (w * y + x) + d) (d := 4) (by omega) (by decide) (by decide)
    rw [show nI 4 = 4 from rfl, e4, show (4 * (w * y + x) + d) % 4 = d by omega] at this
    exact this
  have e6 : nI (w * y + x) / nI w = nI y := by rw [pk_div (by omega) (by omega) (by omega), ky]
  have e7 : nI (w * y + x) - nI y * nI w = nI x := by
    have := pk_rem (a := w * y + x) (d := w) (by omega) (by omega) (by omega)
    rw [e6, kx] at this
    exact this
  have ew : (nI w).toNatClampNeg = w := l_toN (by omega)
  have eh : (nI h).toNatClampNeg = h := l_toN (by omega)
  have ty : (nI y).toNatClampNeg = y := l_toN (by omega)
  have tx : (nI x).toNatClampNeg = x := l_toN (by omega)
  have gy : ¬ (nI y < 0 ∨ h ≤ y) := fun z => z.elim (nI_lt0 y (by omega)) (by omega)
  have gx : ¬ (nI x < 0 ∨ w ≤ x) := fun z => z.elim (nI_lt0 x (by omega)) (by omega)
  have nw : ¬ nI w = 0 := by rw [show (0 : Int32) = nI 0 from rfl, l_eq (by omega) (by omega)]; omega
  have nh : ¬ nI h = 0 := by rw [show (0 : Int32) = nI 0 from rfl, l_eq (by omega) (by omega)]; omega
  obtain ⟨la, lb⟩ := axd_lt d hd
  rw [lp_X6_lawns_77.eq_2]
  dsimp only
  rw [show (4 : Int32) * nI w * nI h = nI (4 * w * h) from by rw [show (4 : Int32) = nI 4 from rfl, pk_mul, pk_mul], if_neg (by rw [l_le (by rw [Nat.mul_assoc]; omega) (by omega), Nat.mul_assoc]; omega), if_neg nw]
  simp only [bindv]
  rw [e4, e5, e6, e7, axd_t d hd x (by omega) w (by omega), ayd_t d hd y (by omega) h (by omega), ew, eh, ty, tx, nI_1]
  have fin : ∀ v : Int32 × (Nat → Nat → Int32), v = stp w h rd x y d a → (Option.bind (some v) fun v227 => lp_X6_lawns_77 (nI w, nI h, rd, bi, st, yr, b0, d0) nf v227.1 (nI (4 * (w * y + x) + d + 1)) v227.2) = lp_X6_lawns_77 (nI w, nI h, rd, bi, st, yr, b0, d0) nf (stp w h rd x y d a).1 (nI (4 * (w * y + x) + d + 1)) (stp w h rd x y d a).2 := fun v e => by rw [e]; rfl
  cases rd with
  | true =>
    obtain ⟨x', p1, p2, p3, -⟩ := cT_r w3 w8 hx la
    obtain ⟨y', q1, q2, q3, -⟩ := cT_r h3 h8 hy lb
    rw [cX_1 w true false] at p3
    rw [cX_1 h true false] at q3
    rw [if_neg bI_t, if_neg nh, q3, p3, l_toN (show y' < 2 ^ 31 by omega), l_toN (show x' < 2 ^ 31 by omega), if_neg (fun z => z.elim (nI_lt0 y' (by omega)) (by omega)), if_neg (fun z => z.elim (nI_lt0 x' (by omega)) (by omega)), if_neg gy, if_neg gx, stp_end]
    refine fin _ ?_
    unfold stp nb
    rw [p1, q1]
  | false =>
    rw [if_pos bI_f]
    rcases cT_f w3 w8 hx la with ⟨x', p1, p2, p3⟩ | ⟨p1, -⟩
    · rcases cT_f h3 h8 hy lb with ⟨y', q1, q2, q3⟩ | ⟨q1, -⟩
      · have mx : (nI x' + nI w) - (nI x' + nI w) / nI w * nI w = nI x' := by
          rw [nI_add, pk_rem (by omega) (by omega) (by omega), Nat.add_mod_right, Nat.mod_eq_of_lt p2]
        have my : (nI y' + nI h) - (nI y' + nI h) / nI h * nI h = nI y' := by
          rw [nI_add, pk_rem (by omega) (by omega) (by omega), Nat.add_mod_right, Nat.mod_eq_of_lt q2]
        rw [p3, q3, if_neg (nI_lt0 x' (by omega)), if_neg (nI_lt0 y' (by omega)), if_neg (by rw [l_eq (by omega) (by omega)]; omega), if_neg (by rw [l_eq (by omega) (by omega)]; omega), if_neg nh, my, mx, l_toN (show y' < 2 ^ 31 by omega), l_toN (show x' < 2 ^ 31 by omega), if_neg (fun z => z.elim (nI_lt0 y' (by omega)) (by omega)), if_neg (fun z => z.elim (nI_lt0 x' (by omega)) (by omega)), if_neg gy, if_neg gx, stp_end]
        refine fin _ ?_
        unfold stp nb
        rw [p1, q1]
      · have e : (a.1, a.2) = stp w h false x y d a := by unfold stp nb; rw [p1, q1]
        rw [p3, if_neg (nI_lt0 x' (by omega))]
        rcases cU_s h3 h8 hy lb q1 with z | z
        · rw [if_pos z]; exact fin _ e
        · rw [z, if_neg (nI_lt0 h (by omega)), if_neg (by rw [l_eq (by omega) (by omega)]; omega), if_pos rfl]; exact fin _ e
    · have e : (a.1, a.2) = stp w h false x y d a := by
        unfold stp nb
        rw [p1]
      rcases cU_s w3 w8 hx la p1 with z | z
      · rw [if_pos z]; exact fin _ e
      · by_cases u : (cX h false y (ayd d)).1 < 0
        · rw [z, if_neg (nI_lt0 w (by omega)), if_pos u]; exact fin _ e
        · rw [z, if_neg (nI_lt0 w (by omega)), if_neg u, if_pos rfl]; exact fin _ e
