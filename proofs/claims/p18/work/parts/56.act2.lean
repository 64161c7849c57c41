/-! a figure is planted -/
def anyB (p : Nat → Bool) : Nat → Bool
  | 0 => false
  | n + 1 => anyB p n || p n
theorem anyB_iff {p : Nat → Bool} : ∀ {n : Nat}, anyB p n = true ↔ ∃ i, i < n ∧ p i = true
  | 0 => ⟨(fun z => by cases z), fun ⟨i, hi, _⟩ => absurd hi (Nat.not_lt_zero _)⟩
  | n + 1 => by
    show (anyB p n || p n) = true ↔ _
    rw [Bool.or_eq_true, anyB_iff (n := n)]
    constructor
    · rintro (⟨i, hi, e⟩ | e)
      · exact ⟨i, by omega, e⟩
      · exact ⟨n, by omega, e⟩
    · rintro ⟨i, hi, e⟩
      by_cases z : i = n
      · subst z; exact Or.inr e
      · exact Or.inl ⟨i, by omega, e⟩
def TP (f t i : Nat) : Nat × Nat := match lp_L_act_448 (nI t) 9 (figM (nI f) i 0) (figM (nI f) i 1) 0 with
  | some (u, v) => (u.toNatClampNeg, v.toNatClampNeg)
  | none => (0, 0)
def tpB (f t i : Nat) : Bool := match lp_L_act_448 (nI t) 9 (figM (nI f) i 0) (figM (nI f) i 1) 0 with
  | some (u, v) => (decide (u = nI (TP f t i).1) && decide (v = nI (TP f t i).2)) && (decide ((TP f t i).1 < 3) && decide ((TP f t i).2 < 3))
  | none => false
theorem TP_b : ∀ f, f < 4 → ∀ t, t < 4 → ∀ i, i < 5 → (!decide (i < figN (nI f)) || tpB f t i) = true := by decide +kernel
theorem TP_t (f : Nat) (hf : f < 4) (t : Nat) (ht : t < 4) (i : Nat) (h5 : i < 5) (hi : i < figN (nI f)) : lp_L_act_448 (nI t) 9 (figM (nI f) i 0) (figM (nI f) i 1) 0 = some (nI (TP f t i).1, nI (TP f t i).2) ∧ (TP f t i).1 < 3 ∧ (TP f t i).2 < 3 := by
  have e := TP_b f hf t ht i h5
  rw [decide_eq_true hi, Bool.not_true, Bool.false_or] at e
  unfold tpB at e
  cases q : lp_L_act_448 (nI t) 9 (figM (nI f) i 0) (figM (nI f) i 1) 0 with
  | none => rw [q] at e; cases e
  | some u =>
    rw [q] at e
    obtain ⟨u1, u2⟩ := u
    dsimp only at e
    rw [Bool.and_eq_true, Bool.and_eq_true, Bool.and_eq_true, decide_eq_true_eq, decide_eq_true_eq, decide_eq_true_eq, decide_eq_true_eq] at e
    obtain ⟨⟨h1, h2⟩, h3, h4⟩ := e
    exact ⟨by rw [← h1, ← h2], h3, h4⟩
def PP (f t : Nat) : Int32 := (f_X1_turned (f_X1_picture (nI f)) (nI t)).getD 0
theorem PP_t : ∀ f, f < 4 → ∀ t, t < 4 → f_X1_turned (f_X1_picture (nI f)) (nI t) = some (PP f t) := by decide +kernel
theorem PP_p : ∀ f, f < 4 → ∀ t, t < 4 → ∀ k, k < 9 → pt (PP f t) k = anyB (fun i => decide (k = 3 * (TP f t i).2 + (TP f t i).1)) (figN (nI f)) := by decide +kernel
theorem fig_5 : ∀ f, f < 4 → figN (nI f) ≤ 5 ∧ f_L_figure (nI f) = some (figM (nI f)) := fun f hf => by
  have : ∀ f, f < 4 → figN (nI f) ≤ 5 ∧ (nI f = 0 ∨ nI f = 1 ∨ nI f = 2 ∨ nI f = 3) := by decide
  obtain ⟨h1, h2⟩ := this f hf
  exact ⟨h1, by unfold f_L_figure; rw [if_pos h2]⟩
def okc (w h : Nat) (rd : Bool) (x y f t i : Nat) : Bool := rd || decide (x + (TP f t i).1 < w ∧ y + (TP f t i).2 < h)
def canB (w h : Nat) (rd : Bool) (x y f t : Nat) (k : Nat) : Bool := !anyB (fun i => !okc w h rd x y f t i) k
theorem b01_and (a b : Bool) : b01 a &&& b01 b = b01 (a && b) := by cases a <;> cases b <;> decide
theorem z0 : (0 : Int32).toNatClampNeg = 0 := by decide
theorem z1 : (1 : Int32).toNatClampNeg = 1 := by decide
theorem l419 {w h : Nat} {rd : Bool} (hW : WH w h) {x y f t : Nat} (hx : x < w) (hy : y < h) (hf : f < 4) (ht : t < 4) (e1 e2 e3 e4 e5 : Int32) : ∃ m, lp_L_act_419 (nI w, nI h, rd, e1, e2, e3, e4, e5) (nI x) (nI y) (nI t) (nI f) 9 1 0 (figM (nI f)) = some (b01 (canB w h rd x y f t (figN (nI f))), m) ∧ ∀ i, i < figN (nI f) → m i 0 = nI (x + (TP f t i).1) ∧ m i 1 = nI (y + (TP f t i).2) := by
  obtain ⟨w3, w8, h3, h8⟩ := id hW
  obtain ⟨f5, -⟩ := fig_5 f hf
  obtain ⟨q, ⟨q1, q2, -⟩, q3⟩ := for_inv (n := figN (nI f)) (fun k (q : Int32 × (Nat → Nat → Int32)) => q.1 = b01 (canB w h rd x y f t k) ∧ (∀ j, j < k → q.2 j 0 = nI (x + (TP f t j).1) ∧ q.2 j 1 = nI (y + (TP f t j).2)) ∧ ∀ j, k ≤ j → q.2 j 0 = figM (nI f) j 0 ∧ q.2 j 1 = figM (nI f) j 1) (fun nf i q => lp_L_act_419 (nI w, nI h, rd, e1, e2, e3, e4, e5) (nI x) (nI y) (nI t) (nI f) nf q.1 i q.2) id (fun nf k q hk hq => by
      obtain ⟨q1, q2, q3⟩ := hq
      obtain ⟨t1, t2, t3⟩ := TP_t f hf t ht k (by omega) hk
      obtain ⟨s1, s2⟩ := q3 k (Nat.le_refl _)
      have at2 : ∀ (A B : Int32) (j i : Nat), upM (upM q.2 k (upd (q.2 k) 0 A)) k (upd ((upM q.2 k (upd (q.2 k) 0 A)) k) 1 B) j i = if j = k ∧ i = 1 then B else if j = k ∧ i = 0 then A else q.2 j i := fun A B j i => by rw [upM_at, upM_at]
      have row : lp_L_act_419 (nI w, nI h, rd, e1, e2, e3, e4, e5) (nI x) (nI y) (nI t) (nI f) (nf + 1) q.1 (nI k) q.2 = _ := lp_L_act_419.eq_2 (nI w, nI h, rd, e1, e2, e3, e4, e5) (nI x) (nI y) (nI t) (nI f) (nf := nf) q.1 (nI k) q.2
      dsimp only at row
      rw [z0, z1, if_neg (by rw [show Int32.ofNat (figN (nI f)) = nI (figN (nI f)) from rfl, l_le (by omega) (by omega)]; omega), l_toN (show k < 2 ^ 31 by omega), if_neg (fun z => z.elim (nI_pos (by omega)) (by omega)), if_neg (by decide), if_neg (by decide), s1, s2, t1, Option.bind_some] at row
      dsimp only at row
      rw [nI_add, nI_add, at2, at2, if_neg (show ¬ (k = k ∧ (0 : Nat) = 1) from fun z => absurd z.2 (by decide)), if_pos (show k = k ∧ (0 : Nat) = 0 from ⟨rfl, rfl⟩), if_pos (show k = k ∧ (1 : Nat) = 1 from ⟨rfl, rfl⟩), nI_1] at row
      have val : (if bI rd = 0 then (if nI w ≤ nI (x + (TP f t k).1) then (0 : Int32) else (if nI h ≤ nI (y + (TP f t k).2) then 0 else 1)) else 1) = b01 (okc w h rd x y f t k) := by
        unfold okc
        cases rd with
        | true => rw [if_neg bI_t]; rfl
        | false =>
          rw [if_pos bI_f, Bool.false_or]
          by_cases z1 : w ≤ x + (TP f t k).1
          · rw [if_pos (by rw [l_le (by omega) (by omega)]; exact z1), decide_eq_false (fun z => by omega)]; rfl
          · by_cases z2 : h ≤ y + (TP f t k).2
            · rw [if_neg (by rw [l_le (by omega) (by omega)]; exact z1), if_pos (by rw [l_le (by omega) (by omega)]; exact z2), decide_eq_false (fun z => by omega)]; rfl
            · rw [if_neg (by rw [l_le (by omega) (by omega)]; exact z1), if_neg (by rw [l_le (by omega) (by omega)]; exact z2), decide_eq_true ⟨by omega, by omega⟩]; rfl
      rw [val, q1] at row
      unfold bindv at row
      dsimp only at row
      rw [b01_and] at row
      refine ⟨(b01 (canB w h rd x y f t (k + 1)), upM (upM q.2 k (upd (q.2 k) 0 (nI (x + (TP f t k).1)))) k (upd ((upM q.2 k (upd (q.2 k) 0 (nI (x + (TP f t k).1)))) k) 1 (nI (y + (TP f t k).2)))), ⟨rfl, fun j hj => ?_, fun j hj => ?_⟩, ?_⟩
      · dsimp only
        rw [at2, at2]
        by_cases z : j = k
        · subst z
          exact ⟨by rw [if_neg (fun z => absurd z.2 (by decide)), if_pos ⟨rfl, rfl⟩], by rw [if_pos ⟨rfl, rfl⟩]⟩
        · rw [if_neg (fun y => z y.1), if_neg (fun y => z y.1), if_neg (fun y => z y.1), if_neg (fun y => z y.1)]
          exact q2 j (by omega)
      · dsimp only
        rw [at2, at2, if_neg (fun y => by have := y.1; omega), if_neg (fun y => by have := y.1; omega), if_neg (fun y => by have := y.1; omega), if_neg (fun y => by have := y.1; omega)]
        exact q3 j (by omega)
      · have ec : (canB w h rd x y f t k && okc w h rd x y f t k) = canB w h rd x y f t (k + 1) := by
          show _ = !(anyB _ k || !okc w h rd x y f t k)
          unfold canB
          cases anyB (fun i => !okc w h rd x y f t i) k <;> cases okc w h rd x y f t k <;> rfl
        rw [ec] at row
        rw [q1]
        exact row) (fun nf q _ => by
      show lp_L_act_419 (nI w, nI h, rd, e1, e2, e3, e4, e5) (nI x) (nI y) (nI t) (nI f) (nf + 1) q.1 (nI (figN (nI f))) q.2 = _
      rw [lp_L_act_419.eq_2, if_pos (by rw [show Int32.ofNat (figN (nI f)) = nI (figN (nI f)) from rfl, l_le (by omega) (by omega)]; exact Nat.le_refl _)]
      rfl) 9 0 ((1, figM (nI f)) : Int32 × (Nat → Nat → Int32)) (Nat.zero_le _) (by omega) ⟨rfl, fun j hj => absurd hj (Nat.not_lt_zero _), fun j _ => ⟨rfl, rfl⟩⟩
  exact ⟨q.2, by rw [← q1]; exact q3, q2⟩
def hit (w h x y f t x' y' : Nat) (k : Nat) : Bool := anyB (fun i => decide (x' = (x + (TP f t i).1) % w ∧ y' = (y + (TP f t i).2) % h)) k
theorem l549 {w h : Nat} {rd : Bool} (hW : WH w h) {x y f t : Nat} (hx : x < w) (hy : y < h) (hf : f < 4) (ht : t < 4) (e1 e2 e3 e4 e5 : Int32) (c : Bool) {m M : Nat → Nat → Int32} (hm : ∀ i, i < figN (nI f) → m i 0 = nI (x + (TP f t i).1) ∧ m i 1 = nI (y + (TP f t i).2)) : ∃ M', lp_L_act_549 (nI w, nI h, rd, e1, e2, e3, e4, e5) (nI f) (b01 c, m) 9 0 M = some M' ∧ ∀ x' y', M' y' x' = if c = true ∧ hit w h x y f t x' y' (figN (nI f)) = true then 0 else M y' x' := by
  obtain ⟨w3, w8, h3, h8⟩ := id hW
  obtain ⟨f5, -⟩ := fig_5 f hf
  obtain ⟨q, q1, q2⟩ := for_inv (n := figN (nI f)) (fun k (q : Nat → Nat → Int32) => ∀ x' y', q y' x' = if c = true ∧ hit w h x y f t x' y' k = true then 0 else M y' x') (fun nf i q => lp_L_act_549 (nI w, nI h, rd, e1, e2, e3, e4, e5) (nI f) (b01 c, m) nf i q) id (fun nf k q hk hq => by
      obtain ⟨-, t2, t3⟩ := TP_t f hf t ht k (by omega) hk
      obtain ⟨m1, m2⟩ := hm k hk
      have row : lp_L_act_549 (nI w, nI h, rd, e1, e2, e3, e4, e5) (nI f) (b01 c, m) (nf + 1) (nI k) q = _ := lp_L_act_549.eq_2 (nI w, nI h, rd, e1, e2, e3, e4, e5) (nI f) (b01 c, m) (nf := nf) (nI k) q
      dsimp only at row
      rw [z0, z1, if_neg (by rw [show Int32.ofNat (figN (nI f)) = nI (figN (nI f)) from rfl, l_le (by omega) (by omega)]; omega), l_toN (show k < 2 ^ 31 by omega), if_neg (fun z => z.elim (nI_pos (by omega)) (by omega)), nI_1] at row
      have hs : ∀ x' y', hit w h x y f t x' y' (k + 1) = (hit w h x y f t x' y' k || decide (x' = (x + (TP f t k).1) % w ∧ y' = (y + (TP f t k).2) % h)) := fun _ _ => rfl
      cases c with
      | false =>
        rw [if_pos (show b01 false = 0 from rfl), Option.bind_some] at row
        exact ⟨q, fun x' y' => by rw [hq, if_neg (fun z => absurd z.1 (by decide)), if_neg (fun z => absurd z.1 (by decide))], row⟩
      | true =>
        have lx := Nat.mod_lt (x + (TP f t k).1) (show 0 < w by omega)
        have ly := Nat.mod_lt (y + (TP f t k).2) (show 0 < h by omega)
        rw [if_neg (show ¬ b01 true = 0 by decide), if_neg (show ¬ ((1 : Int32) < 0 ∨ 2 ≤ 1) by decide), if_neg (nI_ne0 (n := h) (by omega) (by omega))] at row
        simp only [m1, m2] at row
        rw [pk_rem (a := y + (TP f t k).2) (d := h) (by omega) (by omega) (by omega), pk_rem (a := x + (TP f t k).1) (d := w) (by omega) (by omega) (by omega), l_toN (show (y + (TP f t k).2) % h < 2 ^ 31 by omega), l_toN (show (x + (TP f t k).1) % w < 2 ^ 31 by omega), l_toN (show h < 2 ^ 31 by omega), l_toN (show w < 2 ^ 31 by omega), if_neg (fun z => z.elim (nI_pos (by omega)) (by omega)), if_neg (show ¬ ((0 : Int32) < 0 ∨ 2 ≤ 0) by decide), if_neg (nI_ne0 (n := w) (by omega) (by omega)), if_neg (fun z => z.elim (nI_pos (by omega)) (by omega)), Option.bind_some] at row
        refine ⟨_, fun x' y' => ?_, row⟩
        rw [upM_at, hs, hq]
        by_cases z : y' = (y + (TP f t k).2) % h ∧ x' = (x + (TP f t k).1) % w
        · rw [if_pos z, if_pos ⟨rfl, by rw [decide_eq_true ⟨z.2, z.1⟩, Bool.or_true]⟩]
        · rw [if_neg z, decide_eq_false (fun u => z ⟨u.2, u.1⟩), Bool.or_false]) (fun nf q _ => by
      show lp_L_act_549 (nI w, nI h, rd, e1, e2, e3, e4, e5) (nI f) (b01 c, m) (nf + 1) (nI (figN (nI f))) q = _
      rw [lp_L_act_549.eq_2, if_pos (by rw [show Int32.ofNat (figN (nI f)) = nI (figN (nI f)) from rfl, l_le (by omega) (by omega)]; exact Nat.le_refl _)]
      rfl) 9 0 M (Nat.zero_le _) (by omega) (fun x' y' => by rw [if_neg (fun z => Bool.noConfusion (show false = true from z.2))])
  exact ⟨q, q2, q1⟩
