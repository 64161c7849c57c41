/-! ===== neighbours counted: the class ===== -/
def vq (q : CrS) (i : Nat) : Nat := (cb q.1 i).toNat + 2 * (cb q.2.1 i).toNat + 4 * (cb q.2.2.1 i).toNat + 8 * (cb q.2.2.2 i).toNat
theorem bn_le (b : Bool) : b.toNat ≤ 1 := by cases b <;> decide
theorem add_ok (q : CrS) (c : Int64) (i : Nat) (h : vq q i ≤ 7) : vq (f_X0_add q c) i = vq q i + (cb c i).toNat := by
  unfold vq f_X0_add at *
  simp only [cb_xor, cb_and, cb_or] at *
  revert h
  generalize cb q.1 i = a
  generalize cb q.2.1 i = b
  generalize cb q.2.2.1 i = d
  generalize cb q.2.2.2 i = e
  generalize cb c i = f
  revert a b d e f
  decide
theorem look_v (g : GrS) (hs : Int64) (i : Nat) : vq (f_X0_lookAround g hs) i = (cb (f_X3_left g (f_X3_up g hs)) i).toNat + (cb (f_X3_up g hs) i).toNat + (cb (f_X3_right g (f_X3_up g hs)) i).toNat + (cb (f_X3_left g hs) i).toNat + (cb (f_X3_right g hs) i).toNat + (cb (f_X3_left g (f_X3_down g hs)) i).toNat + (cb (f_X3_down g hs) i).toNat + (cb (f_X3_right g (f_X3_down g hs)) i).toNat := by
  have e0 : vq ((0, 0, 0, 0) : Int64 × Int64 × Int64 × Int64) i = 0 := by unfold vq; simp [cb_0]
  have t1 := bn_le (cb (f_X3_left g (f_X3_up g hs)) i)
  have t2 := bn_le (cb (f_X3_up g hs) i)
  have t3 := bn_le (cb (f_X3_right g (f_X3_up g hs)) i)
  have t4 := bn_le (cb (f_X3_left g hs) i)
  have t5 := bn_le (cb (f_X3_right g hs) i)
  have t6 := bn_le (cb (f_X3_left g (f_X3_down g hs)) i)
  have t7 := bn_le (cb (f_X3_down g hs) i)
  unfold f_X0_lookAround
  have e1 := add_ok ((0, 0, 0, 0) : Int64 × Int64 × Int64 × Int64) (f_X3_left g (f_X3_up g hs)) i (by omega)
  have e2 := add_ok _ (f_X3_up g hs) i (show vq (f_X0_add ((0, 0, 0, 0) : Int64 × Int64 × Int64 × Int64) (f_X3_left g (f_X3_up g hs))) i ≤ 7 by omega)
  have e3 := add_ok _ (f_X3_right g (f_X3_up g hs)) i (show vq (f_X0_add (f_X0_add ((0, 0, 0, 0) : Int64 × Int64 × Int64 × Int64) (f_X3_left g (f_X3_up g hs))) (f_X3_up g hs)) i ≤ 7 by omega)
  have e4 := add_ok _ (f_X3_left g hs) i (Nat.le_trans (Nat.le_of_eq e3) (by omega))
  have e5 := add_ok _ (f_X3_right g hs) i (Nat.le_trans (Nat.le_of_eq e4) (by omega))
  have e6 := add_ok _ (f_X3_left g (f_X3_down g hs)) i (Nat.le_trans (Nat.le_of_eq e5) (by omega))
  have e7 := add_ok _ (f_X3_down g hs) i (Nat.le_trans (Nat.le_of_eq e6) (by omega))
  have e8 := add_ok _ (f_X3_right g (f_X3_down g hs)) i (Nat.le_trans (Nat.le_of_eq e7) (by omega))
  omega
theorem sel_b {p : Prop} [Decidable p] (x : Int64) {i : Nat} (hi : i < 64) : cb (if p then (x ^^^ (-1)) else x) i = (cb x i ^^ decide p) := by
  by_cases h : p
  · rw [if_pos h, cb_not hi, decide_eq_true h]; cases cb x i <;> rfl
  · rw [if_neg h, decide_eq_false h]; cases cb x i <;> rfl
theorem cw_tab : ∀ n, n < 9 → ∀ a b d e : Bool, ((((a ^^ decide (f_X0_bit (nI n) 1 = 0)) && (b ^^ decide (f_X0_bit (nI n) 2 = 0))) && (d ^^ decide (f_X0_bit (nI n) 4 = 0))) && (e ^^ decide (f_X0_bit (nI n) 8 = 0))) = decide (a.toNat + 2 * b.toNat + 4 * d.toNat + 8 * e.toNat = n) := by decide +kernel
theorem cw_ok (q : CrS) {n : Nat} (hn : n < 9) {i : Nat} (hi : i < 64) : cb (f_X0_cellsWith q (nI n)) i = decide (vq q i = n) := by
  unfold f_X0_cellsWith bindv
  rw [cb_and, cb_and, cb_and, sel_b _ hi, sel_b _ hi, sel_b _ hi, sel_b _ hi]
  have h := cw_tab n hn (cb q.1 i) (cb q.2.1 i) (cb q.2.2.1 i) (cb q.2.2.2 i)
  exact h
/-- whether the numbers hold n -/
def rb (nu : Int32) (n : Nat) : Bool := decide (¬ ((nu >>> (nI n &&& 31)) &&& 1) = 0)
theorem cwo_l (q : CrS) (nu : Int32) : ∀ (nf k : Nat) (y : Int64), k ≤ 9 → 9 - k < nf → ∃ r, lp_X4_cellsWithOneOf_5 q nu nf y (nI k) = some r ∧ ∀ i, i < 64 → cb r i = (cb y i || (decide (k ≤ vq q i ∧ vq q i ≤ 8) && rb nu (vq q i)))
  | 0, _, _, _, h => absurd h (Nat.not_lt_zero _)
  | nf + 1, k, y, hk, h => by
    rw [lp_X4_cellsWithOneOf_5.eq_2]
    by_cases q8 : 8 < k
    · rw [if_pos (show (8 : Int32) < nI k from (nI_ltI (a := 8) (by decide) (by omega)).mpr q8)]
      refine ⟨y, rfl, fun i _ => ?_⟩
      rw [decide_eq_false (by omega)]; simp
    · rw [if_neg (show ¬ (8 : Int32) < nI k from fun z => q8 ((nI_ltI (a := 8) (by decide) (by omega)).mp z))]
      rw [nI_1]
      obtain ⟨r, h1, h2⟩ := cwo_l q nu nf (k + 1) (if ((nu >>> (nI k &&& 31)) &&& 1) = 0 then y else (y ||| (f_X0_cellsWith q (nI k)))) (by omega) (by omega)
      refine ⟨r, h1, fun i hi => ?_⟩
      rw [h2 i hi]
      by_cases c : ((nu >>> (nI k &&& 31)) &&& 1) = 0
      · rw [if_pos c]
        by_cases e : vq q i = k
        · have hr : rb nu (vq q i) = false := by rw [e]; exact decide_eq_false (fun z => z c)
          rw [hr]; simp
        · congr 2
          by_cases z : k ≤ vq q i ∧ vq q i ≤ 8
          · rw [decide_eq_true z, decide_eq_true (by omega)]
          · rw [decide_eq_false z, decide_eq_false (by omega)]
      · rw [if_neg c, cb_or, cw_ok q (by omega) hi]
        by_cases e : vq q i = k
        · have hr : rb nu (vq q i) = true := by rw [e]; exact decide_eq_true c
          rw [hr, decide_eq_true e, decide_eq_true (show k ≤ vq q i ∧ vq q i ≤ 8 by omega)]; simp
        · rw [decide_eq_false e, Bool.or_false]
          congr 2
          by_cases z : k ≤ vq q i ∧ vq q i ≤ 8
          · rw [decide_eq_true z, decide_eq_true (by omega)]
          · rw [decide_eq_false z, decide_eq_false (by omega)]
theorem look_le (g : GrS) (hs : Int64) (i : Nat) : vq (f_X0_lookAround g hs) i ≤ 8 := by
  rw [look_v]
  have t1 := bn_le (cb (f_X3_left g (f_X3_up g hs)) i)
  have t2 := bn_le (cb (f_X3_up g hs) i)
  have t3 := bn_le (cb (f_X3_right g (f_X3_up g hs)) i)
  have t4 := bn_le (cb (f_X3_left g hs) i)
  have t5 := bn_le (cb (f_X3_right g hs) i)
  have t6 := bn_le (cb (f_X3_left g (f_X3_down g hs)) i)
  have t7 := bn_le (cb (f_X3_down g hs) i)
  have t8 := bn_le (cb (f_X3_right g (f_X3_down g hs)) i)
  omega
theorem cwo_ok (r : RuS) (g : GrS) (hs : Int64) (nu : Int32) : ∃ c, f_X4_cellsWithOneOf r (f_X0_lookAround g hs) nu = some c ∧ ∀ i, i < 64 → cb c i = rb nu (vq (f_X0_lookAround g hs) i) := by
  obtain ⟨c, h1, h2⟩ := cwo_l (f_X0_lookAround g hs) nu 100 0 0 (by decide) (by decide)
  refine ⟨c, ?_, fun i hi => ?_⟩
  · unfold f_X4_cellsWithOneOf
    have h1' : lp_X4_cellsWithOneOf_5 (f_X0_lookAround g hs) nu 100 0 0 = some c := h1
    rw [h1']; rfl
  · rw [h2 i hi, cb_0, decide_eq_true (⟨Nat.zero_le _, look_le g hs i⟩)]; simp
/-- the eight around, counted -/
def cnt8 (f : Nat → Nat → Bool) (w h : Nat) (rd : Bool) (x y : Nat) : Nat := (og f (nxt w rd x) (nxt h rd y)).toNat + (og f (some x) (nxt h rd y)).toNat + (og f (prv w rd x) (nxt h rd y)).toNat + (og f (nxt w rd x) (some y)).toNat + (og f (prv w rd x) (some y)).toNat + (og f (nxt w rd x) (prv h rd y)).toNat + (og f (some x) (prv h rd y)).toNat + (og f (prv w rd x) (prv h rd y)).toNat
theorem nxt_lt {w : Nat} {rd : Bool} {x x' : Nat} (hw : 3 ≤ w) (h : nxt w rd x = some x') : x' < w := by
  unfold nxt at h
  by_cases q : x + 1 < w
  · rw [if_pos q] at h; cases h; exact q
  · rw [if_neg q] at h
    cases rd with
    | true => cases h; omega
    | false => exact nomatch h
theorem prv_lt {w : Nat} {rd : Bool} {x x' : Nat} (hw : 3 ≤ w) (hx : x < w) (h : prv w rd x = some x') : x' < w := by
  unfold prv at h
  by_cases q : 0 < x
  · rw [if_pos q] at h; cases h; omega
  · rw [if_neg q] at h
    cases rd with
    | true => cases h; omega
    | false => exact nomatch h
theorem og_og {w : Nat} {U f : Nat → Nat → Bool} {o o' : Option Nat} {y : Nat} (ho : ∀ x', o = some x' → x' < w) (hU : ∀ x, x < w → U x y = og f (some x) o') : og U o (some y) = og f o o' := by
  cases o with
  | none => rfl
  | some x => exact hU x (ho x rfl)
theorem look_c {g : GrS} {w h : Nat} {rd : Bool} (hW : WH w h) (hG : GOK g w h rd) {hs : Int64} (hc : InC w h hs) {x y : Nat} (hx : x < w) (hy : y < h) : vq (f_X0_lookAround g hs) (8 * y + x) = cnt8 (BC hs) w h rd x y := by
  have U := up_ok hW hG hc
  have D := down_ok hW hG hc
  have L := left_ok hW hG hc
  have R := right_ok hW hG hc
  have LU := left_ok hW hG U.1
  have RU := right_ok hW hG U.1
  have LD := left_ok hW hG D.1
  have RD := right_ok hW hG D.1
  have hn : ∀ x', nxt w rd x = some x' → x' < w := fun x' e => nxt_lt hW.1 e
  have hp : ∀ x', prv w rd x = some x' → x' < w := fun x' e => prv_lt hW.1 hx e
  rw [look_v]
  have a1 : cb (f_X3_left g (f_X3_up g hs)) (8 * y + x) = og (BC hs) (nxt w rd x) (nxt h rd y) := (LU.2 x y hx hy).trans (og_og hn (fun x' h' => U.2 x' y h' hy))
  have a2 : cb (f_X3_up g hs) (8 * y + x) = og (BC hs) (some x) (nxt h rd y) := U.2 x y hx hy
  have a3 : cb (f_X3_right g (f_X3_up g hs)) (8 * y + x) = og (BC hs) (prv w rd x) (nxt h rd y) := (RU.2 x y hx hy).trans (og_og hp (fun x' h' => U.2 x' y h' hy))
  have a4 : cb (f_X3_left g hs) (8 * y + x) = og (BC hs) (nxt w rd x) (some y) := L.2 x y hx hy
  have a5 : cb (f_X3_right g hs) (8 * y + x) = og (BC hs) (prv w rd x) (some y) := R.2 x y hx hy
  have a6 : cb (f_X3_left g (f_X3_down g hs)) (8 * y + x) = og (BC hs) (nxt w rd x) (prv h rd y) := (LD.2 x y hx hy).trans (og_og hn (fun x' h' => D.2 x' y h' hy))
  have a7 : cb (f_X3_down g hs) (8 * y + x) = og (BC hs) (some x) (prv h rd y) := D.2 x y hx hy
  have a8 : cb (f_X3_right g (f_X3_down g hs)) (8 * y + x) = og (BC hs) (prv w rd x) (prv h rd y) := (RD.2 x y hx hy).trans (og_og hp (fun x' h' => D.2 x' y h' hy))
  rw [a1, a2, a3, a4, a5, a6, a7, a8]
  rfl
/-- what the class says of births and of those that stay -/
theorem born_ok {g : GrS} {w h : Nat} {rd : Bool} (hG : GOK g w h rd) (r : RuS) (hs : Int64) : ∃ c, f_X4_born r g hs = some c ∧ ∀ i, i < 64 → cb c i = ((decide (i % 8 < w ∧ i / 8 < h) && !cb hs i) && rb r.1 (vq (f_X0_lookAround g hs) i)) := by
  obtain ⟨c, h1, h2⟩ := cwo_ok r g hs r.1
  refine ⟨f_X3_open g hs &&& c, ?_, fun i hi => ?_⟩
  · unfold f_X4_born; rw [h1]; rfl
  · unfold f_X3_open
    rw [cb_and, cb_and, cb_not hi, h2 i hi, (hG.2.2.2 i hi).1]
theorem stay_ok (g : GrS) (r : RuS) (hs : Int64) : ∃ c, f_X4_staying r g hs = some c ∧ ∀ i, i < 64 → cb c i = (cb hs i && rb r.2 (vq (f_X0_lookAround g hs) i)) := by
  obtain ⟨c, h1, h2⟩ := cwo_ok r g hs r.2
  refine ⟨hs &&& c, ?_, fun i hi => ?_⟩
  · unfold f_X4_staying; rw [h1]; rfl
  · rw [cb_and, h2 i hi]
