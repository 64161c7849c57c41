/-! ===== the lowest bit ===== -/
def bt (x : Int32) (i : Nat) : Bool := x.toBitVec.getLsbD i
theorem b_ext {x y : Int32} (h : ∀ i, i < 32 → bt x i = bt y i) : x = y := Int32.toBitVec_inj.mp (BitVec.eq_of_getLsbD_eq (fun i hi => h i hi))
theorem b_and (x y : Int32) (i : Nat) : bt (x &&& y) i = (bt x i && bt y i) := by unfold bt; rw [Int32.toBitVec_and, BitVec.getLsbD_and]
theorem b_xor (x y : Int32) (i : Nat) : bt (x ^^^ y) i = (bt x i ^^ bt y i) := by unfold bt; rw [Int32.toBitVec_xor, BitVec.getLsbD_xor]
theorem b_m1 : ∀ i, i < 32 → bt (-1) i = true := by decide +kernel
theorem b_0 : ∀ i, i < 32 → bt 0 i = false := by decide +kernel
def lowB (p : Nat → Bool) (t : Nat) : Prop := p t = true ∧ ∀ j, j < t → p j = false
theorem lowB_ex {x : Int64} (h : ¬ x = 0) : ∃ t, t < 64 ∧ lowB (cb x) t := by
  obtain ⟨i, hi, hc⟩ := cb_nz.mp h
  obtain ⟨t, h1, h2⟩ := pk_least (fun t => cb x t = true) ⟨i, hc⟩
  refine ⟨t, cb_lt h1, h1, fun j hj => ?_⟩
  cases q : cb x j with
  | false => rfl
  | true => exact absurd q (h2 j hj)
theorem cb_neg (x : Int64) {i : Nat} (hi : i < 64) : cb (-x) i = (cb x i ^^ decide (∃ j, j < i ∧ cb x j = true)) := by
  unfold cb
  rw [Int64.toBitVec_neg, BitVec.getLsbD_neg, decide_eq_true hi, Bool.true_and]
theorem low_and {x : Int64} {t : Nat} (ht : t < 64) (h : lowB (cb x) t) : x &&& (-x) = ob t := by
  refine cb_ext (fun i hi => ?_)
  rw [cb_and, cb_neg x hi, cb_ob ht hi]
  rcases Nat.lt_trichotomy i t with q | q | q
  · rw [h.2 i q, decide_eq_false (show ¬ i = t by omega)]; rfl
  · subst q
    have : ¬ ∃ j, j < i ∧ cb x j = true := by
      rintro ⟨j, hj, hc⟩
      rw [h.2 j hj] at hc
      exact nomatch hc
    rw [h.1, decide_eq_false this, decide_eq_true rfl]; rfl
  · rw [decide_eq_true (show ∃ j, j < i ∧ cb x j = true from ⟨t, q, h.1⟩), decide_eq_false (show ¬ i = t by omega)]
    cases cb x i <;> rfl
theorem bt_dec (x : Int32) {i : Nat} (hi : i < 32) : bt (x - 1) i = !(bt x i ^^ decide (∃ j, j < i ∧ bt x j = true)) := by
  unfold bt
  rw [Int32.toBitVec_sub]
  show (x.toBitVec - 1#32).getLsbD i = _
  rw [← BitVec.not_neg, BitVec.getLsbD_not, BitVec.getLsbD_neg, decide_eq_true hi, Bool.true_and, Bool.true_and]
theorem msk_b : ∀ t, t < 32 → ∀ i, i < 32 → bt (nI (2 ^ t - 1)) i = decide (i < t) := by decide +kernel
theorem low32 {x : Int32} {t : Nat} (ht : t < 32) (h : lowB (bt x) t) : (x ^^^ (-1)) &&& (x - 1) = nI (2 ^ t - 1) := by
  refine b_ext (fun i hi => ?_)
  rw [b_and, b_xor, b_m1 i hi, bt_dec x hi, msk_b t ht i hi]
  rcases Nat.lt_trichotomy i t with q | q | q
  · have : ¬ ∃ j, j < i ∧ bt x j = true := by
      rintro ⟨j, hj, hc⟩
      rw [h.2 j (by omega)] at hc
      exact nomatch hc
    rw [h.2 i q, decide_eq_false this, decide_eq_true q]; rfl
  · subst q
    rw [h.1, decide_eq_false (Nat.lt_irrefl i)]; rfl
  · rw [decide_eq_true (show ∃ j, j < i ∧ bt x j = true from ⟨t, q, h.1⟩), decide_eq_false (show ¬ i < t by omega)]
    cases bt x i <;> rfl
