/-! ===== the lowest bit ===== -/
def bt (x : Int32) (i : Nat) : Bool := x.toBitVec.getLsbD i
theorem b_ext {x y : Int32} (h : ∀ i, i < 32 → bt x i = bt y i) : x = y := Int32.toBitVec_inj.mp (BitVec.eq_of_getLsbD_eq (fun i hi => h i hi))
theorem b_and (x y : Int32) (i : Nat) : bt (x &&& y) i = (bt x i && bt y i) := by unfold bt; rw [Int32.toBitVec_and, BitVec.getLsbD_and]
theorem b_xor (x y : Int32) (i : Nat) : bt (x ^^^ y) i = (bt x i ^^ bt y i) := by unfold bt; rw [Int32.toBitVec_xor, BitVec.getLsbD_xor]
theorem b_m1 : ∀ i, i < 32 → bt (-1) i = true := by decide +kernel
theorem b_0 : ∀ i, i < 32 → bt 0 i = false := by decide +kernel
def lowB (p : Nat → Bool) (t : Nat) : Prop := p t = true ∧ ∀ j, j < t → p j = false
theorem lowB_ex {x : Int64} (h : ¬ x = 0) : ∃ t, t < 64 ∧ lowB (cb x) t := by
  obtain ⟨i, hi, hc⟩ := cb_nz.mp h
  obtain ⟨t, h1, h2⟩ := pk_least (fun t => cb x t = true) ⟨i, hc⟩
  refine ⟨t, cb_lt h1, h1, fun j hj => ?_⟩
  cases q : cb x j with
  | false => rfl
  | true => exact absurd q (h2 j hj)
theorem cb_neg (x : Int64) {i : Nat} (hi : i < 64) : cb (-x) i = (cb x i ^^ decide (∃ j, j < i ∧ cb x j = true)) := by
  unfold cb
  rw [Int64.toBitVec_neg, BitVec.getLsbD_neg, decide_eq_true hi, Bool.true_and]
theorem low_and {x : Int64} {t : Nat} (ht : t < 64) (h : lowB (cb x) t) : x &&& (-x) = ob t := by
  refine cb_ext (fun i hi => ?_)
  rw [cb_and, cb_neg x hi, cb_ob ht hi]
  rcases Nat.lt_trichotomy i t with q | q | q
  · rw [h.2 i q, decide_eq_false (show ¬ i = t by omega)]; rfl
  · subst q
    have : ¬ ∃ j, j < i ∧ cb x j = true := by
      rintro ⟨j, hj, hc⟩
      rw [h.2 j hj] at hc
      exact nomatch hc
    rw [h.1, decide_eq_false this, decide_eq_true rfl]; rfl
  · rw [decide_eq_true (show ∃ j, j < i ∧ cb x j = true from ⟨t, q, h.1⟩), decide_eq_false (show ¬ i = t by omega)]
    cases cb x i <;> rfl
theorem bt_dec (x : Int32) {i : Nat} (hi : i < 32) : bt (x - 1) i = !(bt x i ^^ decide (∃ j, j < i ∧ bt x j = true)) := by
  unfold bt
  rw [Int32.toBitVec_sub]
  show (x.toBitVec - 1#32).getLsbD i = _
  rw [← BitVec.not_neg, BitVec.getLsbD_not, BitVec.getLsbD_neg, decide_eq_true hi, Bool.true_and, Bool.true_and]
theorem msk_b : ∀ t, t < 32 → ∀ i, i < 32 → bt (nI (2 ^ t - 1)) i = decide (i < t) := by decide +kernel
theorem low32 {x : Int32} {t : Nat} (ht : t < 32) (h : lowB (bt x) t) : (x ^^^ (-1)) &&& (x - 1) = nI (2 ^ t - 1) := by
  refine b_ext (fun i hi => ?_)
  rw [b_and, b_xor, b_m1 i hi, bt_dec x hi, msk_b t ht i hi]
  rcases Nat.lt_trichotomy i t with q | q | q
  · have : ¬ ∃ j, j < i ∧ bt x j = true := by
      rintro ⟨j, hj, hc⟩
      rw [h.2 j (by omega)] at hc
      exact nomatch hc
    rw [h.2 i q, decide_eq_false this, decide_eq_true q]; rfl
  · subst q
    rw [h.1, decide_eq_false (Nat.lt_irrefl i)]; rfl
  · rw [decide_eq_true (show ∃ j, j < i ∧ bt x j = true from ⟨t, q, h.1⟩), decide_eq_false (show ¬ i < t by omega)]
    cases bt x i <;> rfl
def g32 (i : Int32) : Int32 := if 0 < i then (bindv (if i ≤ 65536 then ((i, 1)) else (((jiushr i 16), (1 + 16))) : Int32 × Int32) fun v1 => bindv (if v1.1 ≤ 256 then ((v1.1, v1.2)) else (((jiushr v1.1 8), (v1.2 + 8))) : Int32 × Int32) fun v2 => bindv (if v2.1 ≤ 16 then ((v2.1, v2.2)) else (((jiushr v2.1 4), (v2.2 + 4))) : Int32 × Int32) fun v3 => bindv (if v3.1 ≤ 4 then ((v3.1, v3.2)) else (((jiushr v3.1 2), (v3.2 + 2))) : Int32 × Int32) fun v4 => (v4.2 + (jiushr v4.1 1))) else (i &&& 32)
theorem g32_f (x : Int32) : f_J6_numberOfTrailingZeros_0f7a4 x = g32 ((x ^^^ (-1)) &&& (x - 1)) := rfl
theorem g32_ok : ∀ t, t < 32 → g32 (nI (2 ^ t - 1)) = nI t := by decide +kernel
theorem ntz32 {x : Int32} {t : Nat} (ht : t < 32) (h : lowB (bt x) t) : f_J6_numberOfTrailingZeros_0f7a4 x = nI t := by rw [g32_f, low32 ht h, g32_ok t ht]
theorem bt_l2i (x : Int64) {i : Nat} (hi : i < 32) : bt (Int64.toInt32 x) i = cb x i := by
  unfold bt cb
  rw [Int64.toBitVec_toInt32, BitVec.getLsbD_signExtend]
  simp [hi, show i < 64 by omega]
theorem ntz_low {x : Int64} {t : Nat} (ht : t < 64) (h : lowB (cb x) t) : f_J13_numberOfTrailingZeros_95d88 x = nI t := by
  unfold f_J13_numberOfTrailingZeros_95d88
  rcases Nat.lt_or_ge t 32 with q | q
  · have hl : lowB (bt (Int64.toInt32 x)) t := ⟨by rw [bt_l2i x q]; exact h.1, fun j hj => by rw [bt_l2i x (by omega)]; exact h.2 j hj⟩
    have hne : ¬ Int64.toInt32 x = 0 := fun e => by
      have h1 := hl.1
      rw [e, b_0 t q] at h1
      exact nomatch h1
    rw [if_neg hne, ntz32 q hl]
  · have hz : Int64.toInt32 x = 0 := b_ext (fun i hi => by rw [bt_l2i x hi, b_0 i hi]; exact h.2 i (by omega))
    have hl : lowB (bt (Int64.toInt32 (jushr x 32))) (t - 32) := by
      have hb : ∀ i, i < 32 → bt (Int64.toInt32 (jushr x 32)) i = cb x (32 + i) := fun i hi => by
        rw [bt_l2i _ hi]
        exact cb_ushr (k := 32) x (by decide) i
      refine ⟨?_, fun j hj => ?_⟩
      · rw [hb _ (by omega), show 32 + (t - 32) = t by omega]; exact h.1
      · rw [hb _ (by omega)]; exact h.2 _ (by omega)
    rw [if_pos hz, ntz32 (by omega) hl]
    show nI 32 + nI (t - 32) = nI t
    rw [nI_add, show 32 + (t - 32) = t by omega]
