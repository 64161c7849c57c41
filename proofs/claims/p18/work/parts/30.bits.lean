/-! ===== bits of a long ===== -/
def cb (x : Int64) (i : Nat) : Bool := x.toBitVec.getLsbD i
theorem cb_ext {x y : Int64} (h : ∀ i, i < 64 → cb x i = cb y i) : x = y := Int64.toBitVec_inj.mp (BitVec.eq_of_getLsbD_eq (fun i hi => h i hi))
theorem cb_big {x : Int64} {i : Nat} (h : 64 ≤ i) : cb x i = false := BitVec.getLsbD_of_ge _ _ h
theorem cb_lt {x : Int64} {i : Nat} (h : cb x i = true) : i < 64 := by
  rcases Nat.lt_or_ge i 64 with q | q
  · exact q
  · rw [cb_big q] at h; exact nomatch h
theorem cb_and (x y : Int64) (i : Nat) : cb (x &&& y) i = (cb x i && cb y i) := by unfold cb; rw [Int64.toBitVec_and, BitVec.getLsbD_and]
theorem cb_or (x y : Int64) (i : Nat) : cb (x ||| y) i = (cb x i || cb y i) := by unfold cb; rw [Int64.toBitVec_or, BitVec.getLsbD_or]
theorem cb_xor (x y : Int64) (i : Nat) : cb (x ^^^ y) i = (cb x i ^^ cb y i) := by unfold cb; rw [Int64.toBitVec_xor, BitVec.getLsbD_xor]
theorem cb_m1 : ∀ i, i < 64 → cb (-1) i = true := by decide +kernel
theorem cb_not {x : Int64} {i : Nat} (h : i < 64) : cb (x ^^^ (-1)) i = !cb x i := by rw [cb_xor, cb_m1 i h]; cases cb x i <;> rfl
theorem cb_0 (i : Nat) : cb 0 i = false := by
  rcases Nat.lt_or_ge i 64 with h | h
  · exact (by decide +kernel : ∀ i, i < 64 → cb 0 i = false) i h
  · exact cb_big h
theorem cb_1 (i : Nat) : cb 1 i = decide (i = 0) := by
  rcases Nat.lt_or_ge i 64 with h | h
  · exact (by decide +kernel : ∀ i, i < 64 → cb 1 i = decide (i = 0)) i h
  · rw [cb_big h, decide_eq_false (by omega)]
theorem sl64 : ∀ k, k < 64 → (((nI k).toInt64 &&& 63).toBitVec.smod 64).toNat = k := by decide +kernel
theorem su64 : ∀ k, k < 64 → (((nI k).toInt64.toUInt64 &&& Int64.toUInt64 63).toBitVec % 64).toNat = k := by decide +kernel
theorem cb_shl {k i : Nat} (x : Int64) (hk : k < 64) (hi : i < 64) : cb (jshl x (nI k)) i = (decide (k ≤ i) && cb x (i - k)) := by
  unfold cb jshl
  rw [Int64.toBitVec_shiftLeft]
  show (x.toBitVec <<< (((nI k).toInt64 &&& 63).toBitVec.smod 64).toNat).getLsbD i = _
  rw [sl64 k hk, BitVec.getLsbD_shiftLeft]
  rcases Nat.lt_or_ge i k with h | h
  · simp [h, Nat.not_le.mpr h]
  · simp [hi, h, Nat.not_lt.mpr h]
theorem cb_ushr {k : Nat} (x : Int64) (hk : k < 64) (i : Nat) : cb (jushr x (nI k)) i = cb x (k + i) := by
  show (x.toUInt64 >>> ((nI k).toInt64.toUInt64 &&& Int64.toUInt64 63)).toBitVec.getLsbD i = x.toUInt64.toBitVec.getLsbD (k + i)
  rw [UInt64.toBitVec_shiftRight]
  show (x.toUInt64.toBitVec >>> (((nI k).toInt64.toUInt64 &&& Int64.toUInt64 63).toBitVec % 64).toNat).getLsbD i = _
  rw [su64 k hk, BitVec.getLsbD_ushiftRight]
theorem cb_shr0 {k : Nat} (x : Int64) (hk : k < 64) : cb (jshr x (nI k)) 0 = cb x k := by
  unfold cb jshr
  rw [Int64.toBitVec_shiftRight]
  show (x.toBitVec.sshiftRight (((nI k).toInt64 &&& 63).toBitVec.smod 64).toNat).getLsbD 0 = _
  rw [sl64 k hk, BitVec.getLsbD_sshiftRight]
  simp [hk]
theorem cb_z {x : Int64} : x = 0 ↔ ∀ i, i < 64 → cb x i = false :=
  ⟨fun h i _ => by rw [h]; exact cb_0 i, fun h => cb_ext (fun i hi => by rw [h i hi, cb_0])⟩
theorem cb_nz {x : Int64} : ¬ x = 0 ↔ ∃ i, i < 64 ∧ cb x i = true := by
  rw [cb_z]
  constructor
  · intro h
    apply Classical.byContradiction
    intro q
    refine h (fun i hi => ?_)
    cases hc : cb x i with
    | false => rfl
    | true => exact absurd ⟨i, hi, hc⟩ q
  · rintro ⟨i, hi, hc⟩ h
    rw [h i hi] at hc
    exact nomatch hc
theorem and1_0 {z : Int64} : (z &&& 1) = 0 ↔ cb z 0 = false := by
  rw [cb_z]
  constructor
  · intro h
    have h0 := h 0 (by decide)
    rw [cb_and, cb_1] at h0
    simpa using h0
  · intro h i _
    rw [cb_and, cb_1]
    by_cases e : i = 0
    · subst e; rw [h]; rfl
    · rw [decide_eq_false e]; simp
theorem and1_1 {z : Int64} : (z &&& 1) = 1 ↔ cb z 0 = true := by
  constructor
  · intro h
    have h0 : cb (z &&& 1) 0 = cb 1 0 := by rw [h]
    rw [cb_and, cb_1] at h0
    simpa using h0
  · intro h
    refine cb_ext (fun i _ => ?_)
    rw [cb_and, cb_1]
    by_cases e : i = 0
    · subst e; rw [h]; rfl
    · rw [decide_eq_false e]; simp
theorem tu_0 {x : Int64} {k : Nat} (hk : k < 64) : (jushr x (nI k) &&& 1) = 0 ↔ cb x k = false := by rw [and1_0, cb_ushr x hk]; rfl
theorem ts_1 {x : Int64} {k : Nat} (hk : k < 64) : (jshr x (nI k) &&& 1) = 1 ↔ cb x k = true := by rw [and1_1, cb_shr0 x hk]
/-- the bit k alone -/
def ob (k : Nat) : Int64 := jshl 1 (nI k)
theorem cb_ob {k i : Nat} (hk : k < 64) (hi : i < 64) : cb (ob k) i = decide (i = k) := by
  unfold ob
  rw [cb_shl 1 hk hi, cb_1]
  by_cases h : i = k
  · subst h; simp
  · rw [decide_eq_false h]
    by_cases q : k ≤ i
    · have : ¬ i - k = 0 := by omega
      rw [decide_eq_false this]; simp
    · rw [decide_eq_false q]; simp
theorem and_ob {x : Int64} {k : Nat} (hk : k < 64) : (x &&& ob k) = 0 ↔ cb x k = false := by
  rw [cb_z]
  constructor
  · intro h
    have h0 := h k hk
    rw [cb_and, cb_ob hk hk] at h0
    simpa using h0
  · intro h i hi
    rw [cb_and, cb_ob hk hi]
    by_cases e : i = k
    · subst e; rw [h]; rfl
    · rw [decide_eq_false e]; simp
/-! Int32 and small numbers -/
theorem l_le {a b : Nat} (ha : a < 2 ^ 31) (hb : b < 2 ^ 31) : (nI a ≤ nI b) = (a ≤ b) := propext (nI_leI ha hb)
theorem l_lt {a b : Nat} (ha : a < 2 ^ 31) (hb : b < 2 ^ 31) : (nI a < nI b) = (a < b) := propext (nI_ltI ha hb)
theorem l_eq {a b : Nat} (ha : a < 2 ^ 31) (hb : b < 2 ^ 31) : (nI a = nI b) = (a = b) := propext (nI_eq ha hb)
theorem l_out {i N : Nat} (hi : i < N) (hN : N < 2 ^ 31) : ¬ (nI i < 0 ∨ N ≤ (nI i).toNatClampNeg) := vp_in_nI hi hN
theorem l_cell (x y : Nat) : f_X3_cell (nI x) (nI y) = ob (8 * y + x) := by
  unfold f_X3_cell ob
  have : (8 : Int32) * nI y + nI x = nI (8 * y + x) := by
    show nI 8 * nI y + nI x = _
    rw [pk_mul, nI_add]
  rw [this]
