theorem same_if {p : Prop} [Decidable p] {R : Unit} (h : (if p then some () else none) = some R) : p ∧ some () = some R := by
  by_cases hp : p
  · rw [if_pos hp] at h; exact ⟨hp, h⟩
  · rw [if_neg hp] at h; cases h
theorem al_eq {r v : UInt64} (h : alike64 r v = true) (hn : isNaN64 v = false) : r = v := by
  unfold alike64 at h
  simp only [Bool.or_eq_true, decide_eq_true_eq, Bool.and_eq_true] at h
  rcases h with h | ⟨-, h⟩
  · exact h
  · rw [hn] at h; cases h
theorem cmp_self {v : UInt64} (hn : isNaN64 v = false) : Op.cmpValue (FP.dcmp v v) CmpOp.l = 0 := by
  have hv : FP.Core.val64 v ≠ .nan := fun h => by
    have h1 := (FP.Core.isNaN_bits v).mp ((FP.Core.dIsNaN_iff v).mpr h)
    have h2 : isNaN64 v = true := isNaN64_iff.mpr (by rw [show (9223372036854775807 : Nat) = 2 ^ 63 - 1 from rfl, Nat.and_two_pow_sub_one_eq_mod]; exact h1)
    rw [hn] at h2; cases h2
  rw [show FP.dcmp v v = some .eq from FP.Core.dcmp_self hv]
  decide
