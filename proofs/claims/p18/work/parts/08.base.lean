/-! what the laid functions and walks are made of -/
abbrev GrS : Type := Int32 × Int32 × Bool × Int64 × Int64 × Int64 × Int64 × Int64
abbrev CrS : Type := Int64 × Int64 × Int64 × Int64
abbrev RuS : Type := Int32 × Int32
abbrev GaS : Type := Int64 × Int32 × Int32 × Int32
def bindv {α β : Type} (x : α) (f : α → β) : β := f x
def osum {α ρ : Type} (x : Option (α ⊕ ρ)) (f : α → Option ρ) : Option ρ := match x with
  | none => none
  | some (.inl a) => f a
  | some (.inr r) => some r
theorem vbind {α β : Type} {x : α} {f : α → β} {R : β} (h : bindv x f = R) : ∃ v, x = v ∧ f v = R := ⟨x, rfl, h⟩
theorem obind {α β : Type} {x : Option α} {f : α → Option β} {R : β} (h : Option.bind x f = some R) : ∃ v, x = some v ∧ f v = some R := by
  cases x with
  | none => exact nomatch h
  | some v => exact ⟨v, rfl, h⟩
theorem osum_e {α ρ : Type} {x : Option (α ⊕ ρ)} {f : α → Option ρ} {R : ρ} (h : osum x f = some R) : ∃ v, x = some v ∧ (∀ a, v = .inl a → f a = some R) ∧ ∀ r, v = .inr r → r = R := by
  cases x with
  | none => exact nomatch h
  | some v =>
    refine ⟨v, rfl, fun a ha => ?_, fun r hr => ?_⟩
    · subst ha; exact h
    · subst hr; exact Option.some.inj h
def jshl (x : Int64) (y : Int32) : Int64 := x <<< (y.toInt64 &&& 63)
def jshr (x : Int64) (y : Int32) : Int64 := x >>> (y.toInt64 &&& 63)
def jushr (x : Int64) (y : Int32) : Int64 := (x.toUInt64 >>> (y.toInt64.toUInt64 &&& Int64.toUInt64 63)).toInt64
theorem lgz {x y : Int64} : lg_cmp x y = 0 ↔ x = y := by
  unfold lg_cmp
  by_cases h1 : x > y
  · rw [if_pos h1]
    exact ⟨fun h => absurd h (by decide), fun h => absurd (h ▸ h1) (by simp)⟩
  · rw [if_neg h1]
    by_cases h2 : x = y
    · rw [if_pos h2]; exact ⟨fun _ => h2, fun _ => rfl⟩
    · rw [if_neg h2]; exact ⟨fun h => absurd h (by decide), fun h => absurd h h2⟩
theorem topi_e {p : Program} {l : Launch} {e : Env} {R : Room} {s : State} {m : MethodId} {args : Array Value} {below : List Frame} {meth : Method} {c : Code} {H : Heap} {locs : List Loc} {cells slots : Nat} {Q : State → Prop} {pc : Nat} {ls : Array Slot} {rest : List Value} {x y : Int32} (h : x = y) (k : W p l e R s m args below meth c H locs cells slots Q (F0 m pc ls (.int y :: rest))) : W p l e R s m args below meth c H locs cells slots Q (F0 m pc ls (.int x :: rest)) := by rw [h]; exact k
theorem topl_e {p : Program} {l : Launch} {e : Env} {R : Room} {s : State} {m : MethodId} {args : Array Value} {below : List Frame} {meth : Method} {c : Code} {H : Heap} {locs : List Loc} {cells slots : Nat} {Q : State → Prop} {pc : Nat} {ls : Array Slot} {rest : List Value} {x y : Int64} (h : x = y) (k : W p l e R s m args below meth c H locs cells slots Q (F0 m pc ls (.long y :: rest))) : W p l e R s m args below meth c H locs cells slots Q (F0 m pc ls (.long x :: rest)) := by rw [h]; exact k
/-- a flag as it lies in a field -/
def bI (b : Bool) : Int32 := if b then 1 else 0
theorem bI_nar (b : Bool) : narrow .boolean (.int (bI b)) = .int (bI b) := by cases b <;> rfl
theorem bI_fit (b : Bool) : fits .boolean (.int (bI b)) = true := by cases b <;> rfl
