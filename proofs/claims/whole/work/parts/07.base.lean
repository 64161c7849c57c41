/-! what the laid functions and walks are made of -/
abbrev GrS : Type := Int32 × Int32 × Bool × Int64 × Int64 × Int64 × Int64 × Int64
abbrev CrS : Type := Int64 × Int64 × Int64 × Int64
abbrev RuS : Type := Int32 × Int32
abbrev GaS : Type := Int64 × Int32 × Int32 × Int32
abbrev StS : Type := Int32 × Int32 × Int32 × Int64
abbrev MoS : Type := Int32 × Int32 × Int32 × Bool × Int32 × Int32
def bindv {α β : Type} (x : α) (f : α → β) : β := f x
def osum {α ρ : Type} (x : Option (α ⊕ ρ)) (f : α → Option ρ) : Option ρ := match x with
  | none => none
  | some (.inl a) => f a
  | some (.inr r) => some r
theorem vbind {α β : Type} {x : α} {f : α → β} {R : β} (h : bindv x f = R) : ∃ v, x = v ∧ f v = R := ⟨x, rfl, h⟩
theorem obind {α β : Type} {x : Option α} {f : α → Option β} {R : β} (h : Option.bind x f = some R) : ∃ v, x = some v ∧ f v = some R := by
  cases x with
  | none => exact nomatch h
  | some v => exact ⟨v, rfl, h⟩
theorem osum_e {α ρ : Type} {x : Option (α ⊕ ρ)} {f : α → Option ρ} {R : ρ} (h : osum x f = some R) : ∃ v, x = some v ∧ (∀ a, v = .inl a → f a = some R) ∧ ∀ r, v = .inr r → r = R := by
  cases x with
  | none => exact nomatch h
  | some v =>
    refine ⟨v, rfl, fun a ha => ?_, fun r hr => ?_⟩
    · subst ha; exact h
    · subst hr; exact Option.some.inj h
def jshl (x : Int64) (y : Int32) : Int64 := x <<< (y.toInt64 &&& 63)
def jshr (x : Int64) (y : Int32) : Int64 := x >>> (y.toInt64 &&& 63)
def jushr (x : Int64) (y : Int32) : Int64 := (x.toUInt64 >>> (y.toInt64.toUInt64 &&& Int64.toUInt64 63)).toInt64
theorem lgz {x y : Int64} : lg_cmp x y = 0 ↔ x = y := by
  unfold lg_cmp
  by_cases h1 : x > y
  · rw [if_pos h1]
    exact ⟨fun h => absurd h (by decide), fun h => absurd (h ▸ h1) (by simp)⟩
  · rw [if_neg h1]
    by_cases h2 : x = y
    · rw [if_pos h2]; exact ⟨fun _ => h2, fun _ => rfl⟩
    · rw [if_neg h2]; exact ⟨fun h => absurd h (by decide), fun h => absurd h h2⟩
theorem topi_e {p : Program} {l : Launch} {e : Env} {R : Room} {s : State} {m : MethodId} {args : Array Value} {below : List Frame} {meth : Method} {c : Code} {H : Heap} {locs : List Loc} {cells slots : Nat} {Q : State → Prop} {pc : Nat} {ls : Array Slot} {rest : List Value} {x y : Int32} (h : x = y) (k : W p l e R s m args below meth c H locs cells slots Q (F0 m pc ls (.int y :: rest))) : W p l e R s m args below meth c H locs cells slots Q (F0 m pc ls (.int x :: rest)) := by rw [h]; exact k
theorem topl_e {p : Program} {l : Launch} {e : Env} {R : Room} {s : State} {m : MethodId} {args : Array Value} {below : List Frame} {meth : Method} {c : Code} {H : Heap} {locs : List Loc} {cells slots : Nat} {Q : State → Prop} {pc : Nat} {ls : Array Slot} {rest : List Value} {x y : Int64} (h : x = y) (k : W p l e R s m args below meth c H locs cells slots Q (F0 m pc ls (.long y :: rest))) : W p l e R s m args below meth c H locs cells slots Q (F0 m pc ls (.long x :: rest)) := by rw [h]; exact k
/-- the nest's words: the fields of a State seen from the model -/
def nwM (U : State) : Prop := va_Nw (.fieldLinkNest RX7 78 RX6 "hedges" "J" RX7) U ∧ va_Nw (.fieldLinkNest RX7 86 RX6 "ages" "[I" RX7) U ∧ va_Nw (.fieldLinkNest RX7 94 RX6 "born" "I" RX7) U ∧ va_Nw (.fieldLinkNest RX7 99 RX6 "dead" "I" RX7) U ∧ va_Nw (.fieldLinkNest RX7 102 RX6 "year" "I" RX7) U
theorem nwM.same {u U : State} (h : u.vm = U.vm) (k : nwM u) : nwM U := ⟨va_Nw.same rfl h k.1, va_Nw.same rfl h k.2.1, va_Nw.same rfl h k.2.2.1, va_Nw.same rfl h k.2.2.2.1, va_Nw.same rfl h k.2.2.2.2⟩
theorem nwM.moved {u U : State} (h : u.WarmedH U.vm) (k : nwM u) : nwM U := ⟨va_Nw.warmF h k.1, va_Nw.warmF h k.2.1, va_Nw.warmF h k.2.2.1, va_Nw.warmF h k.2.2.2.1, va_Nw.warmF h k.2.2.2.2⟩
/-- a flag as it lies in a field -/
def bI (b : Bool) : Int32 := if b then 1 else 0
theorem bI_nar (b : Bool) : narrow .boolean (.int (bI b)) = .int (bI b) := by cases b <;> rfl
theorem bI_fit (b : Bool) : fits .boolean (.int (bI b)) = true := by cases b <;> rfl
/-- the model's table of figures -/
def figT : Nat → Int32 := fun j => match j with
  | 0 => 482
  | 1 => 56
  | 2 => 27
  | _ => 186
def fgM (A : Nat → Prop) (U : State) : Prop := ∃ t : Nat, va_Z RX7 "FIGURES" "[I" (.ref t) A U U.heap ∧ va_T .int t 4 (fun j => .int (figT j)) A U U.heap
theorem fgM_same {A : Nat → Prop} {u U : State} (hv : u.vm = U.vm) (hh : u.heap = U.heap) (h : fgM A u) : fgM A U := by
  obtain ⟨t, h1, h2⟩ := h
  have ha : u.vm.Alike U.vm := by rw [hv]; exact Vm.Alike.refl _
  exact ⟨t, by rw [← hh]; exact va_Z.moved ha h1, by rw [← hh]; exact va_T.moved ha h2⟩
theorem fgM_call {A B : Nat → Prop} {s U : State} {H : Heap} {locs : List Loc} (h : fgM A s) (hS : va_S A s.heap H locs) (hAB : ∀ q, B q → A q) (hU : U.heap = H) (hW : s.WarmedH U.vm) : fgM B U := by
  obtain ⟨t, h1, h2⟩ := h
  exact ⟨t, by rw [hU]; exact ((h1.kept hS.2.1).narrow hAB).moved hW.alike, by rw [hU]; exact ((h2.kept hS.2.1).narrow hAB).moved hW.alike⟩
