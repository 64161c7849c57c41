/-! what a throw needs of the start, and what it keeps -/
def exTx : List (Nat × String) := [(51, "a side is 3 to 8"), (71, "births and stays are 0 to 511"), (96, "no such cell"), (113, "no such figure, turns or cell"), (131, "the figure is beyond the edge"), (141, "years are 1 to 50"), (147, "no such cell, or nothing of this number is told"), (153, "nothing of this number is counted"), (166, "what is 0 or 1"), (184, "nothing of this number is foreseen"), (190, "years are 1 or 2")]
def exDc (U : State) : Prop := va_Nw (.declares (Bundle.initS "java/lang/RuntimeException")) U ∧ va_Nw (.declares (Bundle.initS "java/lang/Exception")) U ∧ va_Nw (.declares (Bundle.initS Bundle.tN)) U
theorem nw_dc {x : MethodName} {s U : State} (hW : s.WarmedH U.vm) (h : va_Nw (.declares x) s) : va_Nw (.declares x) U := va_tabs rfl (rfl : (s.setVm U.vm).vm = U.vm) (by rw [Cond.declares_setVm hW.alike]; exact h)
def exE (A : Nat → Prop) (U : State) : Prop := vx_Zq Bundle.tN "UNASSIGNED_STACK" Bundle.steD A U U.heap ∧ vx_Zq Bundle.tN "SUPPRESSED_SENTINEL" Bundle.listD A U U.heap ∧ va_Nw (.castable "java/lang/IllegalArgumentException" "java/lang/IllegalArgumentException") U ∧ va_Nw (.castable "java/lang/IndexOutOfBoundsException" "java/lang/IndexOutOfBoundsException") U ∧ va_Nw (.castable "java/lang/IllegalStateException" "java/lang/IllegalStateException") U ∧ exDc U ∧ ∀ q ∈ exTx, ∃ a : Nat, vk_R RX5 q.1 q.2 a U
theorem exE_same {A : Nat → Prop} {u U : State} (hv : u.vm = U.vm) (hh : u.heap = U.heap) (h : exE A u) : exE A U := by
  have ha : u.vm.Alike U.vm := by rw [hv]; exact Vm.Alike.refl _
  exact ⟨by rw [← hh]; exact h.1.moved ha, by rw [← hh]; exact h.2.1.moved ha, va_Nw.same rfl hv h.2.2.1, va_Nw.same rfl hv h.2.2.2.1, va_Nw.same rfl hv h.2.2.2.2.1, ⟨va_Nw.same rfl hv h.2.2.2.2.2.1.1, va_Nw.same rfl hv h.2.2.2.2.2.1.2.1, va_Nw.same rfl hv h.2.2.2.2.2.1.2.2⟩, fun q hq => by
    obtain ⟨a, k⟩ := h.2.2.2.2.2.2 q hq
    exact ⟨a, vk_R.same hv.symm k⟩⟩
theorem exE_call {A B : Nat → Prop} {s U : State} {H : Heap} {locs : List Loc} (h : exE A s) (hS : va_S A s.heap H locs) (hAB : ∀ q, B q → A q) (hU : U.heap = H) (hW : s.WarmedH U.vm) : exE B U :=
  ⟨by rw [hU]; exact ((h.1.kept hS.2.1).narrow hAB).moved hW.alike, by rw [hU]; exact ((h.2.1.kept hS.2.1).narrow hAB).moved hW.alike, va_Nw.warmC hW h.2.2.1, va_Nw.warmC hW h.2.2.2.1, va_Nw.warmC hW h.2.2.2.2.1, ⟨nw_dc hW h.2.2.2.2.2.1.1, nw_dc hW h.2.2.2.2.2.1.2.1, nw_dc hW h.2.2.2.2.2.1.2.2⟩, fun q hq => by
    obtain ⟨a, k⟩ := h.2.2.2.2.2.2 q hq
    exact ⟨a, vk_R.warm hW k⟩⟩
theorem va_P_keep {D : va_G} {cl : List vw_C} {ws : va_W} {H H1 : Heap} (hP : va_P D cl ws H) (hk : ∀ q : Nat, q < H.size → H1[q]? = H[q]?) : va_P D cl ws H1 := fun k q hq => (hP k q hq).kept (hk q.1 (hP k q hq).lt)
theorem va_F_keep {A : Nat → Prop} {s t : State} {H : Heap} {locs : List Loc} (hS : va_S A s.heap H locs) (hz : H.size ≤ t.heap.size) (hk : ∀ q : Nat, q < H.size → t.heap[q]? = H[q]?) : va_F A s t :=
  ⟨Nat.le_trans hS.1 hz, fun q h1 h2 => (hk q (Nat.lt_of_lt_of_le h1 hS.1)).trans (hS.2.1 q h1 h2)⟩
def jiushr (x y : Int32) : Int32 := (x.toUInt32 >>> (y.toUInt32 &&& Int32.toUInt32 31)).toInt32
