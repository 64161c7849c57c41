/-! ===== the calls that change something ===== -/
theorem o_setRules {w h : Nat} {rd : Bool} {g : GrS} {r : RuS} {d : GaS} {a : Nat → Int32} {m : MoS} {fR fB : Nat → Int64} {s : StS} {a' : Nat → Int32} (H : WR w h rd g r d a m fR fB s a') (bn sn : Int32) : (∃ v r' m', f_X5_setRules r bn sn = .inl (v, r') ∧ f_X7_setRules m bn sn = (v, m') ∧ m'.1 = 0 ∧ WR w h rd g r' d a m' fR fB s a') ∨ (f_X5_setRules r bn sn = .inr "java/lang/IllegalArgumentException" ∧ f_X7_setRules m bn sn = (0, mz m 1)) := by
  obtain ⟨hW, hG, hM, hr, hT, R⟩ := H
  have i1 : ∀ n, f_X5_isSetOfNumbers n = f_X7_isIn n 0 511 := fun _ => rfl
  unfold f_X5_setRules f_X7_setRules
  rw [i1, i1]
  by_cases c1 : f_X7_isIn bn 0 511 = 0
  · right
    rw [if_pos c1, if_pos c1]
    exact ⟨rfl, rfl⟩
  rw [if_neg c1, if_neg c1]
  by_cases c2 : f_X7_isIn sn 0 511 = 0
  · right
    rw [if_pos c2, if_pos c2]
    exact ⟨rfl, rfl⟩
  rw [if_neg c2, if_neg c2]
  left
  refine ⟨512 * r.1 + r.2, (bn, sn), (0, m.2.1, m.2.2.1, m.2.2.2.1, bn, sn), rfl, ?_, rfl, hW, hG, hM, ⟨rfl, rfl⟩, hT, R⟩
  rw [hr.1, hr.2]
theorem o_setEdge {w h : Nat} {rd : Bool} {g : GrS} {r : RuS} {d : GaS} {a : Nat → Int32} {m : MoS} {fR fB : Nat → Int64} {s : StS} {a' : Nat → Int32} (H : WR w h rd g r d a m fR fB s a') (rn : Bool) : ∃ v g' m' fR' fB', f_X5_setEdge g rn = (v, g') ∧ f_X7_setEdge m fR fB rn = some (v, m', fR', fB') ∧ m'.1 = 0 ∧ WR w h rn g' r d a m' fR' fB' s a' := by
  obtain ⟨hW, hG, hM, hr, hT, R⟩ := H
  have hM' : MOK (0, m.2.1, m.2.2.1, rn, m.2.2.2.2.1, m.2.2.2.2.2) w h rn := ⟨hM.1, hM.2.1, rfl⟩
  obtain ⟨v, l1, l2⟩ := link_ok hW hM' fR fB
  unfold f_X5_setEdge f_X7_setEdge
  rw [l1, Option.bind_some]
  refine ⟨bI rd, f_X3_makeRound g rn, (0, m.2.1, m.2.2.1, rn, m.2.2.2.2.1, m.2.2.2.2.2), v.1, v.2, ?_, ?_, rfl, hW, ⟨hG.1, hG.2.1, rfl, hG.2.2.2⟩, hM', hr, l2, R⟩
  · unfold f_X3_isRound
    rw [hG.2.2.1]
  · rw [hM.2.2]
def rzB (w h : Nat) : Bool := match lp_X3_resize_46 (nI w) (nI h) 100 0 0 0 with
  | none => false
  | some v => (List.range 64).all fun i => (cb v.1 i == decide (i % 8 < w ∧ i / 8 < h)) && (cb v.2 i == decide (i % 8 = 0 ∧ i / 8 < h)) && (cb (jshl v.2 (nI w - 1)) i == decide (i % 8 + 1 = w ∧ i / 8 < h)) && (cb ((jshl 1 (nI w)) - 1) i == decide (i / 8 = 0 ∧ i % 8 < w)) && (cb (jshl ((jshl 1 (nI w)) - 1) (8 * (nI h - 1))) i == decide (i / 8 + 1 = h ∧ i % 8 < w))
theorem rz_t : ∀ a, a < 6 → ∀ b, b < 6 → rzB (a + 3) (b + 3) = true := by decide +kernel
theorem resize_ok (g : GrS) {w h : Nat} (hW : WH w h) : ∃ g', f_X3_resize g (nI w) (nI h) = some g' ∧ GOK g' w h g.2.2.1 := by
  obtain ⟨w3, w8, h3, h8⟩ := hW
  have t := rz_t (w - 3) (by omega) (h - 3) (by omega)
  rw [show w - 3 + 3 = w by omega, show h - 3 + 3 = h by omega] at t
  unfold rzB at t
  unfold f_X3_resize
  cases e : lp_X3_resize_46 (nI w) (nI h) 100 0 0 0 with
  | none => rw [e] at t; exact nomatch t
  | some v =>
    rw [e] at t
    refine ⟨_, rfl, rfl, rfl, rfl, fun i hi => ?_⟩
    have ti := List.all_eq_true.mp t i (List.mem_range.mpr hi)
    simp only [Bool.and_eq_true, beq_iff_eq] at ti
    exact ⟨ti.1.1.1.1, ti.1.1.1.2, ti.1.1.2, ti.1.2, ti.2⟩
theorem side_ok {n : Int32} (h : ¬ f_X7_isIn n 3 8 = 0) : ∃ w, 3 ≤ w ∧ w ≤ 8 ∧ n = nI w := by
  obtain ⟨h1, h2⟩ := (isIn_ok n 3 8).2.mp h
  have h0 : ¬ n < 0 := fun z => h1 (by
    rw [Int32.lt_iff_toInt_lt] at z ⊢
    rw [show (0 : Int32).toInt = 0 from rfl] at z
    rw [show (3 : Int32).toInt = 3 from rfl]
    omega)
  obtain ⟨k, hk, rfl⟩ := nI_of h0
  refine ⟨k, ?_, ?_, rfl⟩
  · rcases Nat.lt_or_ge k 3 with q | q
    · exact absurd ((nI_ltI (b := 3) hk (by decide)).mpr q) h1
    · exact q
  · rcases Nat.lt_or_ge 8 k with q | q
    · exact absurd ((nI_ltI (a := 8) (by decide) hk).mpr q) h2
    · exact q
theorem o_lay {w h : Nat} {rd : Bool} {g : GrS} {r : RuS} {d : GaS} {a : Nat → Int32} {m : MoS} {fR fB : Nat → Int64} {s : StS} {a' : Nat → Int32} (H : WR w h rd g r d a m fR fB s a') (wn hn : Int32) : (∃ v g' d' m' fR' fB' s' w' h', f_X5_lay g d wn hn = some (.inl (v, g', d')) ∧ f_X7_lay m fR fB s wn hn = some (v, m', fR', fB', s') ∧ m'.1 = 0 ∧ WR w' h' rd g' r d' a m' fR' fB' s' a') ∨ (f_X5_lay g d wn hn = some (.inr "java/lang/IllegalArgumentException") ∧ f_X7_lay m fR fB s wn hn = some (0, mz m 1, fR, fB, s)) := by
  obtain ⟨hW, hG, hM, hr, hT, R⟩ := H
  have i1 : ∀ n, f_X5_isSide n = f_X7_isIn n 3 8 := fun _ => rfl
  unfold f_X5_lay f_X7_lay
  rw [i1, i1]
  by_cases c1 : f_X7_isIn wn 3 8 = 0
  · right
    rw [if_pos c1, if_pos c1]
    exact ⟨rfl, rfl⟩
  rw [if_neg c1, if_neg c1]
  by_cases c2 : f_X7_isIn hn 3 8 = 0
  · right
    rw [if_pos c2, if_pos c2]
    exact ⟨rfl, rfl⟩
  rw [if_neg c2, if_neg c2]
  left
  obtain ⟨w', w3, w8, rfl⟩ := side_ok c1
  obtain ⟨h', h3, h8, rfl⟩ := side_ok c2
  have hW' : WH w' h' := ⟨w3, w8, h3, h8⟩
  obtain ⟨g', e1, e2⟩ := resize_ok g hW'
  rw [hG.2.2.1] at e2
  have hM' : MOK (0, nI w', nI h', m.2.2.2.1, m.2.2.2.2.1, m.2.2.2.2.2) w' h' rd := ⟨rfl, rfl, hM.2.2⟩
  obtain ⟨v, l1, l2⟩ := link_ok hW' hM' fR fB
  rw [e1, l1, Option.bind_some, Option.bind_some]
  have z : d.1 &&& (d.1 ^^^ (-1)) = 0 := cb_ext (fun i hi => by
    rw [cb_and, cb_not hi, cb_0]
    cases cb d.1 i <;> rfl)
  refine ⟨f_X2_size d, g', (0, d.2.1, d.2.2.1, d.2.2.2), (0, nI w', nI h', m.2.2.2.1, m.2.2.2.2.1, m.2.2.2.2.2), v.1, v.2, (s.1, s.2.1, s.2.2.1, 0), w', h', ?_, ?_, rfl, hW', e2, hM', hr, l2, RelB_0, R.2.1, R.2.2.1, R.2.2.2.1, ?_⟩
  · unfold f_X2_cut f_X2_hedges
    rw [z]
  · rw [show f_X2_size d = f_J13_bitCount_95d88 d.1 from rfl, RelB_bc hW R.1]
  · intro x y _ _ hb
    unfold BC at hb
    rw [cb_0] at hb
    exact nomatch hb
theorem o_turn {w h : Nat} {rd : Bool} {g : GrS} {r : RuS} {d : GaS} {a : Nat → Int32} {m : MoS} {fR fB : Nat → Int64} {s : StS} {a' : Nat → Int32} (H : WR w h rd g r d a m fR fB s a') (cx cy : Int32) : (∃ v d' a1 m' s' a1', f_X5_turn g d a cx cy = some (.inl (v, d', a1)) ∧ f_X7_turn m s a' cx cy = some (v, m', s', a1') ∧ m'.1 = 0 ∧ WR w h rd g r d' a1 m' fR fB s' a1') ∨ (f_X5_turn g d a cx cy = some (.inr "java/lang/IndexOutOfBoundsException") ∧ f_X7_turn m s a' cx cy = some (0, mz m 1, s, a')) := by
  obtain ⟨hW, hG, hM, hr, hT, R⟩ := H
  unfold f_X5_turn f_X7_turn
  rcases cells_eq hW hG (m := mz m 0) hM cx cy with ⟨c1, c2⟩ | ⟨c1, c2, x, y, hx, hy, rfl, rfl⟩
  · right
    rw [if_pos c1, if_pos c2]
    exact ⟨rfl, rfl⟩
  rw [if_neg c1, if_neg c2]
  left
  obtain ⟨q1, q2⟩ := xy_64 hW hx hy
  have w8 := hW.2.1
  have hb : cb d.1 (8 * y + x) = cb s.2.2.2 (w * y + x) := R.1.1 x y hx hy
  have ho := RelB_ob hW hx hy
  rw [cellM hM, l_cell, hh_ok d q1, has_ok s q2, hb]
  by_cases c : cb s.2.2.2 (w * y + x) = true
  · rw [if_pos c, if_neg (by decide), if_neg (by decide), Option.bind_some, Option.bind_some]
    have hR := RelB_andn hW R.1 ho
    refine ⟨f_J13_bitCount_95d88 (d.1 &&& (ob (8 * y + x) ^^^ (-1))), f_X2_cut d (ob (8 * y + x)), a, mz m 0, (s.1, s.2.1, s.2.2.1, s.2.2.2 &&& (ob (w * y + x) ^^^ (-1))), a', rfl, ?_, rfl, hW, hG, hM, hr, hT, hR, R.2.1, R.2.2.1, R.2.2.2.1, ?_⟩
    · rw [RelB_bc hW hR]; rfl
    · intro x0 y0 hx0 hy0 h0
      refine R.2.2.2.2 x0 y0 hx0 hy0 ?_
      unfold BC f_X2_cut at h0
      rw [cb_and, Bool.and_eq_true] at h0
      exact h0.1
  · rw [if_neg c, if_pos rfl, if_pos rfl]
    obtain ⟨v, p1, p2⟩ := py_ok d a (ob (8 * y + x))
    rw [p1]
    unfold f_X6_plant
    rw [if_neg (l_out q2 (by decide)), l_toN (by omega), Option.bind_some, Option.bind_some, Option.bind_some, Option.bind_some]
    have hR := RelB_or R.1 ho
    refine ⟨f_J13_bitCount_95d88 (d.1 ||| ob (8 * y + x)), (d.1 ||| ob (8 * y + x), d.2.1, d.2.2.1, d.2.2.2), v, mz m 0, (s.1, s.2.1, s.2.2.1, s.2.2.2 ||| ob (w * y + x)), upd a' (w * y + x) 0, rfl, ?_, rfl, hW, hG, hM, hr, hT, hR, R.2.1, R.2.2.1, R.2.2.2.1, ?_⟩
    · rw [RelB_bc hW hR]; rfl
    · intro x0 y0 hx0 hy0 h0
      rw [p2]
      unfold upd
      by_cases e : x0 = x ∧ y0 = y
      · obtain ⟨rfl, rfl⟩ := e
        rw [if_pos (by rw [cb_ob q1 q1]; exact decide_eq_true rfl), if_pos rfl]
      · have n1 : ¬ 8 * y0 + x0 = 8 * y + x := fun z => e (by omega)
        have n2 : ¬ w * y0 + x0 = w * y + x := fun z => e (cell_inj hx0 hx z)
        have n3 : cb (ob (8 * y + x)) (8 * y0 + x0) = false := by rw [cb_ob q1 (xy_64 hW hx0 hy0).1]; exact decide_eq_false n1
        rw [if_neg (by rw [n3]; decide), if_neg n2]
        refine R.2.2.2.2 x0 y0 hx0 hy0 ?_
        unfold BC at h0 ⊢
        rw [cb_or, n3, Bool.or_false] at h0
        exact h0
theorem years_ok {n : Int32} (h : ¬ f_X7_isIn n 1 50 = 0) : ∃ y, y ≤ 50 ∧ n = nI y := by
  obtain ⟨h1, h2⟩ := (isIn_ok n 1 50).2.mp h
  have h0 : ¬ n < 0 := fun z => h1 (by
    rw [Int32.lt_iff_toInt_lt] at z ⊢
    rw [show (0 : Int32).toInt = 0 from rfl] at z
    rw [show (1 : Int32).toInt = 1 from rfl]
    omega)
  obtain ⟨k, hk, rfl⟩ := nI_of h0
  refine ⟨k, ?_, rfl⟩
  rcases Nat.lt_or_ge 50 k with q | q
  · exact absurd ((nI_ltI (a := 50) (by decide) hk).mpr q) h2
  · exact q
theorem o_pass {w h : Nat} {rd : Bool} {g : GrS} {r : RuS} {d : GaS} {a : Nat → Int32} {m : MoS} {fR fB : Nat → Int64} {s : StS} {a' : Nat → Int32} (H : WR w h rd g r d a m fR fB s a') (yr : Int32) : (∃ v d' a1 m' s' a1', f_X5_pass g r d a yr = some (.inl (v, d', a1)) ∧ f_X7_pass_ m fR s a' yr = some (v, m', s', a1') ∧ m'.1 = 0 ∧ WR w h rd g r d' a1 m' fR fB s' a1') ∨ (f_X5_pass g r d a yr = some (.inr "java/lang/IllegalArgumentException") ∧ f_X7_pass_ m fR s a' yr = some (0, mz m 1, s, a')) := by
  obtain ⟨hW, hG, hM, hr, hT, R⟩ := H
  have i1 : f_X5_isYears yr = f_X7_isIn yr 1 50 := rfl
  unfold f_X5_pass f_X7_pass_
  rw [i1]
  by_cases c1 : f_X7_isIn yr 1 50 = 0
  · right
    rw [if_pos c1, if_pos c1]
    exact ⟨rfl, rfl⟩
  rw [if_neg c1, if_neg c1]
  left
  obtain ⟨Y, hY, rfl⟩ := years_ok c1
  obtain ⟨d1, a1, s1, a1', e1, e2, e3⟩ := grow_ok hW hG (m := mz m 0) hM hr hT hY R
  refine ⟨f_J13_bitCount_95d88 d1.1, d1, a1, mz m 0, s1, a1', ?_, ?_, rfl, hW, hG, hM, hr, hT, e3⟩
  · rw [e1]; rfl
  · rw [RelB_bc hW e3.1, e2]; rfl
theorem copy_l (a : Nat → Int32) : ∀ (nf k : Nat) (b : Nat → Int32), k ≤ 64 → 64 - k < nf → ∃ v, lp_X2_copyFrom_2 a nf (nI k) b = some v ∧ ∀ j, v j = if k ≤ j ∧ j < 64 then a j else b j
  | 0, _, _, _, hh => absurd hh (Nat.not_lt_zero _)
  | nf + 1, k, b, hk, hh => by
    rw [lp_X2_copyFrom_2.eq_2]
    by_cases q : 64 ≤ k
    · rw [if_pos (show (64 : Int32) ≤ nI k from (nI_leI (a := 64) (by decide) (by omega)).mpr q)]
      exact ⟨b, rfl, fun j => by rw [if_neg (by omega)]⟩
    · have qn : ¬ (64 : Int32) ≤ nI k := fun z => q ((nI_leI (a := 64) (by decide) (by omega)).mp z)
      rw [if_neg qn, if_neg qn, if_neg (l_out (by omega) (by decide)), if_neg (l_out (by omega) (by decide)), l_toN (by omega), nI_1]
      obtain ⟨v, e1, e2⟩ := copy_l a nf (k + 1) (upd b k (a k)) (by omega) (by omega)
      refine ⟨v, e1, fun j => ?_⟩
      rw [e2]
      unfold upd
      by_cases e : j = k
      · rw [e, if_neg (by omega), if_pos rfl, if_pos (by omega)]
      · by_cases f : k ≤ j ∧ j < 64
        · rw [if_pos f, if_pos (by omega)]
        · rw [if_neg f, if_neg (by omega), if_neg e]
theorem o_foresee {w h : Nat} {rd : Bool} {g : GrS} {r : RuS} {d : GaS} {a : Nat → Int32} {m : MoS} {fR fB : Nat → Int64} {s : StS} {a' : Nat → Int32} (H : WR w h rd g r d a m fR fB s a') (dF : GaS) (aF : Nat → Int32) (sA : StS) (aA : Nat → Int32) (yr wh : Int32) : (∃ v d' a1 s' a1', f_X5_foresee g r d a dF aF yr wh = some (.inl (v, d', a1)) ∧ f_X7_foresee m fR fB s a' sA aA yr wh = some (v, mz m 0, s', a1')) ∨ (f_X5_foresee g r d a dF aF yr wh = some (.inr "java/lang/IllegalArgumentException") ∧ f_X7_foresee m fR fB s a' sA aA yr wh = some (0, mz m 1, sA, aA)) ∨ (f_X5_foresee g r d a dF aF yr wh = some (.inr "java/lang/IndexOutOfBoundsException") ∧ f_X7_foresee m fR fB s a' sA aA yr wh = some (0, mz m 2, sA, aA)) := by
  obtain ⟨hW, hG, hM, hr, hT, R⟩ := H
  have i1 : f_X5_isYears yr = f_X7_isIn yr 1 50 := rfl
  unfold f_X5_foresee f_X7_foresee
  rw [i1]
  by_cases c1 : f_X7_isIn yr 1 50 = 0
  · right; left
    rw [if_pos c1, if_pos c1]
    exact ⟨rfl, rfl⟩
  rw [if_neg c1, if_neg c1]
  by_cases c2 : wh < 3
  · right; right
    rw [if_pos c2, if_pos (isIn_f (Or.inl c2))]
    exact ⟨rfl, rfl⟩
  rw [if_neg c2]
  by_cases c3 : (11 : Int32) ≤ wh
  · right; right
    rw [if_pos c3, if_pos (isIn_f (Or.inr (show (10 : Int32) < wh by
      rw [Int32.le_iff_toInt_le] at c3
      rw [Int32.lt_iff_toInt_lt]
      rw [show (11 : Int32).toInt = 11 from rfl] at c3
      rw [show (10 : Int32).toInt = 10 from rfl]
      omega)))]
    exact ⟨rfl, rfl⟩
  rw [if_neg c3, if_neg (isIn_t c2 (show ¬ (10 : Int32) < wh from fun z => c3 (by
      rw [Int32.lt_iff_toInt_lt] at z
      rw [Int32.le_iff_toInt_le]
      rw [show (10 : Int32).toInt = 10 from rfl] at z
      rw [show (11 : Int32).toInt = 11 from rfl]
      omega)))]
  by_cases c4 : wh = 6
  · right; right
    rw [if_pos c4, if_pos c4]
    exact ⟨rfl, rfl⟩
  rw [if_neg c4, if_neg c4]
  left
  obtain ⟨Y, hY, rfl⟩ := years_ok c1
  obtain ⟨v, e1, e2⟩ := copy_l a 100 0 aF (by decide) (by decide)
  have h0 : nI 0 = 0 := rfl
  rw [h0] at e1
  have R' : RelG w h d v s (va_cpy a' aA 0 0 64) := ⟨R.1, R.2.1, R.2.2.1, R.2.2.2.1, fun x y hx hy hb => by
    obtain ⟨q1, q2⟩ := xy_64 hW hx hy
    rw [e2, if_pos ⟨Nat.zero_le _, q1⟩, R.2.2.2.2 x y hx hy hb]
    unfold va_cpy
    rw [if_pos (by omega)]
    have e0 : (0 : Nat) + (w * y + x - 0) = w * y + x := by omega
    first | rw [e0] | (rw [Nat.sub_zero, Nat.zero_add]) | (show a' (w * y + x) = a' _; rw [Nat.sub_zero])⟩
  obtain ⟨d1, a1, s1, a1', g1, g2, g3⟩ := grow_ok hW hG (m := mz m 0) hM hr hT hY R'
  obtain ⟨k, hk, rfl⟩ := in_10 (show ¬ wh < 0 from fun z => c2 (by
    rw [Int32.lt_iff_toInt_lt] at z ⊢
    rw [show (0 : Int32).toInt = 0 from rfl] at z
    rw [show (3 : Int32).toInt = 3 from rfl]
    omega)) (show wh < 11 by
    rw [Int32.le_iff_toInt_le] at c3
    rw [Int32.lt_iff_toInt_lt]
    omega)
  obtain ⟨z, k1, k2⟩ := cnt_ok (m := mz m 0) ⟨hW, hG, hM, hr, hT, g3⟩ hk
  refine ⟨z, d1, a1, s1, a1', ?_, ?_⟩
  · unfold f_X2_copyFrom
    rw [e1, Option.bind_some, Option.bind_some]
    rw [show (d, v).1 = d from rfl, show (d, v).2 = v from rfl, g1, Option.bind_some, k1]; rfl
  · unfold f_X6_become
    rw [g2, Option.bind_some, k2]; rfl
