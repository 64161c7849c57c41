/-! ===== plant ===== -/
def pt (p : Int32) (k : Nat) : Bool := decide (¬ f_X1_has p (nI (k % 3)) (nI (k / 3)) = 0)
def plB (f t : Nat) : Bool := match f_X1_turned (f_X1_picture (nI f)) (nI t) with
  | none => false
  | some p => (List.range 9).all fun k => match f_X7_isOf (nI f) (nI t) (nI (k % 3)) (nI (k / 3)) with
    | none => false
    | some v => v == (if pt p k = true then 1 else 0)
theorem pl_t : ∀ f, f < 4 → ∀ t, t < 4 → plB f t = true := by decide +kernel
theorem pl_ok {f t : Nat} (hf : f < 4) (ht : t < 4) : ∃ p, f_X1_turned (f_X1_picture (nI f)) (nI t) = some p ∧ ∀ k, k < 9 → f_X7_isOf (nI f) (nI t) (nI (k % 3)) (nI (k / 3)) = some (if pt p k = true then 1 else 0) := by
  have h := pl_t f hf t ht
  unfold plB at h
  cases e : f_X1_turned (f_X1_picture (nI f)) (nI t) with
  | none => rw [e] at h; exact nomatch h
  | some p =>
    rw [e] at h
    refine ⟨p, rfl, fun k hk => ?_⟩
    have hk' := List.all_eq_true.mp h k (List.mem_range.mpr hk)
    cases e2 : f_X7_isOf (nI f) (nI t) (nI (k % 3)) (nI (k / 3)) with
    | none => rw [e2] at hk'; exact nomatch hk'
    | some v =>
      rw [e2] at hk'
      simp only [beq_iff_eq] at hk'
      rw [hk']
theorem hasN {g : GrS} {w h : Nat} {rd : Bool} (hW : WH w h) (hG : GOK g w h rd) {X Y : Nat} (hX : X < 99) (hY : Y < 99) : f_X3_has g (nI X) (nI Y) = 0 ↔ ¬ (X < w ∧ Y < h) := by
  have w8 := hW.2.1
  have h8 := hW.2.2.2
  constructor
  · intro z q
    exact (hasC hW hG _ _).2.mpr ⟨X, Y, q.1, q.2, rfl, rfl⟩ z
  · intro z
    apply Classical.byContradiction
    intro q
    obtain ⟨x, y, hx, hy, e1, e2⟩ := (hasC hW hG _ _).2.mp q
    have := (nI_eq (by omega) (by omega)).mp e1
    have := (nI_eq (by omega) (by omega)).mp e2
    exact z (by omega)
theorem atP {m : MoS} {w h : Nat} {rd : Bool} (hW : WH w h) (hM : MOK m w h rd) {X Y : Nat} (hX : X < 99) (hY : Y < 99) : f_X7_at m (nI X) (nI Y) = some (if rd = true ∨ (X < w ∧ Y < h) then nI (w * (Y % h) + X % w) else -1) := by
  have w3 := hW.1
  have w8 := hW.2.1
  have h3 := hW.2.2.1
  have h8 := hW.2.2.2
  have hb : bI m.2.2.2.1 = bI rd := congrArg bI hM.2.2
  unfold f_X7_at
  by_cases c : X < w ∧ Y < h
  · have : ¬ f_X7_isCell m (nI X) (nI Y) = 0 := (isCell_ok hW hM _ _).2.mpr ⟨X, Y, c.1, c.2, rfl, rfl⟩
    rw [if_neg this, if_pos (Or.inr c), cellM hM, Nat.mod_eq_of_lt c.1, Nat.mod_eq_of_lt c.2]
  · have : f_X7_isCell m (nI X) (nI Y) = 0 := by
      apply Classical.byContradiction
      intro q
      obtain ⟨x, y, hx, hy, e1, e2⟩ := (isCell_ok hW hM _ _).2.mp q
      have := (nI_eq (by omega) (by omega)).mp e1
      have := (nI_eq (by omega) (by omega)).mp e2
      exact c (by omega)
    rw [if_pos this]
    cases rd with
    | false =>
      rw [if_pos (hb.trans bI_f), if_neg (by
        rintro (q | q)
        · exact nomatch q
        · exact c q)]
    | true =>
      have nz1 : ¬ m.2.1 = 0 := by
        rw [hM.1]
        exact fun z => by
          have := (nI_eq (b := 0) (by omega) (by decide)).mp z
          omega
      have nz2 : ¬ m.2.2.1 = 0 := by
        rw [hM.2.1]
        exact fun z => by
          have := (nI_eq (b := 0) (by omega) (by decide)).mp z
          omega
      rw [if_neg (fun z => bI_t (hb.symm.trans z)), if_neg nz2, if_neg nz1, if_pos (Or.inl rfl), hM.1, hM.2.1, nI_add, nI_add, pk_rem (by omega) (by omega) (by omega), pk_rem (by omega) (by omega) (by omega), pk_mul, nI_add, Nat.add_mod_right, Nat.add_mod_right]
theorem wr_ok {w X : Nat} (hw : 3 ≤ w) (hw8 : w ≤ 8) (hX : X < 2 * w) : f_X1_wrapped (nI X) (nI w) = nI (X % w) := by
  unfold f_X1_wrapped
  by_cases c : w ≤ X
  · rw [if_pos ((nI_leI (by omega) (by omega)).mpr c), pk_sub (a := X) (b := w) c, Nat.mod_eq_sub_mod c, Nat.mod_eq_of_lt (by omega)]
  · rw [if_neg (fun z => c ((nI_leI (by omega) (by omega)).mp z)), Nat.mod_eq_of_lt (by omega)]
/-- the places of a figure put at x, y -/
def ccC (w h x y k : Nat) : Nat := 8 * ((y + k / 3) % h) + (x + k % 3) % w
def ccM (w h x y k : Nat) : Nat := w * ((y + k / 3) % h) + (x + k % 3) % w
def plF (w h x y : Nat) (p : Int32) (c : Int64) (k : Nat) : Int64 := if pt p k = true then c ||| ob (ccC w h x y k) else c
def plM (w h x y : Nat) (p : Int32) (st : (Nat → Int32) × Int64) (k : Nat) : (Nat → Int32) × Int64 := if pt p k = true then (upd st.1 (ccM w h x y k) 0, st.2 ||| ob (ccM w h x y k)) else st
theorem cells_i {g : GrS} {w h : Nat} {rd : Bool} (hW : WH w h) (hG : GOK g w h rd) {x y : Nat} (hx : x < w) (hy : y < h) (p : Int32) {j : Nat} (hj : j < 3) : ∀ (nf i : Nat) (c : Int64), i ≤ 3 → 3 - i < nf → lp_X1_cells_15 g p (nI x) (nI y) (nI j) nf c (nI i) = some (foldN (fun c t => plF w h x y p c (3 * j + (i + t))) c (3 - i))
  | 0, _, _, _, hh => absurd hh (Nat.not_lt_zero _)
  | nf + 1, i, c, hi, hh => by
    obtain ⟨w3, w8, h3, h8⟩ := id hW
    rw [lp_X1_cells_15.eq_2]
    by_cases q : 3 ≤ i
    · rw [if_pos (show (3 : Int32) ≤ nI i from (nI_leI (a := 3) (by decide) (by omega)).mpr q), show 3 - i = 0 by omega]
      rfl
    · rw [if_neg (show ¬ (3 : Int32) ≤ nI i from fun z => q ((nI_leI (a := 3) (by decide) (by omega)).mp z)), nI_1]
      simp only [bindv]
      have e : (if (f_X1_has p (nI i) (nI j)) = 0 then c else (c ||| (f_X3_cell (f_X1_wrapped (nI x + nI i) (f_X3_wide g)) (f_X1_wrapped (nI y + nI j) (f_X3_high g)))) : Int64) = plF w h x y p c (3 * j + i) := by
        unfold plF pt ccC
        rw [show (3 * j + i) % 3 = i by omega, show (3 * j + i) / 3 = j by omega, show f_X3_wide g = nI w from hG.1, show f_X3_high g = nI h from hG.2.1, nI_add, nI_add, wr_ok w3 w8 (by omega), wr_ok h3 h8 (by omega), l_cell]
        by_cases c0 : f_X1_has p (nI i) (nI j) = 0
        · rw [if_pos c0, decide_eq_false (fun z => z c0), if_neg (by decide)]
        · rw [if_neg c0, decide_eq_true c0, if_pos rfl]
      rw [e, cells_i hW hG hx hy p hj nf (i + 1) _ (by omega) (by omega), show 3 - i = 1 + (3 - (i + 1)) by omega, foldN_add]
      refine congrArg some (foldN_cong (fun b t _ => ?_))
      show plF w h x y p b (3 * j + (i + 1 + t)) = plF w h x y p b (3 * j + (i + (1 + t)))
      rw [show i + 1 + t = i + (1 + t) by omega]
theorem cells_o {g : GrS} {w h : Nat} {rd : Bool} (hW : WH w h) (hG : GOK g w h rd) {x y : Nat} (hx : x < w) (hy : y < h) (p : Int32) : ∀ (nf j : Nat) (c : Int64), j ≤ 3 → 3 - j < nf → lp_X1_cells_6 g p (nI x) (nI y) nf c (nI j) = some (foldN (fun c t => foldN (fun c k => plF w h x y p c (3 * (j + t) + k)) c 3) c (3 - j))
  | 0, _, _, _, hh => absurd hh (Nat.not_lt_zero _)
  | nf + 1, j, c, hj, hh => by
    rw [lp_X1_cells_6.eq_2]
    by_cases q : 3 ≤ j
    · rw [if_pos (show (3 : Int32) ≤ nI j from (nI_leI (a := 3) (by decide) (by omega)).mpr q), show 3 - j = 0 by omega]
      rfl
    · have h0 : nI 0 = 0 := rfl
      have e := cells_i hW hG hx hy p (j := j) (by omega) 100 0 c (by decide) (by decide)
      rw [h0] at e
      rw [if_neg (show ¬ (3 : Int32) ≤ nI j from fun z => q ((nI_leI (a := 3) (by decide) (by omega)).mp z)), nI_1, e, Option.bind_some, cells_o hW hG hx hy p nf (j + 1) _ (by omega) (by omega), show 3 - j = 1 + (3 - (j + 1)) by omega, foldN_add]
      have z1 : foldN (fun c t => plF w h x y p c (3 * j + (0 + t))) c (3 - 0) = foldN (fun c t => foldN (fun c k => plF w h x y p c (3 * (j + t) + k)) c 3) c 1 := by
        show foldN (fun c t => plF w h x y p c (3 * j + (0 + t))) c (3 - 0) = foldN (fun c k => plF w h x y p c (3 * (j + 0) + k)) c 3
        exact foldN_cong (fun b i _ => by rw [Nat.zero_add, Nat.add_zero])
      rw [z1]
      refine congrArg some (foldN_cong (fun b t _ => ?_))
      show foldN (fun c k => plF w h x y p c (3 * (j + 1 + t) + k)) b 3 = foldN (fun c k => plF w h x y p c (3 * (j + (1 + t)) + k)) b 3
      rw [show j + 1 + t = j + (1 + t) by omega]
theorem cells_ok {g : GrS} {w h : Nat} {rd : Bool} (hW : WH w h) (hG : GOK g w h rd) {x y : Nat} (hx : x < w) (hy : y < h) (p : Int32) : f_X1_cells g p (nI x) (nI y) = some (foldN (plF w h x y p) 0 9) := by
  have h0 : nI 0 = 0 := rfl
  have e := cells_o hW hG hx hy p 100 0 0 (by decide) (by decide)
  rw [h0] at e
  unfold f_X1_cells
  rw [e, Option.bind_some, show (9 : Nat) = 3 * 3 from rfl, fold_nest]
  refine congrArg some (foldN_cong (fun b t _ => ?_))
  show foldN (fun c k => plF w h x y p c (3 * (0 + t) + k)) b 3 = foldN (fun c k => plF w h x y p c (3 * t + k)) b 3
  rw [Nat.zero_add]
theorem cc_in {w h x y k : Nat} (hW : WH w h) : (x + k % 3) % w < w ∧ (y + k / 3) % h < h := ⟨Nat.mod_lt _ (by have := hW.1; omega), Nat.mod_lt _ (by have := hW.2.2.1; omega)⟩
/-- what is so put keeps the two gardens the same -/
theorem put_ok {w h : Nat} (hW : WH w h) {x y : Nat} {p : Int32} {d : GaS} {a : Nat → Int32} {s : StS} {a' : Nat → Int32} (R : RelG w h d a s a') : ∀ n, RelB w h (d.1 ||| foldN (plF w h x y p) 0 n) (foldN (plM w h x y p) (a', s.2.2.2) n).2 ∧ ∀ X Y, X < w → Y < h → BC (d.1 ||| foldN (plF w h x y p) 0 n) X Y = true → (if cb (foldN (plF w h x y p) 0 n) (8 * Y + X) = true then 0 else a (8 * Y + X)) = (foldN (plM w h x y p) (a', s.2.2.2) n).1 (w * Y + X)
  | 0 => by
    have z : d.1 ||| 0 = d.1 := cb_ext (fun i _ => by rw [cb_or, cb_0, Bool.or_false])
    show RelB w h (d.1 ||| 0) s.2.2.2 ∧ ∀ X Y, X < w → Y < h → BC (d.1 ||| 0) X Y = true → (if cb 0 (8 * Y + X) = true then 0 else a (8 * Y + X)) = a' (w * Y + X)
    rw [z]
    refine ⟨R.1, fun X Y hX hY hb => ?_⟩
    rw [cb_0, if_neg (by decide)]
    exact R.2.2.2.2 X Y hX hY hb
  | n + 1 => by
    obtain ⟨i1, i2⟩ := put_ok hW (x := x) (y := y) (p := p) R n
    show RelB w h (d.1 ||| plF w h x y p (foldN (plF w h x y p) 0 n) n) (plM w h x y p (foldN (plM w h x y p) (a', s.2.2.2) n) n).2 ∧ ∀ X Y, X < w → Y < h → BC (d.1 ||| plF w h x y p (foldN (plF w h x y p) 0 n) n) X Y = true → (if cb (plF w h x y p (foldN (plF w h x y p) 0 n) n) (8 * Y + X) = true then 0 else a (8 * Y + X)) = (plM w h x y p (foldN (plM w h x y p) (a', s.2.2.2) n) n).1 (w * Y + X)
    generalize foldN (plF w h x y p) 0 n = c at i1 i2
    generalize foldN (plM w h x y p) (a', s.2.2.2) n = st at i1 i2
    unfold plF plM
    by_cases cp : pt p n = true
    · rw [if_pos cp, if_pos cp]
      obtain ⟨hX0, hY0⟩ := cc_in (x := x) (y := y) (k := n) hW
      have ho : RelB w h (ob (ccC w h x y n)) (ob (ccM w h x y n)) := RelB_ob hW hX0 hY0
      have q0 : ccC w h x y n < 64 := (xy_64 hW hX0 hY0).1
      refine ⟨?_, fun X Y hX hY hb => ?_⟩
      · have e : d.1 ||| (c ||| ob (ccC w h x y n)) = (d.1 ||| c) ||| ob (ccC w h x y n) := cb_ext (fun i _ => by rw [cb_or, cb_or, cb_or, cb_or, Bool.or_assoc])
        rw [e]
        exact RelB_or i1 ho
      · have w8 := hW.2.1
        have q1 := (xy_64 hW hX hY).1
        rw [cb_or, cb_ob q0 q1]
        show _ = upd st.1 (ccM w h x y n) 0 (w * Y + X)
        unfold upd
        by_cases e : 8 * Y + X = ccC w h x y n
        · have e2 : w * Y + X = ccM w h x y n := by
            unfold ccC at e
            unfold ccM
            have f1 : X = (x + n % 3) % w := by omega
            have f2 : Y = (y + n / 3) % h := by omega
            rw [← f1, ← f2]
          rw [decide_eq_true e, Bool.or_true, if_pos rfl, if_pos e2]
        · have e2 : ¬ w * Y + X = ccM w h x y n := fun z => e (by
            unfold ccM at z
            unfold ccC
            obtain ⟨f1, f2⟩ := cell_inj hX hX0 z
            rw [← f1, ← f2])
          rw [decide_eq_false e, Bool.or_false, if_neg e2]
          refine i2 X Y hX hY ?_
          unfold BC at hb ⊢
          rw [cb_or, cb_or, cb_ob q0 q1, decide_eq_false e, Bool.or_false] at hb
          rw [cb_or]
          exact hb
    · rw [if_neg cp, if_neg cp]
      exact ⟨i1, i2⟩
theorem pm_l {m : MoS} {w h : Nat} {rd : Bool} (hW : WH w h) {p : Int32} {fg tu : Int32} (hp : ∀ k, k < 9 → f_X7_isOf fg tu (nI (k % 3)) (nI (k / 3)) = some (if pt p k = true then 1 else 0)) {x y : Nat} (hat : ∀ k, k < 9 → pt p k = true → f_X7_at (mz m 0) (nI (x + k % 3)) (nI (y + k / 3)) = some (nI (ccM w h x y k))) : ∀ (nf k : Nat) (st : (Nat → Int32) × Int64) (s1 s2 s3 : Int32), k ≤ 9 → 9 - k < nf → lp_X7_plant_101 m fg tu (nI x) (nI y) nf (nI k) st.1 s1 s2 s3 st.2 = some ((foldN (fun st i => plM w h x y p st (k + i)) st (9 - k)).1, s1, s2, s3, (foldN (fun st i => plM w h x y p st (k + i)) st (9 - k)).2)
  | 0, _, _, _, _, _, _, hh => absurd hh (Nat.not_lt_zero _)
  | nf + 1, k, st, s1, s2, s3, hk, hh => by
    rw [lp_X7_plant_101.eq_2]
    by_cases q : 9 ≤ k
    · rw [if_pos (show (9 : Int32) ≤ nI k from (nI_leI (a := 9) (by decide) (by omega)).mpr q), show 9 - k = 0 by omega]
      rfl
    · have d1 : nI k - nI k / 3 * 3 = nI (k % 3) := pk_rem (a := k) (d := 3) (by omega) (by decide) (by decide)
      have d2 : nI k / 3 = nI (k / 3) := pk_div (a := k) (d := 3) (by omega) (by decide) (by decide)
      rw [if_neg (show ¬ (9 : Int32) ≤ nI k from fun z => q ((nI_leI (a := 9) (by decide) (by omega)).mp z)), d1, d2, hp k (by omega), Option.bind_some, nI_1]
      have hst : plM w h x y p st k = foldN (fun st i => plM w h x y p st (k + i)) st 1 := rfl
      have fin : ∀ st', st' = foldN (fun st i => plM w h x y p st (k + i)) st 1 → foldN (fun st i => plM w h x y p st (k + 1 + i)) st' (9 - (k + 1)) = foldN (fun st i => plM w h x y p st (k + i)) st (9 - k) := fun st' e => by
        rw [show 9 - k = 1 + (9 - (k + 1)) by omega, foldN_add, e]
        exact foldN_cong (fun b i _ => by rw [show k + 1 + i = k + (1 + i) by omega])
      by_cases cp : pt p k = true
      · obtain ⟨hX0, hY0⟩ := cc_in (x := x) (y := y) (k := k) hW
        have q0 : ccM w h x y k < 64 := (xy_64 hW hX0 hY0).2
        have ha := hat k (by omega) cp
        rw [if_pos cp, if_neg (show ¬ (1 : Int32) = 0 by decide), nI_add, nI_add]
        have ha' : f_X7_at (0, m.2.1, m.2.2.1, m.2.2.2.1, m.2.2.2.2.1, m.2.2.2.2.2) (nI (x + k % 3)) (nI (y + k / 3)) = some (nI (ccM w h x y k)) := ha
        rw [ha', Option.bind_some]
        unfold f_X6_plant
        rw [if_neg (l_out q0 (by decide)), l_toN (by omega), Option.bind_some, Option.bind_some]
        have hs : plM w h x y p st k = (upd st.1 (ccM w h x y k) 0, st.2 ||| ob (ccM w h x y k)) := if_pos cp
        have := pm_l (rd := rd) hW hp hat nf (k + 1) (upd st.1 (ccM w h x y k) 0, st.2 ||| ob (ccM w h x y k)) s1 s2 s3 (by omega) (by omega)
        rw [fin _ (hs.symm.trans hst)] at this
        exact this
      · rw [if_neg cp, if_pos rfl, Option.bind_some]
        have hs : plM w h x y p st k = st := if_neg cp
        have := pm_l (rd := rd) hW hp hat nf (k + 1) st s1 s2 s3 (by omega) (by omega)
        rw [fin _ (hs.symm.trans hst)] at this
        exact this
theorem p4_yes {m : MoS} {w h : Nat} (hW : WH w h) {s : StS} {a' : Nat → Int32} {p : Int32} {fg tu : Int32} (hp : ∀ k, k < 9 → f_X7_isOf fg tu (nI (k % 3)) (nI (k / 3)) = some (if pt p k = true then 1 else 0)) {x y : Nat} (hat : ∀ k, k < 9 → pt p k = true → f_X7_at (mz m 0) (nI (x + k % 3)) (nI (y + k / 3)) = some (nI (ccM w h x y k))) : ∀ (nf k : Nat), k ≤ 9 → 9 - k < nf → lp_X7_plant_42 m s a' fg tu (nI x) (nI y) nf (nI k) = some (f_J13_bitCount_95d88 (foldN (plM w h x y p) (a', s.2.2.2) 9).2, mz m 0, (s.1, s.2.1, s.2.2.1, (foldN (plM w h x y p) (a', s.2.2.2) 9).2), (foldN (plM w h x y p) (a', s.2.2.2) 9).1)
  | 0, _, _, hh => absurd hh (Nat.not_lt_zero _)
  | nf + 1, k, hk, hh => by
    rw [lp_X7_plant_42.eq_2]
    by_cases q : 9 ≤ k
    · have h0 : nI 0 = 0 := rfl
      have e := pm_l (rd := true) hW hp hat 100 0 (a', s.2.2.2) s.1 s.2.1 s.2.2.1 (by decide) (by decide)
      rw [h0, foldN_cong (G := plM w h x y p) (fun st i _ => by rw [Nat.zero_add])] at e
      have e' : lp_X7_plant_101 m fg tu (nI x) (nI y) 100 0 a' s.1 s.2.1 s.2.2.1 s.2.2.2 = _ := e
      rw [if_pos (show (9 : Int32) ≤ nI k from (nI_leI (a := 9) (by decide) (by omega)).mpr q), e', Option.bind_some]
    · have d1 : nI k - nI k / 3 * 3 = nI (k % 3) := pk_rem (a := k) (d := 3) (by omega) (by decide) (by decide)
      have d2 : nI k / 3 = nI (k / 3) := pk_div (a := k) (d := 3) (by omega) (by decide) (by decide)
      rw [if_neg (show ¬ (9 : Int32) ≤ nI k from fun z => q ((nI_leI (a := 9) (by decide) (by omega)).mp z)), d1, d2, hp k (by omega), Option.bind_some, nI_1]
      by_cases cp : pt p k = true
      · obtain ⟨hX0, hY0⟩ := cc_in (x := x) (y := y) (k := k) hW
        have q0 : ccM w h x y k < 64 := (xy_64 hW hX0 hY0).2
        have ha' : f_X7_at (0, m.2.1, m.2.2.1, m.2.2.2.1, m.2.2.2.2.1, m.2.2.2.2.2) (nI (x + k % 3)) (nI (y + k / 3)) = some (nI (ccM w h x y k)) := hat k (by omega) cp
        rw [if_pos cp, if_neg (show ¬ (1 : Int32) = 0 by decide), nI_add, nI_add, ha', Option.bind_some, if_neg (show ¬ nI (ccM w h x y k) = -1 from fun z => by
          have h1 : ¬ nI (ccM w h x y k) < 0 := nI_pos (by omega)
          rw [z] at h1
          exact h1 (by decide))]
        exact p4_yes hW hp hat nf (k + 1) (by omega) (by omega)
      · rw [if_neg cp, if_pos rfl]
        exact p4_yes hW hp hat nf (k + 1) (by omega) (by omega)
theorem p4_no {m : MoS} {w h : Nat} (hW : WH w h) (hM : MOK m w h false) {s : StS} {a' : Nat → Int32} {p : Int32} {fg tu : Int32} (hp : ∀ k, k < 9 → f_X7_isOf fg tu (nI (k % 3)) (nI (k / 3)) = some (if pt p k = true then 1 else 0)) {x y : Nat} (hx : x < w) (hy : y < h) : ∀ (nf k : Nat), 9 - k < nf → (∃ i, k ≤ i ∧ i < 9 ∧ pt p i = true ∧ ¬ (x + i % 3 < w ∧ y + i / 3 < h)) → lp_X7_plant_42 m s a' fg tu (nI x) (nI y) nf (nI k) = some (0, mz m 2, s, a')
  | 0, _, hh, _ => absurd hh (Nat.not_lt_zero _)
  | nf + 1, k, hh, ⟨i, i1, i2, i3, i4⟩ => by
    have w8 := hW.2.1
    have h8 := hW.2.2.2
    rw [lp_X7_plant_42.eq_2]
    have d1 : nI k - nI k / 3 * 3 = nI (k % 3) := pk_rem (a := k) (d := 3) (by omega) (by decide) (by decide)
    have d2 : nI k / 3 = nI (k / 3) := pk_div (a := k) (d := 3) (by omega) (by decide) (by decide)
    rw [if_neg (show ¬ (9 : Int32) ≤ nI k from fun z => by
      have := (nI_leI (a := 9) (by decide) (by omega)).mp z
      omega), d1, d2, hp k (by omega), Option.bind_some, nI_1]
    by_cases cp : pt p k = true
    · have ha : f_X7_at (mz m 0) (nI (x + k % 3)) (nI (y + k / 3)) = _ := atP hW (m := mz m 0) hM (X := x + k % 3) (Y := y + k / 3) (by omega) (by omega)
      have ha' : f_X7_at (0, m.2.1, m.2.2.1, m.2.2.2.1, m.2.2.2.2.1, m.2.2.2.2.2) (nI (x + k % 3)) (nI (y + k / 3)) = _ := ha
      rw [if_pos cp, if_neg (show ¬ (1 : Int32) = 0 by decide), nI_add, nI_add, ha', Option.bind_some]
      by_cases c : x + k % 3 < w ∧ y + k / 3 < h
      · have q0 : w * ((y + k / 3) % h) + (x + k % 3) % w < 64 := by
          obtain ⟨hX0, hY0⟩ := cc_in (x := x) (y := y) (k := k) hW
          exact (xy_64 hW hX0 hY0).2
        rw [if_pos (Or.inr c), if_neg (show ¬ nI (w * ((y + k / 3) % h) + (x + k % 3) % w) = -1 from fun z => by
          have h1 : ¬ nI (w * ((y + k / 3) % h) + (x + k % 3) % w) < 0 := nI_pos (by omega)
          rw [z] at h1
          exact h1 (by decide))]
        refine p4_no hW hM hp hx hy nf (k + 1) (by omega) ⟨i, ?_, i2, i3, i4⟩
        rcases Nat.lt_or_ge k i with z | z
        · exact z
        · obtain rfl : i = k := by omega
          exact absurd c i4
      · rw [if_neg (show ¬ (false = true ∨ (x + k % 3 < w ∧ y + k / 3 < h)) from fun q => q.elim (fun e => nomatch e) c), if_pos rfl]
        rfl
    · rw [if_neg cp, if_pos rfl]
      refine p4_no hW hM hp hx hy nf (k + 1) (by omega) ⟨i, ?_, i2, i3, i4⟩
      rcases Nat.lt_or_ge k i with z | z
      · exact z
      · obtain rfl : i = k := by omega
        exact absurd i3 cp
/-- whether it fits -/
def okk (w h x y : Nat) (p : Int32) (k : Nat) : Bool := !pt p k || decide (x + k % 3 < w ∧ y + k / 3 < h)
theorem fit_st {g : GrS} {w h : Nat} {rd : Bool} (hW : WH w h) (hG : GOK g w h rd) {x y : Nat} (hx : x < w) (hy : y < h) (p : Int32) {j i : Nat} (hj : j < 3) (hi : i < 3) (nf : Nat) : lp_X1_fits_12 g p (nI x) (nI y) (nI j) (nf + 1) (nI i) = if okk w h x y p (3 * j + i) = true then lp_X1_fits_12 g p (nI x) (nI y) (nI j) nf (nI (i + 1)) else some (.inr 0) := by
  have w8 := hW.2.1
  have h8 := hW.2.2.2
  rw [lp_X1_fits_12.eq_2, if_neg (show ¬ (3 : Int32) ≤ nI i from fun z => by
    have := (nI_leI (a := 3) (by decide) (by omega)).mp z
    omega), nI_1]
  unfold okk pt
  rw [show (3 * j + i) % 3 = i by omega, show (3 * j + i) / 3 = j by omega]
  by_cases c0 : f_X1_has p (nI i) (nI j) = 0
  · rw [if_pos c0, decide_eq_false (fun z => z c0), if_pos (show (!false || decide (x + i < w ∧ y + j < h)) = true from rfl)]
  · rw [if_neg c0, decide_eq_true c0, nI_add, nI_add]
    by_cases c : x + i < w ∧ y + j < h
    · rw [if_neg (fun z => (hasN hW hG (by omega) (by omega)).mp z c), decide_eq_true c, if_pos (show (!true || true) = true from rfl)]
    · rw [if_pos ((hasN hW hG (by omega) (by omega)).mpr c), decide_eq_false c, if_neg (by decide)]
theorem fit_end {g : GrS} {w h : Nat} {x y : Nat} (p : Int32) {j : Nat} (nf : Nat) : lp_X1_fits_12 g p (nI x) (nI y) (nI j) (nf + 1) (nI 3) = some (.inl ()) := by
  rw [lp_X1_fits_12.eq_2, if_pos (by decide)]
theorem fit_i {g : GrS} {w h : Nat} {rd : Bool} (hW : WH w h) (hG : GOK g w h rd) {x y : Nat} (hx : x < w) (hy : y < h) (p : Int32) {j : Nat} (hj : j < 3) : lp_X1_fits_12 g p (nI x) (nI y) (nI j) 100 0 = if (okk w h x y p (3 * j) = true ∧ okk w h x y p (3 * j + 1) = true ∧ okk w h x y p (3 * j + 2) = true) then some (.inl ()) else some (.inr 0) := by
  have h0 : (0 : Int32) = nI 0 := rfl
  rw [h0, fit_st hW hG hx hy p hj (by decide) 99, Nat.add_zero]
  by_cases c0 : okk w h x y p (3 * j) = true
  · rw [if_pos c0, fit_st hW hG hx hy p hj (by decide) 98]
    by_cases c1 : okk w h x y p (3 * j + 1) = true
    · rw [if_pos c1, fit_st hW hG hx hy p hj (by decide) 97]
      by_cases c2 : okk w h x y p (3 * j + 2) = true
      · rw [if_pos c2, if_pos ⟨c0, c1, c2⟩]
        exact fit_end (w := w) (h := h) p 96
      · rw [if_neg c2, if_neg (fun z => c2 z.2.2), h0]
    · rw [if_neg c1, if_neg (fun z => c1 z.2.1), h0]
  · rw [if_neg c0, if_neg (fun z => c0 z.1), h0]
theorem fit_ok {g : GrS} {w h : Nat} {rd : Bool} (hW : WH w h) (hG : GOK g w h rd) {x y : Nat} (hx : x < w) (hy : y < h) (p : Int32) : (f_X1_fits g p (nI x) (nI y) = some 1 ∧ ∀ k, k < 9 → okk w h x y p k = true) ∨ (f_X1_fits g p (nI x) (nI y) = some 0 ∧ ¬ ∀ k, k < 9 → okk w h x y p k = true) := by
  unfold f_X1_fits
  have h0 : (0 : Int32) = nI 0 := rfl
  have st : ∀ j, j < 3 → ∀ nf, lp_X1_fits_3 g p (nI x) (nI y) (nf + 1) (nI j) = if (okk w h x y p (3 * j) = true ∧ okk w h x y p (3 * j + 1) = true ∧ okk w h x y p (3 * j + 2) = true) then lp_X1_fits_3 g p (nI x) (nI y) nf (nI (j + 1)) else some 0 := by
    intro j hj nf
    rw [lp_X1_fits_3.eq_2, if_neg (show ¬ (3 : Int32) ≤ nI j from fun z => by
      have := (nI_leI (a := 3) (by decide) (by omega)).mp z
      omega), fit_i hW hG hx hy p hj, nI_1]
    by_cases c : (okk w h x y p (3 * j) = true ∧ okk w h x y p (3 * j + 1) = true ∧ okk w h x y p (3 * j + 2) = true)
    · rw [if_pos c, if_pos c]; rfl
    · rw [if_neg c, if_neg c]; rfl
  rw [h0, st 0 (by decide) 99]
  by_cases c0 : (okk w h x y p (3 * 0) = true ∧ okk w h x y p (3 * 0 + 1) = true ∧ okk w h x y p (3 * 0 + 2) = true)
  · rw [if_pos c0, st 1 (by decide) 98]
    by_cases c1 : (okk w h x y p (3 * 1) = true ∧ okk w h x y p (3 * 1 + 1) = true ∧ okk w h x y p (3 * 1 + 2) = true)
    · rw [if_pos c1, st 2 (by decide) 97]
      by_cases c2 : (okk w h x y p (3 * 2) = true ∧ okk w h x y p (3 * 2 + 1) = true ∧ okk w h x y p (3 * 2 + 2) = true)
      · rw [if_pos c2]
        refine Or.inl ⟨?_, fun k hk => by
          match k, hk with
          | 0, _ => exact c0.1
          | 1, _ => exact c0.2.1
          | 2, _ => exact c0.2.2
          | 3, _ => exact c1.1
          | 4, _ => exact c1.2.1
          | 5, _ => exact c1.2.2
          | 6, _ => exact c2.1
          | 7, _ => exact c2.2.1
          | 8, _ => exact c2.2.2⟩
        show lp_X1_fits_3 g p (nI x) (nI y) (96 + 1) (nI 3) = some 1
        rw [lp_X1_fits_3.eq_2, if_pos (by decide)]
      · rw [if_neg c2]; exact Or.inr ⟨rfl, fun z => c2 ⟨z _ (by decide), z _ (by decide), z _ (by decide)⟩⟩
    · rw [if_neg c1]; exact Or.inr ⟨rfl, fun z => c1 ⟨z _ (by decide), z _ (by decide), z _ (by decide)⟩⟩
  · rw [if_neg c0]; exact Or.inr ⟨rfl, fun z => c0 ⟨z _ (by decide), z _ (by decide), z _ (by decide)⟩⟩
theorem qu_ok {n : Int32} (h : ¬ f_X7_isIn n 0 3 = 0) : ∃ k, k < 4 ∧ n = nI k := by
  obtain ⟨h1, h2⟩ := (isIn_ok n 0 3).2.mp h
  obtain ⟨k, hk, rfl⟩ := nI_of h1
  refine ⟨k, ?_, rfl⟩
  rcases Nat.lt_or_ge 3 k with q | q
  · exact absurd ((nI_ltI (a := 3) (by decide) hk).mpr q) h2
  · omega
theorem o_plant {w h : Nat} {rd : Bool} {g : GrS} {r : RuS} {d : GaS} {a : Nat → Int32} {m : MoS} {fR fB : Nat → Int64} {s : StS} {a' : Nat → Int32} (H : WR w h rd g r d a m fR fB s a') (fg tu cx cy : Int32) : (∃ v d' a1 m' s' a1', f_X5_plant g d a fg tu cx cy = some (.inl (v, d', a1)) ∧ f_X7_plant m s a' fg tu cx cy = some (v, m', s', a1') ∧ m'.1 = 0 ∧ WR w h rd g r d' a1 m' fR fB s' a1') ∨ (f_X5_plant g d a fg tu cx cy = some (.inr "java/lang/IndexOutOfBoundsException") ∧ f_X7_plant m s a' fg tu cx cy = some (0, mz m 1, s, a')) ∨ (f_X5_plant g d a fg tu cx cy = some (.inr "java/lang/IllegalStateException") ∧ f_X7_plant m s a' fg tu cx cy = some (0, mz m 2, s, a')) := by
  obtain ⟨hW, hG, hM, hr, hT, R⟩ := H
  have i1 : ∀ n, f_X5_isQuarter n = f_X7_isIn n 0 3 := fun _ => rfl
  unfold f_X5_plant f_X7_plant
  rw [i1, i1]
  by_cases c1 : f_X7_isIn fg 0 3 = 0
  · right; left
    rw [if_pos c1, if_pos c1]
    exact ⟨rfl, rfl⟩
  rw [if_neg c1, if_neg c1]
  by_cases c2 : f_X7_isIn tu 0 3 = 0
  · right; left
    rw [if_pos c2, if_pos c2]
    exact ⟨rfl, rfl⟩
  rw [if_neg c2, if_neg c2]
  rcases cells_eq hW hG (m := mz m 0) hM cx cy with ⟨c3, c4⟩ | ⟨c3, c4, x, y, hx, hy, rfl, rfl⟩
  · right; left
    rw [if_pos c3, if_pos c4]
    exact ⟨rfl, rfl⟩
  rw [if_neg c3, if_neg c4]
  obtain ⟨f, hf, rfl⟩ := qu_ok c1
  obtain ⟨t, ht, rfl⟩ := qu_ok c2
  obtain ⟨p, p1, p2⟩ := pl_ok hf ht
  have w8 := hW.2.1
  have h8 := hW.2.2.2
  have h0 : (0 : Int32) = nI 0 := rfl
  obtain ⟨v, y1, y2⟩ := py_ok d a (foldN (plF w h x y p) 0 9)
  obtain ⟨r1, r2⟩ := put_ok hW (x := x) (y := y) (p := p) R 9
  have good : (∀ k, k < 9 → pt p k = true → rd = true ∨ (x + k % 3 < w ∧ y + k / 3 < h)) → ∃ m' s' a1', lp_X7_plant_42 m s a' (nI f) (nI t) (nI x) (nI y) 100 0 = some (f_J13_bitCount_95d88 (d.1 ||| foldN (plF w h x y p) 0 9), m', s', a1') ∧ m'.1 = 0 ∧ WR w h rd g r (d.1 ||| foldN (plF w h x y p) 0 9, d.2.1, d.2.2.1, d.2.2.2) v m' fR fB s' a1' := by
    intro hin
    refine ⟨mz m 0, (s.1, s.2.1, s.2.2.1, (foldN (plM w h x y p) (a', s.2.2.2) 9).2), (foldN (plM w h x y p) (a', s.2.2.2) 9).1, ?_, rfl, hW, hG, hM, hr, hT, r1, R.2.1, R.2.2.1, R.2.2.2.1, fun X Y hX hY hb => ?_⟩
    · have hat : ∀ k, k < 9 → pt p k = true → f_X7_at (mz m 0) (nI (x + k % 3)) (nI (y + k / 3)) = some (nI (ccM w h x y k)) := fun k hk hp => by
        rw [atP hW (m := mz m 0) hM (X := x + k % 3) (Y := y + k / 3) (by omega) (by omega), if_pos (hin k hk hp)]
        rfl
      have e : lp_X7_plant_42 m s a' (nI f) (nI t) (nI x) (nI y) 100 (nI 0) = _ := p4_yes (s := s) (a' := a') hW p2 (x := x) (y := y) hat 100 0 (by decide) (by decide)
      rw [show nI 0 = 0 from rfl] at e
      rw [RelB_bc hW r1, e]
    · rw [y2]
      exact r2 X Y hX hY hb
  rw [p1, Option.bind_some, show f_X3_isRound g = bI rd by unfold f_X3_isRound; rw [hG.2.2.1], cells_ok hW hG hx hy p, Option.bind_some, y1, Option.bind_some]
  cases rd with
  | true =>
    left
    obtain ⟨m', s', a1', e1, e2, e3⟩ := good (fun _ _ _ => Or.inl rfl)
    rw [if_neg bI_t]
    exact ⟨_, _, _, m', s', a1', rfl, e1, e2, e3⟩
  | false =>
    rw [if_pos bI_f]
    rcases fit_ok hW hG hx hy p with ⟨fe, c⟩ | ⟨fe, c⟩
    · left
      rw [fe, Option.bind_some]
      obtain ⟨m', s', a1', e1, e2, e3⟩ := good (fun k hk hp => by
        have := c k hk
        unfold okk at this
        rw [hp] at this
        exact Or.inr (of_decide_eq_true this))
      rw [if_neg (by decide)]
      exact ⟨_, _, _, m', s', a1', rfl, e1, e2, e3⟩
    · right; right
      rw [fe, Option.bind_some, if_pos rfl]
      refine ⟨rfl, ?_⟩
      have ex : ∃ i, 0 ≤ i ∧ i < 9 ∧ pt p i = true ∧ ¬ (x + i % 3 < w ∧ y + i / 3 < h) := by
        apply Classical.byContradiction
        intro q
        refine c (fun k hk => ?_)
        unfold okk
        by_cases cp : pt p k = true
        · by_cases ci : x + k % 3 < w ∧ y + k / 3 < h
          · rw [decide_eq_true ci, Bool.or_true]
          · exact absurd ⟨k, Nat.zero_le _, hk, cp, ci⟩ q
        · rw [show pt p k = false by simpa using cp]; rfl
      have e : lp_X7_plant_42 m s a' (nI f) (nI t) (nI x) (nI y) 100 (nI 0) = _ := p4_no (s := s) (a' := a') hW hM p2 hx hy 100 0 (by decide) ex
      rw [show nI 0 = 0 from rfl] at e
      rw [e]
