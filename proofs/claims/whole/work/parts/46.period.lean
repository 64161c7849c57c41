/-! ===== the years that come: period ===== -/
def sqC (g : GrS) (r : RuS) (c : Int64) : Nat → Int64
  | 0 => c
  | j + 1 => (f_X4_behindYears r g (sqC g r c j) 1).getD 0
def sqM (m : MoS) (fR : Nat → Int64) (hs : Int64) : Nat → Int64
  | 0 => hs
  | j + 1 => (f_X7_next m fR (sqM m fR hs j)).getD 0
theorem sq_ok {g : GrS} {m : MoS} {r : RuS} {w h : Nat} {rd : Bool} (hW : WH w h) (hG : GOK g w h rd) (hM : MOK m w h rd) (hr : m.2.2.2.2.1 = r.1 ∧ m.2.2.2.2.2 = r.2) {fR fB : Nat → Int64} (hT : TOK w h rd fR fB) {c hs : Int64} (a : RelB w h c hs) : ∀ j, RelB w h (sqC g r c j) (sqM m fR hs j) ∧ f_X4_behindYears r g (sqC g r c j) 1 = some (sqC g r c (j + 1)) ∧ f_X7_next m fR (sqM m fR hs j) = some (sqM m fR hs (j + 1)) := by
  have st : ∀ j, RelB w h (sqC g r c j) (sqM m fR hs j) → (RelB w h (sqC g r c (j + 1)) (sqM m fR hs (j + 1)) ∧ f_X4_behindYears r g (sqC g r c j) 1 = some (sqC g r c (j + 1)) ∧ f_X7_next m fR (sqM m fR hs j) = some (sqM m fR hs (j + 1))) := by
    intro j hj
    obtain ⟨c', n, e1, e2, e3⟩ := beh1_ok hW hG hM hr hT hj
    have f1 : sqC g r c (j + 1) = c' := by
      show (f_X4_behindYears r g (sqC g r c j) 1).getD 0 = c'
      rw [e1]; rfl
    have f2 : sqM m fR hs (j + 1) = n := by
      show (f_X7_next m fR (sqM m fR hs j)).getD 0 = n
      rw [e2]; rfl
    rw [f1, f2]
    exact ⟨e3, e1, e2⟩
  have rel : ∀ j, RelB w h (sqC g r c j) (sqM m fR hs j) := by
    intro j
    induction j with
    | zero => exact a
    | succ j ih => exact (st j ih).1
  exact fun j => ⟨rel j, (st j (rel j)).2⟩
theorem fc_l {g : GrS} {r : RuS} {c : Int64} (hq : ∀ j, f_X4_behindYears r g (sqC g r c j) 1 = some (sqC g r c (j + 1))) : ∀ (nf k : Nat) (co : Nat → Int64), k ≤ 61 → 61 - k < nf → ∃ v, lp_X5_foreseeComing_10 g r nf (sqC g r c k) (nI k) co = some v ∧ ∀ j, v j = if k ≤ j ∧ j < 61 then sqC g r c j else co j
  | 0, _, _, _, hh => absurd hh (Nat.not_lt_zero _)
  | nf + 1, k, co, hk, hh => by
    rw [lp_X5_foreseeComing_10.eq_2]
    by_cases q : 61 ≤ k
    · rw [if_pos (show (61 : Int32) ≤ nI k from (nI_leI (a := 61) (by decide) (by omega)).mpr q)]
      exact ⟨co, rfl, fun j => by rw [if_neg (by omega)]⟩
    · rw [if_neg (show ¬ (61 : Int32) ≤ nI k from fun z => q ((nI_leI (a := 61) (by decide) (by omega)).mp z)), if_neg (l_out (by omega) (by decide)), hq k, Option.bind_some, l_toN (by omega), nI_1]
      obtain ⟨v, e1, e2⟩ := fc_l hq nf (k + 1) (vp_updL co k (sqC g r c k)) (by omega) (by omega)
      refine ⟨v, e1, fun j => ?_⟩
      rw [e2]
      unfold vp_updL
      by_cases e : j = k
      · rw [e, if_neg (by omega), if_pos rfl, if_pos (by omega)]
      · by_cases f : k ≤ j ∧ j < 61
        · rw [if_pos f, if_pos (by omega)]
        · rw [if_neg f, if_neg (by omega), if_neg e]
theorem lk_l {m : MoS} {fR : Nat → Int64} {hs : Int64} (hq : ∀ j, f_X7_next m fR (sqM m fR hs j) = some (sqM m fR hs (j + 1))) {Y : Nat} (hY : Y ≤ 60) : ∀ (nf k : Nat) (co : Nat → Int64), 1 ≤ k → k ≤ Y + 1 → Y + 1 - k < nf → (∀ j, j < k → co j = sqM m fR hs j) → ∃ v, lp_X7_look_15 m fR (nI Y) nf (nI k) co = some v ∧ ∀ j, j ≤ Y → v j = sqM m fR hs j
  | 0, _, _, _, _, hh, _ => absurd hh (Nat.not_lt_zero _)
  | nf + 1, k, co, h1, hk, hh, hc => by
    rw [lp_X7_look_15.eq_2]
    by_cases q : Y < k
    · rw [if_pos ((nI_ltI (by omega) (by omega)).mpr q)]
      exact ⟨co, rfl, fun j hj => hc j (by omega)⟩
    · have e0 : nI k - 1 = nI (k - 1) := pk_sub (a := k) (b := 1) (by omega)
      rw [if_neg (fun z => q ((nI_ltI (by omega) (by omega)).mp z)), e0, if_neg (l_out (by omega) (by decide)), l_toN (by omega), hc (k - 1) (by omega), hq (k - 1), Option.bind_some, if_neg (l_out (by omega) (by decide)), l_toN (by omega), nI_1, show k - 1 + 1 = k by omega]
      refine lk_l hq hY nf (k + 1) _ (by omega) (by omega) (by omega) (fun j hj => ?_)
      unfold vp_updL
      by_cases e : j = k
      · rw [e, if_pos rfl]
      · rw [if_neg e, hc j (by omega)]
theorem foc_ok {g : GrS} {r : RuS} {d : GaS} (hq : ∀ j, f_X4_behindYears r g (sqC g r d.1 j) 1 = some (sqC g r d.1 (j + 1))) (co : Nat → Int64) : ∃ v, f_X5_foreseeComing g r d co = some v ∧ ∀ j, j ≤ 60 → v j = sqC g r d.1 j := by
  obtain ⟨v, e1, e2⟩ := fc_l hq 100 0 co (by decide) (by decide)
  refine ⟨v, ?_, fun j hj => by rw [e2, if_pos (by omega)]⟩
  unfold f_X5_foreseeComing
  have e1' : lp_X5_foreseeComing_10 g r 100 (f_X2_hedges d) 0 co = some v := e1
  rw [e1', Option.bind_some]
theorem loo_ok {m : MoS} {fR : Nat → Int64} {s : StS} (hq : ∀ j, f_X7_next m fR (sqM m fR s.2.2.2 j) = some (sqM m fR s.2.2.2 (j + 1))) {Y : Nat} (hY : Y ≤ 60) (fD : Nat → Int64) : ∃ v, f_X7_look m fR s fD (nI Y) = some v ∧ ∀ j, j ≤ Y → v j = sqM m fR s.2.2.2 j := by
  obtain ⟨v, e1, e2⟩ := lk_l hq hY 100 1 (vp_updL fD 0 s.2.2.2) (by decide) (by omega) (by omega) (fun j hj => by
    unfold vp_updL
    rw [if_pos (by omega), show j = 0 by omega]
    rfl)
  refine ⟨v, ?_, e2⟩
  unfold f_X7_look
  have e1' : lp_X7_look_15 m fR (nI Y) 100 1 (vp_updL fD (0 : Int32).toNatClampNeg s.2.2.2) = some v := e1
  rw [if_neg (show ¬ ((0 : Int32) < 0 ∨ 61 ≤ (0 : Int32).toNatClampNeg) from by decide), e1', Option.bind_some]
theorem pd_i {m : MoS} {wh : Int32} {v u : Nat → Int64} (hvu : ∀ i j, i ≤ 60 → j ≤ 60 → (v i = v j ↔ u i = u j)) {i : Nat} (hi : i ≤ 60) : ∀ (nf j : Nat), j ≤ 61 → 61 - j < nf → (lp_X5_period_38 wh v (nI i) nf (nI j) = some (.inl ()) ∧ lp_X7_period_38 m wh u (nI i) nf (nI j) = some (.inl ())) ∨ ∃ z, lp_X5_period_38 wh v (nI i) nf (nI j) = some (.inr (.inl (z, v))) ∧ lp_X7_period_38 m wh u (nI i) nf (nI j) = some (.inr (z, mz m 0, u))
  | 0, _, _, hh => absurd hh (Nat.not_lt_zero _)
  | nf + 1, j, hj, hh => by
    rw [lp_X5_period_38.eq_2, lp_X7_period_38.eq_2]
    by_cases q : 61 ≤ j
    · rw [if_pos (show (61 : Int32) ≤ nI j from (nI_leI (a := 61) (by decide) (by omega)).mpr q), if_pos (show (60 : Int32) < nI j from (nI_ltI (a := 60) (by decide) (by omega)).mpr q)]
      exact Or.inl ⟨rfl, rfl⟩
    · rw [if_neg (show ¬ (61 : Int32) ≤ nI j from fun z => q ((nI_leI (a := 61) (by decide) (by omega)).mp z)), if_neg (show ¬ (60 : Int32) < nI j from fun z => q ((nI_ltI (a := 60) (by decide) (by omega)).mp z)), if_neg (l_out (by omega) (by decide)), if_neg (l_out (by omega) (by decide)), if_neg (l_out (by omega) (by decide)), if_neg (l_out (by omega) (by decide)), l_toN (by omega), l_toN (by omega), nI_1]
      by_cases c : v i = v j
      · rw [if_pos c, if_pos ((hvu i j hi (by omega)).mp c)]
        right
        by_cases c0 : wh = 0
        · rw [if_pos c0, if_pos c0]
          exact ⟨_, rfl, rfl⟩
        · rw [if_neg c0, if_neg c0]
          exact ⟨_, rfl, rfl⟩
      · rw [if_neg c, if_neg (fun z => c ((hvu i j hi (by omega)).mpr z))]
        exact pd_i hvu hi nf (j + 1) (by omega) (by omega)
theorem pd_o {m : MoS} {wh : Int32} {v u : Nat → Int64} (hvu : ∀ i j, i ≤ 60 → j ≤ 60 → (v i = v j ↔ u i = u j)) : ∀ (nf nf' i : Nat), i ≤ 60 → 61 - i < nf → 60 - i < nf' → ∃ z, lp_X5_period_25 wh v nf (nI i) = some (.inl (z, v)) ∧ lp_X7_period_28 m wh u nf' (nI i) = some (z, mz m 0, u)
  | 0, _, _, _, hh, _ => absurd hh (Nat.not_lt_zero _)
  | _ + 1, 0, _, _, _, hh => absurd hh (Nat.not_lt_zero _)
  | nf + 1, nf' + 1, i, hi, hh, hh' => by
    rw [lp_X5_period_25.eq_2, lp_X7_period_28.eq_2, if_neg (show ¬ (61 : Int32) ≤ nI i from fun z => by
      have := (nI_leI (a := 61) (by decide) (by omega)).mp z
      omega)]
    by_cases q : 60 ≤ i
    · obtain rfl : i = 60 := by omega
      obtain ⟨nf, rfl⟩ : ∃ z, nf = z + 1 := ⟨nf - 1, by omega⟩
      rw [if_pos (show (60 : Int32) ≤ nI 60 by decide)]
      refine ⟨-1, ?_, rfl⟩
      have e : lp_X5_period_38 wh v (nI 60) 100 (nI 60 + 1) = some (.inl ()) := by
        rw [lp_X5_period_38.eq_2, if_pos (by decide)]
      rw [e]
      show lp_X5_period_25 wh v (nf + 1) (nI 60 + 1) = _
      rw [lp_X5_period_25.eq_2, if_pos (by decide)]
    · rw [if_neg (show ¬ (60 : Int32) ≤ nI i from fun z => q ((nI_leI (a := 60) (by decide) (by omega)).mp z)), nI_1]
      rcases pd_i (m := m) (wh := wh) hvu hi 100 (i + 1) (by omega) (by omega) with ⟨e1, e2⟩ | ⟨z, e1, e2⟩
      · rw [e1, e2]
        exact pd_o hvu nf nf' (i + 1) (by omega) (by omega) (by omega)
      · rw [e1, e2]
        exact ⟨z, rfl, rfl⟩
theorem o_period {w h : Nat} {rd : Bool} {g : GrS} {r : RuS} {d : GaS} {a : Nat → Int32} {m : MoS} {fR fB : Nat → Int64} {s : StS} {a' : Nat → Int32} (H : WR w h rd g r d a m fR fB s a') (co fD : Nat → Int64) (wh : Int32) : (∃ z v u, f_X5_period g r d co wh = some (.inl (z, v)) ∧ f_X7_period m fR s fD wh = some (z, mz m 0, u)) ∨ (f_X5_period g r d co wh = some (.inr "java/lang/IndexOutOfBoundsException") ∧ f_X7_period m fR s fD wh = some (0, mz m 1, fD)) := by
  obtain ⟨hW, hG, hM, hr, hT, R⟩ := H
  unfold f_X5_period f_X7_period
  by_cases c1 : wh < 0
  · right
    rw [if_pos c1, if_pos (isIn_f (Or.inl c1))]
    exact ⟨rfl, rfl⟩
  rw [if_neg c1]
  by_cases c2 : wh ≤ 1
  · left
    rw [if_pos c2, if_neg (isIn_t c1 (fun z => nlt_le.mpr c2 z))]
    have sq := sq_ok hW hG (m := mz m 0) hM hr hT R.1
    obtain ⟨v, v1, v2⟩ := foc_ok (g := g) (r := r) (d := d) (fun j => (sq j).2.1) co
    obtain ⟨u, u1, u2⟩ := loo_ok (m := mz m 0) (fR := fR) (s := s) (fun j => (sq j).2.2) (Y := 60) (by decide) fD
    have u1' : f_X7_look (mz m 0) fR s fD 60 = some u := u1
    rw [v1, u1', Option.bind_some, Option.bind_some]
    obtain ⟨z, e1, e2⟩ := pd_o (m := m) (wh := wh) (v := v) (u := u) (fun i j hi hj => by
      rw [v2 i hi, v2 j hj, u2 i hi, u2 j hj]
      exact RelB_inj hW (sq i).1 (sq j).1) 100 100 0 (by decide) (by decide) (by decide)
    exact ⟨z, v, u, e1, e2⟩
  · right
    rw [if_neg c2, if_pos (isIn_f (Or.inr (Classical.byContradiction fun z => c2 (nlt_le.mp z))))]
    exact ⟨rfl, rfl⟩
