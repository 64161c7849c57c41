/-! ===== the calls, one by one: what both answer ===== -/
abbrev mz (m : MoS) (n : Int32) : MoS := (n, m.2.1, m.2.2.1, m.2.2.2.1, m.2.2.2.2.1, m.2.2.2.2.2)
def WR (w h : Nat) (rd : Bool) (g : GrS) (r : RuS) (d : GaS) (a : Nat → Int32) (m : MoS) (fR fB : Nat → Int64) (s : StS) (a' : Nat → Int32) : Prop := WH w h ∧ GOK g w h rd ∧ MOK m w h rd ∧ (m.2.2.2.2.1 = r.1 ∧ m.2.2.2.2.2 = r.2) ∧ TOK w h rd fR fB ∧ RelG w h d a s a'
theorem ar_tab : ∀ a b d e : Bool, ((((if a = true then (1 : Int32) else 0) + (if b = true then 2 else 0)) + (if d = true then 4 else 0)) + (if e = true then 8 else 0)) = nI (a.toNat + 2 * b.toNat + 4 * d.toNat + 8 * e.toNat) := by decide
theorem worth_b (x : Int64) {k : Nat} (hk : k < 64) (v : Int32) : f_X0_worth (x &&& ob k) v = if cb x k = true then v else 0 := by
  unfold f_X0_worth
  by_cases c : cb x k = true
  · rw [if_pos c, if_neg (fun z => by rw [(and_ob hk).mp z] at c; exact nomatch c)]
  · rw [if_neg c, if_pos ((and_ob hk).mpr (by simpa using c))]
theorem around_ok (q : CrS) {k : Nat} (hk : k < 64) : f_X0_around q (ob k) = nI (vq q k) := by
  unfold f_X0_around vq
  rw [worth_b _ hk, worth_b _ hk, worth_b _ hk, worth_b _ hk]
  exact ar_tab _ _ _ _
theorem hh_ok (d : GaS) {k : Nat} (hk : k < 64) : f_X2_hasHedge d (ob k) = if cb d.1 k = true then 1 else 0 := by
  unfold f_X2_hasHedge
  by_cases c : cb d.1 k = true
  · rw [if_pos c, if_neg (fun z => by rw [(and_ob hk).mp z] at c; exact nomatch c)]
  · rw [if_neg c, if_pos ((and_ob hk).mpr (by simpa using c))]
theorem jshl_ob (k : Nat) : jshl 1 (nI k) = ob k := rfl
theorem fact_ok {w h : Nat} {rd : Bool} {g : GrS} {r : RuS} {d : GaS} {a : Nat → Int32} {m : MoS} {fR fB : Nat → Int64} {s : StS} {a' : Nat → Int32} (H : WR w h rd g r d a m fR fB s a') {x y : Nat} (hx : x < w) (hy : y < h) (wh : Int32) : ∃ v, f_X5_fact g r d a (nI x) (nI y) wh = some v ∧ f_X7_toldOf m fR fB s a' (nI (w * y + x)) wh = some v := by
  obtain ⟨hW, hG, hM, hr, hT, R⟩ := H
  obtain ⟨q1, q2⟩ := xy_64 hW hx hy
  have w8 := hW.2.1
  have hb : cb d.1 (8 * y + x) = cb s.2.2.2 (w * y + x) := R.1.1 x y hx hy
  unfold f_X5_fact f_X7_toldOf
  rw [l_cell, hh_ok d q1, has_ok s q2, hb]
  by_cases c0 : wh = 0
  · rw [if_pos c0, if_pos c0]
    by_cases c : cb s.2.2.2 (w * y + x) = true
    · exact ⟨1, by rw [if_pos c, if_neg (by decide)], by rw [if_pos c, if_neg (by decide)]⟩
    · exact ⟨0, by rw [if_neg c, if_pos rfl], by rw [if_neg c, if_pos rfl]⟩
  rw [if_neg c0, if_neg c0]
  by_cases c1 : wh = 1
  · rw [if_pos c1, if_pos c1, if_neg (l_out q2 (by decide)), l_toN (by omega), (hT x y hx hy).2, bc_pc, pc_B8 hW s.2.2.2 hx hy]
    unfold f_X4_neighbours
    rw [around_ok _ q1, show f_X2_hedges d = d.1 from rfl, look_c hW hG R.1.2.1 hx hy]
    refine ⟨_, rfl, ?_⟩
    rw [cnt8_cong hW (f := BM w s.2.2.2) (f' := BC d.1) (fun x y hx hy => (R.1.1 x y hx hy).symm) hx hy]
  rw [if_neg c1, if_neg c1]
  by_cases c2 : wh = 2
  · rw [if_pos c2, if_pos c2]
    by_cases c : cb s.2.2.2 (w * y + x) = true
    · rw [if_pos c, if_neg (by decide), if_neg (by decide), if_neg (l_out q2 (by decide)), l_toN (by omega)]
      refine ⟨a (8 * y + x), ?_, ?_⟩
      · unfold f_X2_age
        rw [show (8 : Int32) * nI y + nI x = nI (8 * y + x) by rw [show (8 : Int32) = nI 8 from rfl, pk_mul, nI_add], if_neg (nI_pos (by omega)), if_neg (fun z => by
          have := (nI_leI (a := 64) (by decide) (by omega)).mp z
          omega), if_neg (l_out q1 (by decide)), l_toN (by omega)]
        rfl
      · rw [R.2.2.2.2 x y hx hy (hb.trans c)]
    · rw [if_neg c, if_pos rfl]
      exact ⟨-1, rfl, rfl⟩
  rw [if_neg c2, if_neg c2]
  by_cases c3 : wh = 3
  · rw [if_pos c3, if_pos c3]
    obtain ⟨rc, rm, e1, e2, e3, -⟩ := lawn_ok hW hG hM hT (open_ok hW hG hM (s := s) R.1) (RelB_ob hW hx hy)
    rw [show f_X2_open d g = f_X3_open g d.1 from rfl, e1, e2]
    exact ⟨_, rfl, by rw [Option.bind_some, RelB_bc hW e3]⟩
  rw [if_neg c3, if_neg c3]
  obtain ⟨c', n, e1, e2, e3⟩ := beh1_ok hW hG hM hr hT R.1
  obtain ⟨n', f1, f2, f3⟩ := next_ok hW hM hT s.2.2.2
  obtain rfl : n' = n := Option.some.inj (f1.symm.trans e2)
  rw [show f_X2_hedges d = d.1 from rfl, e1, Option.bind_some, comes_ok hW hT s.2.2.2 hx hy, Option.bind_some, ← f3 x y hx hy, ← e3.1 x y hx hy]
  unfold BC
  by_cases c : cb c' (8 * y + x) = true
  · exact ⟨1, by rw [if_neg (fun z => by rw [(and_ob q1).mp z] at c; exact nomatch c)], by rw [if_pos c, if_neg (by decide)]⟩
  · exact ⟨0, by rw [if_pos ((and_ob q1).mpr (by simpa using c))], by rw [if_neg c, if_pos rfl]⟩
theorem WR.z {w h : Nat} {rd : Bool} {g : GrS} {r : RuS} {d : GaS} {a : Nat → Int32} {m : MoS} {fR fB : Nat → Int64} {s : StS} {a' : Nat → Int32} (H : WR w h rd g r d a m fR fB s a') (n : Int32) : WR w h rd g r d a (mz m n) fR fB s a' := H
theorem isIn_t {v lo hi : Int32} (h1 : ¬ v < lo) (h2 : ¬ hi < v) : ¬ f_X7_isIn v lo hi = 0 := (isIn_ok v lo hi).2.mpr ⟨h1, h2⟩
theorem isIn_f {v lo hi : Int32} (h : v < lo ∨ hi < v) : f_X7_isIn v lo hi = 0 := by
  apply Classical.byContradiction
  intro z
  have := (isIn_ok v lo hi).2.mp z
  rcases h with h | h
  · exact this.1 h
  · exact this.2 h
theorem o_told {w h : Nat} {rd : Bool} {g : GrS} {r : RuS} {d : GaS} {a : Nat → Int32} {m : MoS} {fR fB : Nat → Int64} {s : StS} {a' : Nat → Int32} (H : WR w h rd g r d a m fR fB s a') (cx cy wh : Int32) : (∃ v, f_X5_told g r d a cx cy wh = some (.inl v) ∧ f_X7_told m fR fB s a' cx cy wh = some (v, mz m 0)) ∨ (f_X5_told g r d a cx cy wh = some (.inr "java/lang/IndexOutOfBoundsException") ∧ f_X7_told m fR fB s a' cx cy wh = some (0, mz m 1)) := by
  obtain ⟨hW, hG, hM, hr, hT, R⟩ := H
  unfold f_X5_told f_X7_told
  rcases cells_eq hW hG (m := mz m 0) hM cx cy with ⟨c1, c2⟩ | ⟨c1, c2, x, y, hx, hy, rfl, rfl⟩
  · right
    rw [if_pos c1, if_pos c2]
    exact ⟨rfl, rfl⟩
  rw [if_neg c1, if_neg c2]
  by_cases c3 : wh < 0
  · right
    rw [if_pos c3, if_pos (isIn_f (Or.inl c3))]
    exact ⟨rfl, rfl⟩
  rw [if_neg c3]
  by_cases c4 : wh < 5
  · left
    rw [if_pos c4, if_neg (isIn_t c3 (show ¬ (4 : Int32) < wh from fun z => by
      rw [Int32.lt_iff_toInt_lt] at z c4
      rw [show (4 : Int32).toInt = 4 from rfl] at z
      rw [show (5 : Int32).toInt = 5 from rfl] at c4
      omega)), cellM hM]
    obtain ⟨v, e1, e2⟩ := fact_ok (m := mz m 0) ⟨hW, hG, hM, hr, hT, R⟩ hx hy wh
    exact ⟨v, by rw [e1]; rfl, by rw [e2]; rfl⟩
  · right
    rw [if_neg c4, if_pos (isIn_f (Or.inr (show (4 : Int32) < wh by
      rw [Int32.lt_iff_toInt_lt] at c4 ⊢
      rw [show (5 : Int32).toInt = 5 from rfl] at c4
      rw [show (4 : Int32).toInt = 4 from rfl]
      omega)))]
    exact ⟨rfl, rfl⟩
theorem cnt_ok {w h : Nat} {rd : Bool} {g : GrS} {r : RuS} {d : GaS} {a : Nat → Int32} {m : MoS} {fR fB : Nat → Int64} {s : StS} {a' : Nat → Int32} (H : WR w h rd g r d a m fR fB s a') {k : Nat} (hk : k < 11) : ∃ v, f_X5_counted g r d a (nI k) = some v ∧ f_X7_counted m fR fB s a' (nI k) = some v := by
  obtain ⟨hW, hG, hM, hr, hT, R⟩ := H
  obtain ⟨v, l1, l2, l3, l4⟩ := lawns_ok hW hG hM hr hT R.1
  obtain ⟨o, o1, o2⟩ := old_ok hW hM R
  have hbc := RelB_bc hW R.1
  unfold f_X5_counted f_X7_counted
  rw [l1, l2, l3, o1, o2, l4]
  match k, hk with
  | 0, _ => exact ⟨d.2.1, rfl, by rw [R.2.1]; rfl⟩
  | 1, _ => exact ⟨g.1, rfl, by rw [hG.1, ← hM.1]; rfl⟩
  | 2, _ => exact ⟨g.2.1, rfl, by rw [hG.2.1, ← hM.2.1]; rfl⟩
  | 3, _ => exact ⟨f_J13_bitCount_95d88 d.1, rfl, by rw [hbc]; rfl⟩
  | 4, _ => exact ⟨d.2.2.1, rfl, by rw [R.2.2.1]; rfl⟩
  | 5, _ => exact ⟨d.2.2.2, rfl, by rw [R.2.2.2.1]; rfl⟩
  | 6, _ =>
    refine ⟨if bI rd = 0 then 0 else 1, ?_, ?_⟩
    · show (if f_X3_isRound g = 0 then some (0 : Int32) else some 1) = _
      unfold f_X3_isRound
      rw [hG.2.2.1]
      cases rd <;> rfl
    · show (if bI m.2.2.2.1 = 0 then some (0 : Int32) else some 1) = _
      rw [hM.2.2]
      cases rd <;> rfl
  | 7, _ => exact ⟨v.1, rfl, rfl⟩
  | 8, _ => exact ⟨v.2.1, rfl, rfl⟩
  | 9, _ => exact ⟨v.2.2, rfl, rfl⟩
  | 10, _ => exact ⟨o, rfl, rfl⟩
theorem in_10 {wh : Int32} (h1 : ¬ wh < 0) (h2 : wh < 11) : ∃ k, k < 11 ∧ wh = nI k := by
  obtain ⟨k, hk, rfl⟩ := nI_of h1
  exact ⟨k, (nI_ltI (b := 11) hk (by decide)).mp h2, rfl⟩
theorem o_count {w h : Nat} {rd : Bool} {g : GrS} {r : RuS} {d : GaS} {a : Nat → Int32} {m : MoS} {fR fB : Nat → Int64} {s : StS} {a' : Nat → Int32} (H : WR w h rd g r d a m fR fB s a') (wh : Int32) : (∃ v, f_X5_count g r d a wh = some (.inl v) ∧ f_X7_count m fR fB s a' wh = some (v, mz m 0)) ∨ (f_X5_count g r d a wh = some (.inr "java/lang/IndexOutOfBoundsException") ∧ f_X7_count m fR fB s a' wh = some (0, mz m 1)) := by
  unfold f_X5_count f_X7_count
  by_cases c3 : wh < 0
  · right
    rw [if_pos c3, if_pos (isIn_f (Or.inl c3))]
    exact ⟨rfl, rfl⟩
  rw [if_neg c3]
  by_cases c4 : wh < 11
  · left
    obtain ⟨k, hk, rfl⟩ := in_10 c3 c4
    rw [if_pos c4, if_neg (isIn_t c3 (show ¬ (10 : Int32) < nI k from fun z => by
      have := (nI_ltI (a := 10) (by decide) (by omega)).mp z
      omega))]
    obtain ⟨v, e1, e2⟩ := cnt_ok (m := mz m 0) (H.z 0) hk
    exact ⟨v, by rw [e1]; rfl, by rw [e2]; rfl⟩
  · right
    rw [if_neg c4, if_pos (isIn_f (Or.inr (show (10 : Int32) < wh by
      rw [Int32.lt_iff_toInt_lt] at c4 ⊢
      rw [show (11 : Int32).toInt = 11 from rfl] at c4
      rw [show (10 : Int32).toInt = 10 from rfl]
      omega)))]
    exact ⟨rfl, rfl⟩
theorem o_way {w h : Nat} {rd : Bool} {g : GrS} {r : RuS} {d : GaS} {a : Nat → Int32} {m : MoS} {fR fB : Nat → Int64} {s : StS} {a' : Nat → Int32} (H : WR w h rd g r d a m fR fB s a') (cx cy tx ty : Int32) : (∃ v, f_X5_way g d cx cy tx ty = some (.inl v) ∧ f_X7_way m fB s cx cy tx ty = some (v, mz m 0)) ∨ (f_X5_way g d cx cy tx ty = some (.inr "java/lang/IndexOutOfBoundsException") ∧ f_X7_way m fB s cx cy tx ty = some (0, mz m 1)) := by
  obtain ⟨hW, hG, hM, hr, hT, R⟩ := H
  unfold f_X5_way f_X7_way
  rcases cells_eq hW hG (m := mz m 0) hM cx cy with ⟨c1, c2⟩ | ⟨c1, c2, x, y, hx, hy, rfl, rfl⟩
  · right
    rw [if_pos c1, if_pos c2]
    exact ⟨rfl, rfl⟩
  rw [if_neg c1, if_neg c2]
  rcases cells_eq hW hG (m := mz m 0) hM tx ty with ⟨c1, c2⟩ | ⟨c1, c2, x', y', hx', hy', rfl, rfl⟩
  · right
    rw [if_pos c1, if_pos c2]
    exact ⟨rfl, rfl⟩
  rw [if_neg c1, if_neg c2]
  left
  obtain ⟨v, e1, e2⟩ := way_ok hW hG hM hT R.1 hx hy hx' hy'
  exact ⟨v, by rw [e1]; rfl, e2⟩
