/-! the law's own garden and the class's are one -/
def RS (w h : Nat) (rd : Bool) (g : GrS) (r : RuS) (d : GaS) (a : Nat → Int32) (s : SiS) (M : Nat → Nat → Int32) : Prop := WH w h ∧ GOK g w h rd ∧ s = (nI w, nI h, rd, r.1, r.2, d.2.1, d.2.2.1, d.2.2.2) ∧ RuOK s ∧ InC w h d.1 ∧ ∀ x y, x < w → y < h → simB M x y = BC d.1 x y ∧ (BC d.1 x y = true → M y x = a (8 * y + x)) ∧ (BC d.1 x y = false → M y x = -1)
/-- the numbers stay small: so many years at most -/
def Num (T : Nat) (w h : Nat) (d : GaS) (a : Nat → Int32) : Prop := T ≤ 40 ∧ (∀ x y, x < w → y < h → BC d.1 x y = true → ∃ n, n ≤ T ∧ a (8 * y + x) = nI n) ∧ (∃ b, b ≤ 64 * T ∧ d.2.2.1 = nI b) ∧ ∃ b, b ≤ 64 * T ∧ d.2.2.2 = nI b
theorem notnan (a : Int32) {n : Nat} (h0 : 0 < n) (hn : n ≤ 64) : isNaN64 (FP.ddiv (FP.i2d a) (FP.i2d (nI n))) = false := by
  have hne : nI n ≠ 0 := by
    intro e
    rw [show (0 : Int32) = nI 0 from rfl, l_eq (by omega) (by omega)] at e
    omega
  have h1 : FP.Core.dIsNaN (FP.Core.i2d a) = false := by
    cases e : FP.Core.dIsNaN (FP.Core.i2d a) with
    | false => rfl
    | true =>
      have := (FP.Core.isNaN_bits _).mp e
      have := FP.Core.i2d_mag a
      omega
  have h2 := FP.Core.ddiv_out h1 (FP.Core.i2d_fin (nI n)) (fun z => FP.Core.i2d_ne_zero hne ((FP.Core.zero_bits2 _).mp z))
  cases e : isNaN64 (FP.ddiv (FP.i2d a) (FP.i2d (nI n))) with
  | false => rfl
  | true =>
    have h3 := isNaN64_iff.mp e
    rw [show (0x7fffffffffffffff : Nat) = 2 ^ 63 - 1 from rfl, Nat.and_two_pow_sub_one_eq_mod] at h3
    have h4 := (FP.Core.isNaN_bits (FP.ddiv (FP.i2d a) (FP.i2d (nI n)))).mpr h3
    have h5 : FP.Core.dIsNaN (FP.ddiv (FP.i2d a) (FP.i2d (nI n))) = false := h2
    rw [h5] at h4
    cases h4
theorem told3 {g : GrS} {r : RuS} {d : GaS} {a : Nat → Int32} {w h : Nat} {rd : Bool} (hW : WH w h) (hG : GOK g w h rd) {x y : Nat} (hx : x < w) (hy : y < h) : f_X5_told g r d a (nI x) (nI y) 3 = some (.inl (nI (if BC d.1 x y = true then 0 else pc (Lw g (f_X3_open g d.1) (8 * y + x))))) := by
  obtain ⟨ho, hop⟩ := open_c hW hG d.1
  refine told_e (k := 3) hW hG hx hy (by decide) ?_
  obtain ⟨l, -, -⟩ := bx hW hx hy
  have hop := hop x y hx hy
  unfold f_X5_fact
  rw [if_neg (show ¬ nI 3 = 0 by decide), if_neg (show ¬ nI 3 = 1 by decide), if_neg (show ¬ nI 3 = 2 by decide), if_pos (show nI 3 = 3 from rfl), l_cell, show f_X2_open d g = f_X3_open g d.1 from rfl]
  cases e : BC d.1 x y with
  | true =>
    rw [e] at hop
    rw [lawn_0 hW hG ho l hop, if_pos rfl, Option.bind_some, bc_pc]
    rfl
  | false =>
    rw [e] at hop
    rw [(Lw_ok hW hG ho hop).1, if_neg (by decide), Option.bind_some, bc_pc]
theorem counts_ok {w h : Nat} {rd : Bool} {g : GrS} {r : RuS} {d : GaS} {a : Nat → Int32} {s : SiS} {M : Nat → Nat → Int32} (H : RS w h rd g r d a s M) {T : Nat} (hT : Num T w h d a) : ∃ c, f_X6_counts s M = some c ∧ c 3 = nI (pc d.1) ∧ ∀ k, k < 11 → ∃ v, f_X5_counted g r d a (nI k) = some v ∧ v = c k := by
  obtain ⟨hW, hG, rfl, hr, hc, hM⟩ := H
  have w64 := wh_64 hW
  obtain ⟨w3, w8, h3, h8⟩ := id hW
  have hw : 0 < w := by omega
  obtain ⟨ho, hop⟩ := open_c hW hG d.1
  have hop2 : ∀ x y, x < w → y < h → BC (f_X3_open g d.1) x y = !simB M x y := fun x y hx hy => by rw [hop x y hx hy, (hM x y hx hy).1]
  obtain ⟨L, l1, l2, l3⟩ := siml_ok (M := M) (bi := r.1) (st := r.2) (yr := d.2.1) (b0 := d.2.2.1) (d0 := d.2.2.2) hW hG ho hop2
  obtain ⟨v, v1, v2, v3, v4⟩ := c35_ok (M := M) hW hr l2
  have szE : ∀ t, t < w * h → cells2 w h (szP (f_X3_open g d.1) L t) = if ld g (f_X3_open g d.1) (8 * (t / w) + t % w) = true then pc (Lw g (f_X3_open g d.1) (8 * (t / w) + t % w)) else 0 := fun t ht => by
    obtain ⟨p1, p2, p3⟩ := k_xy ht hw
    have := szN hW hG ho l2 l3 p1 p2
    rw [p3] at this
    exact this
  have sz64 : ∀ t, t < w * h → cells2 w h (szP (f_X3_open g d.1) L t) ≤ 64 := fun t _ => Nat.le_trans (cells2_le _ _ _) w64
  obtain ⟨m, m1, m2, m3⟩ := c143_ok (rd := rd) (bi := r.1) (st := r.2) (yr := d.2.1) (b0 := d.2.2.1) (d0 := d.2.2.2) hW (v := v) (sz := fun t => cells2 w h (szP (f_X3_open g d.1) L t)) (bn := fun t => decide (0 < cells2 w h (bnP (f_X3_open g d.1) L (cmB r.1 r.2 (simB M) w h rd) t))) (fun t ht => ⟨v3 t ht, sz64 t ht⟩) v4
  obtain ⟨b, t, eb, -, -, -, -, -, -, -, hbt⟩ := next_c (r := r) hW hG hc
  have cmE : ∀ x y, x < w → y < h → cmB r.1 r.2 (simB M) w h rd x y = cmB r.1 r.2 (BC d.1) w h rd x y := fun x y hx hy => cmB_cong hW (fun x y hx hy => (hM x y hx hy).1) _ _ hx hy
  have pos : ∀ t, t < w * h → decide (0 < cells2 w h (szP (f_X3_open g d.1) L t)) = ld g (f_X3_open g d.1) (8 * (t / w) + t % w) := fun t ht => by
    rw [szE t ht]
    cases e : ld g (f_X3_open g d.1) (8 * (t / w) + t % w) with
    | true => rw [if_pos rfl]; exact decide_eq_true (ld_pc hW hG ho (ld_op e))
    | false => rw [if_neg (by decide)]; rfl
  have e7 : cntN (fun t => decide (0 < cells2 w h (szP (f_X3_open g d.1) L t))) (w * h) = cells2 w h (fun x y => ld g (f_X3_open g d.1) (8 * y + x)) := cntN_cong (fun t ht => pos t ht)
  have e9 : cntN (fun t => decide (0 < cells2 w h (szP (f_X3_open g d.1) L t)) && !decide (0 < cells2 w h (bnP (f_X3_open g d.1) L (cmB r.1 r.2 (simB M) w h rd) t))) (w * h) = cells2 w h (fun x y => ld g (f_X3_open g d.1) (8 * y + x) && decide ((Lw g (f_X3_open g d.1) (8 * y + x) &&& b) = 0)) := cntN_cong (fun t ht => by
    show (decide (0 < cells2 w h (szP (f_X3_open g d.1) L t)) && !decide (0 < cells2 w h (bnP (f_X3_open g d.1) L (cmB r.1 r.2 (simB M) w h rd) t))) = (ld g (f_X3_open g d.1) (8 * (t / w) + t % w) && decide ((Lw g (f_X3_open g d.1) (8 * (t / w) + t % w) &&& b) = 0))
    rw [pos t ht]
    cases e : ld g (f_X3_open g d.1) (8 * (t / w) + t % w) with
    | false => rfl
    | true =>
      obtain ⟨p1, p2, p3⟩ := k_xy ht hw
      have := bnN hW hG ho l2 l3 (b := b) (c := cmB r.1 r.2 (simB M) w h rd) (fun x y hx hy => by rw [(hbt x y hx hy).1, hop x y hx hy, cmE x y hx hy]) p1 p2 e
      rw [p3] at this
      rw [this, Bool.not_not])
  obtain ⟨m', q1, q2, q3, q4⟩ := cd8 hW hG r d a
  have em : m = m' := by
    refine MaxI_uni m2 ⟨fun t ht => ?_, ?_⟩
    · show cells2 w h (szP (f_X3_open g d.1) L t) ≤ m'
      rw [szE t ht]
      by_cases e : ld g (f_X3_open g d.1) (8 * (t / w) + t % w) = true
      · rw [if_pos e]; exact q3 _ e
      · rw [if_neg e]; exact Nat.zero_le _
    · rcases q4 with z | ⟨k, z1, z2⟩
      · exact Or.inl z
      · obtain ⟨x, y, hx, hy, rfl⟩ := in_cell ho (ld_op z1)
        obtain ⟨kx, ky⟩ := xy_k (y := y) hx
        refine Or.inr ⟨w * y + x, k_lt hx hy, ?_⟩
        show m' = cells2 w h (szP (f_X3_open g d.1) L (w * y + x))
        rw [szE _ (k_lt hx hy), kx, ky, if_pos z1]
        exact z2
  have eo : foldN (oF d.1 a) (-1) 64 = foldN (oldS M w) (-1) (w * h) := by
    have e1 : foldN (oldS M w) (-1) (w * h) = foldN (fun b k => if simB M (k % w) (k / w) = true then oldS M w b k else b) (-1) (w * h) := (fold_inv (fun b : Int32 => ¬ b < -1) (by decide) (w * h) (fun b k hk hb => by
      obtain ⟨p1, p2, p3⟩ := k_xy hk hw
      obtain ⟨c1, c2, c3⟩ := hM _ _ p1 p2
      cases e : simB M (k % w) (k / w) with
      | true =>
        rw [e] at c1
        obtain ⟨n, hn, en⟩ := hT.2.1 _ _ p1 p2 c1.symm
        have := hT.1
        rw [if_pos rfl]
        refine ⟨rfl, ?_⟩
        unfold oldS
        rw [c2 c1.symm, en]
        by_cases q : b < nI n
        · rw [if_pos q]
          intro z
          have h1 := nI_pos (n := n) (by omega)
          rw [Int32.lt_iff_toInt_lt] at z h1
          have : (-1 : Int32).toInt = -1 := by decide
          have : (0 : Int32).toInt = 0 := by decide
          omega
        · rw [if_neg q]; exact hb
      | false =>
        rw [e] at c1
        rw [if_neg (by decide)]
        refine ⟨?_, hb⟩
        unfold oldS
        rw [c3 c1.symm, if_neg hb])).1
    rw [e1]
    refine fold_all hW (fun b x y hx hy => ?_) (fun b i hi hni => ?_) (-1)
    · obtain ⟨kx, ky⟩ := xy_k (y := y) hx
      obtain ⟨c1, c2, c3⟩ := hM x y hx hy
      unfold oF oldS
      rw [kx, ky, c1]
      show (if BC d.1 x y = true then _ else _) = _
      by_cases q : BC d.1 x y = true
      · rw [if_pos q, if_pos q, c2 q, max_le]
      · rw [if_neg q, if_neg q]
    · unfold oF
      rw [if_neg (fun z => hni (hc i z))]
  have ehs : cells2 w h (simB M) = pc d.1 := by rw [pc_cells hW hc]; exact cells2_cong hw (fun x y hx hy => (hM x y hx hy).1)
  have run : f_X6_counts (nI w, nI h, rd, r.1, r.2, d.2.1, d.2.2.1, d.2.2.2) M = some (upd (upd (upd (upd (upd (upd (upd (upd (upd (upd (upd (fun _ => 0) (0 : Int32).toNatClampNeg d.2.1) (1 : Int32).toNatClampNeg (nI w)) (2 : Int32).toNatClampNeg (nI h)) (3 : Int32).toNatClampNeg (nI (pc d.1))) (4 : Int32).toNatClampNeg d.2.2.1) (5 : Int32).toNatClampNeg d.2.2.2) (6 : Int32).toNatClampNeg (b01 rd)) (7 : Int32).toNatClampNeg (nI (cells2 w h (fun x y => ld g (f_X3_open g d.1) (8 * y + x))))) (8 : Int32).toNatClampNeg (nI m)) (9 : Int32).toNatClampNeg (nI (cells2 w h (fun x y => ld g (f_X3_open g d.1) (8 * y + x) && decide ((Lw g (f_X3_open g d.1) (8 * y + x) &&& b) = 0))))) (10 : Int32).toNatClampNeg (foldN (oldS M w) (-1) (w * h))) := by
    unfold f_X6_counts
    dsimp only
    rw [pk_mul, l_toN (show w * h < 2 ^ 31 by omega), if_neg (fun z => z.elim (nI_pos (by omega)) (by omega)), l1, Option.bind_some, v1, Option.bind_some, m3, Option.bind_some, simh_ok (M := M) hW ⟨rfl, rfl, rfl⟩, Option.bind_some]
    simp only [bindv]
    rw [ehs, e7, e9, v2, show (if bI rd = 0 then (0 : Int32) else 1) = b01 rd from by cases rd <;> rfl]
  refine ⟨_, run, rfl, fun k hk => ?_⟩
  obtain ⟨g1, g2, g3, -⟩ := id hG
  match k, hk with
  | 0, _ => exact ⟨_, cd0 g r d a, rfl⟩
  | 1, _ => exact ⟨_, cd1 g r d a, g1⟩
  | 2, _ => exact ⟨_, cd2 g r d a, g2⟩
  | 3, _ => exact ⟨_, cd3 g r d a, rfl⟩
  | 4, _ => exact ⟨_, cd4 g r d a, rfl⟩
  | 5, _ => exact ⟨_, cd5 g r d a, rfl⟩
  | 6, _ => exact ⟨_, cd6 g r d a, by rw [g3]; rfl⟩
  | 7, _ => exact ⟨_, cd7 hW hG r d a, rfl⟩
  | 8, _ => exact ⟨_, q1, by rw [← em]; rfl⟩
  | 9, _ => exact ⟨_, cd9 hW hG r d a eb, rfl⟩
  | 10, _ => exact ⟨_, cd10 g r d a, eo⟩
