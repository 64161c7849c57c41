/-! the last look: all is as by hand -/
theorem sq1_b {g : GrS} {r : RuS} {w h : Nat} {rd : Bool} (hW : WH w h) (hG : GOK g w h rd) {c : Int64} (hc : InC w h c) {x y : Nat} (hx : x < w) (hy : y < h) : BC (sqC g r c 1) x y = cmB r.1 r.2 (BC c) w h rd x y := by
  obtain ⟨b, t, -, -, e, -, -, -, -, -, q⟩ := next_c (r := r) hW hG hc
  have e2 : sqC g r c 1 = b ||| t := by
    show (f_X4_behindYears r g (sqC g r c 0) 1).getD 0 = _
    rw [show sqC g r c 0 = c from rfl, e]; rfl
  rw [e2]
  exact (q x y hx hy).2.2
theorem sizes_ok {g : GrS} {w h : Nat} {rd : Bool} {bi st yr b0 d0 : Int32} (hW : WH w h) {op : Int64} {L : Nat → Nat → Int32} (hL : LabI g op w h L) : ∃ v, lp_X6_isSame_61 (nI w, nI h, rd, bi, st, yr, b0, d0) L 10 0 (fun _ => 0) = some v ∧ ∀ t, t < w * h → v t = nI (cells2 w h (szP op L t)) := by
  have w64 := wh_64 hW
  obtain ⟨w3, w8, h3, h8⟩ := id hW
  have ew : (nI w).toNatClampNeg = w := l_toN (by omega)
  have eh : (nI h).toNatClampNeg = h := l_toN (by omega)
  obtain ⟨v, r1, r2⟩ := for2_inv (w := w) (h := h) (F := 10) (by omega) (by omega) (fun k (a : Nat → Int32) => ∀ t, t < w * h → a t = nI (upto w (szP op L t) k)) (fun y nf i a => lp_X6_isSame_87 (nI w, nI h, rd, bi, st, yr, b0, d0) L y nf i a) (fun nf i a => lp_X6_isSame_61 (nI w, nI h, rd, bi, st, yr, b0, d0) L nf i a)
    (fun nf x y a hx hy hp => by
      have hk := k_lt hx hy
      have ty : (nI y).toNatClampNeg = y := l_toN (by omega)
      have tx : (nI x).toNatClampNeg = x := l_toN (by omega)
      have gx : ¬ (nI x < 0 ∨ w ≤ x) := fun z => z.elim (nI_lt0 x (by omega)) (by omega)
      have row : lp_X6_isSame_87 (nI w, nI h, rd, bi, st, yr, b0, d0) L (nI y) (nf + 1) (nI x) a = _ := lp_X6_isSame_87.eq_2 (nI w, nI h, rd, bi, st, yr, b0, d0) L (nI y) (nf := nf) (nI x) a
      dsimp only at row
      rw [ew, show Int32.ofNat w = nI w from rfl, if_neg (by rw [l_le (by omega) (by omega)]; omega), tx, if_neg gx, ty, nI_1, pk_mul, l_toN (show w * h < 2 ^ 31 by omega)] at row
      obtain ⟨la, lb⟩ := hL x y hx hy
      cases eo : BC op x y with
      | false =>
        rw [la eo, if_pos (show (-1 : Int32) < 0 by decide), Option.bind_some] at row
        refine ⟨a, fun t ht => ?_, row⟩
        rw [upto_s _ hx, hp t ht]
        unfold szP
        rw [eo]; rfl
      | true =>
        obtain ⟨x0, y0, q1, q2, q3, q4, -⟩ := lb eo
        have k0 := k_lt q1 q2
        rw [q4, if_neg (nI_pos (by omega)), l_toN (show w * y0 + x0 < 2 ^ 31 by omega), if_neg (fun z => z.elim (nI_pos (by omega)) (by omega)), Option.bind_some] at row
        refine ⟨upd a (w * y0 + x0) (a (w * y0 + x0) + 1), fun t ht => ?_, row⟩
        rw [upto_s _ hx]
        show (if t = w * y0 + x0 then _ else _) = _
        by_cases z : t = w * y0 + x0
        · rw [if_pos z, hp _ k0, nI_1, ← z]
          have : szP op L t x y = true := by unfold szP; rw [eo, q4, ← z]; simp
          rw [this]; rfl
        · rw [if_neg z, hp t ht]
          have : szP op L t x y = false := by
            unfold szP
            rw [eo, q4, Bool.true_and, decide_eq_false_iff_not, l_eq (by omega) (by omega)]
            exact fun u => z u.symm
          rw [this]; rfl)
    (fun nf y a => by
      rw [lp_X6_isSame_87.eq_2]
      dsimp only
      rw [ew, show Int32.ofNat w = nI w from rfl, if_pos (by rw [l_le (by omega) (by omega)]; exact Nat.le_refl _)])
    (fun nf y a hy => by
      rw [lp_X6_isSame_61.eq_2]
      dsimp only
      rw [eh, show Int32.ofNat h = nI h from rfl, if_neg (by rw [l_le (by omega) (by omega)]; omega), l_toN (show y < 2 ^ 31 by omega), if_neg (fun z => z.elim (nI_lt0 y (by omega)) (by omega)), nI_1])
    (fun nf a => by
      rw [lp_X6_isSame_61.eq_2]
      dsimp only
      rw [eh, show Int32.ofNat h = nI h from rfl, if_pos (by rw [l_le (by omega) (by omega)]; exact Nat.le_refl _)]) 10 (fun _ => 0) (by omega) (fun t _ => rfl)
  exact ⟨v, r2, r1⟩
theorem look5 {g : GrS} {r : RuS} {d : GaS} {a : Nat → Int32} {M : Nat → Nat → Int32} {x y : Nat} (hy : y < 8) (hx : x < 8) {v0 v1 v3 v4 : Int32} (t0 : f_X5_told g r d a (nI x) (nI y) 0 = some (.inl v0)) (t1 : f_X5_told g r d a (nI x) (nI y) 1 = some (.inl v1)) (t2 : f_X5_told g r d a (nI x) (nI y) 2 = some (.inl (M y x))) (t3 : f_X5_told g r d a (nI x) (nI y) 3 = some (.inl v3)) (t4 : f_X5_told g r d a (nI x) (nI y) 4 = some (.inl v4)) : lp_X6_isSame_248 g r d a M (nI y) (nI x) v0 v1 v3 v4 7 0 = some () := by
  have ty : (nI y).toNatClampNeg = y := l_toN (by omega)
  have tx : (nI x).toNatClampNeg = x := l_toN (by omega)
  rw [lp_X6_isSame_248.eq_2, if_neg (show ¬ (5 : Int32) ≤ 0 by decide), t0, show oinl (some (.inl v0 : Int32 ⊕ String)) = some v0 from rfl, Option.bind_some, if_neg (by decide), ty, tx, if_pos (by rfl)]
  rw [show (0 : Int32) + 1 = 1 from rfl, lp_X6_isSame_248.eq_2, if_neg (show ¬ (5 : Int32) ≤ 1 by decide), t1, show oinl (some (.inl v1 : Int32 ⊕ String)) = some v1 from rfl, Option.bind_some, if_neg (by decide), ty, tx, if_pos (by rfl)]
  rw [show (1 : Int32) + 1 = 2 from rfl, lp_X6_isSame_248.eq_2, if_neg (show ¬ (5 : Int32) ≤ 2 by decide), t2, show oinl (some (.inl (M y x) : Int32 ⊕ String)) = some (M y x) from rfl, Option.bind_some, if_neg (by decide), ty, tx, if_pos (by rfl)]
  rw [show (2 : Int32) + 1 = 3 from rfl, lp_X6_isSame_248.eq_2, if_neg (show ¬ (5 : Int32) ≤ 3 by decide), t3, show oinl (some (.inl v3 : Int32 ⊕ String)) = some v3 from rfl, Option.bind_some, if_neg (by decide), ty, tx, if_pos (by rfl)]
  rw [show (3 : Int32) + 1 = 4 from rfl, lp_X6_isSame_248.eq_2, if_neg (show ¬ (5 : Int32) ≤ 4 by decide), t4, show oinl (some (.inl v4 : Int32 ⊕ String)) = some v4 from rfl, Option.bind_some, if_neg (by decide), ty, tx, if_pos (by rfl)]
  rw [show (4 : Int32) + 1 = 5 from rfl, lp_X6_isSame_248.eq_2, if_pos (by decide)]
theorem sum_ok {w h : Nat} {rd : Bool} {g : GrS} {r : RuS} {d : GaS} {a : Nat → Int32} {s : SiS} {M : Nat → Nat → Int32} (H : RS w h rd g r d a s M) {T : Nat} (hT : Num T w h d a) : f_X6_sum s M = some (foldN (sF d.1 a) 0 64) := by
  obtain ⟨hW, hG, rfl, hr, hc, hM⟩ := H
  obtain ⟨w3, w8, h3, h8⟩ := id hW
  have ew : (nI w).toNatClampNeg = w := l_toN (by omega)
  have eh : (nI h).toNatClampNeg = h := l_toN (by omega)
  have key : foldN (sF d.1 a) 0 64 = foldN (fun b k => b + (if 0 < M (k / w) (k % w) then M (k / w) (k % w) else 0)) 0 (w * h) := by
    refine fold_all hW (fun b x y hx hy => ?_) (fun b i hi hni => ?_) 0
    · obtain ⟨kx, ky⟩ := xy_k (y := y) hx
      obtain ⟨c1, c2, c3⟩ := hM x y hx hy
      unfold sF
      rw [kx, ky]
      show (if BC d.1 x y = true then _ else _) = _
      cases q : BC d.1 x y with
      | true =>
        obtain ⟨n, hn, en⟩ := hT.2.1 x y hx hy q
        have := hT.1
        rw [if_pos rfl, c2 q, en]
        by_cases z : n = 0
        · subst z; rfl
        · rw [if_pos (by rw [show (0 : Int32) = nI 0 from rfl, l_lt (by omega) (by omega)]; omega)]
      | false =>
        rw [if_neg (by decide), c3 q, if_neg (by decide), Int32.add_zero]
    · unfold sF
      rw [if_neg (fun z => hni (hc i z))]
  obtain ⟨v, r1, r2⟩ := for2_inv (w := w) (h := h) (F := 100) (by omega) (by omega) (fun k (b : Int32) => b = foldN (fun b k => b + (if 0 < M (k / w) (k % w) then M (k / w) (k % w) else 0)) 0 k) (fun y nf i b => lp_X6_sum_37 (nI w, nI h, rd, r.1, r.2, d.2.1, d.2.2.1, d.2.2.2) M y nf b i) (fun nf i b => lp_X6_sum_13 (nI w, nI h, rd, r.1, r.2, d.2.1, d.2.2.1, d.2.2.2) M nf b i)
    (fun nf x y b hx hy hp => by
      obtain ⟨kx, ky⟩ := xy_k (y := y) hx
      refine ⟨b + (if 0 < M y x then M y x else 0), ?_, ?_⟩
      · show _ = foldN _ 0 (w * y + x) + (if 0 < M ((w * y + x) / w) ((w * y + x) % w) then M ((w * y + x) / w) ((w * y + x) % w) else 0)
        rw [kx, ky, ← hp]
      · show lp_X6_sum_37 (nI w, nI h, rd, r.1, r.2, d.2.1, d.2.2.1, d.2.2.2) M (nI y) (nf + 1) b (nI x) = _
        rw [lp_X6_sum_37.eq_2]
        dsimp only
        rw [ew, show Int32.ofNat w = nI w from rfl, if_neg (by rw [l_le (by omega) (by omega)]; omega), l_toN (show x < 2 ^ 31 by omega), l_toN (show y < 2 ^ 31 by omega), if_neg (fun z => z.elim (nI_lt0 x (by omega)) (by omega)), nI_1]
        rfl)
    (fun nf y b => by
      rw [lp_X6_sum_37.eq_2]
      dsimp only
      rw [ew, show Int32.ofNat w = nI w from rfl, if_pos (by rw [l_le (by omega) (by omega)]; exact Nat.le_refl _)])
    (fun nf y b hy => by
      rw [lp_X6_sum_13.eq_2]
      dsimp only
      rw [eh, show Int32.ofNat h = nI h from rfl, if_neg (by rw [l_le (by omega) (by omega)]; omega), l_toN (show y < 2 ^ 31 by omega), if_neg (fun z => z.elim (nI_lt0 y (by omega)) (by omega)), nI_1])
    (fun nf b => by
      rw [lp_X6_sum_13.eq_2]
      dsimp only
      rw [eh, show Int32.ofNat h = nI h from rfl, if_pos (by rw [l_le (by omega) (by omega)]; exact Nat.le_refl _)]) 100 0 (by omega) rfl
  unfold f_X6_sum
  rw [show lp_X6_sum_13 (nI w, nI h, rd, r.1, r.2, d.2.1, d.2.2.1, d.2.2.2) M 100 0 0 = some v from r2, Option.bind_some, r1, ← key]
theorem isSame_ok {w h : Nat} {rd : Bool} {g : GrS} {r : RuS} {d : GaS} {a : Nat → Int32} {s : SiS} {M : Nat → Nat → Int32} (H : RS w h rd g r d a s M) {T : Nat} (hT : Num T w h d a) : f_X6_isSame s g r d a M = some () := by
  obtain ⟨c, c1, c2, c3⟩ := counts_ok H hT
  have hsum := sum_ok H hT
  obtain ⟨hW, hG, rfl, hr, hc, hM⟩ := H
  have w64 := wh_64 hW
  obtain ⟨w3, w8, h3, h8⟩ := id hW
  have hw : 0 < w := by omega
  obtain ⟨ho, hop⟩ := open_c hW hG d.1
  have hop2 : ∀ x y, x < w → y < h → BC (f_X3_open g d.1) x y = !simB M x y := fun x y hx hy => by rw [hop x y hx hy, (hM x y hx hy).1]
  obtain ⟨L, l1, l2, l3⟩ := siml_ok (M := M) (bi := r.1) (st := r.2) (yr := d.2.1) (b0 := d.2.2.1) (d0 := d.2.2.2) hW hG ho hop2
  obtain ⟨v, v1, v2⟩ := sizes_ok (rd := rd) (bi := r.1) (st := r.2) (yr := d.2.1) (b0 := d.2.2.1) (d0 := d.2.2.2) hW l2
  have hs : SOK (nI w, nI h, rd, r.1, r.2, d.2.1, d.2.2.1, d.2.2.2) w h rd := ⟨rfl, rfl, rfl⟩
  have e11 : (11 : Int32).toNatClampNeg = 11 := by decide
  have loop7 : lp_X6_isSame_7 g r d a c 12 0 = some () := by
    obtain ⟨u, -, e⟩ := for_inv (n := 11) (fun _ (_ : Unit) => True) (fun nf i _ => lp_X6_isSame_7 g r d a c nf i) id (fun nf k u hk _ => ⟨(), trivial, by
      obtain ⟨x, x1, x2⟩ := c3 k hk
      show lp_X6_isSame_7 g r d a c (nf + 1) (nI k) = _
      rw [lp_X6_isSame_7.eq_2, if_neg (by rw [show (11 : Int32) = nI 11 from rfl, l_le (by omega) (by omega)]; omega), count_e hk x1, show oinl (some (.inl x : Int32 ⊕ String)) = some x from rfl, Option.bind_some, l_toN (show k < 2 ^ 31 by omega), if_neg (fun z => z.elim (nI_lt0 k (by omega)) (by rw [e11]; omega)), if_pos x2, nI_1]⟩) (fun nf u _ => by
      show lp_X6_isSame_7 g r d a c (nf + 1) (nI 11) = _
      rw [lp_X6_isSame_7.eq_2, if_pos (by decide)]) 12 0 () (by decide) (by decide) trivial
    exact e
  have loop130 : lp_X6_isSame_130 (nI w, nI h, rd, r.1, r.2, d.2.1, d.2.2.1, d.2.2.2) g r d a M L v 10 0 = some () := by
    obtain ⟨u, -, e⟩ := for2_inv (w := w) (h := h) (F := 10) hw (by omega) (fun _ (_ : Unit) => True) (fun y nf i _ => lp_X6_isSame_142 (nI w, nI h, rd, r.1, r.2, d.2.1, d.2.2.1, d.2.2.2) g r d a M L v y nf i) (fun nf i _ => lp_X6_isSame_130 (nI w, nI h, rd, r.1, r.2, d.2.1, d.2.2.1, d.2.2.2) g r d a M L v nf i)
      (fun nf x y u hx hy _ => ⟨(), trivial, by
        obtain ⟨m1, m2, m3⟩ := hM x y hx hy
        have ty : (nI y).toNatClampNeg = y := l_toN (by omega)
        have tx : (nI x).toNatClampNeg = x := l_toN (by omega)
        have gy : ¬ (nI y < 0 ∨ h ≤ y) := fun z => z.elim (nI_lt0 y (by omega)) (by omega)
        have gx : ¬ (nI x < 0 ∨ w ≤ x) := fun z => z.elim (nI_lt0 x (by omega)) (by omega)
        have cc : cnt8 (simB M) w h rd x y = cnt8 (BC d.1) w h rd x y := cnt8_cong hW (fun x y hx hy => (hM x y hx hy).1) hx hy
        have cm : f_X6_comes (nI w, nI h, rd, r.1, r.2, d.2.1, d.2.2.1, d.2.2.2) M (nI x) (nI y) = some (b01 (cmB r.1 r.2 (BC d.1) w h rd x y)) := by
          rw [simc_ok hW hs hr hx hy]
          exact congrArg (fun z => some (b01 z)) (cmB_cong hW (fun x y hx hy => (hM x y hx hy).1) _ _ hx hy)
        have t0 := told0 (r := r) (d := d) (a := a) hW hG hx hy
        have t1 := told1 (r := r) (a := a) hW hG hc hx hy
        have t2 := told2 (r := r) (d := d) (a := a) hW hG hx hy
        have t3 := told3 (r := r) (d := d) (a := a) hW hG hx hy
        have t4 := told4 (r := r) (a := a) hW hG hc hx hy
        rw [sq1_b hW hG hc hx hy] at t4
        have t2 : f_X5_told g r d a (nI x) (nI y) 2 = some (.inl (M y x)) := by
          rw [t2]
          cases q : BC d.1 x y with
          | true => rw [if_pos rfl, m2 q]
          | false => rw [if_neg (by decide), m3 q]
        obtain ⟨la, lb⟩ := l2 x y hx hy
        show lp_X6_isSame_142 (nI w, nI h, rd, r.1, r.2, d.2.1, d.2.2.1, d.2.2.2) g r d a M L v (nI y) (nf + 1) (nI x) = _
        rw [lp_X6_isSame_142.eq_2]
        dsimp only
        rw [if_neg (by rw [l_le (by omega) (by omega)]; omega), has_at hW hs hx hy, Option.bind_some]
        simp only [bindv]
        rw [near_ok hW hs hx hy, Option.bind_some, l_toN (show w < 2 ^ 31 by omega), l_toN (show h < 2 ^ 31 by omega), ty, tx, if_neg gy, if_neg gx, cm, nI_1, m1, cc]
        simp only [Option.bind_some, b01_v]
        have fin : ∀ z : Int32, z = nI (if BC d.1 x y = true then 0 else pc (Lw g (f_X3_open g d.1) (8 * y + x))) → lp_X6_isSame_248 g r d a M (nI y) (nI x) (b01 (BC d.1 x y)) (nI (cnt8 (BC d.1) w h rd x y)) z (b01 (cmB r.1 r.2 (BC d.1) w h rd x y)) 7 0 = some () := fun z ez => look5 (by omega) (by omega) t0 t1 t2 (by rw [ez]; exact t3) t4
        cases eo : BC d.1 x y with
        | true =>
          have o : BC (f_X3_open g d.1) x y = false := by rw [hop x y hx hy, eo]; rfl
          rw [eo] at fin
          rw [la o, if_neg (show ¬ (0 : Int32) ≤ -1 by decide), Option.bind_some, fin 0 (by rw [if_pos rfl]; rfl)]
          rfl
        | false =>
          have o : BC (f_X3_open g d.1) x y = true := by rw [hop x y hx hy, eo]; rfl
          rw [eo] at fin
          obtain ⟨x0, y0, p1, p2, p3, p4, p5⟩ := lab_ok hW hG ho l2 l3 hx hy o
          have k0 := k_lt p1 p2
          have ev : v (w * y0 + x0) = nI (pc (Lw g (f_X3_open g d.1) (8 * y + x))) := by
            rw [v2 _ k0, szN hW hG ho l2 l3 p1 p2, if_pos p4, Lw_eq hW hG ho o p5]
          rw [p3, if_pos (nI_pos' (by omega)), pk_mul, l_toN (show w * h < 2 ^ 31 by omega), l_toN (show w * y0 + x0 < 2 ^ 31 by omega), if_neg (fun z => z.elim (nI_pos (by omega)) (by omega)), Option.bind_some, ev, fin _ (by rw [if_neg (by decide)])]
          rfl⟩)
      (fun nf y u => by
        rw [lp_X6_isSame_142.eq_2]
        dsimp only
        rw [if_pos (by rw [l_le (by omega) (by omega)]; exact Nat.le_refl _)])
      (fun nf y u hy => by
        rw [lp_X6_isSame_130.eq_2]
        dsimp only
        rw [if_neg (by rw [l_le (by omega) (by omega)]; omega), nI_1])
      (fun nf u => by
        rw [lp_X6_isSame_130.eq_2]
        dsimp only
        rw [if_pos (by rw [l_le (by omega) (by omega)]; exact Nat.le_refl _)]) 10 () (by omega) trivial
    exact e
  have hsz : f_X2_size d = nI (pc d.1) := bc_pc d.1
  have p64 := pc_le d.1
  unfold f_X6_isSame
  rw [c1, Option.bind_some, loop7, Option.bind_some, l1, Option.bind_some]
  dsimp only
  rw [pk_mul, l_toN (show w * h < 2 ^ 31 by omega), if_neg (fun z => z.elim (nI_pos (by omega)) (by omega)), v1, Option.bind_some, loop130, Option.bind_some, show c (3 : Int32).toNatClampNeg = nI (pc d.1) from c2, hsum]
  unfold f_X5_mean
  rw [hsz]
  by_cases z : pc d.1 = 0
  · rw [z, if_pos (by decide), Option.bind_some, if_pos (by decide), if_pos rfl]
  · have hage : f_X2_ageOfAll d a = some (foldN (sF d.1 a) 0 64) := by
      have := sumC_l d a 100 0 0 (by decide) (by decide)
      unfold f_X2_ageOfAll
      rw [show lp_X2_ageOfAll_4 d a 100 0 0 = some (foldN (fun b i => sF d.1 a b (0 + i)) 0 (64 - 0)) from this]
      show some (foldN (fun b i => sF d.1 a b (0 + i)) 0 64) = _
      exact congrArg some (foldN_cong (fun b i _ => by rw [Nat.zero_add]))
    rw [if_neg (by rw [show (0 : Int32) = nI 0 from rfl, l_le (by omega) (by omega)]; omega), hage, Option.bind_some, Option.bind_some, if_neg (by rw [show (0 : Int32) = nI 0 from rfl, l_eq (by omega) (by omega)]; exact z), Option.bind_some, if_pos ⟨rfl, notnan _ (by omega) p64⟩]
