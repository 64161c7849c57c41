/-! ways and counts of a turn -/
theorem below_ok (v : Int32) {n : Nat} (h0 : 0 < n) (hn : n < 2 ^ 31) : ∃ j, j < n ∧ f_L_below v (nI n) = some (nI j) := by
  obtain ⟨j, hj, e⟩ := pk_andE v (m := 2147483647) 31 (by decide)
  refine ⟨j % n, Nat.mod_lt _ h0, ?_⟩
  unfold f_L_below
  rw [if_neg (nI_ne0 h0 hn), e, pk_rem (by omega) h0 hn]
theorem k526 {w h : Nat} {rd : Bool} {g : GrS} {r : RuS} {d : GaS} {a : Nat → Int32} {s : SiS} {M : Nat → Nat → Int32} (H : RS w h rd g r d a s M) {T : Nat} (hT : Num T w h d a) {t1 t2 t3 : Nat → Int32} (tb : tabs w h g r d a (w * h) t1 t2 t3) (dF : GaS) (aF : Nat → Int32) (kC : Nat → Int64) (l4 l5 l11 : Int32) (Ln : Nat) (xs : Nat → Int32) : f_st_526 g r d a dF aF kC s W7 t1 t2 t3 M (w * h) (w * h) (w * h) l4 l5 (nI w) (nI h) l11 Ln xs = f_st_672 g r d a dF aF kC s W7 t1 t2 t3 M (w * h) (w * h) (w * h) l4 (nI w) (nI h) l11 Ln xs := by
  obtain ⟨hW, hG, -, hr, hc, hM⟩ := H
  have w64 := wh_64 hW
  obtain ⟨w3, w8, h3, h8⟩ := id hW
  have hw : 0 < w := by omega
  have hwh : 0 < w * h := Nat.mul_pos hw (by omega)
  obtain ⟨ho, hop⟩ := open_c hW hG d.1
  obtain ⟨A, hA, eA⟩ := below_ok (l5 >>> (2 &&& 31)) hwh (by omega)
  obtain ⟨B, hB, eB⟩ := below_ok (l5 >>> (5 &&& 31)) hwh (by omega)
  obtain ⟨a1, a2, a3⟩ := k_xy hA hw
  obtain ⟨b1, b2, b3⟩ := k_xy hB hw
  obtain ⟨x1, -⟩ := bx hW a1 a2
  obtain ⟨x2, -⟩ := bx hW b1 b2
  obtain ⟨v, v1, v2⟩ := way_c hW hG (d := d) ho a1 a2 b1 b2
  have v1' := way_sym hW hG (d := d) ho a1 a2 b1 b2
  rw [v1] at v1'
  obtain ⟨A1, A2, -⟩ := tb A hA
  obtain ⟨B1, B2, -⟩ := tb B hB
  have oA := hop _ _ a1 a2
  have oB := hop _ _ b1 b2
  unfold f_st_526
  rw [pk_mul, eA, Option.bind_some, eB, Option.bind_some, if_neg (nI_ne0 hw (by omega)), pk_rem (by omega) hw (by omega), pk_div (by omega) hw (by omega), pk_rem (by omega) hw (by omega), pk_div (by omega) hw (by omega), v1, oinl_v, Option.bind_some, ← v1', oinl_v, Option.bind_some, if_pos rfl, l_toN (show A < 2 ^ 31 by omega), l_toN (show B < 2 ^ 31 by omega), A1, A2, B2]
  rcases v2 with ⟨n, rfl, n1, n2, n3⟩ | ⟨rfl, n2⟩
  · obtain ⟨c1, c2, c3⟩ := way_in hW hG ho n2 n3 x1
    have c4 : BC (f_X3_open g d.1) (B % w) (B / w) = true := (Lw_ok hW hG ho c1).2.1 _ c2
    have c5 := Lw_eq hW hG ho c1 c2
    have zA : BC d.1 (A % w) (A / w) = false := by
      rw [show BC (f_X3_open g d.1) (A % w) (A / w) = true from c1] at oA
      cases z : BC d.1 (A % w) (A / w) with
      | false => rfl
      | true => rw [z] at oA; cases oA
    have zB : BC d.1 (B % w) (B / w) = false := by
      rw [c4] at oB
      cases z : BC d.1 (B % w) (B / w) with
      | false => rfl
      | true => rw [z] at oB; cases oB
    have p64 := pc_le (Lw g (f_X3_open g d.1) (8 * (A / w) + A % w))
    rw [zA, zB, c5, if_neg (nI_pos (by omega)), if_neg (fun z => z.elim (nI_pos (by omega)) (by omega)), if_neg (fun z => z.elim (nI_pos (by omega)) (by omega)), if_neg (show ¬ (false = true) by decide), if_neg (show ¬ (false = true) by decide), if_pos rfl, if_neg (nI_ne0 (by omega) (by omega)), if_neg (by rw [l_le (by omega) (by omega)]; omega), Option.bind_some]
    by_cases z : A = B
    · have n0 : n = 0 := by
        by_cases y : n = 0
        · exact y
        · exact absurd ((rc_0 x1 x2).mpr ⟨by rw [z], c1⟩) (n3 0 (by omega))
      subst n0
      rw [if_pos (show nI A = nI B by rw [z]), if_neg (fun z => z.elim (nI_pos (by omega)) (by omega)), if_neg (show ¬ (0 : Int32) ≤ -1 by decide)]
      unfold bindv
      dsimp only
      rw [if_pos (by first | rfl | decide), Option.bind_some]
    · rw [if_neg (show ¬ nI A = nI B from fun y => z ((nI_eq (by omega) (by omega)).mp y)), Option.bind_some]
  · rw [if_pos (by decide), Option.bind_some]
    by_cases z : A = B
    · have zA : BC d.1 (A % w) (A / w) = true := by
        cases y : BC d.1 (A % w) (A / w) with
        | true => rfl
        | false =>
          rw [y] at oA
          exact absurd ((rc_0 x1 x2).mpr ⟨by rw [z], oA⟩) (n2 0 (by omega))
      obtain ⟨m, m1, m2⟩ := hT.2.1 _ _ a1 a2 zA
      have := hT.1
      rw [if_pos (show nI A = nI B by rw [z]), if_neg (fun z => z.elim (nI_pos (by omega)) (by omega)), zA, if_pos rfl, m2, if_pos (nI_pos' (by omega))]
      unfold bindv
      dsimp only
      rw [if_pos (by first | rfl | decide), Option.bind_some]
    · rw [if_neg (show ¬ nI A = nI B from fun y => z ((nI_eq (by omega) (by omega)).mp y)), Option.bind_some]
theorem b01_if (b : Bool) : (if b01 b = 0 then (0 : Int32) else 1) = b01 b := b01_v b
theorem k426 {w h : Nat} {rd : Bool} {g : GrS} {r : RuS} {d : GaS} {a : Nat → Int32} {s : SiS} {M : Nat → Nat → Int32} (H : RS w h rd g r d a s M) {T : Nat} (hT : Num T w h d a) (dF : GaS) (aF : Nat → Int32) (kC : Nat → Int64) (t1 t2 t3 : Nat → Int32) (l4 l5 l11 : Int32) (Ln : Nat) (xs : Nat → Int32) : f_st_426 g r d a dF aF kC s W7 t1 t2 t3 M (w * h) (w * h) (w * h) l4 l5 (nI w) (nI h) (nI (cells2 w h (fun x y => !BC d.1 x y))) (nI (pairsN w h rd d.1 (w * h))) (foldN (oldS M w) (-1) (w * h)) l11 Ln xs = f_st_526 g r d a dF aF kC s W7 t1 t2 t3 M (w * h) (w * h) (w * h) l4 l5 (nI w) (nI h) l11 Ln xs := by
  have eold := old_eq H hT
  obtain ⟨hW, hG, -, hr, hc, hM⟩ := H
  have w64 := wh_64 hW
  obtain ⟨w3, w8, h3, h8⟩ := id hW
  have hw : 0 < w := by omega
  obtain ⟨ho, hop⟩ := open_c hW hG d.1
  obtain ⟨b, t, eb, -⟩ := next_c (r := r) hW hG hc
  have pe := pairs_even hW (BC d.1) rd
  have pl := pairs_le hW (BC d.1) rd (w * h) (Nat.le_refl _)
  have pe : pairsN w h rd d.1 (w * h) % 2 = 0 := pe
  have pl : pairsN w h rd d.1 (w * h) ≤ 512 := pl
  have cn := cells_not (h := h) hw (BC d.1)
  have p64 := pc_le d.1
  have epc := pc_cells hW hc
  have eo : cells2 w h (fun x y => !BC d.1 x y) = pc (f_X3_open g d.1) := by
    rw [pc_cells hW ho]
    exact cells2_cong hw (fun x y hx hy => (hop x y hx hy).symm)
  have e3 : f_X5_count g r d a 3 = some (.inl (nI (pc d.1))) := count_e (k := 3) (by decide) (cd3 g r d a)
  have e7 : f_X5_count g r d a 7 = some (.inl (nI (cells2 w h (fun x y => ld g (f_X3_open g d.1) (8 * y + x))))) := count_e (k := 7) (by decide) (cd7 hW hG r d a)
  obtain ⟨m, m1, m2, m3, m4⟩ := cd8 hW hG r d a
  have e8 : f_X5_count g r d a 8 = some (.inl (nI m)) := count_e (k := 8) (by decide) m1
  have e9 : f_X5_count g r d a 9 = some (.inl (nI (cells2 w h (fun x y => ld g (f_X3_open g d.1) (8 * y + x) && decide ((Lw g (f_X3_open g d.1) (8 * y + x) &&& b) = 0))))) := count_e (k := 9) (by decide) (cd9 hW hG r d a eb)
  have e10 : f_X5_count g r d a 10 = some (.inl (foldN (oF d.1 a) (-1) 64)) := count_e (k := 10) (by decide) (cd10 g r d a)
  have l7 : cells2 w h (fun x y => ld g (f_X3_open g d.1) (8 * y + x)) ≤ cells2 w h (fun x y => !BC d.1 x y) := cntN_mono (fun k hk z => by
    obtain ⟨p1, p2, -⟩ := k_xy hk hw
    have := ld_op z
    show (!BC d.1 (k % w) (k / w)) = true
    rw [← hop _ _ p1 p2]
    exact this)
  have l9 : cells2 w h (fun x y => ld g (f_X3_open g d.1) (8 * y + x) && decide ((Lw g (f_X3_open g d.1) (8 * y + x) &&& b) = 0)) ≤ cells2 w h (fun x y => ld g (f_X3_open g d.1) (8 * y + x)) := cntN_mono (fun k hk z => by
    rw [Bool.and_eq_true] at z
    exact z.1)
  have l8 : m ≤ cells2 w h (fun x y => !BC d.1 x y) := by
    rcases m4 with rfl | ⟨k, k1, rfl⟩
    · exact Nat.zero_le _
    · rw [eo]
      have := (Lw_ok hW hG ho (ld_op k1)).2.1
      exact cntN_mono (fun i _ z => this i z)
  have l0 : (cells2 w h (fun x y => ld g (f_X3_open g d.1) (8 * y + x)) = 0) ↔ (cells2 w h (fun x y => !BC d.1 x y) = 0) := by
    constructor
    · intro z
      by_cases y : cells2 w h (fun x y => !BC d.1 x y) = 0
      · exact y
      · exfalso
        rw [eo] at y
        have : ¬ f_X3_open g d.1 = 0 := pc_pos.mp (by omega)
        obtain ⟨t, t1, t2⟩ := lowB_ex this
        have q := (ld_low hW hG ho Sub_rf (op_CL (g := g)) t2).1
        obtain ⟨x, y, hx, hy, rfl⟩ := in_cell ho (ld_op q)
        obtain ⟨kx, ky⟩ := xy_k (y := y) hx
        have : 0 < cells2 w h (fun x y => ld g (f_X3_open g d.1) (8 * y + x)) := cntN_pos.mpr ⟨w * y + x, k_lt hx hy, by rw [kx, ky]; exact q⟩
        omega
    · intro z; omega
  have lw : cells2 w h (fun x y => !BC d.1 x y) ≤ 64 := by omega
  unfold f_st_426
  rw [e3, oinl_v, Option.bind_some, nI_add, pk_mul, if_pos (by rw [l_eq (by omega) (by omega)]; omega), show (2 : Int32) = nI 2 from rfl, pk_rem (by omega) (by omega) (by omega), pe, if_pos (show nI 0 = 0 from rfl), e10, oinl_v, Option.bind_some, eold, if_pos rfl, e7, oinl_v, Option.bind_some]
  simp only [bindv]
  have cond : (if nI (cells2 w h (fun x y => ld g (f_X3_open g d.1) (8 * y + x))) = 0 then (1 : Int32) else 0) = (if nI (cells2 w h (fun x y => !BC d.1 x y)) = 0 then 1 else 0) := by
    by_cases z : cells2 w h (fun x y => !BC d.1 x y) = 0
    · rw [z, l0.mpr z]
    · rw [if_neg (nI_ne0 (by omega) (by omega)), if_neg (nI_ne0 (by
        have : ¬ cells2 w h (fun x y => ld g (f_X3_open g d.1) (8 * y + x)) = 0 := fun y => z (l0.mp y)
        omega) (by omega))]
  rw [if_pos cond, Option.bind_some, if_neg (by rw [l_lt (by omega) (by omega)]; omega), e8, oinl_v, Option.bind_some, if_neg (by rw [l_lt (by omega) (by omega)]; omega), e9, oinl_v, Option.bind_some, Option.bind_some, if_pos (by rw [l_le (by omega) (by omega)]; exact l9)]
/-- a turn after the act -/
theorem k158 {w h : Nat} {rd : Bool} {g : GrS} {r : RuS} {d : GaS} {a : Nat → Int32} {s : SiS} {M : Nat → Nat → Int32} (H : RS w h rd g r d a s M) {T : Nat} (hT : Num T w h d a) (hT9 : T < 40) (dF : GaS) (aF : Nat → Int32) (kC : Nat → Int64) (l4 l5 : Int32) (Ln : Nat) (xs : Nat → Int32) : ∃ d' a' s' M' dF' aF' kC', f_st_158 g r d a dF aF kC s W7 (fun _ => 0) (fun _ => 0) (fun _ => 0) M (w * h) (w * h) (w * h) l4 l5 (nI w) (nI h) 0 0 (-1) 0 Ln xs = some (g, r, d', a', dF', aF', kC', s', M') ∧ RS w h rd g r d' a' s' M' ∧ Num (T + 1) w h d' a' := by
  obtain ⟨t1, t2, t3, e1, tb⟩ := k161 H hT
  have hc := H.2.2.2.2.1
  have hW := H.1
  have hG := H.2.1
  have e2 : cells2 w h (BC (sqC g r d.1 1)) = pc (sqC g r d.1 1) := (pc_cells hW (sq_c hW hG hc 1).1).symm
  obtain ⟨d', a', s', M', dF', aF', kC', e, H', hT'⟩ := k672 H hT hT9 (fun k hk => (tb k hk).1) (fun k hk => (tb k hk).2.2) dF aF kC t2 l4 Ln xs
  refine ⟨d', a', s', M', dF', aF', kC', ?_, H', hT'⟩
  unfold f_st_158
  rw [e1, Option.bind_some]
  dsimp only
  rw [k426 H hT, k526 H hT tb, e2, e]
