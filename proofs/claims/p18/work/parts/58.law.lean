/-! the law's twin answers yes -/
theorem rules_pick (xx : Int32) : ∃ b c, b < 512 ∧ c < 512 ∧ ∀ {α : Type} (K : Int32 → Int32 → Option α), (Option.bind (f_L_below (xx >>> (4 &&& 31)) 4) fun r12 => bindv (if r12 = 0 then (1) else (0) : Int32) fun v13 => Option.bind (if v13 = 0 then (Option.bind (f_L_below (xx >>> (6 &&& 31)) 2) fun r14 => some (8 + (32 * r14))) else (Option.bind (f_L_below (xx >>> (5 &&& 31)) 512) fun r15 => some r15) : Option (Int32)) fun v16 => Option.bind (if v13 = 0 then (Option.bind (f_L_below (xx >>> (8 &&& 31)) 2) fun r17 => if r17 = 0 then (some 12) else (some 62)) else (Option.bind (f_L_below (xx >>> (3 &&& 31)) 512) fun r18 => some r18) : Option (Int32)) fun v19 => K v16 v19) = K (nI b) (nI c) := by
  obtain ⟨j, -, e1⟩ := below_ok (xx >>> (4 &&& 31)) (n := 4) (by decide) (by decide)
  obtain ⟨j2, h2, e2⟩ := below_ok (xx >>> (6 &&& 31)) (n := 2) (by decide) (by decide)
  obtain ⟨j3, h3, e3⟩ := below_ok (xx >>> (5 &&& 31)) (n := 512) (by decide) (by decide)
  obtain ⟨j4, h4, e4⟩ := below_ok (xx >>> (8 &&& 31)) (n := 2) (by decide) (by decide)
  obtain ⟨j5, h5, e5⟩ := below_ok (xx >>> (3 &&& 31)) (n := 512) (by decide) (by decide)
  rw [show f_L_below (xx >>> (4 &&& 31)) 4 = some (nI j) from e1, show f_L_below (xx >>> (6 &&& 31)) 2 = some (nI j2) from e2, show f_L_below (xx >>> (5 &&& 31)) 512 = some (nI j3) from e3, show f_L_below (xx >>> (8 &&& 31)) 2 = some (nI j4) from e4, show f_L_below (xx >>> (3 &&& 31)) 512 = some (nI j5) from e5]
  by_cases z : nI j = 0
  · refine ⟨j3, j5, h3, h5, fun K => ?_⟩
    rw [Option.bind_some, if_pos z]
    rfl
  · by_cases y : nI j4 = 0
    · refine ⟨8 + 32 * j2, 12, by omega, by decide, fun K => ?_⟩
      rw [Option.bind_some, if_neg z]
      unfold bindv
      dsimp only
      rw [if_pos rfl, Option.bind_some, Option.bind_some, if_pos rfl, Option.bind_some, if_pos y, Option.bind_some, show (32 : Int32) = nI 32 from rfl, show (8 : Int32) = nI 8 from rfl, pk_mul, nI_add]
      rfl
    · refine ⟨8 + 32 * j2, 62, by omega, by decide, fun K => ?_⟩
      rw [Option.bind_some, if_neg z]
      unfold bindv
      dsimp only
      rw [if_pos rfl, Option.bind_some, Option.bind_some, if_pos rfl, Option.bind_some, if_neg y, Option.bind_some, show (32 : Int32) = nI 32 from rfl, show (8 : Int32) = nI 8 from rfl, pk_mul, nI_add]
      rfl
theorem act_ok {w h : Nat} {rd : Bool} {g : GrS} {r : RuS} {d : GaS} {a : Nat → Int32} {s : SiS} {M : Nat → Nat → Int32} (H : RS w h rd g r d a s M) {T : Nat} (hT : Num T w h d a) (xx : Int32) : OutA T (f_L_act g r d a s M xx) := by
  have H0 := H
  obtain ⟨hW, hG, es, hr, hc, hM⟩ := H
  obtain ⟨w3, w8, h3, h8⟩ := id hW
  have es1 : s.1 = nI w := by rw [es]
  have es2 : s.2.1 = nI h := by rw [es]
  obtain ⟨x, hx, ex⟩ := below_ok (xx >>> (3 &&& 31)) (n := w) (by omega) (by omega)
  obtain ⟨y, hy, ey⟩ := below_ok (xx >>> (5 &&& 31)) (n := h) (by omega) (by omega)
  obtain ⟨k, hk, ek⟩ := below_ok xx (n := 12) (by decide) (by decide)
  have tx : (nI x).toNatClampNeg = x := l_toN (by omega)
  have ty : (nI y).toNatClampNeg = y := l_toN (by omega)
  have tw : (nI w).toNatClampNeg = w := l_toN (by omega)
  have th : (nI h).toNatClampNeg = h := l_toN (by omega)
  have gx : ¬ (nI x < 0 ∨ w ≤ x) := fun z => z.elim (nI_pos (by omega)) (by omega)
  have gy : ¬ (nI y < 0 ∨ h ≤ y) := fun z => z.elim (nI_pos (by omega)) (by omega)
  obtain ⟨b, c, hb, hc2, er⟩ := rules_pick xx
  have ne : ∀ n, n < 12 → ¬ k = n → ¬ nI k = nI n := fun n hn z e => z ((nI_eq (by omega) (by omega)).mp e)
  unfold f_L_act
  rw [es1, ex, Option.bind_some, es2, ey, Option.bind_some, show f_L_below xx 12 = some (nI k) from ek, Option.bind_some]
  by_cases k0 : k = 0
  · subst k0
    rw [if_pos (show nI 0 = 0 from rfl)]
    obtain ⟨j, -, ej⟩ := below_ok (xx >>> (4 &&& 31)) (n := 3) (by decide) (by decide)
    rw [show f_L_below (xx >>> (4 &&& 31)) 3 = some (nI j) from ej, Option.bind_some]
    by_cases j0 : nI j ≤ 0
    · obtain ⟨p, hp, ep⟩ := below_ok (xx >>> (5 &&& 31)) (n := 6) (by decide) (by decide)
      obtain ⟨q, hq, eq⟩ := below_ok (xx >>> (7 &&& 31)) (n := 6) (by decide) (by decide)
      rw [if_pos j0, RS_size H0, Option.bind_some, show f_L_below (xx >>> (5 &&& 31)) 6 = some (nI p) from ep, Option.bind_some, show f_L_below (xx >>> (7 &&& 31)) 6 = some (nI q) from eq, Option.bind_some]
      exact act_lay H0 hT hp hq
    · rw [if_neg j0]
      exact out_same H0 hT
  rw [if_neg (show ¬ nI k = 0 from ne 0 (by decide) k0)]
  by_cases k1 : k = 1
  · subst k1
    rw [if_pos (show nI 1 = 1 from rfl), er]
    have := act_rules H0 hT hb hc2
    rw [es1, es2] at this
    exact this
  rw [if_neg (show ¬ nI k = 1 from ne 1 (by decide) k1)]
  by_cases k2 : k = 2
  · subst k2
    rw [if_pos (show nI 2 = 2 from rfl), er]
    have := act_rules H0 hT hb hc2
    rw [es1, es2] at this
    exact this
  rw [if_neg (show ¬ nI k = 2 from ne 2 (by decide) k2)]
  by_cases k3 : k = 3
  · subst k3
    obtain ⟨j, -, ej⟩ := below_ok (xx >>> (4 &&& 31)) (n := 3) (by decide) (by decide)
    rw [if_pos (show nI 3 = 3 from rfl), show f_L_below (xx >>> (4 &&& 31)) 3 = some (nI j) from ej, Option.bind_some]
    unfold bindv
    have := act_edge H0 hT (if nI j ≤ 0 then false else true)
    rw [es1, es2] at this
    exact this
  rw [if_neg (show ¬ nI k = 3 from ne 3 (by decide) k3)]
  have turn := act_turn H0 hT hx hy
  by_cases k4 : k = 4
  · subst k4
    rw [if_pos (show nI 4 = 4 from rfl), tx, ty, tw, th, if_neg gy, if_neg gx]
    exact turn
  rw [if_neg (show ¬ nI k = 4 from ne 4 (by decide) k4)]
  by_cases k5 : k = 5
  · subst k5
    rw [if_pos (show nI 5 = 5 from rfl), tx, ty, tw, th, if_neg gy, if_neg gx]
    exact turn
  rw [if_neg (show ¬ nI k = 5 from ne 5 (by decide) k5)]
  by_cases k6 : k = 6
  · subst k6
    rw [if_pos (show nI 6 = 6 from rfl), tx, ty, tw, th, if_neg gy, if_neg gx]
    exact turn
  rw [if_neg (show ¬ nI k = 6 from ne 6 (by decide) k6)]
  obtain ⟨t, ht, et⟩ := below_ok (xx >>> (8 &&& 31)) (n := 4) (by decide) (by decide)
  obtain ⟨f, hf, ef⟩ := below_ok (xx >>> (10 &&& 31)) (n := 4) (by decide) (by decide)
  rw [show f_L_below (xx >>> (8 &&& 31)) 4 = some (nI t) from et, Option.bind_some, show f_L_below (xx >>> (10 &&& 31)) 4 = some (nI f) from ef, Option.bind_some]
  exact act_plant H0 hT hx hy hf ht
theorem cell_ok {Ln : Nat} (hL : Ln < 2 ^ 31) (xs : Nat → Int32) {k : Nat} (hk : k < 100) : ∃ v, f_L_cell Ln xs (nI k) = some v := by
  unfold f_L_cell
  by_cases z : Ln ≤ k
  · exact ⟨_, if_pos (by rw [show Int32.ofNat Ln = nI Ln from rfl, l_le hL (by omega)]; exact z)⟩
  · refine ⟨xs k, ?_⟩
    rw [if_neg (by rw [show Int32.ofNat Ln = nI Ln from rfl, l_le hL (by omega)]; exact z), l_toN (show k < 2 ^ 31 by omega), if_neg (fun y => y.elim (nI_pos (by omega)) z)]
theorem build_ok {g : GrS} {r : RuS} {d : GaS} (a : Nat → Int32) {Ln : Nat} (hL : Ln < 2 ^ 31) (xs : Nat → Int32) (hG : GOK g 8 8 false) (hr : r = (8, 62)) (hd : d = (0, 0, 0, 0)) : OutA 0 (f_L_build g r d a Ln xs) := by
  subst hr
  subst hd
  have hW : WH 8 8 := ⟨by decide, by decide, by decide, by decide⟩
  obtain ⟨M0, m1, m2⟩ := rows_ok (w := 8) (h := 8) (by decide) (by decide) (by decide) (-1)
  have b0 : ∀ x y, BC 0 x y = false := fun x y => cb_0 _
  have H0 : RS 8 8 false g (8, 62) (0, 0, 0, 0) a (8, 8, false, 8, 62, 0, 0, 0) M0 := by
    refine ⟨hW, hG, rfl, ⟨8, 62, by decide, by decide, rfl, rfl⟩, fun i hi => absurd ((cb_0 i).symm.trans hi) (by decide), fun x y hx hy => ⟨?_, fun z => absurd ((b0 x y).symm.trans z) (by decide), fun _ => m2 x y hx hy⟩⟩
    exact (simB_f.mpr (by rw [m2 x y hx hy]; decide)).trans (b0 x y).symm
  have T0 : Num 0 8 8 (0, 0, 0, 0) a := ⟨by decide, fun x y _ _ z => absurd ((b0 x y).symm.trans z) (by decide), ⟨0, by decide, rfl⟩, ⟨0, by decide, rfl⟩⟩
  obtain ⟨q, ⟨w, h, rd, q1, q2⟩, q3⟩ := for_inv (n := 14) (fun _ (q : (Nat → Int32) × (Nat → Nat → Int32) × GrS × RuS × GaS × SiS) => ∃ w h rd, RS w h rd q.2.2.1 q.2.2.2.1 q.2.2.2.2.1 q.1 q.2.2.2.2.2 q.2.1 ∧ Num 0 w h q.2.2.2.2.1 q.1) (fun nf i q => lp_L_build_10 Ln xs nf i q.1 q.2.1 q.2.2.1 q.2.2.2.1 q.2.2.2.2.1 q.2.2.2.2.2) id (fun nf k q hk hq => by
      obtain ⟨w, h, rd, H, hT⟩ := hq
      obtain ⟨v, ev⟩ := cell_ok hL xs (k := k) (by omega)
      have row : lp_L_build_10 Ln xs (nf + 1) (nI k) q.1 q.2.1 q.2.2.1 q.2.2.2.1 q.2.2.2.2.1 q.2.2.2.2.2 = _ := lp_L_build_10.eq_2 Ln xs (nf := nf) (nI k) q.1 q.2.1 q.2.2.1 q.2.2.2.1 q.2.2.2.2.1 q.2.2.2.2.2
      rw [if_neg (by rw [show (14 : Int32) = nI 14 from rfl, l_le (by omega) (by omega)]; omega), ev, Option.bind_some, nI_1] at row
      have pick : ∃ u, (if 3 ≤ nI k then (some (v + (59 * nI k))) else (Option.bind (f_L_below (v + (59 * nI k)) 100000) fun r37 => bindv (if nI k = 0 then (0) else (if nI k = 1 then (1) else (3)) : Int32) fun v38 => some ((12 * (3 * r37)) + v38)) : Option (Int32)) = some u := by
        by_cases z : 3 ≤ nI k
        · exact ⟨_, if_pos z⟩
        · obtain ⟨j, -, ej⟩ := below_ok (v + (59 * nI k)) (n := 100000) (by decide) (by decide)
          rw [if_neg z, show f_L_below (v + (59 * nI k)) 100000 = some (nI j) from ej, Option.bind_some]
          exact ⟨_, rfl⟩
      obtain ⟨u, eu⟩ := pick
      obtain ⟨w', h', rd', g', r', d', a', s', M', ea, H', hT'⟩ := act_ok H hT u
      rw [eu, Option.bind_some, ea, Option.bind_some] at row
      exact ⟨(a', M', g', r', d', s'), ⟨w', h', rd', H', hT'⟩, row⟩) (fun nf q _ => by
      show lp_L_build_10 Ln xs (nf + 1) (nI 14) q.1 q.2.1 q.2.2.1 q.2.2.2.1 q.2.2.2.2.1 q.2.2.2.2.2 = _
      rw [lp_L_build_10.eq_2, if_pos (by decide)]
      rfl) 16 0 ((a, M0, g, (8, 62), (0, 0, 0, 0), (8, 8, false, 8, 62, 0, 0, 0)) : (Nat → Int32) × (Nat → Nat → Int32) × GrS × RuS × GaS × SiS) (by decide) (by decide) ⟨8, 8, false, H0, T0⟩
  refine ⟨w, h, rd, q.2.2.1, q.2.2.2.1, q.2.2.2.2.1, q.1, q.2.2.2.2.2, q.2.1, ?_, q1, q2⟩
  unfold f_L_build f_X6_init
  rw [show f_X6_rows 8 8 (-1) = some M0 from m1, Option.bind_some, Option.bind_some, show lp_L_build_10 Ln xs 16 0 a M0 g (8, 62) (0, 0, 0, 0) (8, 8, false, 8, 62, 0, 0, 0) = some q from q3, Option.bind_some]
theorem turn_ok {w h : Nat} {rd : Bool} {g : GrS} {r : RuS} {d : GaS} {a : Nat → Int32} {s : SiS} {M : Nat → Nat → Int32} (H : RS w h rd g r d a s M) {T : Nat} (hT : Num T w h d a) (hT9 : T < 40) (dF : GaS) (aF : Nat → Int32) (kC : Nat → Int64) {k : Nat} (hk : k < 10) {Ln : Nat} (hL : Ln < 2 ^ 31) (xs : Nat → Int32) : ∃ w' h' rd' g' r' d' a' s' M' dF' aF' kC', f_st_68 g r d a dF aF kC s W7 M (nI k) Ln xs = some (g', r', d', a', dF', aF', kC', s', M') ∧ RS w' h' rd' g' r' d' a' s' M' ∧ Num (T + 1) w' h' d' a' := by
  obtain ⟨v, ev⟩ := cell_ok hL xs (k := k) (by omega)
  obtain ⟨j, -, ej⟩ := below_ok (v + (53 * nI k)) (n := 4) (by decide) (by decide)
  have pick : OutA T (if nI j = 0 then (Option.bind (f_L_act g r d a s M ((v + (53 * nI k)) / 4)) fun r3 => some (r3.1, r3.2.1, r3.2.2.1, r3.2.2.2.1, r3.2.2.2.2.1, r3.2.2.2.2.2)) else (some (g, r, d, a, s, M))) := by
    by_cases z : nI j = 0
    · rw [if_pos z]
      obtain ⟨w', h', rd', g', r', d', a', s', M', ea, H', hT'⟩ := act_ok H hT ((v + (53 * nI k)) / 4)
      rw [ea, Option.bind_some]
      exact out_same H' hT'
    · rw [if_neg z]
      exact out_same H hT
  obtain ⟨w', h', rd', g', r', d', a', s', M', ea, H', hT'⟩ := pick
  have w64 := wh_64 H'.1
  have e1 : f_X5_count g' r' d' a' 1 = some (.inl (nI w')) := (count_e (k := 1) (by decide) (cd1 g' r' d' a')).trans (by rw [H'.2.1.1])
  have e2 : f_X5_count g' r' d' a' 2 = some (.inl (nI h')) := (count_e (k := 2) (by decide) (cd2 g' r' d' a')).trans (by rw [H'.2.1.2.1])
  obtain ⟨d2, a2, s2, M2, dF2, aF2, kC2, e, H2, hT2⟩ := k158 H' hT' hT9 dF aF kC (nI k) (v + (53 * nI k)) Ln xs
  refine ⟨w', h', rd', g', r', d2, a2, s2, M2, dF2, aF2, kC2, ?_, H2, hT2⟩
  unfold f_st_68
  rw [ev, Option.bind_some, show f_L_below (v + (53 * nI k)) 4 = some (nI j) from ej, Option.bind_some, ea, Option.bind_some]
  dsimp only
  rw [e1, oinl_v, Option.bind_some, e2, oinl_v, Option.bind_some, pk_mul, l_toN (show w' * h' < 2 ^ 31 by omega), if_neg (fun z => z.elim (nI_pos (by omega)) (by omega))]
  exact e
theorem law_ok {g : GrS} {r : RuS} {d : GaS} (a : Nat → Int32) {Ln : Nat} (hL : Ln < 2 ^ 31) (xs : Nat → Int32) (hG : GOK g 8 8 false) (hr : r = (8, 62)) (hd : d = (0, 0, 0, 0)) (dF : GaS) (aF : Nat → Int32) (kC : Nat → Int64) : f_L_law g r d a dF aF kC Ln xs = some () := by
  obtain ⟨w, h, rd, g1, r1, d1, a1, s1, M1, e1, H1, T1⟩ := build_ok a hL xs hG hr hd
  obtain ⟨q, ⟨w2, h2, rd2, q1, q2⟩, q3⟩ := for_inv (n := 10) (fun k (q : (Nat → Int32) × (Nat → Int32) × (Nat → Int64) × (Nat → Nat → Int32) × GrS × RuS × GaS × GaS × SiS) => ∃ w h rd, RS w h rd q.2.2.2.2.1 q.2.2.2.2.2.1 q.2.2.2.2.2.2.1 q.1 q.2.2.2.2.2.2.2.2 q.2.2.2.1 ∧ Num k w h q.2.2.2.2.2.2.1 q.1) (fun nf i q => lp_L_law_61 Ln xs nf i q.1 q.2.1 q.2.2.1 q.2.2.2.1 q.2.2.2.2.1 q.2.2.2.2.2.1 q.2.2.2.2.2.2.1 q.2.2.2.2.2.2.2.1 q.2.2.2.2.2.2.2.2) id (fun nf k q hk hq => by
      obtain ⟨w, h, rd, H, hT⟩ := hq
      obtain ⟨w', h', rd', g', r', d', a', s', M', dF', aF', kC', e, H', hT'⟩ := turn_ok H hT (by omega) q.2.2.2.2.2.2.2.1 q.2.1 q.2.2.1 hk hL xs
      have row : lp_L_law_61 Ln xs (nf + 1) (nI k) q.1 q.2.1 q.2.2.1 q.2.2.2.1 q.2.2.2.2.1 q.2.2.2.2.2.1 q.2.2.2.2.2.2.1 q.2.2.2.2.2.2.2.1 q.2.2.2.2.2.2.2.2 = _ := lp_L_law_61.eq_2 Ln xs (nf := nf) (nI k) q.1 q.2.1 q.2.2.1 q.2.2.2.1 q.2.2.2.2.1 q.2.2.2.2.2.1 q.2.2.2.2.2.2.1 q.2.2.2.2.2.2.2.1 q.2.2.2.2.2.2.2.2
      rw [if_neg (by rw [show (10 : Int32) = nI 10 from rfl, l_le (by omega) (by omega)]; omega), e, Option.bind_some, nI_1] at row
      exact ⟨(a', aF', kC', M', g', r', d', dF', s'), ⟨w', h', rd', H', hT'⟩, row⟩) (fun nf q _ => by
      show lp_L_law_61 Ln xs (nf + 1) (nI 10) q.1 q.2.1 q.2.2.1 q.2.2.2.1 q.2.2.2.2.1 q.2.2.2.2.2.1 q.2.2.2.2.2.2.1 q.2.2.2.2.2.2.2.1 q.2.2.2.2.2.2.2.2 = _
      rw [lp_L_law_61.eq_2, if_pos (by decide)]
      rfl) 12 0 ((a1, aF, kC, M1, g1, r1, d1, dF, s1) : (Nat → Int32) × (Nat → Int32) × (Nat → Int64) × (Nat → Nat → Int32) × GrS × RuS × GaS × GaS × SiS) (by decide) (by decide) ⟨w, h, rd, H1, T1⟩
  unfold f_L_law
  rw [e1, Option.bind_some]
  dsimp only
  rw [show lp_L_law_61 Ln xs 12 0 a1 aF kC M1 g1 r1 d1 dF s1 = some q from q3, Option.bind_some]
  exact isSame_ok q1 q2
