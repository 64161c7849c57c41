/-! the law's own counts -/
theorem init_ok {M : Nat → Nat → Int32} {w h : Nat} {rd : Bool} {bi st yr b0 d0 : Int32} (hW : WH w h) (L0 : Nat → Nat → Int32) (h0 : ∀ x y, x < w → y < h → L0 y x = -1) : ∃ L, lp_X6_lawns_15 (nI w, nI h, rd, bi, st, yr, b0, d0) M 2200 0 L0 = some L ∧ ∀ x y, x < w → y < h → L y x = if simB M x y = true then -1 else nI (w * y + x) := by
  obtain ⟨w3, w8, h3, h8⟩ := id hW
  have hs : SOK (nI w, nI h, rd, bi, st, yr, b0, d0) w h rd := ⟨rfl, rfl, rfl⟩
  have ew : (nI w).toNatClampNeg = w := l_toN (by omega)
  have eh : (nI h).toNatClampNeg = h := l_toN (by omega)
  obtain ⟨L, r1, r2⟩ := for2_inv (w := w) (h := h) (F := 2200) (by omega) (by omega) (fun k (L : Nat → Nat → Int32) => ∀ x y, x < w → y < h → L y x = if w * y + x < k ∧ simB M x y = false then nI (w * y + x) else -1) (fun y nf i L => lp_X6_lawns_25 (nI w, nI h, rd, bi, st, yr, b0, d0) M y nf i L) (fun nf i L => lp_X6_lawns_15 (nI w, nI h, rd, bi, st, yr, b0, d0) M nf i L)
    (fun nf x y L hx hy hp => by
      have ty : (nI y).toNatClampNeg = y := l_toN (by omega)
      have tx : (nI x).toNatClampNeg = x := l_toN (by omega)
      have gy : ¬ (nI y < 0 ∨ h ≤ y) := fun z => z.elim (nI_lt0 y (by omega)) (by omega)
      have gx : ¬ (nI x < 0 ∨ w ≤ x) := fun z => z.elim (nI_lt0 x (by omega)) (by omega)
      refine ⟨if simB M x y = true then L else upM L y (upd (L y) x (nI (w * y + x))), fun x' y' hx' hy' => ?_, ?_⟩
      · cases e : simB M x y with
        | true =>
          rw [if_pos rfl, hp x' y' hx' hy']
          by_cases z : y' = y ∧ x' = x
          · obtain ⟨rfl, rfl⟩ := z
            rw [if_neg (fun q => Nat.lt_irrefl _ q.1), if_neg (fun q => by rw [e] at q; cases q.2)]
          · by_cases q : w * y' + x' < w * y + x ∧ simB M x' y' = false
            · rw [if_pos q, if_pos ⟨by omega, q.2⟩]
            · rw [if_neg q, if_neg (fun q2 => ((k_lt_iff hx hx').mp q2.1).elim (fun u => q ⟨u, q2.2⟩) z)]
        | false =>
          rw [if_neg (by decide), upM_at]
          by_cases z : y' = y ∧ x' = x
          · obtain ⟨rfl, rfl⟩ := z
            rw [if_pos ⟨rfl, rfl⟩, if_pos ⟨Nat.lt_succ_self _, e⟩]
          · rw [if_neg z, hp x' y' hx' hy']
            by_cases q : w * y' + x' < w * y + x ∧ simB M x' y' = false
            · rw [if_pos q, if_pos ⟨by omega, q.2⟩]
            · rw [if_neg q, if_neg (fun q2 => ((k_lt_iff hx hx').mp q2.1).elim (fun u => q ⟨u, q2.2⟩) z)]
      · show lp_X6_lawns_25 (nI w, nI h, rd, bi, st, yr, b0, d0) M (nI y) (nf + 1) (nI x) L = _
        rw [lp_X6_lawns_25.eq_2]
        dsimp only
        rw [if_neg (by rw [l_le (by omega) (by omega)]; omega), has_at hW hs hx hy, Option.bind_some, eh, ew, ty, tx, nI_1]
        cases e : simB M x y with
        | true => rw [if_neg (show ¬ b01 true = 0 by decide)]; rfl
        | false => rw [if_pos (show b01 false = 0 from rfl), if_neg gy, if_neg gx, pk_mul, nI_add]; rfl)
    (fun nf y L => by
      rw [lp_X6_lawns_25.eq_2]
      dsimp only
      rw [if_pos (by rw [l_le (by omega) (by omega)]; exact Nat.le_refl _)])
    (fun nf y L hy => by
      rw [lp_X6_lawns_15.eq_2]
      dsimp only
      rw [if_neg (by rw [l_le (by omega) (by omega)]; omega), nI_1])
    (fun nf L => by
      rw [lp_X6_lawns_15.eq_2]
      dsimp only
      rw [if_pos (by rw [l_le (by omega) (by omega)]; exact Nat.le_refl _)]) 2200 L0 (by omega) (fun x y hx hy => by rw [if_neg (fun z => Nat.not_lt_zero _ z.1)]; exact h0 x y hx hy)
  refine ⟨L, r2, fun x y hx hy => ?_⟩
  rw [r1 x y hx hy]
  cases e : simB M x y with
  | true => rw [if_neg (fun z => by cases z.2), if_pos rfl]
  | false => rw [if_pos ⟨k_lt hx hy, rfl⟩, if_neg (by decide)]
theorem siml_ok {g : GrS} {M : Nat → Nat → Int32} {w h : Nat} {rd : Bool} {bi st yr b0 d0 : Int32} (hW : WH w h) (hG : GOK g w h rd) {op : Int64} (ho : InC w h op) (hop : ∀ x y, x < w → y < h → BC op x y = !simB M x y) : ∃ L, f_X6_lawns (nI w, nI h, rd, bi, st, yr, b0, d0) M = some L ∧ LabI g op w h L ∧ Stab w h rd L := by
  obtain ⟨w3, w8, h3, h8⟩ := id hW
  obtain ⟨M0, m1, m2⟩ := rows_ok (w := w) (h := h) (by omega) w8 h8 (-1)
  obtain ⟨L, i1, i2⟩ := init_ok (M := M) (rd := rd) (bi := bi) (st := st) (yr := yr) (b0 := b0) (d0 := d0) hW M0 m2
  have hL : LabI g op w h L := fun x y hx hy => by
    rw [i2 x y hx hy, hop x y hx hy]
    cases e : simB M x y with
    | true => exact ⟨fun _ => rfl, fun q => by cases q⟩
    | false =>
      refine ⟨(fun q => by cases q), fun _ => ⟨x, y, hx, hy, Nat.le_refl _, rfl, ?_⟩⟩
      have : cb op (8 * y + x) = true := by
        have := hop x y hx hy
        rw [e] at this
        exact this
      exact (Lw_ok hW hG ho this).2.2.2.1
  have hm := mu_le hW hL
  obtain ⟨Lf, f1, f2, f3⟩ := l69 (bi := bi) (st := st) (yr := yr) (b0 := b0) (d0 := d0) hW hG ho 2200 L hL (by omega)
  refine ⟨Lf, ?_, f2, f3⟩
  unfold f_X6_lawns
  dsimp only
  rw [m1, Option.bind_some, i1, Option.bind_some, f1]
  rfl
/-- the greatest of the ages, cell by cell -/
def oldS (M : Nat → Nat → Int32) (w : Nat) (b : Int32) (k : Nat) : Int32 := if b < M (k / w) (k % w) then M (k / w) (k % w) else b
theorem nar_b (a b : Bool) : vp_nar .boolean (b01 a ||| b01 b) = b01 (a || b) := by cases a <;> cases b <;> rfl
theorem cnt_pos {p : Nat → Bool} {n : Nat} (b : Bool) : decide (0 < cntN p n + b.toNat) = (decide (0 < cntN p n) || b) := by
  cases b with
  | true => simp
  | false => simp
/-- cells with a label, and those of them that come -/
def szP (op : Int64) (L : Nat → Nat → Int32) (t : Nat) (x y : Nat) : Bool := BC op x y && decide (L y x = nI t)
def bnP (op : Int64) (L : Nat → Nat → Int32) (c : Nat → Nat → Bool) (t : Nat) (x y : Nat) : Bool := szP op L t x y && c x y
theorem c35_ok {g : GrS} {M : Nat → Nat → Int32} {w h : Nat} {rd : Bool} {bi st yr b0 d0 : Int32} (hW : WH w h) (hr : RuOK (nI w, nI h, rd, bi, st, yr, b0, d0)) {op : Int64} {L : Nat → Nat → Int32} (hL : LabI g op w h L) : ∃ v, lp_X6_counts_35 (nI w, nI h, rd, bi, st, yr, b0, d0) M L 100 (-1) 0 (fun _ => 0) (fun _ => 0) = some v ∧ v.1 = foldN (oldS M w) (-1) (w * h) ∧ (∀ t, t < w * h → v.2.1 t = nI (cells2 w h (szP op L t))) ∧ ∀ t, t < w * h → v.2.2 t = b01 (decide (0 < cells2 w h (bnP op L (cmB bi st (simB M) w h rd) t))) := by
  have w64 := wh_64 hW
  obtain ⟨w3, w8, h3, h8⟩ := id hW
  have hs : SOK (nI w, nI h, rd, bi, st, yr, b0, d0) w h rd := ⟨rfl, rfl, rfl⟩
  have ew : (nI w).toNatClampNeg = w := l_toN (by omega)
  have eh : (nI h).toNatClampNeg = h := l_toN (by omega)
  obtain ⟨v, r1, r2⟩ := for2_inv (w := w) (h := h) (F := 100) (by omega) (by omega) (fun k (a : Int32 × (Nat → Int32) × (Nat → Int32)) => a.1 = foldN (oldS M w) (-1) k ∧ (∀ t, t < w * h → a.2.1 t = nI (upto w (szP op L t) k)) ∧ ∀ t, t < w * h → a.2.2 t = b01 (decide (0 < upto w (bnP op L (cmB bi st (simB M) w h rd) t) k))) (fun y nf i a => lp_X6_counts_47 (nI w, nI h, rd, bi, st, yr, b0, d0) M L y nf a.1 i a.2.1 a.2.2) (fun nf i a => lp_X6_counts_35 (nI w, nI h, rd, bi, st, yr, b0, d0) M L nf a.1 i a.2.1 a.2.2)
    (fun nf x y a hx hy hp => by
      obtain ⟨p1, p2, p3⟩ := hp
      have hk := k_lt hx hy
      have ty : (nI y).toNatClampNeg = y := l_toN (by omega)
      have tx : (nI x).toNatClampNeg = x := l_toN (by omega)
      have gy : ¬ (nI y < 0 ∨ h ≤ y) := fun z => z.elim (nI_lt0 y (by omega)) (by omega)
      have gx : ¬ (nI x < 0 ∨ w ≤ x) := fun z => z.elim (nI_lt0 x (by omega)) (by omega)
      obtain ⟨kx, ky⟩ := xy_k (y := y) hx
      have hold : foldN (oldS M w) (-1) (w * y + x + 1) = if a.1 < M y x then M y x else a.1 := by
        show oldS M w (foldN (oldS M w) (-1) (w * y + x)) (w * y + x) = _
        rw [← p1]
        unfold oldS
        rw [kx, ky]
      have cm : f_X6_comes (nI w, nI h, rd, bi, st, yr, b0, d0) M (nI x) (nI y) = some (b01 (cmB bi st (simB M) w h rd x y)) := simc_ok hW hs hr hx hy
      have row : lp_X6_counts_47 (nI w, nI h, rd, bi, st, yr, b0, d0) M L (nI y) (nf + 1) a.1 (nI x) a.2.1 a.2.2 = _ := lp_X6_counts_47.eq_2 (nI w, nI h, rd, bi, st, yr, b0, d0) M L (nI y) (nf := nf) a.1 (nI x) a.2.1 a.2.2
      dsimp only at row
      rw [if_neg (by rw [l_le (by omega) (by omega)]; omega), eh, ew, ty, tx, if_neg gy, if_neg gx, nI_1] at row
      simp only [bindv] at row
      rw [pk_mul, l_toN (by omega), cm] at row
      obtain ⟨la, lb⟩ := hL x y hx hy
      cases eo : BC op x y with
      | false =>
        have el := la eo
        rw [el, if_neg (show ¬ (0 : Int32) ≤ -1 by decide), Option.bind_some] at row
        refine ⟨(if a.1 < M y x then M y x else a.1, a.2.1, a.2.2), ⟨hold.symm, fun t ht => ?_, fun t ht => ?_⟩, row⟩
        · rw [upto_s _ hx, p2 t ht]
          unfold szP
          rw [eo]; rfl
        · rw [upto_s _ hx, p3 t ht]
          unfold bnP szP
          rw [eo]; rfl
      | true =>
        obtain ⟨x0, y0, q1, q2, q3, q4, -⟩ := lb eo
        have k0 := k_lt q1 q2
        rw [q4, if_pos (nI_pos' (by omega)), l_toN (by omega), if_neg (fun z => z.elim (nI_pos (by omega)) (by omega)), Option.bind_some, Option.bind_some] at row
        refine ⟨(if a.1 < M y x then M y x else a.1, upd a.2.1 (w * y0 + x0) (a.2.1 (w * y0 + x0) + 1), upd a.2.2 (w * y0 + x0) (vp_nar .boolean (a.2.2 (w * y0 + x0) ||| b01 (cmB bi st (simB M) w h rd x y)))), ⟨hold.symm, fun t ht => ?_, fun t ht => ?_⟩, row⟩
        · rw [upto_s _ hx]
          show (if t = w * y0 + x0 then _ else _) = _
          by_cases z : t = w * y0 + x0
          · rw [if_pos z, p2 _ k0, nI_1, ← z]
            have : szP op L t x y = true := by unfold szP; rw [eo, q4, ← z]; simp
            rw [this]; rfl
          · rw [if_neg z, p2 t ht]
            have : szP op L t x y = false := by
              unfold szP
              rw [eo, q4, Bool.true_and, decide_eq_false_iff_not, l_eq (by omega) (by omega)]
              exact fun u => z u.symm
            rw [this]; rfl
        · rw [upto_s _ hx]
          show (if t = w * y0 + x0 then _ else _) = _
          by_cases z : t = w * y0 + x0
          · have : szP op L t x y = true := by unfold szP; rw [eo, q4, ← z]; simp
            rw [if_pos z, p3 _ k0, nar_b, ← z]
            have e2 : bnP op L (cmB bi st (simB M) w h rd) t x y = cmB bi st (simB M) w h rd x y := by unfold bnP; rw [this, Bool.true_and]
            rw [e2]
            exact congrArg b01 (cnt_pos _).symm
          · rw [if_neg z, p3 t ht]
            have : szP op L t x y = false := by
              unfold szP
              rw [eo, q4, Bool.true_and, decide_eq_false_iff_not, l_eq (by omega) (by omega)]
              exact fun u => z u.symm
            have e2 : bnP op L (cmB bi st (simB M) w h rd) t x y = false := by unfold bnP; rw [this, Bool.false_and]
            rw [e2]; rfl)
    (fun nf y a => by
      rw [lp_X6_counts_47.eq_2]
      dsimp only
      rw [if_pos (by rw [l_le (by omega) (by omega)]; exact Nat.le_refl _)])
    (fun nf y a hy => by
      rw [lp_X6_counts_35.eq_2]
      dsimp only
      rw [if_neg (by rw [l_le (by omega) (by omega)]; omega), nI_1])
    (fun nf a => by
      rw [lp_X6_counts_35.eq_2]
      dsimp only
      rw [if_pos (by rw [l_le (by omega) (by omega)]; exact Nat.le_refl _)]) 100 (-1, (fun _ => 0), (fun _ => 0)) (by omega) ⟨rfl, fun t _ => rfl, fun t _ => rfl⟩
  exact ⟨v, r2, r1.1, r1.2.1, r1.2.2⟩
/-- the greatest of the first numbers -/
def MaxI (f : Nat → Nat) (n m : Nat) : Prop := (∀ k, k < n → f k ≤ m) ∧ (m = 0 ∨ ∃ k, k < n ∧ m = f k)
theorem MaxI_uni {f : Nat → Nat} {n a b : Nat} (h1 : MaxI f n a) (h2 : MaxI f n b) : a = b := by
  have key : ∀ a b, MaxI f n a → MaxI f n b → a ≤ b := by
    rintro a b ⟨-, h | ⟨k, hk, rfl⟩⟩ ⟨h3, -⟩
    · omega
    · exact h3 k hk
  exact Nat.le_antisymm (key a b h1 h2) (key b a h2 h1)
theorem c143_ok {w h : Nat} {rd : Bool} {bi st yr b0 d0 : Int32} (hW : WH w h) {v : Int32 × (Nat → Int32) × (Nat → Int32)} {sz : Nat → Nat} {bn : Nat → Bool} (hsz : ∀ t, t < w * h → v.2.1 t = nI (sz t) ∧ sz t ≤ 64) (hbn : ∀ t, t < w * h → v.2.2 t = b01 (bn t)) : ∃ m, m ≤ 64 ∧ MaxI sz (w * h) m ∧ lp_X6_counts_143 (nI w, nI h, rd, bi, st, yr, b0, d0) v 100 0 0 0 0 = some (nI (cntN (fun t => decide (0 < sz t)) (w * h)), nI m, nI (cntN (fun t => decide (0 < sz t) && !bn t) (w * h))) := by
  have w64 := wh_64 hW
  obtain ⟨w3, w8, h3, h8⟩ := id hW
  obtain ⟨a, ⟨r1, m, r2, r3, r4, r5⟩, r6⟩ := for_inv (n := w * h) (fun k (a : Int32 × Int32 × Int32) => a.1 = nI (cntN (fun t => decide (0 < sz t)) k) ∧ ∃ m, m ≤ 64 ∧ MaxI sz k m ∧ a.2.1 = nI m ∧ a.2.2 = nI (cntN (fun t => decide (0 < sz t) && !bn t) k)) (fun nf i a => lp_X6_counts_143 (nI w, nI h, rd, bi, st, yr, b0, d0) v nf a.1 a.2.1 a.2.2 i) id
    (fun nf k a hk hp => by
      obtain ⟨p1, m, p2, p3, p4, p5⟩ := hp
      obtain ⟨s1, s2⟩ := hsz k hk
      have row : lp_X6_counts_143 (nI w, nI h, rd, bi, st, yr, b0, d0) v (nf + 1) a.1 a.2.1 a.2.2 (nI k) = _ := lp_X6_counts_143.eq_2 (nI w, nI h, rd, bi, st, yr, b0, d0) v (nf := nf) a.1 a.2.1 a.2.2 (nI k)
      dsimp only at row
      rw [pk_mul, if_neg (by rw [l_le (by omega) (by omega)]; omega), l_toN (show w * h < 2 ^ 31 by omega), l_toN (show k < 2 ^ 31 by omega), if_neg (fun z => z.elim (nI_lt0 k (by omega)) (by omega)), s1, hbn k hk, nI_1] at row
      simp only [bindv] at row
      have c1 : (if nI (sz k) ≤ 0 then (0 : Int32) else 1) = b01 (decide (0 < sz k)) := by
        by_cases q : 0 < sz k
        · rw [if_neg (by rw [show (0 : Int32) = nI 0 from rfl, l_le (by omega) (by omega)]; omega), decide_eq_true q]; rfl
        · rw [if_pos (by rw [show (0 : Int32) = nI 0 from rfl, l_le (by omega) (by omega)]; omega), decide_eq_false q]; rfl
      have c2 : (if nI (sz k) ≤ 0 then (0 : Int32) else (if b01 (bn k) = 0 then 1 else 0)) = b01 (decide (0 < sz k) && !bn k) := by
        by_cases q : 0 < sz k
        · rw [if_neg (by rw [show (0 : Int32) = nI 0 from rfl, l_le (by omega) (by omega)]; omega), decide_eq_true q]
          cases bn k <;> rfl
        · rw [if_pos (by rw [show (0 : Int32) = nI 0 from rfl, l_le (by omega) (by omega)]; omega), decide_eq_false q]; rfl
      have c3 : (if a.2.1 < nI (sz k) then nI (sz k) else a.2.1) = nI (if m < sz k then sz k else m) := by
        rw [p4]
        by_cases q : m < sz k
        · rw [if_pos (by rw [l_lt (by omega) (by omega)]; exact q), if_pos q]
        · rw [if_neg (by rw [l_lt (by omega) (by omega)]; exact q), if_neg q]
      rw [c1, c2, c3] at row
      refine ⟨(a.1 + b01 (decide (0 < sz k)), nI (if m < sz k then sz k else m), a.2.2 + b01 (decide (0 < sz k) && !bn k)), ⟨?_, if m < sz k then sz k else m, ?_, ⟨fun j hj => ?_, ?_⟩, rfl, ?_⟩, row⟩
      · dsimp only
        rw [p1, b01_n, nI_add]; rfl
      · by_cases q : m < sz k
        · rw [if_pos q]; exact s2
        · rw [if_neg q]; exact p2
      · by_cases z : j = k
        · subst z
          by_cases q : m < sz j
          · rw [if_pos q]; exact Nat.le_refl _
          · rw [if_neg q]; omega
        · have := p3.1 j (by omega)
          by_cases q : m < sz k
          · rw [if_pos q]; omega
          · rw [if_neg q]; exact this
      · by_cases q : m < sz k
        · rw [if_pos q]; exact Or.inr ⟨k, Nat.lt_succ_self _, rfl⟩
        · rw [if_neg q]
          rcases p3.2 with z | ⟨j, hj, z⟩
          · exact Or.inl z
          · exact Or.inr ⟨j, by omega, z⟩
      · dsimp only
        rw [p5, b01_n, nI_add]; rfl)
    (fun nf a _ => by
      rw [lp_X6_counts_143.eq_2]
      dsimp only
      rw [pk_mul, if_pos (by rw [l_le (by omega) (by omega)]; exact Nat.le_refl _)]
      rfl) 100 0 (0, 0, 0) (Nat.zero_le _) (by omega) ⟨rfl, 0, Nat.zero_le _, ⟨fun k hk => absurd hk (Nat.not_lt_zero _), Or.inl rfl⟩, rfl, rfl⟩
  refine ⟨m, r2, r3, r6.trans (congrArg some ?_)⟩
  obtain ⟨a1, a2, a3⟩ := a
  dsimp only at r1 r4 r5
  show (a1, a2, a3) = _
  rw [r1, r4, r5]
