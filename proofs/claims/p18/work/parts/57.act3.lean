/-! a figure is planted, by the class too -/
theorem cells_b {w h x y : Nat} (hW : WH w h) (p : Int32) {j : Nat} (hj : j < 64) : ∀ n, cb (foldN (plF w h x y p) 0 n) j = anyB (fun k => pt p k && decide (j = ccC w h x y k)) n
  | 0 => cb_0 j
  | n + 1 => by
    show cb (plF w h x y p (foldN (plF w h x y p) 0 n) n) j = (anyB _ n || (pt p n && decide (j = ccC w h x y n)))
    obtain ⟨c1, c2⟩ := cc_in (x := x) (y := y) (k := n) hW
    have l64 : ccC w h x y n < 64 := (bx hW c1 c2).1
    show cb (if pt p n = true then foldN (plF w h x y p) 0 n ||| ob (ccC w h x y n) else foldN (plF w h x y p) 0 n) j = _
    cases e : pt p n with
    | true => rw [if_pos rfl, cb_or, cells_b hW p hj n, cb_ob l64 hj, Bool.true_and]
    | false => rw [if_neg (by decide), cells_b hW p hj n, Bool.false_and, Bool.or_false]
theorem hit_c {w h x y f t : Nat} (hW : WH w h) (hf : f < 4) (ht : t < 4) {x' y' : Nat} (hx : x' < w) (hy : y' < h) : cb (foldN (plF w h x y (PP f t)) 0 9) (8 * y' + x') = hit w h x y f t x' y' (figN (nI f)) := by
  obtain ⟨w3, w8, h3, h8⟩ := id hW
  obtain ⟨f5, -⟩ := fig_5 f hf
  rw [cells_b hW _ (bx hW hx hy).1, Bool.eq_iff_iff, anyB_iff]
  unfold hit
  rw [anyB_iff]
  constructor
  · rintro ⟨k, hk, e⟩
    rw [Bool.and_eq_true, PP_p f hf t ht k hk, anyB_iff, decide_eq_true_eq] at e
    obtain ⟨⟨i, hi, e1⟩, e2⟩ := e
    rw [decide_eq_true_eq] at e1
    obtain ⟨-, t2, t3⟩ := TP_t f hf t ht i (by omega) hi
    refine ⟨i, hi, ?_⟩
    have k1 : k % 3 = (TP f t i).1 := by omega
    have k2 : k / 3 = (TP f t i).2 := by omega
    unfold ccC at e2
    rw [k1, k2] at e2
    have lx := Nat.mod_lt (x + (TP f t i).1) (show 0 < w by omega)
    exact decide_eq_true ⟨by omega, by omega⟩
  · rintro ⟨i, hi, e⟩
    rw [decide_eq_true_eq] at e
    obtain ⟨-, t2, t3⟩ := TP_t f hf t ht i (by omega) hi
    refine ⟨3 * (TP f t i).2 + (TP f t i).1, by omega, ?_⟩
    rw [Bool.and_eq_true, PP_p f hf t ht _ (by omega), anyB_iff, decide_eq_true_eq]
    refine ⟨⟨i, hi, decide_eq_true rfl⟩, ?_⟩
    have k1 : (3 * (TP f t i).2 + (TP f t i).1) % 3 = (TP f t i).1 := by omega
    have k2 : (3 * (TP f t i).2 + (TP f t i).1) / 3 = (TP f t i).2 := by omega
    unfold ccC
    rw [k1, k2, e.1, e.2]
theorem cells_in {w h x y : Nat} (hW : WH w h) (p : Int32) (n : Nat) : InC w h (foldN (plF w h x y p) 0 n) := fun i hi => by
  rw [cells_b hW p (cb_lt hi), anyB_iff] at hi
  obtain ⟨k, -, e⟩ := hi
  rw [Bool.and_eq_true, decide_eq_true_eq] at e
  obtain ⟨c1, c2⟩ := cc_in (x := x) (y := y) (k := k) hW
  have := hW.2.1
  rw [e.2]
  unfold ccC
  exact ⟨by omega, by omega⟩
theorem can_f {w h x y f t : Nat} (hf : f < 4) (ht : t < 4) : canB w h false x y f t (figN (nI f)) = true ↔ ∀ k, k < 9 → okk w h x y (PP f t) k = true := by
  obtain ⟨f5, -⟩ := fig_5 f hf
  unfold canB
  constructor
  · intro z k hk
    unfold okk
    rw [PP_p f hf t ht k hk]
    cases e : anyB (fun i => decide (k = 3 * (TP f t i).2 + (TP f t i).1)) (figN (nI f)) with
    | false => rfl
    | true =>
      rw [anyB_iff] at e
      obtain ⟨i, hi, e1⟩ := e
      rw [decide_eq_true_eq] at e1
      obtain ⟨-, t2, t3⟩ := TP_t f hf t ht i (by omega) hi
      have k1 : k % 3 = (TP f t i).1 := by omega
      have k2 : k / 3 = (TP f t i).2 := by omega
      rw [k1, k2]
      cases q : okc w h false x y f t i with
      | true => exact q
      | false =>
        have : anyB (fun i => !okc w h false x y f t i) (figN (nI f)) = true := anyB_iff.mpr ⟨i, hi, by show (!okc w h false x y f t i) = true; rw [q]; rfl⟩
        rw [this] at z
        cases z
  · intro z
    cases q : anyB (fun i => !okc w h false x y f t i) (figN (nI f)) with
    | false => rfl
    | true =>
      rw [anyB_iff] at q
      obtain ⟨i, hi, e⟩ := q
      obtain ⟨-, t2, t3⟩ := TP_t f hf t ht i (by omega) hi
      have := z (3 * (TP f t i).2 + (TP f t i).1) (by omega)
      unfold okk at this
      rw [PP_p f hf t ht _ (by omega), show anyB (fun i' => decide (3 * (TP f t i).2 + (TP f t i).1 = 3 * (TP f t i').2 + (TP f t i').1)) (figN (nI f)) = true from anyB_iff.mpr ⟨i, hi, decide_eq_true rfl⟩] at this
      have k1 : (3 * (TP f t i).2 + (TP f t i).1) % 3 = (TP f t i).1 := by omega
      have k2 : (3 * (TP f t i).2 + (TP f t i).1) / 3 = (TP f t i).2 := by omega
      rw [k1, k2] at this
      have e : (!okc w h false x y f t i) = true := e
      rw [show okc w h false x y f t i = true from this] at e
      cases e
theorem act_plant {w h : Nat} {rd : Bool} {g : GrS} {r : RuS} {d : GaS} {a : Nat → Int32} {s : SiS} {M : Nat → Nat → Int32} (H : RS w h rd g r d a s M) {T : Nat} (hT : Num T w h d a) {x y f t : Nat} (hx : x < w) (hy : y < h) (hf : f < 4) (ht : t < 4) : OutA T (Option.bind (f_L_figure (nI f)) fun r49 => Option.bind (lp_L_act_419 s (nI x) (nI y) (nI t) (nI f) 9 1 0 r49) fun v91 => Option.bind (lp_L_act_549 s (nI f) v91 9 0 M) fun v120 => oplant (f_X5_plant g d a (nI f) (nI t) (nI x) (nI y)) (fun r121 => if v91.1 = 0 then (none) else (Option.bind (f_X6_hedges s v120) fun r122 => if r121.1 = r122 then (some (g, r, r121.2.1, r121.2.2, s, v120)) else (none))) (if v91.1 = 0 then (some (g, r, d, a, s, v120)) else (none))) := by
  have H0 := H
  obtain ⟨hW, hG, rfl, hr, hc1, hM⟩ := H
  obtain ⟨m, m1, m2⟩ := l419 (rd := rd) hW hx hy hf ht r.1 r.2 d.2.1 d.2.2.1 d.2.2.2
  obtain ⟨M', n1, n2⟩ := l549 (rd := rd) (M := M) hW hx hy hf ht r.1 r.2 d.2.1 d.2.2.1 d.2.2.2 (canB w h rd x y f t (figN (nI f))) m2
  rw [(fig_5 f hf).2, Option.bind_some, m1, Option.bind_some, n1, Option.bind_some]
  dsimp only
  have qt : ∀ n, n < 4 → f_X5_isQuarter (nI n) = 1 := fun n hn => by
    unfold f_X5_isQuarter
    rw [if_neg (nI_pos (by omega)), if_neg (by rw [show (3 : Int32) = nI 3 from rfl, l_lt (by omega) (by omega)]; omega)]
  obtain ⟨v, v1, v2⟩ := py_ok d a (foldN (plF w h x y (PP f t)) 0 9)
  have g3 : g.2.2.1 = rd := hG.2.2.1
  have ir : f_X3_isRound g = bI rd := by
    unfold f_X3_isRound
    rw [g3]
  have pl : f_X5_plant g d a (nI f) (nI t) (nI x) (nI y) = if canB w h rd x y f t (figN (nI f)) = true then some (.inl (nI (pc (d.1 ||| foldN (plF w h x y (PP f t)) 0 9)), (d.1 ||| foldN (plF w h x y (PP f t)) 0 9, d.2.1, d.2.2.1, d.2.2.2), v)) else some (.inr "java/lang/IllegalStateException") := by
    unfold f_X5_plant
    rw [qt f hf, if_neg (by decide), qt t ht, if_neg (by decide), if_neg (has_c hW hG hx hy), PP_t f hf t ht, Option.bind_some, ir]
    have sz : f_X2_size (d.1 ||| foldN (plF w h x y (PP f t)) 0 9, d.2.1, d.2.2.1, d.2.2.2) = nI (pc (d.1 ||| foldN (plF w h x y (PP f t)) 0 9)) := bc_pc _
    cases rd with
    | true =>
      have : canB w h true x y f t (figN (nI f)) = true := by
        unfold canB
        cases q : anyB (fun i => !okc w h true x y f t i) (figN (nI f)) with
        | false => rfl
        | true =>
          rw [anyB_iff] at q
          obtain ⟨i, -, e⟩ := q
          have e : (!(true || decide (x + (TP f t i).1 < w ∧ y + (TP f t i).2 < h))) = true := e
          rw [Bool.true_or] at e
          cases e
      rw [if_neg bI_t, cells_ok hW hG hx hy, Option.bind_some, v1, Option.bind_some, this, if_pos rfl]
      dsimp only
      rw [sz]
    | false =>
      rw [if_pos bI_f]
      rcases fit_ok hW hG hx hy (PP f t) with ⟨f1, f2⟩ | ⟨f1, f2⟩
      · rw [f1, Option.bind_some, if_neg (by decide), cells_ok hW hG hx hy, Option.bind_some, v1, Option.bind_some, (can_f hf ht).mpr f2, if_pos rfl]
        dsimp only
        rw [sz]
      · have : ¬ canB w h false x y f t (figN (nI f)) = true := fun z => f2 ((can_f hf ht).mp z)
        rw [f1, Option.bind_some, if_pos rfl, if_neg this]
  rw [pl]
  cases ec : canB w h rd x y f t (figN (nI f)) with
  | false =>
    rw [if_neg (by decide)]
    show OutA T (if b01 false = 0 then (some (g, r, d, a, _, M')) else none)
    rw [if_pos (show b01 false = 0 from rfl)]
    refine out_same ⟨hW, hG, rfl, hr, hc1, fun x' y' hx' hy' => ?_⟩ hT
    have e : M' y' x' = M y' x' := by rw [n2, ec, if_neg (fun z => Bool.noConfusion z.1)]
    obtain ⟨q1, q2, q3⟩ := hM x' y' hx' hy'
    exact ⟨by rw [← q1]; unfold simB; rw [e], fun z => by rw [e]; exact q2 z, fun z => by rw [e]; exact q3 z⟩
  | true =>
    rw [if_pos rfl]
    show OutA T (if b01 true = 0 then none else (Option.bind (f_X6_hedges _ M') fun r122 => if nI (pc (d.1 ||| foldN (plF w h x y (PP f t)) 0 9)) = r122 then (some (g, r, _, v, _, M')) else (none)))
    have MN : ∀ x' y', M' y' x' = if hit w h x y f t x' y' (figN (nI f)) = true then 0 else M y' x' := fun x' y' => by
      rw [n2, ec]
      by_cases z : hit w h x y f t x' y' (figN (nI f)) = true
      · rw [if_pos ⟨rfl, z⟩, if_pos z]
      · rw [if_neg (fun y => z y.2), if_neg z]
    have R' : RS w h rd g r (d.1 ||| foldN (plF w h x y (PP f t)) 0 9, d.2.1, d.2.2.1, d.2.2.2) v (nI w, nI h, rd, r.1, r.2, d.2.1, d.2.2.1, d.2.2.2) M' := by
      refine ⟨hW, hG, rfl, hr, InC_or hc1 (cells_in hW _ _), fun x' y' hx' hy' => ?_⟩
      have hh := hit_c (x := x) (y := y) hW hf ht hx' hy'
      have eb : BC (d.1 ||| foldN (plF w h x y (PP f t)) 0 9) x' y' = (BC d.1 x' y' || hit w h x y f t x' y' (figN (nI f))) := by
        show cb _ _ = _
        rw [cb_or, hh]
        rfl
      obtain ⟨q1, q2, q3⟩ := hM x' y' hx' hy'
      have mn := MN x' y'
      have av := v2 (8 * y' + x')
      rw [hh] at av
      show _ = BC (d.1 ||| foldN (plF w h x y (PP f t)) 0 9) x' y' ∧ (BC (d.1 ||| foldN (plF w h x y (PP f t)) 0 9) x' y' = true → _) ∧ (BC (d.1 ||| foldN (plF w h x y (PP f t)) 0 9) x' y' = false → _)
      rw [eb]
      cases z : hit w h x y f t x' y' (figN (nI f)) with
      | true =>
        rw [z, if_pos rfl] at mn av
        rw [Bool.or_true]
        exact ⟨simB_t.mpr (by rw [mn]; decide), fun _ => by rw [mn, av], fun q => Bool.noConfusion q⟩
      | false =>
        rw [z, if_neg (by decide)] at mn av
        rw [Bool.or_false, ← q1]
        exact ⟨by unfold simB; rw [mn], fun q => by rw [mn, av]; exact q2 (q1 ▸ q), fun q => by rw [mn]; exact q3 (q1 ▸ q)⟩
    rw [if_neg (by decide), RS_size R', Option.bind_some, if_pos rfl]
    refine out_same R' ⟨hT.1, fun x' y' hx' hy' e => ?_, hT.2.2⟩
    have hh := hit_c (x := x) (y := y) hW hf ht hx' hy'
    have av := v2 (8 * y' + x')
    rw [hh] at av
    cases z : hit w h x y f t x' y' (figN (nI f)) with
    | true =>
      rw [z, if_pos rfl] at av
      exact ⟨0, Nat.zero_le _, av⟩
    | false =>
      rw [z, if_neg (by decide)] at av
      rw [av]
      refine hT.2.1 x' y' hx' hy' ?_
      have e : cb (d.1 ||| foldN (plF w h x y (PP f t)) 0 9) (8 * y' + x') = true := e
      rw [cb_or, hh, z, Bool.or_false] at e
      exact e
