/-! one year, by hand and by the class -/
theorem cells_or {w h : Nat} {p q : Nat → Nat → Bool} (hn : ∀ x y, x < w → y < h → ¬ (p x y = true ∧ q x y = true)) (hw : 0 < w) : cells2 w h (fun x y => p x y || q x y) = cells2 w h p + cells2 w h q :=
  cntN_or (fun k hk => hn _ _ (k_xy hk hw).1 (k_xy hk hw).2.1)
theorem cells_not {w h : Nat} (hw : 0 < w) (p : Nat → Nat → Bool) : cells2 w h (fun x y => !p x y) + cells2 w h p = w * h := by
  have e := cells_or (w := w) (h := h) (p := fun x y => !p x y) (q := p) (fun x y _ _ z => by
    have z1 := z.1
    rw [z.2] at z1
    cases z1) hw
  rw [← e]
  have : ∀ n, cntN (fun k => (!p (k % w) (k / w)) || p (k % w) (k / w)) n = n := fun n => by
    induction n with
    | zero => rfl
    | succ n ih =>
      show cntN _ n + ((!p (n % w) (n / w)) || p (n % w) (n / w)).toNat = _
      rw [ih]
      have : ((!p (n % w) (n / w)) || p (n % w) (n / w)) = true := by cases p (n % w) (n / w) <;> rfl
      rw [this]; rfl
  exact this _
theorem young_RS {w h : Nat} {rd : Bool} {g : GrS} {r : RuS} {d : GaS} {a : Nat → Int32} {s : SiS} {M : Nat → Nat → Int32} (H : RS w h rd g r d a s M) {T : Nat} (hT : Num T w h d a) : young w h M := fun x y hx hy e => by
  obtain ⟨hW, hG, -, hr, hc, hM⟩ := H
  obtain ⟨c1, c2, -⟩ := hM x y hx hy
  rw [c1] at e
  obtain ⟨n, n1, n2⟩ := hT.2.1 x y hx hy e
  have := hT.1
  exact ⟨n, by omega, by rw [c2 e, n2]⟩
theorem year_ok {w h : Nat} {rd : Bool} {g : GrS} {r : RuS} {d : GaS} {a : Nat → Int32} {s : SiS} {M : Nat → Nat → Int32} (H : RS w h rd g r d a s M) {T : Nat} (hT : Num T w h d a) (hT9 : T < 40) : ∃ d' a' s' M' B D, f_X2_growYear d a g r = some (d', a') ∧ d'.1 = sqC g r d.1 1 ∧ f_X6_go s M 1 = some (nI (pc d'.1), s', M') ∧ RS w h rd g r d' a' s' M' ∧ Num (T + 1) w h d' a' ∧ (∀ x y, x < w → y < h → a' (8 * y + x) = if BC d.1 x y = true ∧ BC d'.1 x y = true then a (8 * y + x) + 1 else a' (8 * y + x)) ∧ (∀ x y, x < w → y < h → BC d.1 x y = false → BC d'.1 x y = true → a' (8 * y + x) = 0) ∧ d'.2.2.1 = d.2.2.1 + nI B ∧ d'.2.2.2 = d.2.2.2 + nI D ∧ pc d.1 + B = pc d'.1 + D ∧ B ≤ 64 ∧ D ≤ 64 := by
  have hy := young_RS H hT
  obtain ⟨hW, hG, rfl, hr, hc, hM⟩ := H
  have w64 := wh_64 hW
  obtain ⟨w3, w8, h3, h8⟩ := id hW
  have hw : 0 < w := by omega
  obtain ⟨b, t, eb, et, -, ib, it, ibt, ts, bs, hbt⟩ := next_c (r := r) hW hG hc
  obtain ⟨b2, t2, a', eb2, et2, eg, ha', esq⟩ := grow_c (r := r) hW hG a hc
  rw [eb] at eb2
  rw [et] at et2
  cases eb2
  cases et2
  obtain ⟨M', m1, m2⟩ := simp_ok hW hr hy
  have BN : ∀ x y, x < w → y < h → BC (t ||| b) x y = cmB r.1 r.2 (BC d.1) w h rd x y := fun x y hx hy => by
    rw [or_comm64]; exact (hbt x y hx hy).2.2
  have simE : ∀ x y, x < w → y < h → cmB r.1 r.2 (simB M) w h rd x y = cmB r.1 r.2 (BC d.1) w h rd x y := fun x y hx hy => cmB_cong hW (fun x y hx hy => (hM x y hx hy).1) _ _ hx hy
  have ageN : ∀ x y, x < w → y < h → BC d.1 x y = true → M y x = a (8 * y + x) ∧ ∃ n, n ≤ T ∧ a (8 * y + x) = nI n := fun x y hx hy e => ⟨(hM x y hx hy).2.1 e, hT.2.1 x y hx hy e⟩
  have bcell : ∀ x y, x < w → y < h → cb b (8 * y + x) = (!BC d.1 x y && cmB r.1 r.2 (BC d.1) w h rd x y) := fun x y hx hy => (hbt x y hx hy).1
  have aN : ∀ x y, x < w → y < h → a' (8 * y + x) = if BC d.1 x y = false ∧ BC (t ||| b) x y = true then 0 else a (8 * y + x) + 1 := fun x y hx hy => by
    rw [ha' _ (bx hW hx hy).1, bcell x y hx hy, BN x y hx hy]
    cases BC d.1 x y <;> cases cmB r.1 r.2 (BC d.1) w h rd x y <;> rfl
  have MN : ∀ x y, x < w → y < h → simB M' x y = BC (t ||| b) x y ∧ (BC (t ||| b) x y = true → M' y x = a' (8 * y + x)) ∧ (BC (t ||| b) x y = false → M' y x = -1) := fun x y hx hy => by
    have e := m2 x y hx hy
    unfold passM at e
    rw [simE x y hx hy, (hM x y hx hy).1] at e
    rw [BN x y hx hy] at *
    have av := aN x y hx hy
    rw [BN x y hx hy] at av
    cases q : cmB r.1 r.2 (BC d.1) w h rd x y with
    | false =>
      rw [q, if_neg (by decide)] at e
      refine ⟨simB_f.mpr (by rw [e]; decide), (fun z => by cases z), fun _ => e⟩
    | true =>
      rw [q, if_pos rfl] at e
      rw [q] at av
      cases z : BC d.1 x y with
      | true =>
        rw [z, if_pos rfl] at e
        rw [z, if_neg (by decide)] at av
        obtain ⟨k1, n, n1, n2⟩ := ageN x y hx hy z
        have := hT.1
        refine ⟨simB_t.mpr (by rw [e, k1, n2, nI_1]; exact nI_pos (by omega)), fun _ => by rw [e, k1, av], (fun z => by cases z)⟩
      | false =>
        rw [z, if_neg (by decide)] at e
        rw [z, if_pos ⟨rfl, rfl⟩] at av
        exact ⟨simB_t.mpr (by rw [e]; decide), fun _ => by rw [e, av], (fun z => by cases z)⟩
  have iN : InC w h (t ||| b) := by rw [or_comm64]; exact ibt
  have eB : pc b = cells2 w h (fun x y => !simB M x y && cmB r.1 r.2 (simB M) w h rd x y) := by
    rw [pc_cells hW ib]
    exact cells2_cong hw (fun x y hx hy => by rw [(hbt x y hx hy).1, (hM x y hx hy).1, simE x y hx hy])
  have iD : InC w h (d.1 &&& (t ^^^ (-1))) := InC_and hc
  have dcell : ∀ x y, x < w → y < h → BC (d.1 &&& (t ^^^ (-1))) x y = (BC d.1 x y && !cmB r.1 r.2 (BC d.1) w h rd x y) := fun x y hx hy => by
    show cb _ _ = _
    rw [cb_and, cb_not (bx hW hx hy).1]
    have := (hbt x y hx hy).2.1
    rw [show cb t (8 * y + x) = BC t x y from rfl, this, show cb d.1 (8 * y + x) = BC d.1 x y from rfl]
    cases BC d.1 x y <;> cases cmB r.1 r.2 (BC d.1) w h rd x y <;> rfl
  have eD : pc (d.1 &&& (t ^^^ (-1))) = cells2 w h (fun x y => simB M x y && !cmB r.1 r.2 (simB M) w h rd x y) := by
    rw [pc_cells hW iD]
    exact cells2_cong hw (fun x y hx hy => by rw [dcell x y hx hy, (hM x y hx hy).1, simE x y hx hy])
  have eN : pc (t ||| b) = cells2 w h (simB M') := by
    rw [pc_cells hW iN]
    exact cells2_cong hw (fun x y hx hy => (MN x y hx hy).1.symm)
  have bal : pc d.1 + pc b = pc (t ||| b) + pc (d.1 &&& (t ^^^ (-1))) := by
    rw [pc_cells hW hc, pc_cells hW ib, pc_cells hW iN, pc_cells hW iD, ← cells_or (fun x y hx hy z => by
      rw [(hbt x y hx hy).1] at z
      rw [z.1] at z
      exact absurd z.2 (by simp)) hw, ← cells_or (fun x y hx hy z => by
      rw [BN x y hx hy, dcell x y hx hy] at z
      rw [z.1] at z
      exact absurd z.2 (by simp)) hw]
    refine cells2_cong hw (fun x y hx hy => ?_)
    rw [(hbt x y hx hy).1, BN x y hx hy, dcell x y hx hy]
    cases BC d.1 x y <;> cases cmB r.1 r.2 (BC d.1) w h rd x y <;> rfl
  obtain ⟨T40, t1, ⟨nb, nb1, nb2⟩, nd, nd1, nd2⟩ := hT
  refine ⟨_, a', _, M', pc b, pc (d.1 &&& (t ^^^ (-1))), eg, esq, ?_, ⟨hW, hG, rfl, hr, iN, MN⟩, ⟨by omega, fun x y hx hy e => ?_, ⟨nb + pc b, ?_, ?_⟩, ⟨nd + pc (d.1 &&& (t ^^^ (-1))), ?_, ?_⟩⟩, fun x y hx hy => ?_, fun x y hx hy e1 e2 => ?_, rfl, rfl, bal, pc_le _, pc_le _⟩
  · show f_X6_go _ M 1 = some (nI (pc (t ||| b)), _, M')
    unfold f_X6_go
    rw [if_pos (by decide), m1, Option.bind_some, eN]
    show some (_, (nI w, nI h, rd, r.1, r.2, d.2.1 + 1, d.2.2.1 + nI _, d.2.2.2 + nI _), M') = _
    rw [← eB, ← eD]
  · rw [aN x y hx hy]
    by_cases q : BC d.1 x y = false ∧ BC (t ||| b) x y = true
    · rw [if_pos q]; exact ⟨0, by omega, rfl⟩
    · rw [if_neg q]
      have : BC d.1 x y = true := by
        cases z : BC d.1 x y with
        | true => rfl
        | false => exact absurd ⟨z, e⟩ q
      obtain ⟨-, n, n1, n2⟩ := ageN x y hx hy this
      exact ⟨n + 1, by omega, by rw [n2, nI_1]⟩
  · have := pc_le b; omega
  · show d.2.2.1 + nI (pc b) = _
    rw [nb2, nI_add]
  · have := pc_le (d.1 &&& (t ^^^ (-1))); omega
  · show d.2.2.2 + nI _ = _
    rw [nd2, nI_add]
  · by_cases q : BC d.1 x y = true ∧ BC (t ||| b) x y = true
    · rw [if_pos q, aN x y hx hy, if_neg (fun z => by rw [q.1] at z; cases z.1)]
    · rw [if_neg q]
  · rw [aN x y hx hy, if_pos ⟨e1, e2⟩]
