/-! period, foresee, advise, checksum -/
def agr (r1 c : Nat → Int64) : Prop := ∀ i, i < 61 → r1 i = c i
theorem per38 {c : Nat → Int64} {p : Nat} (hp : p < 61) : ∀ (nf j : Nat), p < j → j ≤ 61 → 61 - j < nf → (∃ q, j ≤ q ∧ q < 61 ∧ c p = c q ∧ ∀ wh r1, agr r1 c → lp_X5_period_38 wh r1 (nI p) nf (nI j) = some (.inr (.inl (if wh = 0 then nI p else nI q - nI p, r1)))) ∨ (∀ wh r1, agr r1 c → lp_X5_period_38 wh r1 (nI p) nf (nI j) = some (.inl ()))
  | 0, _, _, _, h => absurd h (Nat.not_lt_zero _)
  | nf + 1, j, hj, hl, hf => by
    by_cases e : j = 61
    · subst e
      exact Or.inr (fun wh r1 _ => by rw [lp_X5_period_38.eq_2, if_pos (by decide)])
    · have st : ∀ wh r1, agr r1 c → lp_X5_period_38 wh r1 (nI p) (nf + 1) (nI j) = if c p = c j then (if wh = 0 then (some (.inr (.inl (nI p, r1)))) else (some (.inr (.inl ((nI j - nI p), r1))))) else (lp_X5_period_38 wh r1 (nI p) nf (nI (j + 1))) := fun wh r1 hr => by
        rw [lp_X5_period_38.eq_2, if_neg (by rw [show (61 : Int32) = nI 61 from rfl, l_le (by omega) (by omega)]; omega), l_toN (show p < 2 ^ 31 by omega), l_toN (show j < 2 ^ 31 by omega), if_neg (fun z => z.elim (nI_pos (by omega)) (by omega)), if_neg (fun z => z.elim (nI_pos (by omega)) (by omega)), hr p hp, hr j (by omega), nI_1]
      by_cases q : c p = c j
      · refine Or.inl ⟨j, Nat.le_refl _, by omega, q, fun wh r1 hr => ?_⟩
        rw [st wh r1 hr, if_pos q]
        by_cases z : wh = 0
        · rw [if_pos z, if_pos z]
        · rw [if_neg z, if_neg z]
      · rcases per38 hp nf (j + 1) (by omega) (by omega) (by omega) with ⟨t, t1, t2, t3, t4⟩ | t
        · exact Or.inl ⟨t, by omega, t2, t3, fun wh r1 hr => by rw [st wh r1 hr, if_neg q, t4 wh r1 hr]⟩
        · exact Or.inr (fun wh r1 hr => by rw [st wh r1 hr, if_neg q, t wh r1 hr])
theorem per25 {c : Nat → Int64} : ∀ (nf p : Nat), p ≤ 61 → 61 - p < nf → (∃ p' q, p' < q ∧ q < 61 ∧ c p' = c q ∧ ∀ wh r1, agr r1 c → lp_X5_period_25 wh r1 nf (nI p) = some (.inl (if wh = 0 then nI p' else nI q - nI p', r1))) ∨ (∀ wh r1, agr r1 c → lp_X5_period_25 wh r1 nf (nI p) = some (.inl (-1, r1)))
  | 0, _, _, h => absurd h (Nat.not_lt_zero _)
  | nf + 1, p, hl, hf => by
    by_cases e : p = 61
    · subst e
      exact Or.inr (fun wh r1 _ => by rw [lp_X5_period_25.eq_2, if_pos (by decide)])
    · have st : ∀ wh r1, lp_X5_period_25 wh r1 (nf + 1) (nI p) = osum (lp_X5_period_38 wh r1 (nI p) 100 (nI (p + 1))) fun _ => lp_X5_period_25 wh r1 nf (nI (p + 1)) := fun wh r1 => by
        rw [lp_X5_period_25.eq_2, if_neg (by rw [show (61 : Int32) = nI 61 from rfl, l_le (by omega) (by omega)]; omega), nI_1]
      rcases per38 (c := c) (p := p) (by omega) 100 (p + 1) (by omega) (by omega) (by omega) with ⟨q, q1, q2, q3, q4⟩ | t
      · exact Or.inl ⟨p, q, by omega, q2, q3, fun wh r1 hr => by rw [st, q4 wh r1 hr]; rfl⟩
      · rcases per25 (c := c) nf (p + 1) (by omega) (by omega) with ⟨p', q, q1, q2, q3, q4⟩ | u
        · refine Or.inl ⟨p', q, q1, q2, q3, fun wh r1 hr => ?_⟩
          rw [st, t wh r1 hr]
          exact q4 wh r1 hr
        · refine Or.inr (fun wh r1 hr => ?_)
          rw [st, t wh r1 hr]
          exact u wh r1 hr
theorem period_ok {g : GrS} {r : RuS} {w h : Nat} {rd : Bool} (hW : WH w h) (hG : GOK g w h rd) {d : GaS} (hc : InC w h d.1) : (∃ p q, p < q ∧ q < 61 ∧ sqC g r d.1 p = sqC g r d.1 q ∧ ∀ kC, (∃ k', f_X5_period g r d kC 0 = some (.inl (nI p, k'))) ∧ ∃ k', f_X5_period g r d kC 1 = some (.inl (nI (q - p), k'))) ∨ ∀ kC, (∃ k', f_X5_period g r d kC 0 = some (.inl (-1, k'))) ∧ ∃ k', f_X5_period g r d kC 1 = some (.inl (-1, k')) := by
  have st : ∀ kC, ∃ k', agr k' (sqC g r d.1) ∧ ∀ wh, wh = 0 ∨ wh = 1 → f_X5_period g r d kC wh = lp_X5_period_25 wh k' 100 0 := fun kC => by
    obtain ⟨v, v1, v2⟩ := foc_ok (fun j => (sq_c (r := r) hW hG hc j).2) kC
    refine ⟨v, fun i hi => v2 i (by omega), fun wh hh => ?_⟩
    unfold f_X5_period
    rcases hh with rfl | rfl
    · rw [if_neg (by decide), if_pos (by decide), v1, Option.bind_some]
    · rw [if_neg (by decide), if_pos (by decide), v1, Option.bind_some]
  rcases per25 (c := sqC g r d.1) 100 0 (by decide) (by decide) with ⟨p, q, q1, q2, q3, q4⟩ | u
  · refine Or.inl ⟨p, q, q1, q2, q3, fun kC => ?_⟩
    obtain ⟨k', k1, k2⟩ := st kC
    refine ⟨⟨k', ?_⟩, ⟨k', ?_⟩⟩
    · rw [k2 0 (Or.inl rfl), show lp_X5_period_25 0 k' 100 0 = _ from q4 0 k' k1, if_pos rfl]
    · rw [k2 1 (Or.inr rfl), show lp_X5_period_25 1 k' 100 0 = _ from q4 1 k' k1, if_neg (by decide), pk_sub (by omega)]
  · refine Or.inr (fun kC => ?_)
    obtain ⟨k', k1, k2⟩ := st kC
    exact ⟨⟨k', by rw [k2 0 (Or.inl rfl)]; exact u 0 k' k1⟩, ⟨k', by rw [k2 1 (Or.inr rfl)]; exact u 1 k' k1⟩⟩
theorem foreN_ok {g : GrS} {r : RuS} {w h : Nat} {rd : Bool} (hW : WH w h) (hG : GOK g w h rd) {d : GaS} (a : Nat → Int32) (hc : InC w h d.1) (dF : GaS) (aF : Nat → Int32) {Y : Nat} (h1 : 1 ≤ Y) (h50 : Y ≤ 50) : ∃ dF' aF', f_X5_foresee g r d a dF aF (nI Y) 3 = some (.inl (nI (pc (sqC g r d.1 Y)), dF', aF')) := by
  obtain ⟨v1, c1, c2⟩ := copy_c dF aF d a
  obtain ⟨d', a', c3, c4⟩ := grows_c (r := r) hW hG h50 v1 hc
  refine ⟨d', a', ?_⟩
  have ey : f_X5_isYears (nI Y) = 1 := by
    unfold f_X5_isYears
    rw [if_neg (by rw [show (1 : Int32) = nI 1 from rfl, l_lt (by omega) (by omega)]; omega), if_neg (by rw [show (50 : Int32) = nI 50 from rfl, l_lt (by omega) (by omega)]; omega)]
  unfold f_X5_foresee
  rw [ey, if_neg (by decide), if_neg (by decide), if_neg (by decide), if_neg (by decide), c1, Option.bind_some]
  dsimp only
  rw [c3, Option.bind_some]
  dsimp only
  rw [cd3, Option.bind_some, c4]
theorem size_ex {g : GrS} {r : RuS} {w h : Nat} {rd : Bool} (hW : WH w h) (hG : GOK g w h rd) {c : Int64} (hc : InC w h c) : ∃ v, f_X5_sizeBehind g r 1 c = some v := by
  obtain ⟨b, t, -, -, e, -⟩ := next_c (r := r) hW hG hc
  exact ⟨_, by unfold f_X5_sizeBehind; rw [e, Option.bind_some]⟩
def adg (w h : Nat) (c : Int64) (v : Int32) : Prop := v = -1 ∨ ∃ x y, x < w ∧ y < h ∧ v = nI (w * y + x) ∧ BC c x y = false
theorem advise_ok {g : GrS} {r : RuS} {w h : Nat} {rd : Bool} (hW : WH w h) (hG : GOK g w h rd) {d : GaS} (hc : InC w h d.1) : ∃ v, f_X5_advise g r d 1 = some (.inl v) ∧ adg w h d.1 v := by
  have w64 := wh_64 hW
  obtain ⟨w3, w8, h3, h8⟩ := id hW
  obtain ⟨g1, g2, -⟩ := id hG
  have row : ∀ y, y < h → ∀ a : Int32 × Int32, adg w h d.1 a.1 → ∃ a', adg w h d.1 a'.1 ∧ lp_X5_advise_53 g r d 1 (nI y) 100 a.1 a.2 0 = some a' := fun y hy a ha => by
    obtain ⟨a', i1, i2⟩ := for_inv (n := w) (fun _ (q : Int32 × Int32) => adg w h d.1 q.1) (fun nf i q => lp_X5_advise_53 g r d 1 (nI y) nf q.1 q.2 i) id (fun nf x q hx hq => by
      obtain ⟨v, ev⟩ := size_ex (r := r) hW hG (InC_or hc (InC_ob hW hx hy))
      have row : lp_X5_advise_53 g r d 1 (nI y) (nf + 1) q.1 q.2 (nI x) = _ := lp_X5_advise_53.eq_2 g r d 1 (nI y) (nf := nf) q.1 q.2 (nI x)
      rw [show f_X3_wide g = nI w from g1, if_neg (by rw [l_le (by omega) (by omega)]; omega), l_cell, hh_ok d (bx hW hx hy).1, nI_1, show f_X2_hedges d = d.1 from rfl] at row
      cases z : cb d.1 (8 * y + x) with
      | true =>
        rw [z, if_pos rfl, if_neg (by decide), Option.bind_some] at row
        exact ⟨q, hq, row⟩
      | false =>
        rw [z, if_neg (show ¬ (false = true) by decide), if_pos rfl, ev, Option.bind_some, pk_mul, nI_add] at row
        by_cases k : v ≤ q.2
        · rw [if_pos k, Option.bind_some] at row
          exact ⟨q, hq, row⟩
        · rw [if_neg k, Option.bind_some] at row
          exact ⟨(nI (w * y + x), v), Or.inr ⟨x, y, hx, hy, rfl, z⟩, row⟩) (fun nf q _ => by
      have row : lp_X5_advise_53 g r d 1 (nI y) (nf + 1) q.1 q.2 (nI w) = _ := lp_X5_advise_53.eq_2 g r d 1 (nI y) (nf := nf) q.1 q.2 (nI w)
      rw [show f_X3_wide g = nI w from g1, if_pos (by rw [l_le (by omega) (by omega)]; exact Nat.le_refl _)] at row
      exact row) 100 0 a (Nat.zero_le _) (by omega) ha
    exact ⟨a', i1, i2⟩
  obtain ⟨m, em⟩ := size_ex (r := r) hW hG hc
  obtain ⟨a', i1, i2⟩ := for_inv (n := h) (fun _ (q : Int32 × Int32) => adg w h d.1 q.1) (fun nf i q => lp_X5_advise_38 g r d 1 nf q.1 q.2 i) Prod.fst (fun nf y q hy hq => by
      obtain ⟨a', j1, j2⟩ := row y hy q hq
      refine ⟨a', j1, ?_⟩
      have row : lp_X5_advise_38 g r d 1 (nf + 1) q.1 q.2 (nI y) = _ := lp_X5_advise_38.eq_2 g r d 1 (nf := nf) q.1 q.2 (nI y)
      rw [show f_X3_high g = nI h from g2, if_neg (by rw [l_le (by omega) (by omega)]; omega), j2, Option.bind_some, nI_1] at row
      exact row) (fun nf q _ => by
      have row : lp_X5_advise_38 g r d 1 (nf + 1) q.1 q.2 (nI h) = _ := lp_X5_advise_38.eq_2 g r d 1 (nf := nf) q.1 q.2 (nI h)
      rw [show f_X3_high g = nI h from g2, if_pos (by rw [l_le (by omega) (by omega)]; exact Nat.le_refl _)] at row
      exact row) 100 0 ((-1, m) : Int32 × Int32) (Nat.zero_le _) (by omega) (Or.inl rfl)
  refine ⟨a'.1, ?_, i1⟩
  unfold f_X5_advise
  rw [if_neg (by decide), if_pos (by decide), show f_X2_hedges d = d.1 from rfl, em, Option.bind_some]
  dsimp only at i2
  rw [show lp_X5_advise_38 g r d 1 100 (-1) m 0 = some a'.1 from i2, Option.bind_some]
theorem fact_ex {g : GrS} {r : RuS} {w h : Nat} {rd : Bool} (hW : WH w h) (hG : GOK g w h rd) {d : GaS} (a : Nat → Int32) (hc : InC w h d.1) {x y k : Nat} (hx : x < w) (hy : y < h) (hk : k < 5) : ∃ v, f_X5_fact g r d a (nI x) (nI y) (nI k) = some v := by
  have t : ∃ v, f_X5_told g r d a (nI x) (nI y) (nI k) = some (.inl v) := by
    match k, hk with
    | 0, _ => exact ⟨_, told0 hW hG hx hy⟩
    | 1, _ => exact ⟨_, told1 hW hG hc hx hy⟩
    | 2, _ => exact ⟨_, told2 hW hG hx hy⟩
    | 3, _ => exact ⟨_, told3 hW hG hx hy⟩
    | 4, _ => exact ⟨_, told4 hW hG hc hx hy⟩
  obtain ⟨v, t⟩ := t
  unfold f_X5_told at t
  rw [if_neg (has_c hW hG hx hy), if_neg (nI_pos (by omega)), if_pos (by rw [show (5 : Int32) = nI 5 from rfl, l_lt (by omega) (by omega)]; omega)] at t
  cases e : f_X5_fact g r d a (nI x) (nI y) (nI k) with
  | none => rw [e] at t; cases t
  | some u => exact ⟨u, rfl⟩
theorem digest_ex {g : GrS} {r : RuS} {w h : Nat} {rd : Bool} (hW : WH w h) (hG : GOK g w h rd) {d : GaS} (a : Nat → Int32) (hc : InC w h d.1) (ec : ∀ k, k < 11 → ∃ v, f_X5_counted g r d a (nI k) = some v) : ∃ D, f_X5_digest g r d a = some D := by
  have w64 := wh_64 hW
  obtain ⟨w3, w8, h3, h8⟩ := id hW
  obtain ⟨g1, g2, -⟩ := id hG
  obtain ⟨u, -, e⟩ := for_inv (n := 11) (fun _ (_ : Int64) => True) (fun nf i q => lp_X5_digest_6 g r d a nf q i) id (fun nf k q hk _ => by
      obtain ⟨v, ev⟩ := ec k hk
      refine ⟨q * 31 + v.toInt64, trivial, ?_⟩
      · show lp_X5_digest_6 g r d a (nf + 1) q (nI k) = _
        rw [lp_X5_digest_6.eq_2, if_neg (by rw [show (11 : Int32) = nI 11 from rfl, l_le (by omega) (by omega)]; omega), ev, Option.bind_some, nI_1]) (fun nf q _ => by
      show lp_X5_digest_6 g r d a (nf + 1) q (nI 11) = _
      rw [lp_X5_digest_6.eq_2, if_pos (by decide)]
      rfl) 100 0 1597 (by decide) (by decide) trivial
  have l96 : ∀ x y, x < w → y < h → ∀ z : Int64, ∃ z', lp_X5_digest_96 g r d a (nI y) (nI x) 100 z 0 = some z' := fun x y hx hy z => by
    obtain ⟨u, -, e⟩ := for_inv (n := 5) (fun _ (_ : Int64) => True) (fun nf i q => lp_X5_digest_96 g r d a (nI y) (nI x) nf q i) id (fun nf k q hk _ => by
      obtain ⟨v, ev⟩ := fact_ex (r := r) hW hG a hc hx hy hk
      refine ⟨q * 31 + v.toInt64, trivial, ?_⟩
      · show lp_X5_digest_96 g r d a (nI y) (nI x) (nf + 1) q (nI k) = _
        rw [lp_X5_digest_96.eq_2, if_neg (by rw [show (5 : Int32) = nI 5 from rfl, l_le (by omega) (by omega)]; omega), ev, Option.bind_some, nI_1]) (fun nf q _ => by
      show lp_X5_digest_96 g r d a (nI y) (nI x) (nf + 1) q (nI 5) = _
      rw [lp_X5_digest_96.eq_2, if_pos (by decide)]
      rfl) 100 0 z (by decide) (by decide) trivial
    exact ⟨_, e⟩
  have l81 : ∀ y, y < h → ∀ z : Int64, ∃ z', lp_X5_digest_81 g r d a (nI y) 100 z 0 = some z' := fun y hy z => by
    obtain ⟨u, -, e⟩ := for_inv (n := w) (fun _ (_ : Int64) => True) (fun nf i q => lp_X5_digest_81 g r d a (nI y) nf q i) id (fun nf x q hx _ => by
      obtain ⟨v, ev⟩ := l96 x y hx hy q
      refine ⟨v, trivial, ?_⟩
      show lp_X5_digest_81 g r d a (nI y) (nf + 1) q (nI x) = _
      rw [lp_X5_digest_81.eq_2, show f_X3_wide g = nI w from g1, if_neg (by rw [l_le (by omega) (by omega)]; omega), ev, Option.bind_some, nI_1]) (fun nf q _ => by
      show lp_X5_digest_81 g r d a (nI y) (nf + 1) q (nI w) = _
      rw [lp_X5_digest_81.eq_2, show f_X3_wide g = nI w from g1, if_pos (by rw [l_le (by omega) (by omega)]; exact Nat.le_refl _)]
      rfl) 100 0 z (Nat.zero_le _) (by omega) trivial
    exact ⟨_, e⟩
  have l67 : ∀ z : Int64, ∃ z', lp_X5_digest_67 g r d a 100 z 0 = some z' := fun z => by
    obtain ⟨u, -, e⟩ := for_inv (n := h) (fun _ (_ : Int64) => True) (fun nf i q => lp_X5_digest_67 g r d a nf q i) id (fun nf y q hy _ => by
      obtain ⟨v, ev⟩ := l81 y hy q
      refine ⟨v, trivial, ?_⟩
      show lp_X5_digest_67 g r d a (nf + 1) q (nI y) = _
      rw [lp_X5_digest_67.eq_2, show f_X3_high g = nI h from g2, if_neg (by rw [l_le (by omega) (by omega)]; omega), ev, Option.bind_some, nI_1]) (fun nf q _ => by
      show lp_X5_digest_67 g r d a (nf + 1) q (nI h) = _
      rw [lp_X5_digest_67.eq_2, show f_X3_high g = nI h from g2, if_pos (by rw [l_le (by omega) (by omega)]; exact Nat.le_refl _)]
      rfl) 100 0 z (Nat.zero_le _) (by omega) trivial
    exact ⟨_, e⟩
  unfold f_X5_digest
  rw [show lp_X5_digest_6 g r d a 100 1597 0 = some u from e, Option.bind_some]
  unfold bindv
  obtain ⟨z', ez⟩ := l67 ((u * 31 + (f_X4_births r).toInt64) * 31 + (f_X4_stays r).toInt64)
  exact ⟨z', by dsimp only; rw [ez, Option.bind_some]⟩
