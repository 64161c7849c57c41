/-! from the checksum to the year -/
theorem k727 {w h : Nat} {rd : Bool} {g : GrS} {r : RuS} {d : GaS} {a : Nat → Int32} (hW : WH w h) (hG : GOK g w h rd) (hc : InC w h d.1) {D : Int64} (hD : f_X5_digest g r d a = some D) {ta136 : Nat → Int32} (h1 : ∀ k, k < w * h → ta136 k = if BC d.1 (k % w) (k / w) = true then a (8 * (k / w) + k % w) else -1) (dF : GaS) (aF : Nat → Int32) (kC : Nat → Int64) (s : SiS) (ta22 ta145 tb154 ta680 : Nat → Int32) (M : Nat → Nat → Int32) (l4 l11 : Int32) (Ln : Nat) (xs : Nat → Int32) : ∃ dF' aF' kC', f_st_727 g r d a dF aF kC s ta22 ta136 ta145 tb154 ta680 M (w * h) (w * h) (w * h) l4 (nI w) (nI h) l11 D Ln xs = f_st_896 g r d a dF' aF' kC' s ta22 ta136 ta145 tb154 ta680 M (w * h) (w * h) (w * h) l4 (nI w) (nI h) l11 Ln xs := by
  have w64 := wh_64 hW
  obtain ⟨w3, w8, h3, h8⟩ := id hW
  have hw : 0 < w := by omega
  obtain ⟨b, eb, gb⟩ := advise_ok (r := r) hW hG hc
  have tail : ∀ (R : Option (GrS × RuS × GaS × (Nat → Int32) × GaS × (Nat → Int32) × (Nat → Int64) × SiS × (Nat → Nat → Int32))), (if (nI w * nI h) ≤ b then (none) else (Option.bind (if b < 0 then (some ()) else (if b < 0 ∨ (w * h) ≤ b.toNatClampNeg then none else if 0 ≤ (ta136 b.toNatClampNeg) then (none) else (some ())) : Option (Unit)) fun v21 => Option.bind (f_X5_digest g r d a) fun r22 => if r22 = D then R else (none))) = R := fun R => by
    rw [pk_mul]
    rcases gb with rfl | ⟨x, y, hx, hy, rfl, z⟩
    · rw [if_neg (fun q => by
        have h1 := nI_pos' (n := w * h) (by omega)
        rw [Int32.le_iff_toInt_le] at q h1
        have : (-1 : Int32).toInt = -1 := by decide
        have : (0 : Int32).toInt = 0 := by decide
        omega), if_pos (by decide), Option.bind_some, hD, Option.bind_some, if_pos rfl]
    · have kl := k_lt hx hy
      obtain ⟨kx, ky⟩ := xy_k (y := y) hx
      rw [if_neg (by rw [l_le (by omega) (by omega)]; omega), if_neg (nI_pos (by omega)), l_toN (show w * y + x < 2 ^ 31 by omega), if_neg (fun z => z.elim (nI_pos (by omega)) (by omega)), h1 _ kl, kx, ky, z, if_neg (show ¬ (false = true) by decide), if_neg (by decide), Option.bind_some, hD, Option.bind_some, if_pos rfl]
  unfold f_st_727
  rcases period_ok (r := r) hW hG hc with ⟨p, q, q1, q2, q3, per⟩ | per
  · obtain ⟨k1, e1⟩ := (per kC).1
    obtain ⟨k2, e2⟩ := (per k1).2
    rw [e1, oinl_v, Option.bind_some]
    dsimp only
    rw [e2, oinl_v, Option.bind_some]
    dsimp only
    have epq : nI p + nI (q - p) = nI q := by rw [nI_add, show p + (q - p) = q by omega]
    rw [if_neg (nI_pos (by omega)), epq]
    have fin : ∀ (u : Int32 × GaS × (Nat → Int32)), (Option.bind (oinl (f_X5_advise g r d 1)) fun r15 => if u.1 = u.1 then (bindv (if 0 ≤ nI p then (0) else (1) : Int32) fun v17 => bindv (if 0 ≤ nI (q - p) then (0) else (1) : Int32) fun v18 => if v17 = v18 then (Option.bind (if nI p < 0 then (some ()) else (if nI (q - p) < 1 then (none) else (if 60 < nI q then (none) else (some ()))) : Option (Unit)) fun v19 => if (nI w * nI h) ≤ r15 then (none) else (Option.bind (if r15 < 0 then (some ()) else (if r15 < 0 ∨ (w * h) ≤ r15.toNatClampNeg then none else if 0 ≤ (ta136 r15.toNatClampNeg) then (none) else (some ())) : Option (Unit)) fun v21 => Option.bind (f_X5_digest g r d a) fun r22 => if r22 = D then (f_st_896 g r d a u.2.1 u.2.2 k2 s ta22 ta136 ta145 tb154 ta680 M (w * h) (w * h) (w * h) l4 (nI w) (nI h) l11 Ln xs) else (none))) else (none)) else (none)) = f_st_896 g r d a u.2.1 u.2.2 k2 s ta22 ta136 ta145 tb154 ta680 M (w * h) (w * h) (w * h) l4 (nI w) (nI h) l11 Ln xs := fun u => by
      rw [eb, oinl_v, Option.bind_some, if_pos rfl]
      simp only [bindv]
      rw [if_pos (nI_pos' (n := p) (by omega)), if_pos (nI_pos' (n := q - p) (by omega)), if_pos rfl, if_neg (nI_pos (by omega)), if_neg (by rw [show (1 : Int32) = nI 1 from rfl, l_lt (by omega) (by omega)]; omega), if_neg (by rw [show (60 : Int32) = nI 60 from rfl, l_lt (by omega) (by omega)]; omega), Option.bind_some]
      exact tail _
    by_cases z : q ≤ 50
    · obtain ⟨d1, a1, f1⟩ := foreN_ok (r := r) hW hG a hc dF aF (Y := q) (by omega) z
      rw [if_pos (by rw [show (50 : Int32) = nI 50 from rfl, l_le (by omega) (by omega)]; exact z), f1, oinl_v, Option.bind_some, Option.bind_some]
      dsimp only
      have := pc_le (sqC g r d.1 q)
      rw [if_pos (nI_pos' (by omega))]
      by_cases p0 : p = 0
      · subst p0
        rw [if_pos (show nI 0 = 0 from rfl), show f_X5_count g r d a 3 = _ from count_e (k := 3) (by decide) (cd3 g r d a), oinl_v, Option.bind_some, Option.bind_some]
        dsimp only
        rw [← q3, show sqC g r d.1 0 = d.1 from rfl]
        exact ⟨_, _, _, fin (nI (pc d.1), d1, a1)⟩
      · obtain ⟨d2, a2, f2⟩ := foreN_ok (r := r) hW hG a hc d1 a1 (Y := p) (by omega) (by omega)
        rw [if_neg (nI_ne0 (by omega) (by omega)), f2, oinl_v, Option.bind_some, Option.bind_some]
        dsimp only
        rw [q3]
        exact ⟨_, _, _, fin (nI (pc (sqC g r d.1 q)), d2, a2)⟩
    · rw [if_neg (by rw [show (50 : Int32) = nI 50 from rfl, l_le (by omega) (by omega)]; exact z), Option.bind_some]
      dsimp only
      rw [if_neg (by decide), Option.bind_some]
      exact ⟨_, _, _, fin (-1, dF, aF)⟩
  · obtain ⟨k1, e1⟩ := (per kC).1
    obtain ⟨k2, e2⟩ := (per k1).2
    refine ⟨dF, aF, k2, ?_⟩
    rw [e1, oinl_v, Option.bind_some]
    dsimp only
    rw [e2, oinl_v, Option.bind_some]
    dsimp only
    rw [if_pos (by decide), Option.bind_some]
    dsimp only
    rw [if_neg (by decide), Option.bind_some, eb, oinl_v, Option.bind_some, if_pos rfl]
    simp only [bindv]
    rw [if_pos trivial, if_pos (by decide), Option.bind_some]
    exact tail _
/-- from the checksum to the turn's end -/
theorem k672 {w h : Nat} {rd : Bool} {g : GrS} {r : RuS} {d : GaS} {a : Nat → Int32} {s : SiS} {M : Nat → Nat → Int32} (H : RS w h rd g r d a s M) {T : Nat} (hT : Num T w h d a) (hT9 : T < 40) {ta136 tb154 : Nat → Int32} (h1 : ∀ k, k < w * h → ta136 k = if BC d.1 (k % w) (k / w) = true then a (8 * (k / w) + k % w) else -1) (h2 : ∀ k, k < w * h → tb154 k = b01 (BC (sqC g r d.1 1) (k % w) (k / w))) (dF : GaS) (aF : Nat → Int32) (kC : Nat → Int64) (ta145 : Nat → Int32) (l4 : Int32) (Ln : Nat) (xs : Nat → Int32) : ∃ d' a' s' M' dF' aF' kC', f_st_672 g r d a dF aF kC s W7 ta136 ta145 tb154 M (w * h) (w * h) (w * h) l4 (nI w) (nI h) (nI (pc (sqC g r d.1 1))) Ln xs = some (g, r, d', a', dF', aF', kC', s', M') ∧ RS w h rd g r d' a' s' M' ∧ Num (T + 1) w h d' a' := by
  obtain ⟨d', a', s', M', B, D, eg, esq, ego, H', hT', a1, a2, b1, b2, bal, hB, hD⟩ := year_ok H hT hT9
  obtain ⟨c0, -, -, ec0⟩ := counts_ok H hT
  obtain ⟨c, -, -, ec⟩ := counts_ok H' hT'
  have ec : ∀ k, k < 11 → f_X5_counted g r d' a' (nI k) = some (c k) := fun k hk => by
    obtain ⟨v, v1, v2⟩ := ec k hk
    rw [v1, v2]
  obtain ⟨hW, hG, -, -, hc, -⟩ := id H
  obtain ⟨G, eG⟩ := digest_ex (r := r) hW hG a hc (fun k hk => by
    obtain ⟨v, v1, -⟩ := ec0 k hk
    exact ⟨v, v1⟩)
  obtain ⟨v, v1, v2⟩ := k695 (dF := dF) (aF := aF) hW hG hc eg ec
  obtain ⟨dF', aF', kC', e7⟩ := k727 hW hG hc eG h1 v.2.2 v.1 kC s W7 ta145 tb154 v.2.1 M l4 (nI (pc (sqC g r d.1 1))) Ln xs
  refine ⟨d', a', s', M', dF', aF', kC', ?_, H', hT'⟩
  unfold f_st_672
  rw [eG, Option.bind_some, v1, Option.bind_some, e7, ← esq]
  rw [← esq] at h2
  exact k896 H hT eg ego a1 a2 b1 b2 bal hB hD ec h1 h2 v2 dF' aF' kC' l4 Ln xs
