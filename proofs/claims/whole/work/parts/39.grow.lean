/-! ===== years go by: both sides ===== -/
def RelG (w h : Nat) (d : GaS) (a : Nat → Int32) (s : StS) (a' : Nat → Int32) : Prop := RelB w h d.1 s.2.2.2 ∧ d.2.1 = s.1 ∧ d.2.2.1 = s.2.1 ∧ d.2.2.2 = s.2.2.1 ∧ ∀ x y, x < w → y < h → BC d.1 x y = true → a (8 * y + x) = a' (w * y + x)
theorem has_ok (s : StS) {k : Nat} (hk : k < 64) : f_X6_has s (nI k) = if cb s.2.2.2 k = true then 1 else 0 := by
  unfold f_X6_has
  by_cases c : cb s.2.2.2 k = true
  · rw [if_pos ((ts_1 hk).mpr c), if_pos c]
  · rw [if_neg (fun z => c ((ts_1 hk).mp z)), if_neg c]
theorem gyl : ∀ (nf k : Nat) (a : Nat → Int32), k ≤ 64 → 64 - k < nf → ∃ v, lp_X2_growYear_67 nf (nI k) a = some v ∧ ∀ j, v j = if k ≤ j ∧ j < 64 then a j + 1 else a j
  | 0, _, _, _, hh => absurd hh (Nat.not_lt_zero _)
  | nf + 1, k, a, hk, hh => by
    rw [lp_X2_growYear_67.eq_2]
    by_cases q : 64 ≤ k
    · rw [if_pos (show (64 : Int32) ≤ nI k from (nI_leI (a := 64) (by decide) (by omega)).mpr q)]
      exact ⟨a, rfl, fun j => by rw [if_neg (by omega)]⟩
    · rw [if_neg (show ¬ (64 : Int32) ≤ nI k from fun z => q ((nI_leI (a := 64) (by decide) (by omega)).mp z)), if_neg (l_out (by omega) (by decide)), if_neg (l_out (by omega) (by decide)), l_toN (by omega), nI_1]
      obtain ⟨v, h1, h2⟩ := gyl nf (k + 1) (upd a k (a k + 1)) (by omega) (by omega)
      refine ⟨v, h1, fun j => ?_⟩
      rw [h2 j]
      by_cases e : j = k
      · subst e
        rw [if_neg (by omega), pk_us, if_pos (by omega)]
      · rw [pk_un e]
        by_cases z : k ≤ j ∧ j < 64
        · rw [if_pos z, if_pos (by omega)]
        · rw [if_neg z, if_neg (by omega)]
theorem pyl (cs : Int64) : ∀ (nf k : Nat) (a : Nat → Int32), k ≤ 64 → 64 - k < nf → ∃ v, lp_X2_putYoung_12 cs nf (nI k) a = some v ∧ ∀ j, v j = if k ≤ j ∧ cb cs j = true then 0 else a j
  | 0, _, _, _, hh => absurd hh (Nat.not_lt_zero _)
  | nf + 1, k, a, hk, hh => by
    rw [lp_X2_putYoung_12.eq_2]
    by_cases q : 64 ≤ k
    · rw [if_pos (show (64 : Int32) ≤ nI k from (nI_leI (a := 64) (by decide) (by omega)).mpr q)]
      refine ⟨a, rfl, fun j => ?_⟩
      rw [if_neg]
      rintro ⟨h1, h2⟩
      have := cb_lt h2
      omega
    · rw [if_neg (show ¬ (64 : Int32) ≤ nI k from fun z => q ((nI_leI (a := 64) (by decide) (by omega)).mp z)), nI_1, if_neg (l_out (by omega) (by decide)), l_toN (by omega)]
      have e0 : (if ((jushr cs (nI k)) &&& 1) = 0 then (some a) else (some (upd a k 0)) : Option (Nat → Int32)) = some (if cb cs k = true then upd a k 0 else a) := by
        by_cases c : cb cs k = true
        · rw [if_neg (fun z => by rw [(tu_0 (by omega)).mp z] at c; exact nomatch c), if_pos c]
        · rw [if_pos ((tu_0 (by omega)).mpr (by simpa using c)), if_neg c]
      rw [e0, Option.bind_some]
      obtain ⟨v, h1, h2⟩ := pyl cs nf (k + 1) (if cb cs k = true then upd a k 0 else a) (by omega) (by omega)
      refine ⟨v, h1, fun j => ?_⟩
      rw [h2 j]
      by_cases e : j = k
      · subst e
        rw [if_neg (by omega)]
        by_cases c : cb cs j = true
        · rw [if_pos c, if_pos ⟨Nat.le_refl _, c⟩, pk_us]
        · rw [if_neg c, if_neg (fun z => c z.2)]
      · have e1 : (if cb cs k = true then upd a k 0 else a) j = a j := by
          by_cases c : cb cs k = true
          · rw [if_pos c, pk_un e]
          · rw [if_neg c]
        rw [e1]
        by_cases z : k ≤ j ∧ cb cs j = true
        · rw [if_pos z, if_pos ⟨by omega, z.2⟩]
        · rw [if_neg z, if_neg (fun z' => z ⟨by omega, z'.2⟩)]
theorem py_ok (d : GaS) (a : Nat → Int32) (cs : Int64) : ∃ v, f_X2_putYoung d a cs = some ((d.1 ||| cs, d.2.1, d.2.2.1, d.2.2.2), v) ∧ ∀ j, v j = if cb cs j = true then 0 else a j := by
  obtain ⟨v, h1, h2⟩ := pyl cs 100 0 a (by decide) (by decide)
  refine ⟨v, ?_, fun j => ?_⟩
  · unfold f_X2_putYoung
    have h1' : lp_X2_putYoung_12 cs 100 0 a = some v := h1
    rw [h1']
    rfl
  · rw [h2 j]
    by_cases c : cb cs j = true
    · rw [if_pos ⟨Nat.zero_le _, c⟩, if_pos c]
    · rw [if_neg (fun z => c z.2), if_neg c]
theorem pal {m : MoS} {w h : Nat} {rd : Bool} (hW : WH w h) (hM : MOK m w h rd) (y27 y28 y29 : Int32) (hs : Int64) : ∀ (nf k : Nat) (a : Nat → Int32), k ≤ w * h → w * h - k < nf → ∃ v, lp_X7_pass_20 m y27 y28 y29 hs nf (nI k) a = some v ∧ (∀ j, j < k → v j = a j) ∧ ∀ j, k ≤ j → j < w * h → v j = if cb hs j = true then a j + 1 else 0
  | 0, _, _, _, hh => absurd hh (Nat.not_lt_zero _)
  | nf + 1, k, a, hk, hh => by
    have h64 := wh_64 hW
    rw [lp_X7_pass_20.eq_2]
    have e0 : m.2.1 * m.2.2.1 = nI (w * h) := by rw [hM.1, hM.2.1, pk_mul]
    rw [e0]
    by_cases q : w * h ≤ k
    · rw [if_pos ((nI_leI (by omega) (by omega)).mpr q)]
      exact ⟨a, rfl, fun j _ => rfl, fun j h1 h2 => by omega⟩
    · rw [if_neg (fun z => q ((nI_leI (by omega) (by omega)).mp z)), has_ok _ (show k < 64 by omega), if_neg (l_out (by omega) (by decide)), l_toN (by omega), nI_1]
      have e1 : (if (if cb hs k = true then (1 : Int32) else 0) = 0 then (some (0 : Int32)) else (some (a k + 1)) : Option Int32) = some (if cb hs k = true then a k + 1 else 0) := by
        by_cases c : cb hs k = true
        · rw [if_pos c, if_pos c, if_neg (by decide)]
        · rw [if_neg c, if_neg c, if_pos rfl]
      dsimp only
      have ho : ¬ (nI k < 0 ∨ 64 ≤ k) := by
        have h1 := l_out (i := k) (N := 64) (by omega) (by decide)
        rw [l_toN (by omega)] at h1
        exact h1
      rw [e1, Option.bind_some, if_neg ho]
      obtain ⟨v, h1, h2, h3⟩ := pal hW hM y27 y28 y29 hs nf (k + 1) (upd a k (if cb hs k = true then a k + 1 else 0)) (by omega) (by omega)
      refine ⟨v, h1, fun j hj => ?_, fun j hj1 hj2 => ?_⟩
      · rw [h2 j (by omega), pk_un (by omega)]
      · by_cases e : j = k
        · subst e
          rw [h2 j (by omega), pk_us]
        · rw [h3 j (by omega) hj2, pk_un e]
theorem or_comm64 (x y : Int64) : x ||| y = y ||| x := cb_ext (fun i _ => by rw [cb_or, cb_or, Bool.or_comm])
theorem grow1 {g : GrS} {m : MoS} {r : RuS} {w h : Nat} {rd : Bool} (hW : WH w h) (hG : GOK g w h rd) (hM : MOK m w h rd) (hr : m.2.2.2.2.1 = r.1 ∧ m.2.2.2.2.2 = r.2) {fR fB : Nat → Int64} (hT : TOK w h rd fR fB) {d : GaS} {a : Nat → Int32} {s : StS} {a' : Nat → Int32} (R : RelG w h d a s a') :
    ∃ (d1 : GaS) (v : Nat → Int32) (n : Int64) (v' : Nat → Int32), f_X2_growYear d a g r = some (d1, v) ∧ f_X7_next m fR s.2.2.2 = some n ∧ lp_X7_pass_20 m s.1 s.2.1 s.2.2.1 s.2.2.2 100 0 a' = some v' ∧ RelG w h d1 v (s.1 + 1, s.2.1 + (f_J13_bitCount_95d88 (n &&& (s.2.2.2 ^^^ (-1)))), s.2.2.1 + (f_J13_bitCount_95d88 (s.2.2.2 &&& (n ^^^ (-1)))), n) v' := by
  obtain ⟨Rb, R1, R2, R3, Ra⟩ := R
  obtain ⟨b, st, n, h1, h2, h3, h4, h5, h6, h7⟩ := year_ok hW hG hM hr hT Rb
  obtain ⟨v0, g1, g2⟩ := gyl 100 0 a (by decide) (by decide)
  obtain ⟨v, p1, p2⟩ := py_ok (st, d.2.1, (d.2.2.1 + (f_J13_bitCount_95d88 b)), (d.2.2.2 + (f_J13_bitCount_95d88 (d.1 &&& (st ^^^ (-1)))))) v0 b
  obtain ⟨v', q1, q2, q3⟩ := pal hW hM s.1 s.2.1 s.2.2.1 s.2.2.2 100 0 a' (Nat.zero_le _) (by have := wh_64 hW; omega)
  refine ⟨(st ||| b, d.2.1 + 1, (d.2.2.1 + (f_J13_bitCount_95d88 b)), (d.2.2.2 + (f_J13_bitCount_95d88 (d.1 &&& (st ^^^ (-1)))))), v, n, v', ?_, h3, q1, ?_, ?_, ?_, ?_, ?_⟩
  · unfold f_X2_growYear
    have g1' : lp_X2_growYear_67 100 0 a = some v0 := g1
    rw [h1, Option.bind_some, h2, Option.bind_some, g1', Option.bind_some, p1, Option.bind_some]
  · show RelB w h (st ||| b) n
    rw [or_comm64]
    exact h4
  · show d.2.1 + 1 = s.1 + 1
    rw [R1]
  · show d.2.2.1 + f_J13_bitCount_95d88 b = _
    rw [R2, RelB_bc hW h5]
  · show d.2.2.2 + f_J13_bitCount_95d88 (d.1 &&& (st ^^^ (-1))) = _
    rw [R3, RelB_bc hW h7]
  · intro x y hx hy hc
    have hl := lt_wh hx hy
    obtain ⟨z1, z2⟩ := xy_64 hW hx hy
    rw [p2, q3 _ (Nat.zero_le _) hl]
    have hb := h5.1 x y hx hy
    have hst := h6.1 x y hx hy
    unfold BC BM at hb hst
    rw [cb_and, cb_not z2] at hb
    rw [cb_and] at hst
    have hc' : (cb st (8 * y + x) || cb b (8 * y + x)) = true := by rw [← cb_or]; exact hc
    by_cases c : cb b (8 * y + x) = true
    · rw [if_pos c]
      rw [c] at hb
      have : cb s.2.2.2 (w * y + x) = false := by
        cases hh : cb s.2.2.2 (w * y + x) with
        | false => rfl
        | true => rw [hh] at hb; simp at hb
      rw [this]; rfl
    · rw [if_neg c]
      have c' : cb b (8 * y + x) = false := by simpa using c
      rw [c', Bool.or_false] at hc'
      rw [hc'] at hst
      have hs' : cb s.2.2.2 (w * y + x) = true := by
        cases hh : cb s.2.2.2 (w * y + x) with
        | true => rfl
        | false => rw [hh] at hst; simp at hst
      rw [if_pos hs', g2, if_pos ⟨Nat.zero_le _, z1⟩, Ra x y hx hy ((Rb.1 x y hx hy).trans hs')]
theorem growl {g : GrS} {m : MoS} {r : RuS} {w h : Nat} {rd : Bool} (hW : WH w h) (hG : GOK g w h rd) (hM : MOK m w h rd) (hr : m.2.2.2.2.1 = r.1 ∧ m.2.2.2.2.2 = r.2) {fR fB : Nat → Int64} (hT : TOK w h rd fR fB) (Y : Nat) (hY : Y ≤ 50) : ∀ (nf j : Nat) (d : GaS) (a : Nat → Int32) (s : StS) (a' : Nat → Int32), j ≤ Y → Y - j < nf → RelG w h d a s a' → ∃ v v', lp_X2_growYears_2 g r (nI Y) nf (nI j) a d.1 d.2.1 d.2.2.1 d.2.2.2 = some v ∧ lp_X7_pass_2 m fR (nI Y) nf (nI j) a' s.1 s.2.1 s.2.2.1 s.2.2.2 = some v' ∧ RelG w h v.2 v.1 v'.2 v'.1
  | 0, _, _, _, _, _, _, hh, _ => absurd hh (Nat.not_lt_zero _)
  | nf + 1, j, d, a, s, a', hj, hh, R => by
    rw [lp_X2_growYears_2.eq_2, lp_X7_pass_2.eq_2]
    by_cases q : Y ≤ j
    · have q' : nI Y ≤ nI j := (nI_leI (by omega) (by omega)).mpr q
      rw [if_pos q', if_pos q']
      exact ⟨_, _, rfl, rfl, R⟩
    · have q' : ¬ nI Y ≤ nI j := fun z => q ((nI_leI (by omega) (by omega)).mp z)
      rw [if_neg q', if_neg q']
      obtain ⟨d1, v, n, v', h1, h2, h3, h4⟩ := grow1 hW hG hM hr hT R
      have h1' : f_X2_growYear (d.1, d.2.1, d.2.2.1, d.2.2.2) a g r = some (d1, v) := h1
      rw [h1', Option.bind_some, h2, Option.bind_some, h3, Option.bind_some, nI_1]
      exact growl hW hG hM hr hT Y hY nf (j + 1) d1 v _ v' (by omega) (by omega) h4
theorem grow_ok {g : GrS} {m : MoS} {r : RuS} {w h : Nat} {rd : Bool} (hW : WH w h) (hG : GOK g w h rd) (hM : MOK m w h rd) (hr : m.2.2.2.2.1 = r.1 ∧ m.2.2.2.2.2 = r.2) {fR fB : Nat → Int64} (hT : TOK w h rd fR fB) {Y : Nat} (hY : Y ≤ 50) {d : GaS} {a : Nat → Int32} {s : StS} {a' : Nat → Int32} (R : RelG w h d a s a') : ∃ d1 a1 s1 a1', f_X2_growYears d a g r (nI Y) = some (d1, a1) ∧ f_X7_pass m fR s a' (nI Y) = some (s1, a1') ∧ RelG w h d1 a1 s1 a1' := by
  obtain ⟨v, v', h1, h2, h3⟩ := growl hW hG hM hr hT Y hY 100 0 d a s a' (Nat.zero_le _) (by omega) R
  refine ⟨v.2, v.1, v'.2, v'.1, ?_, ?_, h3⟩
  · unfold f_X2_growYears
    have h1' : lp_X2_growYears_2 g r (nI Y) 100 0 a d.1 d.2.1 d.2.2.1 d.2.2.2 = some v := h1
    rw [h1']
    rfl
  · unfold f_X7_pass
    have h2' : lp_X7_pass_2 m fR (nI Y) 100 0 a' s.1 s.2.1 s.2.2.1 s.2.2.2 = some v' := h2
    rw [h2']
    rfl
