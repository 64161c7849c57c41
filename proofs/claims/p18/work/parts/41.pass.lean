/-! loops over all cells, row by row -/
theorem for2_inv {α : Type} {w h F : Nat} (hw : 0 < w) (hF : w < F) (P : Nat → α → Prop) (Lin : Int32 → Nat → Int32 → α → Option α) (Lout : Nat → Int32 → α → Option α)
    (h1 : ∀ (nf x y : Nat) (a : α), x < w → y < h → P (w * y + x) a → ∃ a', P (w * y + x + 1) a' ∧ Lin (nI y) (nf + 1) (nI x) a = Lin (nI y) nf (nI (x + 1)) a')
    (h2 : ∀ (nf y : Nat) (a : α), Lin (nI y) (nf + 1) (nI w) a = some a)
    (h3 : ∀ (nf y : Nat) (a : α), y < h → Lout (nf + 1) (nI y) a = Option.bind (Lin (nI y) F 0 a) (fun a' => Lout nf (nI (y + 1)) a'))
    (h4 : ∀ (nf : Nat) (a : α), Lout (nf + 1) (nI h) a = some a) (nf : Nat) (a : α) (hf : h < nf) (hp : P 0 a) : ∃ r, P (w * h) r ∧ Lout nf 0 a = some r := by
  have := for_inv (n := h) (fun y a => P (w * y) a) Lout id (fun nf y a hy hp => by
    obtain ⟨r, r1, r2⟩ := for_inv (n := w) (fun x a => P (w * y + x) a) (Lin (nI y)) id (fun nf x a hx hp => h1 nf x y a hx hy hp) (fun nf a _ => h2 nf y a) F 0 a (Nat.zero_le _) (by omega) hp
    refine ⟨r, ?_, ?_⟩
    · show P (w * (y + 1)) r
      rw [Nat.mul_add, Nat.mul_one]; exact r1
    · rw [h3 nf y a hy, show Lin (nI y) F 0 a = some r from r2]; rfl) (fun nf a _ => h4 nf a) nf 0 a (Nat.zero_le _) (by omega) (by rw [Nat.mul_zero]; exact hp)
  obtain ⟨r, r1, r2⟩ := this
  exact ⟨r, r1, r2⟩
theorem xy_k {w x y : Nat} (hx : x < w) : (w * y + x) % w = x ∧ (w * y + x) / w = y := ⟨by rw [Nat.mul_add_mod, Nat.mod_eq_of_lt hx], by rw [Nat.mul_add_div (by omega), Nat.div_eq_of_lt hx, Nat.add_zero]⟩
theorem k_lt {w h x y : Nat} (hx : x < w) (hy : y < h) : w * y + x < w * h := lt_wh hx hy
theorem k_inj {w x y x' y' : Nat} (hx : x < w) (hx' : x' < w) (e : w * y + x = w * y' + x') : x = x' ∧ y = y' := cell_inj hx hx' e
theorem upM_at {M : Nat → Nat → Int32} {x y x' y' : Nat} {v : Int32} : upM M y (upd (M y) x v) y' x' = if y' = y ∧ x' = x then v else M y' x' := by
  unfold upM upd
  by_cases e : y' = y
  · subst e
    rw [if_pos rfl]
    by_cases q : x' = x
    · rw [if_pos q, if_pos ⟨rfl, q⟩]
    · rw [if_neg q, if_neg (fun z => q z.2)]
  · rw [if_neg e, if_neg (fun z => e z.1)]
theorem upM_self {M : Nat → Nat → Int32} {x y : Nat} {v : Int32} : upM M y (upd (M y) x v) y x = v := by rw [upM_at, if_pos ⟨rfl, rfl⟩]
theorem k_lt_iff {w x y x' y' : Nat} (hx : x < w) (hx' : x' < w) : w * y' + x' < w * y + x + 1 ↔ (w * y' + x' < w * y + x ∨ (y' = y ∧ x' = x)) := by
  constructor
  · intro h
    by_cases e : w * y' + x' = w * y + x
    · obtain ⟨a, b⟩ := k_inj hx' hx e
      exact Or.inr ⟨b, a⟩
    · exact Or.inl (by omega)
  · rintro (h | ⟨rfl, rfl⟩) <;> omega
theorem rows_ok {w h : Nat} (hw : 0 < w) (hw8 : w ≤ 8) (hh8 : h ≤ 8) (wi : Int32) : ∃ M, f_X6_rows (nI w) (nI h) wi = some M ∧ ∀ x y, x < w → y < h → M y x = wi := by
  have ew : (nI w).toNatClampNeg = w := l_toN (by omega)
  have eh : (nI h).toNatClampNeg = h := l_toN (by omega)
  obtain ⟨M, r1, r2⟩ := for2_inv (w := w) (h := h) (F := 12) hw (by omega) (fun k (M : Nat → Nat → Int32) => ∀ x y, x < w → y < h → w * y + x < k → M y x = wi) (fun y nf i M => lp_X6_rows_35 (nI w) wi y nf i M) (fun nf i M => lp_X6_rows_18 (nI w) (nI h) wi nf i M)
    (fun nf x y M hx hy hp => by
      refine ⟨upM M y (upd (M y) x wi), fun x' y' hx' hy' hk => ?_, ?_⟩
      · rw [upM_at]
        rcases (k_lt_iff hx hx').mp hk with q | q
        · by_cases z : y' = y ∧ x' = x
          · rw [if_pos z]
          · rw [if_neg z]; exact hp x' y' hx' hy' q
        · rw [if_pos q]
      · show lp_X6_rows_35 (nI w) wi (nI y) (nf + 1) (nI x) M = _
        rw [lp_X6_rows_35.eq_2, if_neg (by rw [l_le (by omega) (by omega)]; omega), ew, if_neg (l_out hx (by omega)), l_toN (show y < 2 ^ 31 by omega), l_toN (show x < 2 ^ 31 by omega), nI_1])
    (fun nf y M => by
      show lp_X6_rows_35 (nI w) wi (nI y) (nf + 1) (nI w) M = _
      rw [lp_X6_rows_35.eq_2, if_pos (by rw [l_le (by omega) (by omega)]; exact Nat.le_refl _)])
    (fun nf y M hy => by
      show lp_X6_rows_18 (nI w) (nI h) wi (nf + 1) (nI y) M = _
      rw [lp_X6_rows_18.eq_2, eh, show Int32.ofNat h = nI h from rfl, if_neg (by rw [l_le (by omega) (by omega)]; omega), if_neg (l_out hy (by omega)), nI_1])
    (fun nf M => by
      show lp_X6_rows_18 (nI w) (nI h) wi (nf + 1) (nI h) M = _
      rw [lp_X6_rows_18.eq_2, eh, show Int32.ofNat h = nI h from rfl, if_pos (by rw [l_le (by omega) (by omega)]; exact Nat.le_refl _)]) 12 (fun _ _ => 0) (by omega) (fun x y _ _ z => by omega)
  refine ⟨M, ?_, fun x y hx hy => r1 x y hx hy (k_lt hx hy)⟩
  unfold f_X6_rows
  rw [eh, ew, if_neg (fun z => z.elim (nI_lt0 h (by omega)) (by omega)), if_neg (fun z => z.elim (nI_lt0 w (by omega)) (by omega)), show lp_X6_rows_18 (nI w) (nI h) wi 12 0 (fun _ _ => 0) = some M from r2]
  rfl
/-- a count of the first k cells -/
def upto (w : Nat) (p : Nat → Nat → Bool) (k : Nat) : Nat := cntN (fun k => p (k % w) (k / w)) k
theorem upto_s {w x y : Nat} (p : Nat → Nat → Bool) (hx : x < w) : upto w p (w * y + x + 1) = upto w p (w * y + x) + (p x y).toNat := by
  show cntN _ (w * y + x) + (p ((w * y + x) % w) ((w * y + x) / w)).toNat = _
  obtain ⟨e1, e2⟩ := xy_k (y := y) hx
  rw [e1, e2]
  rfl
/-- a year of the law's own garden -/
def passM (bi st : Int32) (w h : Nat) (rd : Bool) (M : Nat → Nat → Int32) (y x : Nat) : Int32 := if cmB bi st (simB M) w h rd x y = true then (if simB M x y = true then M y x + 1 else 0) else -1
def young (w h : Nat) (M : Nat → Nat → Int32) : Prop := ∀ x y, x < w → y < h → simB M x y = true → ∃ a, a ≤ 1000 ∧ M y x = nI a
theorem pass_step {M : Nat → Nat → Int32} {w h : Nat} {rd : Bool} {bi st yr b0 d0 : Int32} (hW : WH w h) (hr : RuOK (nI w, nI h, rd, bi, st, yr, b0, d0)) (hy0 : young w h M) (nf : Nat) {x y : Nat} (hx : x < w) (hy : y < h) (M1 : Nat → Nat → Int32) (b d : Int32) (h1 : M1 y x = -1) : lp_X6_pass_25 (nI w, nI h, rd, bi, st, yr, b0, d0) M (nI y) (nf + 1) (nI x) M1 b d = lp_X6_pass_25 (nI w, nI h, rd, bi, st, yr, b0, d0) M (nI y) nf (nI (x + 1)) (if cmB bi st (simB M) w h rd x y = true then upM M1 y (upd (M1 y) x (passM bi st w h rd M y x)) else M1) (b + b01 (!simB M x y && cmB bi st (simB M) w h rd x y)) (d + b01 (simB M x y && !cmB bi st (simB M) w h rd x y)) := by
  obtain ⟨w3, w8, h3, h8⟩ := id hW
  have ew : (nI w).toNatClampNeg = w := l_toN (by omega)
  have eh : (nI h).toNatClampNeg = h := l_toN (by omega)
  have ty : (nI y).toNatClampNeg = y := l_toN (by omega)
  have tx : (nI x).toNatClampNeg = x := l_toN (by omega)
  have gy : ¬ (nI y < 0 ∨ h ≤ y) := fun z => z.elim (nI_lt0 y (by omega)) (by omega)
  have gx : ¬ (nI x < 0 ∨ w ≤ x) := fun z => z.elim (nI_lt0 x (by omega)) (by omega)
  have hs2 : SOK (nI w, nI h, rd, bi, st, yr, b, d) w h rd := ⟨rfl, rfl, rfl⟩
  have hr2 : RuOK (nI w, nI h, rd, bi, st, yr, b, d) := hr
  have c := simc_ok (M := M) hW hs2 hr2 hx hy
  have c : f_X6_comes (nI w, nI h, rd, bi, st, yr, b, d) M (nI x) (nI y) = some (b01 (cmB bi st (simB M) w h rd x y)) := c
  rw [lp_X6_pass_25.eq_2]
  dsimp only
  rw [if_neg (by rw [l_le (by omega) (by omega)]; omega), has_at hW hs2 hx hy, Option.bind_some, c, Option.bind_some, eh, ew, ty, tx, nI_1]
  simp only [bindv]
  cases eC : cmB bi st (simB M) w h rd x y with
  | false =>
    rw [if_pos (show b01 false = 0 from rfl), Option.bind_some, if_neg gy, if_neg gx, h1, if_pos (show (-1 : Int32) < 0 by decide), if_neg (show ¬ (0 : Int32) ≤ -1 by decide)]
    cases eH : simB M x y with
    | false => rfl
    | true => rfl
  | true =>
    cases eH : simB M x y with
    | false =>
      have hv : passM bi st w h rd M y x = 0 := by unfold passM; rw [eC, eH]; rfl
      rw [if_neg (show ¬ b01 true = 0 by decide), if_neg gy, if_pos (show b01 false = 0 from rfl), Option.bind_some, if_neg gx, Option.bind_some, if_neg gy, if_neg gx, upM_self, if_neg (show ¬ (0 : Int32) < 0 by decide), if_pos (show (0 : Int32) ≤ 0 by decide), if_pos (show b01 false = 0 from rfl), hv]
      rfl
    | true =>
      obtain ⟨a, ha, e⟩ := hy0 x y hx hy eH
      have hv : passM bi st w h rd M y x = nI (a + 1) := by unfold passM; rw [eC, eH, if_pos rfl, if_pos rfl, e, nI_1]
      rw [if_neg (show ¬ b01 true = 0 by decide), if_neg gy, if_neg (show ¬ b01 true = 0 by decide), if_neg gx, e, nI_1, Option.bind_some, if_neg gx, Option.bind_some, if_neg gy, if_neg gx, upM_self, if_neg (nI_pos (by omega)), if_pos (nI_pos' (by omega)), if_neg (show ¬ b01 true = 0 by decide), hv]
      rfl
theorem b01_n (b : Bool) : b01 b = nI b.toNat := by cases b <;> rfl
theorem simp_ok {M : Nat → Nat → Int32} {w h : Nat} {rd : Bool} {bi st yr b0 d0 : Int32} (hW : WH w h) (hr : RuOK (nI w, nI h, rd, bi, st, yr, b0, d0)) (hy0 : young w h M) : ∃ M', f_X6_pass (nI w, nI h, rd, bi, st, yr, b0, d0) M = some (nI (cells2 w h (simB M')), (nI w, nI h, rd, bi, st, yr + 1, b0 + nI (cells2 w h (fun x y => !simB M x y && cmB bi st (simB M) w h rd x y)), d0 + nI (cells2 w h (fun x y => simB M x y && !cmB bi st (simB M) w h rd x y))), M') ∧ ∀ x y, x < w → y < h → M' y x = passM bi st w h rd M y x := by
  obtain ⟨w3, w8, h3, h8⟩ := id hW
  obtain ⟨M0, m1, m2⟩ := rows_ok (w := w) (h := h) (by omega) w8 h8 (-1)
  obtain ⟨⟨M', bo, de⟩, ⟨r1, r2, r3⟩, r4⟩ := for2_inv (w := w) (h := h) (F := 100) (by omega) (by omega)
    (fun k (a : (Nat → Nat → Int32) × Int32 × Int32) => (∀ x y, x < w → y < h → a.1 y x = if w * y + x < k then passM bi st w h rd M y x else -1) ∧ a.2.1 = b0 + nI (upto w (fun x y => !simB M x y && cmB bi st (simB M) w h rd x y) k) ∧ a.2.2 = d0 + nI (upto w (fun x y => simB M x y && !cmB bi st (simB M) w h rd x y) k))
    (fun y nf i a => lp_X6_pass_25 (nI w, nI h, rd, bi, st, yr, b0, d0) M y nf i a.1 a.2.1 a.2.2) (fun nf i a => lp_X6_pass_15 (nI w, nI h, rd, bi, st, yr, b0, d0) M nf i a.1 a.2.1 a.2.2)
    (fun nf x y a hx hy hp => by
      obtain ⟨p1, p2, p3⟩ := hp
      have a0 : a.1 y x = -1 := by rw [p1 x y hx hy, if_neg (Nat.lt_irrefl _)]
      refine ⟨(if cmB bi st (simB M) w h rd x y = true then upM a.1 y (upd (a.1 y) x (passM bi st w h rd M y x)) else a.1, a.2.1 + b01 (!simB M x y && cmB bi st (simB M) w h rd x y), a.2.2 + b01 (simB M x y && !cmB bi st (simB M) w h rd x y)), ⟨fun x' y' hx' hy' => ?_, ?_, ?_⟩, pass_step hW hr hy0 nf hx hy a.1 a.2.1 a.2.2 a0⟩
      · dsimp only
        by_cases z : y' = y ∧ x' = x
        · obtain ⟨rfl, rfl⟩ := z
          rw [if_pos (Nat.lt_succ_self _)]
          cases eC : cmB bi st (simB M) w h rd x' y' with
          | true => rw [if_pos rfl, upM_at, if_pos ⟨rfl, rfl⟩]
          | false =>
            rw [if_neg (by decide), a0]
            unfold passM
            rw [eC]
            rfl
        · have q1 : (if cmB bi st (simB M) w h rd x y = true then upM a.1 y (upd (a.1 y) x (passM bi st w h rd M y x)) else a.1) y' x' = a.1 y' x' := by
            by_cases q : cmB bi st (simB M) w h rd x y = true
            · rw [if_pos q, upM_at, if_neg z]
            · rw [if_neg q]
          rw [q1, p1 x' y' hx' hy']
          by_cases q : w * y' + x' < w * y + x
          · rw [if_pos q, if_pos (by omega)]
          · rw [if_neg q, if_neg (fun q2 => ((k_lt_iff hx hx').mp q2).elim q z)]
      · dsimp only
        rw [p2, upto_s _ hx, ← nI_add, Int32.add_assoc, b01_n]
      · dsimp only
        rw [p3, upto_s _ hx, ← nI_add, Int32.add_assoc, b01_n])
    (fun nf y a => by
      rw [lp_X6_pass_25.eq_2]
      dsimp only
      rw [if_pos (by rw [l_le (by omega) (by omega)]; exact Nat.le_refl _)])
    (fun nf y a hy => by
      rw [lp_X6_pass_15.eq_2]
      dsimp only
      rw [if_neg (by rw [l_le (by omega) (by omega)]; omega), nI_1])
    (fun nf a => by
      rw [lp_X6_pass_15.eq_2]
      dsimp only
      rw [if_pos (by rw [l_le (by omega) (by omega)]; exact Nat.le_refl _)]) 100 (M0, b0, d0) (by omega) ⟨fun x y hx hy => by rw [if_neg (Nat.not_lt_zero _)]; exact m2 x y hx hy, by rw [show upto w _ 0 = 0 from rfl, show nI 0 = 0 from rfl, Int32.add_zero], by rw [show upto w _ 0 = 0 from rfl, show nI 0 = 0 from rfl, Int32.add_zero]⟩
  dsimp only at r1 r2 r3 r4
  refine ⟨M', ?_, fun x y hx hy => by rw [r1 x y hx hy, if_pos (k_lt hx hy)]⟩
  unfold f_X6_pass
  dsimp only
  rw [m1, Option.bind_some, r4, Option.bind_some]
  dsimp only
  rw [simh_ok (w := w) (h := h) (rd := rd) hW ⟨rfl, rfl, rfl⟩, Option.bind_some, r2, r3]
  rfl
