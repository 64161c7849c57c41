/-! the last stages of a turn: the year passes -/
def wN (i : Nat) : Nat := if i = 0 then 3 else if i = 1 then 4 else if i = 2 then 5 else if i = 3 then 7 else if i = 4 then 8 else if i = 5 then 9 else 10
abbrev W7 : Nat → Int32 := (upd (upd (upd (upd (upd (upd (upd (fun _ => 0) (0 : Int32).toNatClampNeg 3) (1 : Int32).toNatClampNeg 4) (2 : Int32).toNatClampNeg 5) (3 : Int32).toNatClampNeg 7) (4 : Int32).toNatClampNeg 8) (5 : Int32).toNatClampNeg 9) (6 : Int32).toNatClampNeg 10)
theorem W7_e : ∀ i, i < 7 → W7 i = nI (wN i) ∧ wN i < 11 ∧ 3 ≤ wN i ∧ ¬ wN i = 6 := by decide
theorem cnt_cong (g : GrS) (r : RuS) (d : GaS) {a a' : Nat → Int32} (e : ∀ i, i < 64 → a i = a' i) {k : Nat} (hk : k < 11) : f_X5_counted g r d a (nI k) = f_X5_counted g r d a' (nI k) := by
  have ho : f_X2_oldest d a = f_X2_oldest d a' := by
    have e1 := oldC_l d a 100 0 (-1) (by decide) (by decide)
    have e2 := oldC_l d a' 100 0 (-1) (by decide) (by decide)
    unfold f_X2_oldest
    rw [show lp_X2_oldest_4 d a 100 (-1) 0 = _ from e1, show lp_X2_oldest_4 d a' 100 (-1) 0 = _ from e2]
    refine congrArg (fun z => Option.bind (some z) fun v8 => some v8) (foldN_cong (fun b i hi => ?_))
    unfold oF
    rw [e (0 + i) (by omega)]
  unfold f_X5_counted
  rw [ho]
theorem grow_cong {g : GrS} {r : RuS} {w h : Nat} {rd : Bool} (hW : WH w h) (hG : GOK g w h rd) {d d' : GaS} {a a' v : Nat → Int32} (hc : InC w h d.1) (e : f_X2_growYear d a g r = some (d', a')) (ev : ∀ j, j < 64 → v j = a j) : ∃ v', f_X2_growYear d v g r = some (d', v') ∧ ∀ j, j < 64 → v' j = a' j := by
  obtain ⟨b, t, a1, eb, et, e1, h1, -⟩ := grow_c (r := r) hW hG a hc
  obtain ⟨b2, t2, a2, eb2, et2, e2, h2, -⟩ := grow_c (r := r) hW hG v hc
  rw [eb] at eb2
  rw [et] at et2
  cases eb2
  cases et2
  rw [e] at e1
  cases e1
  exact ⟨a2, e2, fun j hj => by rw [h1 j hj, h2 j hj, ev j hj]⟩
theorem fore1_ok {g : GrS} {r : RuS} {w h : Nat} {rd : Bool} (hW : WH w h) (hG : GOK g w h rd) {d d' dF : GaS} {a a' aF : Nat → Int32} (hc : InC w h d.1) (e : f_X2_growYear d a g r = some (d', a')) {k : Nat} (hk : k < 11) (k3 : 3 ≤ k) (k6 : ¬ k = 6) {v : Int32} (ev : f_X5_counted g r d' a' (nI k) = some v) : ∃ v', f_X5_foresee g r d a dF aF 1 (nI k) = some (.inl (v, d', v')) := by
  obtain ⟨v1, c1, c2⟩ := copy_c dF aF d a
  obtain ⟨v2, c3, c4⟩ := grow_cong hW hG hc e c2
  refine ⟨v2, ?_⟩
  unfold f_X5_foresee
  rw [if_neg (show ¬ f_X5_isYears 1 = 0 by decide), if_neg (by rw [show (3 : Int32) = nI 3 from rfl, l_lt (by omega) (by omega)]; omega), if_neg (by rw [show (11 : Int32) = nI 11 from rfl, l_le (by omega) (by omega)]; omega), if_neg (by rw [show (6 : Int32) = nI 6 from rfl, l_eq (by omega) (by omega)]; exact k6), c1, Option.bind_some]
  dsimp only
  rw [grow1_c g r d v1 c3, Option.bind_some]
  dsimp only
  rw [cnt_cong g r d' c4 hk, ev, Option.bind_some]
theorem e7 : (7 : Int32).toNatClampNeg = 7 := by decide
theorem e11 : (11 : Int32).toNatClampNeg = 11 := by decide
theorem oinl_v {α : Type} (v : α) : oinl (some (.inl v : α ⊕ String)) = some v := rfl
theorem k695 {g : GrS} {r : RuS} {w h : Nat} {rd : Bool} (hW : WH w h) (hG : GOK g w h rd) {d d' dF : GaS} {a a' aF : Nat → Int32} (hc : InC w h d.1) (e : f_X2_growYear d a g r = some (d', a')) {c : Nat → Int32} (ec : ∀ k, k < 11 → f_X5_counted g r d' a' (nI k) = some (c k)) : ∃ v, lp_L_law_695 g r d a W7 9 0 aF (fun _ => 0) dF = some v ∧ ∀ i, i < 7 → v.2.1 (wN i) = c (wN i) := by
  obtain ⟨v, v1, v2⟩ := for_inv (n := 7) (fun k (q : (Nat → Int32) × (Nat → Int32) × GaS) => ∀ i, i < k → q.2.1 (wN i) = c (wN i)) (fun nf i q => lp_L_law_695 g r d a W7 nf i q.1 q.2.1 q.2.2) id (fun nf k q hk hq => by
      obtain ⟨w1, w2, w3, w4⟩ := W7_e k hk
      obtain ⟨v', f1⟩ := fore1_ok (dF := q.2.2) (aF := q.1) hW hG hc e w2 w3 w4 (ec _ w2)
      refine ⟨(v', upd q.2.1 (wN k) (c (wN k)), d'), fun i hi => ?_, ?_⟩
      · show (if wN i = wN k then _ else _) = _
        by_cases z : wN i = wN k
        · rw [if_pos z, z]
        · rw [if_neg z]
          refine hq i ?_
          by_cases y : i = k
          · subst y; exact absurd rfl z
          · omega
      · show lp_L_law_695 g r d a W7 (nf + 1) (nI k) q.1 q.2.1 q.2.2 = _
        rw [lp_L_law_695.eq_2, if_neg (by rw [e7, show Int32.ofNat 7 = nI 7 from rfl, l_le (by omega) (by omega)]; omega), l_toN (show k < 2 ^ 31 by omega), if_neg (fun z => z.elim (nI_pos (by omega)) (by rw [e7]; omega)), w1, f1, oinl_v, Option.bind_some, l_toN (show wN k < 2 ^ 31 by omega), if_neg (fun z => z.elim (nI_pos (by omega)) (by rw [e11]; omega)), nI_1]) (fun nf q _ => by
      show lp_L_law_695 g r d a W7 (nf + 1) (nI 7) q.1 q.2.1 q.2.2 = _
      rw [lp_L_law_695.eq_2, if_pos (by decide)]
      rfl) 9 0 (aF, (fun _ => 0), dF) (by decide) (by decide) (fun i hi => absurd hi (Nat.not_lt_zero _))
  exact ⟨v, v2, v1⟩
theorem k958 {g : GrS} {r : RuS} {d : GaS} {a ta : Nat → Int32} {c : Nat → Int32} (ec : ∀ k, k < 11 → f_X5_counted g r d a (nI k) = some (c k)) (et : ∀ i, i < 7 → ta (wN i) = c (wN i)) : lp_L_law_958 g r d a W7 ta 9 0 = some () := by
  obtain ⟨u, -, e⟩ := for_inv (n := 7) (fun _ (_ : Unit) => True) (fun nf i _ => lp_L_law_958 g r d a W7 ta nf i) id (fun nf k u hk _ => ⟨(), trivial, by
      obtain ⟨w1, w2, w3, w4⟩ := W7_e k hk
      show lp_L_law_958 g r d a W7 ta (nf + 1) (nI k) = _
      rw [lp_L_law_958.eq_2, if_neg (by rw [e7, show Int32.ofNat 7 = nI 7 from rfl, l_le (by omega) (by omega)]; omega), l_toN (show k < 2 ^ 31 by omega), if_neg (fun z => z.elim (nI_pos (by omega)) (by rw [e7]; omega)), w1, count_e w2 (ec _ w2), oinl_v, Option.bind_some, l_toN (show wN k < 2 ^ 31 by omega), if_neg (fun z => z.elim (nI_pos (by omega)) (by rw [e11]; omega)), if_pos (et k hk).symm, nI_1]⟩) (fun nf u _ => by
      show lp_L_law_958 g r d a W7 ta (nf + 1) (nI 7) = _
      rw [lp_L_law_958.eq_2, if_pos (by decide)]) 9 0 () (by decide) (by decide) trivial
  exact e
theorem k1054 {g : GrS} {r : RuS} {w h : Nat} {rd : Bool} (hW : WH w h) (hG : GOK g w h rd) {d d' : GaS} {a a' ta tb : Nat → Int32} (h1 : ∀ k, k < w * h → ta k = if BC d.1 (k % w) (k / w) = true then a (8 * (k / w) + k % w) else -1) (h2 : ∀ k, k < w * h → tb k = b01 (BC d'.1 (k % w) (k / w))) (a1 : ∀ x y, x < w → y < h → a' (8 * y + x) = if BC d.1 x y = true ∧ BC d'.1 x y = true then a (8 * y + x) + 1 else a' (8 * y + x)) (a2 : ∀ x y, x < w → y < h → BC d.1 x y = false → BC d'.1 x y = true → a' (8 * y + x) = 0) : lp_L_law_1054 g r d' a' ta tb (w * h) (w * h) (nI w) (nI h) 70 0 = some () := by
  have w64 := wh_64 hW
  obtain ⟨w3, w8, h3, h8⟩ := id hW
  have hw : 0 < w := by omega
  obtain ⟨u, -, e⟩ := for_inv (n := w * h) (fun _ (_ : Unit) => True) (fun nf i _ => lp_L_law_1054 g r d' a' ta tb (w * h) (w * h) (nI w) (nI h) nf i) id (fun nf k u hk _ => ⟨(), trivial, by
      obtain ⟨p1, p2, p3⟩ := k_xy hk hw
      show lp_L_law_1054 g r d' a' ta tb (w * h) (w * h) (nI w) (nI h) (nf + 1) (nI k) = _
      rw [lp_L_law_1054.eq_2, pk_mul, if_neg (by rw [l_le (by omega) (by omega)]; omega), if_neg (nI_ne0 hw (by omega)), pk_rem (by omega) hw (by omega), pk_div (by omega) hw (by omega), told2 hW hG p1 p2, oinl_v, Option.bind_some, l_toN (show k < 2 ^ 31 by omega), if_neg (fun z => z.elim (nI_pos (by omega)) (by omega)), h1 k hk, h2 k hk, nI_1]
      have b1 := a1 _ _ p1 p2
      have b2 := a2 _ _ p1 p2
      cases q : BC d'.1 (k % w) (k / w) with
      | false => rw [if_pos (show b01 false = 0 from rfl), Option.bind_some, if_neg (show ¬ (false = true) by decide), if_pos rfl]
      | true =>
        rw [if_neg (show ¬ b01 true = 0 by decide), if_neg (fun z => z.elim (nI_pos (by omega)) (by omega)), Option.bind_some, if_pos rfl]
        cases z : BC d.1 (k % w) (k / w) with
        | true =>
          rw [q, z, if_pos ⟨rfl, rfl⟩] at b1
          rw [if_pos rfl, if_pos b1]
        | false => rw [b2 z q, if_neg (show ¬ (false = true) by decide), if_pos (show (0 : Int32) = -1 + 1 by decide)]⟩) (fun nf u _ => by
      show lp_L_law_1054 g r d' a' ta tb (w * h) (w * h) (nI w) (nI h) (nf + 1) (nI (w * h)) = _
      rw [lp_L_law_1054.eq_2, pk_mul, if_pos (by rw [l_le (by omega) (by omega)]; exact Nat.le_refl _)]) 70 0 () (Nat.zero_le _) (by omega) trivial
  exact e
theorem up3 (r2 r4 r6 : Int32) : (upd (upd (upd (fun _ => 0) (0 : Int32).toNatClampNeg r2) (1 : Int32).toNatClampNeg r4) (2 : Int32).toNatClampNeg r6) (0 : Int32).toNatClampNeg = r2 ∧ (upd (upd (upd (fun _ => 0) (0 : Int32).toNatClampNeg r2) (1 : Int32).toNatClampNeg r4) (2 : Int32).toNatClampNeg r6) (1 : Int32).toNatClampNeg = r4 ∧ (upd (upd (upd (fun _ => 0) (0 : Int32).toNatClampNeg r2) (1 : Int32).toNatClampNeg r4) (2 : Int32).toNatClampNeg r6) (2 : Int32).toNatClampNeg = r6 := ⟨rfl, rfl, rfl⟩
/-- from what was foreseen to the turn's end -/
theorem k896 {w h : Nat} {rd : Bool} {g : GrS} {r : RuS} {d : GaS} {a : Nat → Int32} {s : SiS} {M : Nat → Nat → Int32} (H : RS w h rd g r d a s M) {T : Nat} (hT : Num T w h d a) {d' : GaS} {a' : Nat → Int32} {s' : SiS} {M' : Nat → Nat → Int32} {B D : Nat} (eg : f_X2_growYear d a g r = some (d', a')) (ego : f_X6_go s M 1 = some (nI (pc d'.1), s', M')) (a1 : ∀ x y, x < w → y < h → a' (8 * y + x) = if BC d.1 x y = true ∧ BC d'.1 x y = true then a (8 * y + x) + 1 else a' (8 * y + x)) (a2 : ∀ x y, x < w → y < h → BC d.1 x y = false → BC d'.1 x y = true → a' (8 * y + x) = 0) (b1 : d'.2.2.1 = d.2.2.1 + nI B) (b2 : d'.2.2.2 = d.2.2.2 + nI D) (bal : pc d.1 + B = pc d'.1 + D) (hB : B ≤ 64) (hD : D ≤ 64) {c : Nat → Int32} (ec : ∀ k, k < 11 → f_X5_counted g r d' a' (nI k) = some (c k)) {ta136 ta145 tb154 ta680 : Nat → Int32} (h1 : ∀ k, k < w * h → ta136 k = if BC d.1 (k % w) (k / w) = true then a (8 * (k / w) + k % w) else -1) (h2 : ∀ k, k < w * h → tb154 k = b01 (BC d'.1 (k % w) (k / w))) (h3 : ∀ i, i < 7 → ta680 (wN i) = c (wN i)) (dF : GaS) (aF : Nat → Int32) (kC : Nat → Int64) (l4 : Int32) (Ln : Nat) (xs : Nat → Int32) : f_st_896 g r d a dF aF kC s W7 ta136 ta145 tb154 ta680 M (w * h) (w * h) (w * h) l4 (nI w) (nI h) (nI (pc d'.1)) Ln xs = some (g, r, d', a', dF, aF, kC, s', M') := by
  obtain ⟨hW, hG, -, -, hc, -⟩ := H
  obtain ⟨T40, -, ⟨nb, nb1, nb2⟩, nd, nd1, nd2⟩ := hT
  have p1 := pc_le d.1
  have p2 := pc_le d'.1
  have c3 := count_e (k := 3) (by decide) (cd3 g r d a)
  have c4 := count_e (k := 4) (by decide) (cd4 g r d a)
  have c5 := count_e (k := 5) (by decide) (cd5 g r d a)
  have c4' := count_e (k := 4) (by decide) (cd4 g r d' a')
  have c5' := count_e (k := 5) (by decide) (cd5 g r d' a')
  have ep : f_X5_pass g r d a 1 = some (.inl (nI (pc d'.1), d', a')) := by
    unfold f_X5_pass
    rw [if_neg (show ¬ f_X5_isYears 1 = 0 by decide), grow1_c g r d a eg, Option.bind_some]
    show some (Sum.inl (f_J13_bitCount_95d88 d'.1, d', a')) = _
    rw [bc_pc]
  rw [nb2] at c4
  rw [nd2] at c5
  rw [b1, nb2, nI_add] at c4'
  rw [b2, nd2, nI_add] at c5'
  unfold f_st_896
  rw [show (3 : Int32) = nI 3 from rfl, c3, oinl_v, Option.bind_some, show (4 : Int32) = nI 4 from rfl, c4, oinl_v, Option.bind_some, show (5 : Int32) = nI 5 from rfl, c5, oinl_v, Option.bind_some, ep, oinl_v, Option.bind_some]
  dsimp only
  rw [if_pos rfl, ego, Option.bind_some]
  dsimp only
  rw [if_pos rfl]
  unfold f_st_947
  obtain ⟨u0, u1, u2⟩ := up3 (nI (pc d.1)) (nI nb) (nI nd)
  rw [k958 ec h3, Option.bind_some, show (4 : Int32) = nI 4 from rfl, c4', oinl_v, Option.bind_some, show (5 : Int32) = nI 5 from rfl, c5', oinl_v, Option.bind_some, u0, u1, u2, nI_add, pk_sub (by omega), pk_sub (by omega), pk_sub (by omega), if_pos (by rw [l_eq (by omega) (by omega)]; omega), Option.bind_some, if_neg (by rw [l_lt (by omega) (by omega)]; omega), Option.bind_some, if_pos (by rw [l_le (by omega) (by omega)]; omega)]
  unfold f_st_1051
  rw [k1054 hW hG h1 h2 a1 a2, Option.bind_some]
