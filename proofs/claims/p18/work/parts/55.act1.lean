/-! what an act does -/
theorem RS_size {w h : Nat} {rd : Bool} {g : GrS} {r : RuS} {d : GaS} {a : Nat → Int32} {s : SiS} {M : Nat → Nat → Int32} (H : RS w h rd g r d a s M) : f_X6_hedges s M = some (nI (pc d.1)) := by
  obtain ⟨hW, hG, rfl, hr, hc, hM⟩ := H
  have hw : 0 < w := by have := hW.1; omega
  rw [simh_ok hW ⟨rfl, rfl, rfl⟩, pc_cells hW hc]
  exact congrArg (fun z => some (nI z)) (cells2_cong hw (fun x y hx hy => (hM x y hx hy).1))
def OutA (T : Nat) (q : Option (GrS × RuS × GaS × (Nat → Int32) × SiS × (Nat → Nat → Int32))) : Prop := ∃ w h rd g r d a s M, q = some (g, r, d, a, s, M) ∧ RS w h rd g r d a s M ∧ Num T w h d a
theorem out_same {w h : Nat} {rd : Bool} {g : GrS} {r : RuS} {d : GaS} {a : Nat → Int32} {s : SiS} {M : Nat → Nat → Int32} (H : RS w h rd g r d a s M) {T : Nat} (hT : Num T w h d a) : OutA T (some (g, r, d, a, s, M)) := ⟨w, h, rd, g, r, d, a, s, M, rfl, H, hT⟩
theorem cb_cut (c : Int64) (i : Nat) : cb (c &&& (c ^^^ (-1))) i = false := by
  by_cases hi : i < 64
  · rw [cb_and, cb_not hi]
    cases cb c i <;> rfl
  · exact cb_big (by omega)
theorem act_lay {w h : Nat} {rd : Bool} {g : GrS} {r : RuS} {d : GaS} {a : Nat → Int32} {s : SiS} {M : Nat → Nat → Int32} (H : RS w h rd g r d a s M) {T : Nat} (hT : Num T w h d a) {p q : Nat} (hp : p < 6) (hq : q < 6) : OutA T (Option.bind (f_X6_rows (3 + nI p) (3 + nI q) (-1)) fun r8 => Option.bind (oinl (f_X5_lay g d (3 + nI p) (3 + nI q))) fun r11 => if r11.1 = nI (pc d.1) then (some (r11.2.1, r, r11.2.2, a, ((3 + nI p), (3 + nI q), s.2.2.1, s.2.2.2.1, s.2.2.2.2.1, s.2.2.2.2.2.1, s.2.2.2.2.2.2.1, s.2.2.2.2.2.2.2), r8)) else (none)) := by
  obtain ⟨hW, hG, rfl, hr, hc, hM⟩ := H
  have e1 : ∀ p : Nat, 3 + nI p = nI (3 + p) := fun p => by rw [show (3 : Int32) = nI 3 from rfl, nI_add]
  rw [e1, e1]
  have hW2 : WH (3 + p) (3 + q) := ⟨by omega, by omega, by omega, by omega⟩
  obtain ⟨M', m1, m2⟩ := rows_ok (w := 3 + p) (h := 3 + q) (by omega) (by omega) (by omega) (-1)
  obtain ⟨g', g1, g2⟩ := resize_ok g hW2
  have sd : ∀ n, 3 ≤ n → n ≤ 8 → f_X5_isSide (nI n) = 1 := fun n h3 h8 => by
    unfold f_X5_isSide
    rw [if_neg (by rw [show (3 : Int32) = nI 3 from rfl, l_lt (by omega) (by omega)]; omega), if_neg (by rw [show (8 : Int32) = nI 8 from rfl, l_lt (by omega) (by omega)]; omega)]
  have lay : f_X5_lay g d (nI (3 + p)) (nI (3 + q)) = some (.inl (f_X2_size d, g', f_X2_cut d (f_X2_hedges d))) := by
    unfold f_X5_lay
    rw [sd _ (by omega) (by omega), if_neg (by decide), sd _ (by omega) (by omega), if_neg (by decide), g1, Option.bind_some]
  rw [m1, Option.bind_some, lay, oinl_v, Option.bind_some]
  dsimp only
  rw [show f_X2_size d = nI (pc d.1) from bc_pc d.1, if_pos rfl]
  rw [hG.2.2.1] at g2
  refine ⟨3 + p, 3 + q, rd, g', r, _, a, _, M', rfl, ⟨hW2, g2, rfl, hr, fun i hi => ?_, fun x y hx hy => ⟨?_, fun z => ?_, fun _ => m2 x y hx hy⟩⟩, hT.1, fun x y hx hy z => ?_, hT.2.2⟩
  · rw [show (f_X2_cut d (f_X2_hedges d)).1 = d.1 &&& (d.1 ^^^ (-1)) from rfl, cb_cut] at hi
    cases hi
  · rw [show BC (f_X2_cut d (f_X2_hedges d)).1 x y = false from cb_cut _ _]
    exact simB_f.mpr (by rw [m2 x y hx hy]; decide)
  · rw [show BC (f_X2_cut d (f_X2_hedges d)).1 x y = false from cb_cut _ _] at z
    cases z
  · rw [show BC (f_X2_cut d (f_X2_hedges d)).1 x y = false from cb_cut _ _] at z
    cases z
theorem act_rules {w h : Nat} {rd : Bool} {g : GrS} {r : RuS} {d : GaS} {a : Nat → Int32} {s : SiS} {M : Nat → Nat → Int32} (H : RS w h rd g r d a s M) {T : Nat} (hT : Num T w h d a) {b c : Nat} (hb : b < 512) (hc : c < 512) : OutA T (Option.bind (rinl (f_X5_setRules r (nI b) (nI c))) fun r20 => if r20.1 = ((512 * s.2.2.2.1) + s.2.2.2.2.1) then (some (g, r20.2, d, a, (s.1, s.2.1, s.2.2.1, nI b, nI c, s.2.2.2.2.2.1, s.2.2.2.2.2.2.1, s.2.2.2.2.2.2.2), M)) else (none)) := by
  obtain ⟨hW, hG, rfl, hr, hc1, hM⟩ := H
  have sn : ∀ n, n < 512 → f_X5_isSetOfNumbers (nI n) = 1 := fun n hn => by
    unfold f_X5_isSetOfNumbers
    rw [if_neg (nI_pos (by omega)), if_neg (by rw [show (511 : Int32) = nI 511 from rfl, l_lt (by omega) (by omega)]; omega)]
  have er : f_X5_setRules r (nI b) (nI c) = .inl (512 * r.1 + r.2, (nI b, nI c)) := by
    unfold f_X5_setRules
    rw [sn b hb, if_neg (by decide), sn c hc, if_neg (by decide)]
    rfl
  rw [er]
  refine ⟨w, h, rd, g, (nI b, nI c), d, a, _, M, if_pos rfl, ⟨hW, hG, rfl, ⟨b, c, hb, hc, rfl, rfl⟩, hc1, hM⟩, hT⟩
theorem act_edge {w h : Nat} {rd : Bool} {g : GrS} {r : RuS} {d : GaS} {a : Nat → Int32} {s : SiS} {M : Nat → Nat → Int32} (H : RS w h rd g r d a s M) {T : Nat} (hT : Num T w h d a) (v : Bool) : OutA T (if (f_X5_setEdge g v).1 = (bI s.2.2.1) then (some ((f_X5_setEdge g v).2, r, d, a, (s.1, s.2.1, v, s.2.2.2.1, s.2.2.2.2.1, s.2.2.2.2.2.1, s.2.2.2.2.2.2.1, s.2.2.2.2.2.2.2), M)) else (none)) := by
  obtain ⟨hW, hG, rfl, hr, hc1, hM⟩ := H
  obtain ⟨g1, g2, g3, g4⟩ := id hG
  have e : (f_X5_setEdge g v).1 = bI rd := by
    show f_X3_isRound g = bI rd
    rw [← g3]
    unfold f_X3_isRound
    cases g.2.2.1 <;> rfl
  rw [if_pos e]
  exact ⟨w, h, v, _, r, d, a, _, M, rfl, ⟨hW, ⟨g1, g2, rfl, g4⟩, rfl, hr, hc1, hM⟩, hT⟩
theorem act_turn {w h : Nat} {rd : Bool} {g : GrS} {r : RuS} {d : GaS} {a : Nat → Int32} {s : SiS} {M : Nat → Nat → Int32} (H : RS w h rd g r d a s M) {T : Nat} (hT : Num T w h d a) {x y : Nat} (hx : x < w) (hy : y < h) : OutA T (bindv (if 0 ≤ (M y x) then ((-1)) else (0) : Int32) fun v34 => Option.bind (oinl (f_X5_turn g d a (nI x) (nI y))) fun r35 => Option.bind (f_X6_hedges s (upM M y (upd (M y) x v34))) fun r36 => if r35.1 = r36 then (some (g, r, r35.2.1, r35.2.2, s, (upM M y (upd (M y) x v34)))) else (none)) := by
  have H0 := H
  obtain ⟨hW, hG, es, hr, hc1, hM⟩ := H
  obtain ⟨l64, -, -⟩ := bx hW hx hy
  have other : ∀ (c' : Int64) (a' : Nat → Int32) (v : Int32), InC w h c' → (∀ i, i < 64 → ¬ i = 8 * y + x → cb c' i = cb d.1 i ∧ (cb c' i = true → a' i = a i)) → ((cb c' (8 * y + x) = true ∧ v = 0 ∧ a' (8 * y + x) = 0) ∨ (cb c' (8 * y + x) = false ∧ v = -1)) → RS w h rd g r (c', d.2.1, d.2.2.1, d.2.2.2) a' s (upM M y (upd (M y) x v)) ∧ Num T w h (c', d.2.1, d.2.2.1, d.2.2.2) a' := fun c' a' v ic ho hv => by
    refine ⟨⟨hW, hG, es, hr, ic, fun x' y' hx' hy' => ?_⟩, hT.1, fun x' y' hx' hy' e => ?_, hT.2.2⟩
    · have hm := @upM_at M x y x' y' v
      by_cases z : y' = y ∧ x' = x
      · rw [if_pos z] at hm
        obtain ⟨rfl, rfl⟩ := z
        rcases hv with ⟨v1, v2, v3⟩ | ⟨v1, v2⟩
        · exact ⟨(simB_t.mpr (by rw [hm, v2]; decide)).trans v1.symm, (fun _ => by rw [hm, v2, v3]), fun q => absurd ((show BC c' x' y' = true from v1).symm.trans q) (by decide)⟩
        · exact ⟨(simB_f.mpr (by rw [hm, v2]; decide)).trans v1.symm, (fun q => absurd ((show BC c' x' y' = false from v1).symm.trans q) (by decide)), fun _ => by rw [hm, v2]⟩
      · rw [if_neg z] at hm
        obtain ⟨q1, q2⟩ := ho (8 * y' + x') (bx hW hx' hy').1 (fun q => z ⟨by have := hW.2.1; omega, by have := hW.2.1; omega⟩)
        obtain ⟨m1, m2, m3⟩ := hM x' y' hx' hy'
        have q1 : BC c' x' y' = BC d.1 x' y' := q1
        refine ⟨?_, fun q => ?_, fun q => ?_⟩
        · rw [q1, ← m1]
          unfold simB
          rw [hm]
        · rw [hm, q2 q]; exact m2 (q1 ▸ q)
        · rw [hm]; exact m3 (q1 ▸ q)
    · by_cases z : y' = y ∧ x' = x
      · obtain ⟨rfl, rfl⟩ := z
        rcases hv with ⟨v1, v2, v3⟩ | ⟨v1, v2⟩
        · exact ⟨0, Nat.zero_le _, v3⟩
        · rw [show BC c' x' y' = false from v1] at e; cases e
      · obtain ⟨q1, q2⟩ := ho (8 * y' + x') (bx hW hx' hy').1 (fun q => z ⟨by have := hW.2.1; omega, by have := hW.2.1; omega⟩)
        rw [q2 e]
        exact hT.2.1 x' y' hx' hy' ((show BC c' x' y' = BC d.1 x' y' from q1) ▸ e)
  obtain ⟨m1, m2, m3⟩ := hM x y hx hy
  have fin : ∀ (c' : Int64) (a' : Nat → Int32) (v : Int32), (if 0 ≤ M y x then (-1 : Int32) else 0) = v → f_X5_turn g d a (nI x) (nI y) = some (.inl (f_X2_size (c', d.2.1, d.2.2.1, d.2.2.2), (c', d.2.1, d.2.2.1, d.2.2.2), a')) → (RS w h rd g r (c', d.2.1, d.2.2.1, d.2.2.2) a' s (upM M y (upd (M y) x v)) ∧ Num T w h (c', d.2.1, d.2.2.1, d.2.2.2) a') → OutA T (bindv (if 0 ≤ (M y x) then ((-1)) else (0) : Int32) fun v34 => Option.bind (oinl (f_X5_turn g d a (nI x) (nI y))) fun r35 => Option.bind (f_X6_hedges s (upM M y (upd (M y) x v34))) fun r36 => if r35.1 = r36 then (some (g, r, r35.2.1, r35.2.2, s, (upM M y (upd (M y) x v34)))) else (none)) := fun c' a' v e1 e2 e3 => by
    rw [e1, e2, oinl_v]
    show OutA T (Option.bind (f_X6_hedges s (upM M y (upd (M y) x v))) fun r36 => if f_X2_size (c', d.2.1, d.2.2.1, d.2.2.2) = r36 then _ else none)
    rw [RS_size e3.1, Option.bind_some, show f_X2_size (c', d.2.1, d.2.2.1, d.2.2.2) = nI (pc c') from bc_pc c', if_pos rfl]
    exact out_same e3.1 e3.2
  have ocb : ∀ i, i < 64 → cb (ob (8 * y + x)) i = decide (i = 8 * y + x) := fun i hi => cb_ob l64 hi
  cases e : cb d.1 (8 * y + x) with
  | true =>
    have a1 : (if 0 ≤ M y x then (-1 : Int32) else 0) = -1 := by
      obtain ⟨n, n1, n2⟩ := hT.2.1 x y hx hy e
      have := hT.1
      rw [m2 e, n2, if_pos (nI_pos' (by omega))]
    refine fin (d.1 &&& (ob (8 * y + x) ^^^ (-1))) a (-1) a1 ?_ (other _ _ _ (InC_and hc1) (fun i hi ne => ⟨?_, fun _ => rfl⟩) (Or.inr ⟨?_, rfl⟩))
    · unfold f_X5_turn
      rw [if_neg (has_c hW hG hx hy), l_cell, hh_ok d l64, e, if_pos rfl, if_neg (by decide), Option.bind_some]
      rfl
    · rw [cb_and, cb_not hi, ocb i hi, decide_eq_false ne]
      cases cb d.1 i <;> rfl
    · rw [cb_and, cb_not l64, ocb _ l64, decide_eq_true rfl]
      cases cb d.1 (8 * y + x) <;> rfl
  | false =>
    have a1 : (if 0 ≤ M y x then (-1 : Int32) else 0) = 0 := by
      rw [m3 e, if_neg (by decide)]
    obtain ⟨v, v1, v2⟩ := py_ok d a (ob (8 * y + x))
    refine fin (d.1 ||| ob (8 * y + x)) v 0 a1 ?_ (other _ _ _ (InC_or hc1 (InC_ob hW hx hy)) (fun i hi ne => ⟨?_, fun _ => ?_⟩) (Or.inl ⟨?_, rfl, ?_⟩))
    · unfold f_X5_turn
      rw [if_neg (has_c hW hG hx hy), l_cell, hh_ok d l64, e, if_neg (show ¬ (false = true) by decide), if_pos rfl, v1, Option.bind_some, Option.bind_some]
    · rw [cb_or, ocb i hi, decide_eq_false ne]
      cases cb d.1 i <;> rfl
    · rw [v2, ocb i hi, decide_eq_false ne, if_neg (by decide)]
    · rw [cb_or, ocb _ l64, decide_eq_true rfl]
      cases cb d.1 (8 * y + x) <;> rfl
    · rw [v2, ocb _ l64, decide_eq_true rfl, if_pos rfl]
