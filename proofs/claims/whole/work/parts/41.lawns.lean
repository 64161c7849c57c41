/-! ===== lawns, one by one; ways ===== -/
theorem all_b : ∀ n, n < 64 → ∀ j, j < 64 → cb ((jshl 1 (nI n)) - 1) j = decide (j < n) := by decide +kernel
theorem openC_b {g : GrS} {w h : Nat} {rd : Bool} (hG : GOK g w h rd) (hs : Int64) {i : Nat} (hi : i < 64) : cb (f_X3_open g hs) i = (decide (i % 8 < w ∧ i / 8 < h) && !cb hs i) := by
  unfold f_X3_open
  rw [cb_and, cb_not hi, (hG.2.2.2 i hi).1]
theorem openM_b {m : MoS} {w h : Nat} {rd : Bool} (hW : WH w h) (hM : MOK m w h rd) (s : StS) {j : Nat} (hj : j < 64) : cb (f_X7_open m s) j = (decide (j < w * h) && !cb s.2.2.2 j) := by
  have h64 := wh_64 hW
  unfold f_X7_open
  simp only [bindv]
  rw [cb_and, cb_not hj]
  congr 1
  have e0 : m.2.1 * m.2.2.1 = nI (w * h) := by rw [hM.1, hM.2.1, pk_mul]
  rw [e0]
  by_cases q : w * h = 64
  · rw [q, if_pos (show nI 64 = (64 : Int32) from rfl), cb_m1 j hj, decide_eq_true hj]
  · rw [if_neg (show ¬ nI (w * h) = (64 : Int32) from fun z => q ((nI_eq (b := 64) (by omega) (by decide)).mp z)), all_b _ (by omega) j hj]
theorem open_ok {g : GrS} {m : MoS} {w h : Nat} {rd : Bool} (hW : WH w h) (hG : GOK g w h rd) (hM : MOK m w h rd) {c : Int64} {s : StS} (a : RelB w h c s.2.2.2) : RelB w h (f_X3_open g c) (f_X7_open m s) := by
  have w8 := hW.2.1
  refine ⟨fun x y hx hy => ?_, fun i hi => ?_, fun k hk => ?_⟩
  · obtain ⟨q1, q2⟩ := xy_64 hW hx hy
    have hl := lt_wh hx hy
    have := a.1 x y hx hy
    unfold BC BM at *
    rw [openC_b hG c q1, openM_b hW hM s q2, this, decide_eq_true (show (8 * y + x) % 8 < w ∧ (8 * y + x) / 8 < h by omega), decide_eq_true hl]
  · rw [openC_b hG c (cb_lt hi), Bool.and_eq_true, decide_eq_true_eq] at hi
    exact hi.1
  · rw [openM_b hW hM s (cb_lt hk), Bool.and_eq_true, decide_eq_true_eq] at hk
    exact hk.1
/-- whole lawns alone are left -/
def CL (w h : Nat) (rd : Bool) (op rest : Int64) : Prop := ∀ x y, x < w → y < h → BC op x y = true → SB (BC rest) w h rd x y = true → BC rest x y = true
theorem lw_eq {g : GrS} {w h : Nat} {rd : Bool} (hW : WH w h) (hG : GOK g w h rd) {op rest : Int64} (ho : InC w h op) (hr : ∀ i, cb rest i = true → cb op i = true) (hcl : CL w h rd op rest) : ∀ (nf : Nat) (c : Int64) (i : Int32), (∀ j, cb c j = true → cb rest j = true) → lp_X3_lawn_8 g op nf c i = lp_X3_lawn_8 g rest nf c i
  | 0, _, _, _ => rfl
  | nf + 1, c, i, hc => by
    have hco : InC w h c := fun j hj => ho j (hr j (hc j hj))
    have hro : InC w h rest := fun j hj => ho j (hr j hj)
    obtain ⟨i1, b1⟩ := wB_ok hW hG hco ho
    obtain ⟨i2, b2⟩ := wB_ok hW hG hco hro
    have key : f_X3_withBeside g c op = f_X3_withBeside g c rest := by
      refine cb_ext (fun j hj => ?_)
      by_cases q : j % 8 < w ∧ j / 8 < h
      · have e1 := b1 _ _ q.1 q.2
        have e2 := b2 _ _ q.1 q.2
        have ej : 8 * (j / 8) + j % 8 = j := by omega
        unfold BC at e1 e2
        rw [ej] at e1 e2
        rw [e1, e2]
        cases h1 : (cb c j || SB (BC c) w h rd (j % 8) (j / 8)) with
        | false => 
          have h1' : (cb c j || SB (fun x y => cb c (8 * y + x)) w h rd (j % 8) (j / 8)) = false := h1
          rw [h1']
          rfl
        | true =>
          have h1' : (cb c j || SB (fun x y => cb c (8 * y + x)) w h rd (j % 8) (j / 8)) = true := h1
          rw [h1', Bool.true_and, Bool.true_and]
          cases h2 : cb rest j with
          | true => exact hr j h2
          | false =>
            cases h3 : cb op j with
            | false => rfl
            | true =>
              exfalso
              rw [Bool.or_eq_true] at h1
              rcases h1 with h1 | h1
              · rw [hc j h1] at h2
                exact nomatch h2
              · obtain ⟨x', y', z1, z2⟩ := SB_ex.mp h1
                have : BC rest (j % 8) (j / 8) = true := hcl _ _ q.1 q.2 (by unfold BC; rw [ej]; exact h3) (SB_ex.mpr ⟨x', y', hc _ z1, z2⟩)
                unfold BC at this
                rw [ej, h2] at this
                exact nomatch this
      · have z : ∀ c, InC w h c → cb c j = false := fun c hc' => by
          cases hh : cb c j with
          | false => rfl
          | true => exact absurd (hc' j hh) q
        rw [z _ i1, z _ i2]
    rw [lp_X3_lawn_8.eq_2, lp_X3_lawn_8.eq_2, key, lw_eq hW hG ho hr hcl nf (f_X3_withBeside g c rest) (i + 1) (fun j hj => wB_sub hj)]
theorem CL_next {g : GrS} {w h : Nat} {rd : Bool} (hW : WH w h) (hG : GOK g w h rd) {op rest L : Int64} (hro : InC w h rest) (hL : ∀ i, cb L i = true → cb rest i = true) (hfix : f_X3_withBeside g L rest = L) (hcl : CL w h rd op rest) : CL w h rd op (rest &&& (L ^^^ (-1))) := by
  obtain ⟨i1, b1⟩ := wB_ok hW hG (fun j hj => hro j (hL j hj)) hro
  rw [hfix] at b1
  have bt' : ∀ x y, x < w → y < h → BC (rest &&& (L ^^^ (-1))) x y = (BC rest x y && !BC L x y) := fun x y hx hy => by
    unfold BC
    rw [cb_and, cb_not (xy_64 hW hx hy).1]
  intro x y hx hy h1 h2
  obtain ⟨x', y', z1, z2⟩ := SB_ex.mp h2
  obtain ⟨k1, k2⟩ := SB_lt (f := BC rest) hW hx hy z2
  rw [bt' x' y' k1 k2, Bool.and_eq_true] at z1
  have hrest := hcl x y hx hy h1 (SB_ex.mpr ⟨x', y', z1.1, z2⟩)
  rw [bt' x y hx hy, hrest, Bool.true_and]
  cases hh : BC L x y with
  | false => rfl
  | true =>
    exfalso
    have e := b1 x' y' k1 k2
    have hsb : SB (BC L) w h rd x' y' = true := SB_ex.mpr ⟨x, y, hh, (adj_sym hx hy k1 k2).mp z2⟩
    rw [hsb, Bool.or_true, z1.1] at e
    rw [e] at z1
    exact absurd z1.2 (by decide)
/-- the lowest cell is the same on both sides -/
theorem low_ok {w h : Nat} (hW : WH w h) {rest left : Int64} (a : RelB w h rest left) (hz : ¬ rest = 0) : ∃ x y, x < w ∧ y < h ∧ rest &&& (-rest) = ob (8 * y + x) ∧ f_J13_numberOfTrailingZeros_95d88 left = nI (w * y + x) ∧ cb rest (8 * y + x) = true := by
  obtain ⟨t, ht, hl⟩ := lowB_ex hz
  obtain ⟨k1, k2⟩ := a.2.1 t hl.1
  have et : 8 * (t / 8) + t % 8 = t := by omega
  have hw : 0 < w := by have := hW.1; omega
  refine ⟨t % 8, t / 8, k1, k2, by rw [et]; exact low_and ht hl, ?_, by rw [et]; exact hl.1⟩
  refine ntz_low (xy_64 hW k1 k2).2 ⟨?_, fun j hj => ?_⟩
  · have := a.1 _ _ k1 k2
    unfold BC BM at this
    rw [et] at this
    rw [← this]
    exact hl.1
  · have hjw : j < w * h := by have := lt_wh k1 k2; omega
    obtain ⟨j1, j2, j3⟩ := k_xy hjw hw
    have e := a.1 _ _ j1 j2
    unfold BC BM at e
    rw [j3] at e
    rw [← e]
    refine hl.2 _ ?_
    rw [← j3] at hj
    rcases Nat.lt_trichotomy (j / w) (t / 8) with q | q | q
    · have := hW.2.1; omega
    · rw [q] at hj ⊢; omega
    · exfalso
      have : w * (t / 8 + 1) ≤ w * (j / w) := Nat.mul_le_mul_left w q
      rw [Nat.mul_add, Nat.mul_one] at this
      omega
theorem RelB_le {w h : Nat} (hW : WH w h) {c m c' m' : Int64} (a : RelB w h c m) (b : RelB w h c' m') (hs : ∀ i, cb c i = true → cb c' i = true) : ∀ k, cb m k = true → cb m' k = true := by
  intro k hk
  have hw : 0 < w := by have := hW.1; omega
  obtain ⟨k1, k2, k3⟩ := k_xy (a.2.2 k hk) hw
  have e1 := a.1 _ _ k1 k2
  have e2 := b.1 _ _ k1 k2
  unfold BC BM at e1 e2
  rw [k3] at e1 e2
  rw [← e2]
  exact hs _ (e1.trans hk)
theorem lawns_l {g : GrS} {m : MoS} {w h : Nat} {rd : Bool} (hW : WH w h) (hG : GOK g w h rd) (hM : MOK m w h rd) {fR fB : Nat → Int64} (hT : TOK w h rd fR fB) {d : GaS} {s : StS} (R : RelB w h d.1 s.2.2.2) {b n : Int64} (hb : RelB w h b (n &&& (s.2.2.2 ^^^ (-1)))) : ∀ (nf nf' i : Nat) (rest left : Int64) (many most still : Int32), RelB w h rest left → (∀ j, cb rest j = true → cb (f_X3_open g d.1) j = true) → CL w h rd (f_X3_open g d.1) rest → pc rest + i ≤ 64 → 64 - i < nf → 64 - i < nf' → ∃ v, lp_X7_lawns_25 m fB n nf' left many most still = some v ∧ lp_X2_lawnsWithout_11 d g 0 nf many rest (nI i) = some v.1 ∧ lp_X2_greatestLawn_10 d g nf most rest (nI i) = some v.2.1 ∧ lp_X2_lawnsWithout_11 d g b nf still rest (nI i) = some v.2.2
  | 0, _, _, _, _, _, _, _, _, _, _, _, h, _ => absurd h (Nat.not_lt_zero _)
  | _ + 1, 0, _, _, _, _, _, _, _, _, _, _, _, h => absurd h (Nat.not_lt_zero _)
  | nf + 1, nf' + 1, i, rest, left, many, most, still, a, hsub, hcl, hp, hf, hf' => by
    rw [lp_X7_lawns_25.eq_2, lp_X2_lawnsWithout_11.eq_2, lp_X2_lawnsWithout_11.eq_2, lp_X2_greatestLawn_10.eq_2]
    have hz := RelB_z hW a
    by_cases z : rest = 0
    · rw [if_pos (hz.mp z), if_pos z, if_pos z, if_pos z, ite_self, ite_self, ite_self]
      exact ⟨_, rfl, rfl, rfl, rfl⟩
    · have hpp := pc_pos.mpr z
      have hi : ¬ (64 : Int32) ≤ nI i := fun q => by
        have := (nI_leI (a := 64) (by decide) (by omega)).mp q
        omega
      rw [if_neg (fun q => z (hz.mpr q)), if_neg hi, if_neg hi, if_neg hi, if_neg z, if_neg z, if_neg z]
      obtain ⟨x, y, hx, hy, e1, e2, e3⟩ := low_ok hW a z
      have hopen : f_X2_open d g = f_X3_open g d.1 := rfl
      have oC := (open_ok hW hG hM (s := s) R)
      obtain ⟨rc, rm, u1, u2, u3, u4, u5, u6⟩ := lawn_ok hW hG hM hT a (RelB_ob hW hx hy)
      have hini : ob (8 * y + x) &&& f_X3_open g d.1 = ob (8 * y + x) &&& rest := by
        refine cb_ext (fun j hj => ?_)
        rw [cb_and, cb_and, cb_ob (xy_64 hW hx hy).1 hj]
        by_cases q : j = 8 * y + x
        · rw [q, e3, hsub _ e3]
        · rw [decide_eq_false q]; rfl
      have u1' : f_X3_lawn g (ob (8 * y + x)) (f_X3_open g d.1) = some rc := by
        unfold f_X3_lawn at u1 ⊢
        rw [hini, lw_eq hW hG oC.2.1 hsub hcl 100 _ 0 (fun j hj => by
          rw [cb_and, Bool.and_eq_true] at hj
          exact hj.2)]
        exact u1
      have hin : cb rc (8 * y + x) = true := u6 _ (by rw [cb_ob (xy_64 hW hx hy).1 (xy_64 hW hx hy).1, decide_eq_true rfl]) e3
      have a2 := RelB_andn hW a u3
      have hp2 : pc (rest &&& (rc ^^^ (-1))) + 1 ≤ pc rest := cntN_lt (fun j _ hj => by
        rw [cb_and, Bool.and_eq_true] at hj
        exact hj.1) ⟨_, (xy_64 hW hx hy).1, by rw [cb_and, cb_not (xy_64 hW hx hy).1, hin]; simp, e3⟩
      rw [e1, e2, hopen, u1', u2]
      simp only [Option.bind_some, bindv, nI_1]
      have z0 : (rc &&& 0) = 0 := cb_ext (fun j _ => by rw [cb_and, cb_0, Bool.and_false])
      rw [if_pos z0, RelB_bc hW u3]
      have hst : (rm &&& n) = 0 ↔ (rc &&& b) = 0 := by
        rw [RelB_z hW (RelB_and u3 hb)]
        have hle := RelB_le hW u3 oC (fun j hj => hsub j (u4 j hj))
        have : rm &&& (n &&& (s.2.2.2 ^^^ (-1))) = rm &&& n := cb_ext (fun j hj => by
          rw [cb_and, cb_and, cb_and, cb_not hj]
          cases q : cb rm j with
          | false => rfl
          | true =>
            have := hle j q
            rw [openM_b hW hM s hj, Bool.and_eq_true] at this
            rw [this.2, Bool.and_true])
        rw [this]
      have est : still + (if (rm &&& n) = 0 then (1 : Int32) else 0) = (if (rc &&& b) = 0 then still + 1 else still) := by
        by_cases q : (rc &&& b) = 0
        · rw [if_pos q, if_pos (hst.mpr q)]
        · rw [if_neg q, if_neg (fun q' => q (hst.mp q')), Int32.add_zero]
      rw [est]
      exact lawns_l hW hG hM hT R hb nf nf' (i + 1) _ _ _ _ _ a2 (fun j hj => by
        rw [cb_and, Bool.and_eq_true] at hj
        exact hsub j hj.1) (CL_next hW hG a.2.1 u4 u5 hcl) (by omega) (by omega) (by omega)
theorem lawns_ok {g : GrS} {m : MoS} {r : RuS} {w h : Nat} {rd : Bool} (hW : WH w h) (hG : GOK g w h rd) (hM : MOK m w h rd) (hr : m.2.2.2.2.1 = r.1 ∧ m.2.2.2.2.2 = r.2) {fR fB : Nat → Int64} (hT : TOK w h rd fR fB) {d : GaS} {s : StS} (R : RelB w h d.1 s.2.2.2) : ∃ v : Int32 × Int32 × Int32, f_X2_lawns d g = some v.1 ∧ f_X2_greatestLawn d g = some v.2.1 ∧ f_X2_stillLawns d g r = some v.2.2 ∧ ∀ wh, f_X7_lawns m fR fB s wh = some (if wh = 0 then v.1 else if wh = 1 then v.2.1 else v.2.2) := by
  obtain ⟨b, st, n, h1, h2, h3, h4, h5, -⟩ := year_ok hW hG hM hr hT R
  have o := open_ok hW hG hM (s := s) R
  obtain ⟨v, v1, v2, v3, v4⟩ := lawns_l hW hG hM hT R h5 100 100 0 _ _ 0 0 0 o (fun _ h => h) (fun x y _ _ hx _ => hx) (by have := pc_le (f_X3_open g d.1); omega) (by decide) (by decide)
  have h0 : nI 0 = 0 := rfl
  have ho : f_X2_open d g = f_X3_open g d.1 := rfl
  rw [h0] at v2 v3 v4
  refine ⟨v, ?_, ?_, ?_, fun wh => ?_⟩
  · unfold f_X2_lawns f_X2_lawnsWithout
    rw [ho, v2]; rfl
  · unfold f_X2_greatestLawn
    rw [ho, v3]; rfl
  · unfold f_X2_stillLawns f_X2_lawnsWithout
    rw [h1, Option.bind_some, ho, v4]; rfl
  · unfold f_X7_lawns
    rw [h3, Option.bind_some, v1, Option.bind_some]
    by_cases q : wh = 0
    · rw [if_pos q, if_pos q]
    · rw [if_neg q, if_neg q]
      by_cases q1 : wh = 1
      · rw [if_pos q1, if_pos q1]
      · rw [if_neg q1, if_neg q1]
