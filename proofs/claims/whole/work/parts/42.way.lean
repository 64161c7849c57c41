/-! ===== ways ===== -/
theorem way_in (m : MoS) (fB : Nat → Int64) (s : StS) (l : Int64) : ∀ (nf : Nat) (made : Int64) (i : Int32), lp_X7_way_108 m fB s l nf made i = lp_X7_lawn_25 m fB (s.2.2.2 ^^^ (-1)) l nf made i
  | 0, _, _ => rfl
  | nf + 1, made, i => by
    rw [lp_X7_way_108.eq_2, lp_X7_lawn_25.eq_2]
    have ih : (fun v30 => lp_X7_way_108 m fB s l nf v30 (i + 1)) = (fun v27 => lp_X7_lawn_25 m fB (s.2.2.2 ^^^ (-1)) l nf v27 (i + 1)) := funext (fun v => way_in m fB s l nf v (i + 1))
    rw [ih]
theorem steps_st {g : GrS} {to op c : Int64} (hfix : f_X3_withBeside g c op = c) (h0 : (c &&& to) = 0) : ∀ (nf i : Nat), i ≤ 64 → 64 - i < nf → lp_X3_steps_9 g to op nf c (nI i) = some (-1)
  | 0, _, _, h => absurd h (Nat.not_lt_zero _)
  | nf + 1, i, hi, h => by
    rw [lp_X3_steps_9.eq_2]
    by_cases q : 64 ≤ i
    · rw [if_pos (show (64 : Int32) ≤ nI i from (nI_leI (a := 64) (by decide) (by omega)).mpr q)]
    · rw [if_neg (show ¬ (64 : Int32) ≤ nI i from fun z => q ((nI_leI (a := 64) (by decide) (by omega)).mp z)), if_pos h0, hfix, nI_1]
      exact steps_st hfix h0 nf (i + 1) (by omega) (by omega)
theorem way_l {g : GrS} {m : MoS} {w h : Nat} {rd : Bool} (hW : WH w h) (hG : GOK g w h rd) (hM : MOK m w h rd) {fR fB : Nat → Int64} (hT : TOK w h rd fR fB) {s : StS} {op opm : Int64} (o : RelB w h op opm) (hmask : ∀ x y, x < w → y < h → BM w (s.2.2.2 ^^^ (-1)) x y = BM w opm x y) {to : Int64} {tx ty : Int32} (hto : RelB w h to (jshl 1 ((m.2.1 * ty) + tx))) : ∀ (nf nf' i : Nat) (c hs last : Int64), RelB w h c hs → (∀ i, cb c i = true → cb op i = true) → i + 1 ≤ pc c → ¬ hs = last → 64 - i < nf → 65 - i < nf' → ∃ r, lp_X3_steps_9 g to op nf c (nI i) = some r ∧ lp_X7_way_81 m fB s tx ty nf' hs (nI i) last = some (r, (0, m.2.1, m.2.2.1, m.2.2.2.1, m.2.2.2.2.1, m.2.2.2.2.2))
  | 0, _, _, _, _, _, _, _, _, _, h, _ => absurd h (Nat.not_lt_zero _)
  | _ + 1, 0, _, _, _, _, _, _, _, _, _, h => absurd h (Nat.not_lt_zero _)
  | nf + 1, nf' + 1, i, c, hs, last, a, hsub, hp, hl, hf, hf' => by
    have hp64 := pc_le c
    have hz := RelB_z hW (RelB_and a hto)
    rw [lp_X3_steps_9.eq_2, lp_X7_way_81.eq_2, if_neg (show ¬ (64 : Int32) ≤ nI i from fun z => by
      have := (nI_leI (a := 64) (by decide) (by omega)).mp z
      omega)]
    by_cases q : (c &&& to) = 0
    · rw [if_pos q, if_pos (hz.mp q), if_neg hl]
      obtain ⟨n, s1, s2⟩ := step_ok hW hG hM hT a o hsub hmask
      rw [way_in, s1, Option.bind_some, nI_1]
      have hiff : f_X3_withBeside g c op = c ↔ n = hs := RelB_inj hW s2 a
      by_cases e : f_X3_withBeside g c op = c
      · obtain ⟨nf'', rfl⟩ : ∃ z, nf' = z + 1 := ⟨nf' - 1, by omega⟩
        rw [e, steps_st e q nf (i + 1) (by omega) (by omega), lp_X7_way_81.eq_2, hiff.mp e, if_pos (hz.mp q), if_pos rfl]
        exact ⟨_, rfl, rfl⟩
      · have hg := wB_pc hsub e
        exact way_l hW hG hM hT o hmask hto nf nf' (i + 1) _ n hs s2 (fun i h => wB_sub h) (by omega) (fun z => e (hiff.mpr z)) (by omega) (by omega)
    · rw [if_neg q, if_neg (fun z => q (hz.mpr z))]
      exact ⟨_, rfl, rfl⟩
theorem cellM {m : MoS} {w h : Nat} {rd : Bool} (hM : MOK m w h rd) (x y : Nat) : (m.2.1 * nI y) + nI x = nI (w * y + x) := by rw [hM.1, pk_mul, nI_add]
/-- cells that there are -/
theorem hasC {g : GrS} {w h : Nat} {rd : Bool} (hW : WH w h) (hG : GOK g w h rd) (cx cy : Int32) : (f_X3_has g cx cy = 0 ∨ f_X3_has g cx cy = 1) ∧ (¬ f_X3_has g cx cy = 0 ↔ ∃ x y, x < w ∧ y < h ∧ cx = nI x ∧ cy = nI y) := by
  obtain ⟨w3, w8, h3, h8⟩ := hW
  unfold f_X3_has
  rw [hG.1, hG.2.1]
  by_cases c1 : cx < 0
  · rw [if_pos c1]
    refine ⟨Or.inl rfl, fun z => absurd rfl z, ?_⟩
    rintro ⟨x, y, hx, hy, rfl, rfl⟩
    exact absurd c1 (nI_pos (by omega))
  · rw [if_neg c1]
    obtain ⟨x, hx31, rfl⟩ := nI_of c1
    by_cases c2 : nI w ≤ nI x
    · rw [if_pos c2]
      refine ⟨Or.inl rfl, fun z => absurd rfl z, ?_⟩
      rintro ⟨x', y, hx, hy, e, rfl⟩
      have := (nI_leI (by omega) hx31).mp c2
      have := (nI_eq hx31 (by omega)).mp e
      omega
    · rw [if_neg c2]
      have hx : x < w := by
        rcases Nat.lt_or_ge x w with q | q
        · exact q
        · exact absurd ((nI_leI (by omega) hx31).mpr q) c2
      by_cases c3 : cy < 0
      · rw [if_pos c3]
        refine ⟨Or.inl rfl, fun z => absurd rfl z, ?_⟩
        rintro ⟨x', y, hx, hy, e, rfl⟩
        exact absurd c3 (nI_pos (by omega))
      · rw [if_neg c3]
        obtain ⟨y, hy31, rfl⟩ := nI_of c3
        by_cases c4 : nI h ≤ nI y
        · rw [if_pos c4]
          refine ⟨Or.inl rfl, fun z => absurd rfl z, ?_⟩
          rintro ⟨x', y', hx', hy', e, e2⟩
          have := (nI_leI (by omega) hy31).mp c4
          have := (nI_eq hy31 (by omega)).mp e2
          omega
        · rw [if_neg c4]
          have hy : y < h := by
            rcases Nat.lt_or_ge y h with q | q
            · exact q
            · exact absurd ((nI_leI (by omega) hy31).mpr q) c4
          exact ⟨Or.inr rfl, fun _ => ⟨x, y, hx, hy, rfl, rfl⟩, fun _ => by decide⟩
theorem isIn_ok (v lo hi : Int32) : (f_X7_isIn v lo hi = 0 ∨ f_X7_isIn v lo hi = 1) ∧ (¬ f_X7_isIn v lo hi = 0 ↔ (¬ v < lo ∧ ¬ hi < v)) := by
  unfold f_X7_isIn
  by_cases c1 : v < lo
  · rw [if_pos c1]; exact ⟨Or.inl rfl, fun z => absurd rfl z, fun z => absurd c1 z.1⟩
  · rw [if_neg c1]
    by_cases c2 : hi < v
    · rw [if_pos c2]; exact ⟨Or.inl rfl, fun z => absurd rfl z, fun z => absurd c2 z.2⟩
    · rw [if_neg c2]; exact ⟨Or.inr rfl, fun _ => ⟨c1, c2⟩, fun _ => by decide⟩
theorem in_side {w : Nat} (hw3 : 3 ≤ w) (hw8 : w ≤ 8) (v : Int32) : ¬ f_X7_isIn v 0 (nI w - 1) = 0 ↔ ∃ x, x < w ∧ v = nI x := by
  have e1 : nI w - 1 = nI (w - 1) := pk_sub (a := w) (b := 1) (by omega)
  rw [(isIn_ok _ _ _).2, e1]
  constructor
  · rintro ⟨h1, h2⟩
    obtain ⟨x, hx31, rfl⟩ := nI_of h1
    refine ⟨x, ?_, rfl⟩
    rcases Nat.lt_or_ge x w with q | q
    · exact q
    · exact absurd ((nI_ltI (by omega) hx31).mpr (by omega)) h2
  · rintro ⟨x, hx, rfl⟩
    exact ⟨nI_pos (by omega), fun z => by
      have := (nI_ltI (by omega) (by omega)).mp z
      omega⟩
theorem isCell_ok {m : MoS} {w h : Nat} {rd : Bool} (hW : WH w h) (hM : MOK m w h rd) (cx cy : Int32) : (f_X7_isCell m cx cy = 0 ∨ f_X7_isCell m cx cy = 1) ∧ (¬ f_X7_isCell m cx cy = 0 ↔ ∃ x y, x < w ∧ y < h ∧ cx = nI x ∧ cy = nI y) := by
  obtain ⟨w3, w8, h3, h8⟩ := hW
  unfold f_X7_isCell
  rw [hM.1, hM.2.1]
  by_cases c1 : f_X7_isIn cx 0 (nI w - 1) = 0
  · rw [if_pos c1]
    refine ⟨Or.inl rfl, fun z => absurd rfl z, ?_⟩
    rintro ⟨x, y, hx, hy, e1, e2⟩
    exact absurd c1 ((in_side w3 w8 cx).mpr ⟨x, hx, e1⟩)
  · rw [if_neg c1]
    obtain ⟨x, hx, ex⟩ := (in_side w3 w8 cx).mp c1
    by_cases c2 : f_X7_isIn cy 0 (nI h - 1) = 0
    · rw [if_pos c2]
      refine ⟨Or.inl rfl, fun z => absurd rfl z, ?_⟩
      rintro ⟨x, y, hx, hy, e1, e2⟩
      exact absurd c2 ((in_side h3 h8 cy).mpr ⟨y, hy, e2⟩)
    · rw [if_neg c2]
      obtain ⟨y, hy, ey⟩ := (in_side h3 h8 cy).mp c2
      exact ⟨Or.inr rfl, fun _ => ⟨x, y, hx, hy, ex, ey⟩, fun _ => by decide⟩
theorem cells_eq {g : GrS} {m : MoS} {w h : Nat} {rd : Bool} (hW : WH w h) (hG : GOK g w h rd) (hM : MOK m w h rd) (cx cy : Int32) : (f_X3_has g cx cy = 0 ∧ f_X7_isCell m cx cy = 0) ∨ (¬ f_X3_has g cx cy = 0 ∧ ¬ f_X7_isCell m cx cy = 0 ∧ ∃ x y, x < w ∧ y < h ∧ cx = nI x ∧ cy = nI y) := by
  have h1 := (hasC hW hG cx cy).2
  have h2 := (isCell_ok hW hM cx cy).2
  by_cases c : f_X3_has g cx cy = 0
  · left
    refine ⟨c, ?_⟩
    apply Classical.byContradiction
    intro q
    exact absurd c (h1.mpr (h2.mp q))
  · right
    exact ⟨c, h2.mpr (h1.mp c), h1.mp c⟩
theorem way_ok {g : GrS} {m : MoS} {w h : Nat} {rd : Bool} (hW : WH w h) (hG : GOK g w h rd) (hM : MOK m w h rd) {fR fB : Nat → Int64} (hT : TOK w h rd fR fB) {d : GaS} {s : StS} (R : RelB w h d.1 s.2.2.2) {x y x' y' : Nat} (hx : x < w) (hy : y < h) (hx' : x' < w) (hy' : y' < h) : ∃ r, f_X3_steps g (f_X3_cell (nI x) (nI y)) (f_X3_cell (nI x') (nI y')) (f_X2_open d g) = some r ∧ (if (s.2.2.2 &&& ((jshl 1 ((m.2.1 * nI y) + nI x)) ||| (jshl 1 ((m.2.1 * nI y') + nI x')))) = 0 then (lp_X7_way_81 m fB s (nI x') (nI y') 100 (jshl 1 ((m.2.1 * nI y) + nI x)) 0 0) else (some ((-1), (0, m.2.1, m.2.2.1, m.2.2.2.1, m.2.2.2.2.1, m.2.2.2.2.2)))) = some (r, (0, m.2.1, m.2.2.1, m.2.2.2.1, m.2.2.2.2.1, m.2.2.2.2.2)) := by
  have o := open_ok hW hG hM (s := s) R
  have ho : f_X2_open d g = f_X3_open g d.1 := rfl
  have a1 := RelB_ob hW hx hy
  have a2 := RelB_ob hW hx' hy'
  have e1 : jshl 1 ((m.2.1 * nI y) + nI x) = ob (w * y + x) := by rw [cellM hM]; rfl
  have e2 : jshl 1 ((m.2.1 * nI y') + nI x') = ob (w * y' + x') := by rw [cellM hM]; rfl
  obtain ⟨q1, q2⟩ := xy_64 hW hx hy
  obtain ⟨q3, q4⟩ := xy_64 hW hx' hy'
  have w8 := hW.2.1
  rw [ho, l_cell, l_cell, e1, e2]
  unfold f_X3_steps
  have hcb : ∀ k, k < 64 → ((s.2.2.2 &&& ob k) = 0 ↔ cb s.2.2.2 k = false) := fun k hk => and_ob hk
  have hor : (s.2.2.2 &&& (ob (w * y + x) ||| ob (w * y' + x'))) = 0 ↔ (cb s.2.2.2 (w * y + x) = false ∧ cb s.2.2.2 (w * y' + x') = false) := by
    rw [← hcb _ q2, ← hcb _ q4, cb_z, cb_z, cb_z]
    constructor
    · intro z
      refine ⟨fun i hi => ?_, fun i hi => ?_⟩
      · have := z i hi
        rw [cb_and, cb_or] at this
        rw [cb_and]
        revert this
        cases cb s.2.2.2 i <;> cases cb (ob (w * y + x)) i <;> simp
      · have := z i hi
        rw [cb_and, cb_or] at this
        rw [cb_and]
        revert this
        cases cb s.2.2.2 i <;> cases cb (ob (w * y' + x')) i <;> simp
    · rintro ⟨z1, z2⟩ i hi
      have h1 := z1 i hi
      have h2 := z2 i hi
      rw [cb_and] at h1 h2
      rw [cb_and, cb_or]
      revert h1 h2
      cases cb s.2.2.2 i <;> cases cb (ob (w * y + x)) i <;> cases cb (ob (w * y' + x')) i <;> simp
  have opb : ∀ x y, x < w → y < h → cb (f_X3_open g d.1) (8 * y + x) = !cb s.2.2.2 (w * y + x) := fun x y hx hy => by
    have := R.1 x y hx hy
    unfold BC BM at this
    rw [openC_b hG _ (xy_64 hW hx hy).1, this, decide_eq_true (show (8 * y + x) % 8 < w ∧ (8 * y + x) / 8 < h by omega), Bool.true_and]
  by_cases c : (s.2.2.2 &&& (ob (w * y + x) ||| ob (w * y' + x'))) = 0
  · rw [if_pos c]
    obtain ⟨c1, c2⟩ := hor.mp c
    have hst : ob (8 * y + x) &&& f_X3_open g d.1 = ob (8 * y + x) := cb_ext (fun i hi => by
      rw [cb_and, cb_ob q1 hi]
      by_cases q : i = 8 * y + x
      · rw [q, opb x y hx hy, c1]; simp
      · rw [decide_eq_false q]; rfl)
    rw [hst]
    have hpc : 0 < pc (ob (8 * y + x)) := pc_pos.mpr (cb_nz.mpr ⟨_, q1, by rw [cb_ob q1 q1, decide_eq_true rfl]⟩)
    have hnz : ¬ ob (w * y + x) = 0 := cb_nz.mpr ⟨_, q2, by rw [cb_ob q2 q2, decide_eq_true rfl]⟩
    obtain ⟨r, r1, r2⟩ := way_l hW hG hM hT (s := s) o (fun x y hx hy => by
      unfold BM
      rw [cb_not (xy_64 hW hx hy).2, openM_b hW hM s (xy_64 hW hx hy).2, decide_eq_true (lt_wh hx hy), Bool.true_and]) (tx := nI x') (ty := nI y') (by rw [e2]; exact a2) 100 100 0 _ _ 0 a1 (fun i hi => by
      have hl := cb_lt hi
      rw [cb_ob q1 hl, decide_eq_true_eq] at hi
      rw [hi, opb x y hx hy, c1]; rfl) (by omega) hnz (by decide) (by decide)
    exact ⟨r, r1, r2⟩
  · rw [if_neg c]
    have hfix : ∀ c0 : Int64, (c0 = ob (8 * y + x) &&& f_X3_open g d.1) → lp_X3_steps_9 g (ob (8 * y' + x')) (f_X3_open g d.1) 100 c0 (nI 0) = some (-1) := by
      intro c0 hc0
      by_cases c1 : cb s.2.2.2 (w * y + x) = false
      · have c2 : ¬ cb s.2.2.2 (w * y' + x') = false := fun z => c (hor.mpr ⟨c1, z⟩)
        have c2' : cb s.2.2.2 (w * y' + x') = true := by simpa using c2
        have hno : ∀ cc : Int64, (∀ i, cb cc i = true → cb (f_X3_open g d.1) i = true) → (cc &&& ob (8 * y' + x')) = 0 := fun cc hcc => by
          rw [and_ob q3]
          cases z : cb cc (8 * y' + x') with
          | false => rfl
          | true =>
            have := hcc _ z
            rw [opb x' y' hx' hy', c2'] at this
            exact absurd this (by decide)
        have run : ∀ (nf i : Nat) (cc : Int64), (∀ i, cb cc i = true → cb (f_X3_open g d.1) i = true) → i ≤ 64 → 64 - i < nf → lp_X3_steps_9 g (ob (8 * y' + x')) (f_X3_open g d.1) nf cc (nI i) = some (-1) := by
          intro nf
          induction nf with
          | zero => intro i cc _ _ h; exact absurd h (Nat.not_lt_zero _)
          | succ nf ih =>
            intro i cc hcc hi hf
            rw [lp_X3_steps_9.eq_2]
            by_cases q : 64 ≤ i
            · rw [if_pos (show (64 : Int32) ≤ nI i from (nI_leI (a := 64) (by decide) (by omega)).mpr q)]
            · rw [if_neg (show ¬ (64 : Int32) ≤ nI i from fun z => q ((nI_leI (a := 64) (by decide) (by omega)).mp z)), if_pos (hno cc hcc), nI_1]
              exact ih (i + 1) _ (fun j hj => wB_sub hj) (by omega) (by omega)
        refine run 100 0 c0 (fun i hi => ?_) (by decide) (by decide)
        rw [hc0, cb_and, Bool.and_eq_true] at hi
        exact hi.2
      · have c1' : cb s.2.2.2 (w * y + x) = true := by simpa using c1
        have hz : c0 = 0 := by
          rw [hc0]
          refine cb_ext (fun i hi => ?_)
          rw [cb_and, cb_ob q1 hi, cb_0]
          by_cases q : i = 8 * y + x
          · rw [q, opb x y hx hy, c1']; simp
          · rw [decide_eq_false q]; rfl
        rw [hz]
        exact steps_st (wB_0 hW hG o) (cb_ext (fun i _ => by rw [cb_and, cb_0]; rfl)) 100 0 (by decide) (by decide)
    exact ⟨-1, hfix _ rfl, rfl⟩
/-! ===== what is gone through cell by cell ===== -/
def foldN {α : Type} (F : α → Nat → α) (s : α) : Nat → α
  | 0 => s
  | n + 1 => F (foldN F s n) n
theorem foldN_add {α : Type} (F : α → Nat → α) (s : α) (m : Nat) : ∀ n, foldN F s (m + n) = foldN (fun a i => F a (m + i)) (foldN F s m) n
  | 0 => rfl
  | n + 1 => by
    show F (foldN F s (m + n)) (m + n) = F (foldN (fun a i => F a (m + i)) (foldN F s m) n) (m + n)
    rw [foldN_add F s m n]
theorem foldN_cong {α : Type} {F G : α → Nat → α} {s : α} : ∀ {n : Nat}, (∀ a i, i < n → F a i = G a i) → foldN F s n = foldN G s n
  | 0, _ => rfl
  | n + 1, h => by
    show F (foldN F s n) n = G (foldN G s n) n
    rw [foldN_cong (fun a i hi => h a i (Nat.lt_succ_of_lt hi)), h _ n (Nat.lt_succ_self n)]
theorem foldN_id {α : Type} {F : α → Nat → α} {s : α} : ∀ {n : Nat}, (∀ a i, i < n → F a i = a) → foldN F s n = s
  | 0, _ => rfl
  | n + 1, h => by
    show F (foldN F s n) n = s
    rw [h _ n (Nat.lt_succ_self n), foldN_id (fun a i hi => h a i (Nat.lt_succ_of_lt hi))]
theorem fold_rows {α : Type} {w h : Nat} (hW : WH w h) {F G : α → Nat → α} (h1 : ∀ a x y, x < w → y < h → F a (8 * y + x) = G a (w * y + x)) (h2 : ∀ a x y, w ≤ x → x < 8 → y < h → F a (8 * y + x) = a) (s : α) : ∀ y, y ≤ h → foldN F s (8 * y) = foldN G s (w * y)
  | 0, _ => rfl
  | y + 1, hy => by
    have w8 := hW.2.1
    rw [show 8 * (y + 1) = 8 * y + (w + (8 - w)) by omega, show w * (y + 1) = w * y + w by rw [Nat.mul_add, Nat.mul_one], foldN_add, foldN_add G, fold_rows hW h1 h2 s y (by omega), foldN_add]
    rw [foldN_id (n := 8 - w) (fun a i hi => h2 a (w + i) y (by omega) (by omega) (by omega))]
    exact foldN_cong (fun a i hi => h1 a i y hi (by omega))
theorem fold_all {α : Type} {w h : Nat} (hW : WH w h) {F G : α → Nat → α} (h1 : ∀ a x y, x < w → y < h → F a (8 * y + x) = G a (w * y + x)) (h2 : ∀ a i, i < 64 → ¬ (i % 8 < w ∧ i / 8 < h) → F a i = a) (s : α) : foldN F s 64 = foldN G s (w * h) := by
  have h8 := hW.2.2.2
  rw [show (64 : Nat) = 8 * h + (64 - 8 * h) by omega, foldN_add, foldN_id (n := 64 - 8 * h) (fun a i hi => h2 a (8 * h + i) (by omega) (by omega))]
  exact fold_rows hW h1 (fun a x y hx1 hx2 hy => h2 a (8 * y + x) (by omega) (by omega)) s h (Nat.le_refl h)
def oF (c : Int64) (a : Nat → Int32) (b : Int32) (i : Nat) : Int32 := if cb c i = true then (if a i ≤ b then b else a i) else b
def sF (c : Int64) (a : Nat → Int32) (b : Int32) (i : Nat) : Int32 := if cb c i = true then b + a i else b
theorem oldC_l (d : GaS) (a : Nat → Int32) : ∀ (nf k : Nat) (b : Int32), k ≤ 64 → 64 - k < nf → lp_X2_oldest_4 d a nf b (nI k) = some (foldN (fun b i => oF d.1 a b (k + i)) b (64 - k))
  | 0, _, _, _, hh => absurd hh (Nat.not_lt_zero _)
  | nf + 1, k, b, hk, hh => by
    rw [lp_X2_oldest_4.eq_2]
    by_cases q : 64 ≤ k
    · rw [if_pos (show (64 : Int32) ≤ nI k from (nI_leI (a := 64) (by decide) (by omega)).mpr q), show 64 - k = 0 by omega]
      rfl
    · rw [if_neg (show ¬ (64 : Int32) ≤ nI k from fun z => q ((nI_leI (a := 64) (by decide) (by omega)).mp z)), if_neg (l_out (by omega) (by decide)), if_neg (l_out (by omega) (by decide)), l_toN (by omega), nI_1]
      have e : (if ((jushr d.1 (nI k)) &&& 1) = 0 then (some b) else (if (a k) ≤ b then (some b) else (some (a k))) : Option Int32) = some (oF d.1 a b k) := by
        unfold oF
        by_cases c : cb d.1 k = true
        · rw [if_neg (fun z => by rw [(tu_0 (by omega)).mp z] at c; exact nomatch c), if_pos c]
          by_cases c2 : a k ≤ b
          · rw [if_pos c2, if_pos c2]
          · rw [if_neg c2, if_neg c2]
        · rw [if_pos ((tu_0 (by omega)).mpr (by simpa using c)), if_neg c]
      rw [e, Option.bind_some, oldC_l d a nf (k + 1) _ (by omega) (by omega), show 64 - k = 1 + (64 - (k + 1)) by omega, foldN_add]
      congr 1
      exact foldN_cong (fun b i _ => by rw [show k + 1 + i = k + (1 + i) by omega])
theorem sumC_l (d : GaS) (a : Nat → Int32) : ∀ (nf k : Nat) (b : Int32), k ≤ 64 → 64 - k < nf → lp_X2_ageOfAll_4 d a nf b (nI k) = some (foldN (fun b i => sF d.1 a b (k + i)) b (64 - k))
  | 0, _, _, _, hh => absurd hh (Nat.not_lt_zero _)
  | nf + 1, k, b, hk, hh => by
    rw [lp_X2_ageOfAll_4.eq_2]
    by_cases q : 64 ≤ k
    · rw [if_pos (show (64 : Int32) ≤ nI k from (nI_leI (a := 64) (by decide) (by omega)).mpr q), show 64 - k = 0 by omega]
      rfl
    · rw [if_neg (show ¬ (64 : Int32) ≤ nI k from fun z => q ((nI_leI (a := 64) (by decide) (by omega)).mp z)), if_neg (l_out (by omega) (by decide)), l_toN (by omega), nI_1]
      have e : (if ((jushr d.1 (nI k)) &&& 1) = 0 then (some b) else (some (b + a k)) : Option Int32) = some (sF d.1 a b k) := by
        unfold sF
        by_cases c : cb d.1 k = true
        · rw [if_neg (fun z => by rw [(tu_0 (by omega)).mp z] at c; exact nomatch c), if_pos c]
        · rw [if_pos ((tu_0 (by omega)).mpr (by simpa using c)), if_neg c]
      rw [e, Option.bind_some, sumC_l d a nf (k + 1) _ (by omega) (by omega), show 64 - k = 1 + (64 - (k + 1)) by omega, foldN_add]
      congr 1
      exact foldN_cong (fun b i _ => by rw [show k + 1 + i = k + (1 + i) by omega])
theorem max_le (x y : Int32) : (if x < y then y else x) = (if y ≤ x then x else y) := by
  by_cases c : x < y
  · rw [if_pos c, if_neg (fun z => by
      have h1 := Int32.lt_iff_toInt_lt.mp c
      have h2 := Int32.le_iff_toInt_le.mp z
      omega)]
  · rw [if_neg c, if_pos (by
      rw [Int32.le_iff_toInt_le]
      rw [Int32.lt_iff_toInt_lt] at c
      omega)]
theorem oldM_l {m : MoS} {w h : Nat} {rd : Bool} (hW : WH w h) (hM : MOK m w h rd) (s : StS) (a : Nat → Int32) : ∀ (nf k : Nat) (b : Int32), k ≤ w * h → w * h - k < nf → lp_X7_oldest_4 m s a nf b (nI k) = some (foldN (fun b i => oF s.2.2.2 a b (k + i)) b (w * h - k))
  | 0, _, _, _, hh => absurd hh (Nat.not_lt_zero _)
  | nf + 1, k, b, hk, hh => by
    have h64 := wh_64 hW
    rw [lp_X7_oldest_4.eq_2]
    have e0 : m.2.1 * m.2.2.1 = nI (w * h) := by rw [hM.1, hM.2.1, pk_mul]
    rw [e0]
    by_cases q : w * h ≤ k
    · rw [if_pos ((nI_leI (by omega) (by omega)).mpr q), show w * h - k = 0 by omega]
      rfl
    · rw [if_neg (fun z => q ((nI_leI (by omega) (by omega)).mp z)), has_ok s (show k < 64 by omega), if_neg (l_out (by omega) (by decide)), l_toN (by omega), nI_1, max_le]
      have e : (if (if cb s.2.2.2 k = true then (1 : Int32) else 0) = 0 then (some b) else (some (if a k ≤ b then b else a k)) : Option Int32) = some (oF s.2.2.2 a b k) := by
        unfold oF
        by_cases c : cb s.2.2.2 k = true
        · rw [if_pos c, if_pos c, if_neg (by decide)]
        · rw [if_neg c, if_neg c, if_pos rfl]
      rw [e, Option.bind_some, oldM_l hW hM s a nf (k + 1) _ (by omega) (by omega), show w * h - k = 1 + (w * h - (k + 1)) by omega, foldN_add]
      congr 1
      exact foldN_cong (fun b i _ => by rw [show k + 1 + i = k + (1 + i) by omega])
theorem old_ok {m : MoS} {w h : Nat} {rd : Bool} (hW : WH w h) (hM : MOK m w h rd) {d : GaS} {a : Nat → Int32} {s : StS} {a' : Nat → Int32} (R : RelG w h d a s a') : ∃ v, f_X2_oldest d a = some v ∧ f_X7_oldest m s a' = some v := by
  have h64 := wh_64 hW
  have w8 := hW.2.1
  have e1 := oldC_l d a 100 0 (-1) (by decide) (by decide)
  have e2 := oldM_l hW hM s a' 100 0 (-1) (Nat.zero_le _) (by omega)
  have e3 : foldN (fun b i => oF d.1 a b (0 + i)) (-1) (64 - 0) = foldN (fun b i => oF s.2.2.2 a' b (0 + i)) (-1) (w * h - 0) := by
    refine fold_all hW (fun b x y hx hy => ?_) (fun b i hi hn => ?_) (-1)
    · have hb := R.1.1 x y hx hy
      unfold BC BM at hb
      simp only [Nat.zero_add]
      unfold oF
      rw [hb]
      by_cases c : cb s.2.2.2 (w * y + x) = true
      · rw [if_pos c, if_pos c, R.2.2.2.2 x y hx hy (hb.trans c)]
      · rw [if_neg c, if_neg c]
    · simp only [Nat.zero_add]
      unfold oF
      rw [if_neg (fun z => hn (R.1.2.1 i z))]
  rw [← e3] at e2
  have h0 : nI 0 = 0 := rfl
  rw [h0] at e1 e2
  refine ⟨foldN (fun b i => oF d.1 a b (0 + i)) (-1) (64 - 0), ?_, ?_⟩
  · unfold f_X2_oldest; rw [e1]; rfl
  · unfold f_X7_oldest; rw [e2]; rfl
