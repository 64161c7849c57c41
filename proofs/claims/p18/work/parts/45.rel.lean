theorem fold_rows {α : Type} {w h : Nat} (hW : WH w h) {F G : α → Nat → α} (h1 : ∀ a x y, x < w → y < h → F a (8 * y + x) = G a (w * y + x)) (h2 : ∀ a x y, w ≤ x → x < 8 → y < h → F a (8 * y + x) = a) (s : α) : ∀ y, y ≤ h → foldN F s (8 * y) = foldN G s (w * y)
  | 0, _ => rfl
  | y + 1, hy => by
    have w8 := hW.2.1
    rw [show 8 * (y + 1) = 8 * y + (w + (8 - w)) by omega, show w * (y + 1) = w * y + w by rw [Nat.mul_add, Nat.mul_one], foldN_add, foldN_add G, fold_rows hW h1 h2 s y (by omega), foldN_add]
    rw [foldN_id (n := 8 - w) (fun a i hi => h2 a (w + i) y (by omega) (by omega) (by omega))]
    exact foldN_cong (fun a i hi => h1 a i y hi (by omega))
theorem fold_all {α : Type} {w h : Nat} (hW : WH w h) {F G : α → Nat → α} (h1 : ∀ a x y, x < w → y < h → F a (8 * y + x) = G a (w * y + x)) (h2 : ∀ a i, i < 64 → ¬ (i % 8 < w ∧ i / 8 < h) → F a i = a) (s : α) : foldN F s 64 = foldN G s (w * h) := by
  have h8 := hW.2.2.2
  rw [show (64 : Nat) = 8 * h + (64 - 8 * h) by omega, foldN_add, foldN_id (n := 64 - 8 * h) (fun a i hi => h2 a (8 * h + i) (by omega) (by omega))]
  exact fold_rows hW h1 (fun a x y hx1 hx2 hy => h2 a (8 * y + x) (by omega) (by omega)) s h (Nat.le_refl h)
/-! the class's counts and the law's own -/
theorem cnt64 {w h : Nat} (hW : WH w h) {q : Nat → Bool} (hq : ∀ i, i < 64 → q i = true → i % 8 < w ∧ i / 8 < h) : cntN q 64 = cells2 w h (fun x y => q (8 * y + x)) := by
  have hI : InC w h (mkB q) := fun i hi => by
    have l := cb_lt hi
    rw [mkB_b q l] at hi
    exact hq i l hi
  have h1 : cntN q 64 = pc (mkB q) := (cntN_cong (fun i hi => mkB_b q hi)).symm
  rw [h1, pc_cells hW hI]
  refine cells2_cong (by have := hW.1; omega) (fun x y hx hy => ?_)
  exact mkB_b q (bx hW hx hy).1
theorem open_c {g : GrS} {w h : Nat} {rd : Bool} (hW : WH w h) (hG : GOK g w h rd) (hs : Int64) : InC w h (f_X3_open g hs) ∧ ∀ x y, x < w → y < h → BC (f_X3_open g hs) x y = !BC hs x y := by
  refine ⟨fun i hi => ?_, fun x y hx hy => ?_⟩
  · rw [openC_b hG hs (cb_lt hi), Bool.and_eq_true, decide_eq_true_eq] at hi
    exact hi.1
  · obtain ⟨l, d, m⟩ := bx hW hx hy
    unfold BC
    rw [openC_b hG hs l, d, m]
    simp [hx, hy]
theorem count_e {g : GrS} {r : RuS} {d : GaS} {a : Nat → Int32} {k : Nat} (hk : k < 11) {v : Int32} (e : f_X5_counted g r d a (nI k) = some v) : f_X5_count g r d a (nI k) = some (.inl v) := by
  unfold f_X5_count
  rw [if_neg (nI_lt0 k (by omega)), if_pos (by rw [show (11 : Int32) = nI 11 from rfl, l_lt (by omega) (by omega)]; exact hk), e]
  rfl
theorem cd0 (g : GrS) (r : RuS) (d : GaS) (a : Nat → Int32) : f_X5_counted g r d a 0 = some d.2.1 := rfl
theorem cd1 (g : GrS) (r : RuS) (d : GaS) (a : Nat → Int32) : f_X5_counted g r d a 1 = some g.1 := rfl
theorem cd2 (g : GrS) (r : RuS) (d : GaS) (a : Nat → Int32) : f_X5_counted g r d a 2 = some g.2.1 := rfl
theorem cd3 (g : GrS) (r : RuS) (d : GaS) (a : Nat → Int32) : f_X5_counted g r d a 3 = some (nI (pc d.1)) := (show f_X5_counted g r d a 3 = some (f_J13_bitCount_95d88 d.1) from rfl).trans (congrArg some (bc_pc d.1))
theorem cd4 (g : GrS) (r : RuS) (d : GaS) (a : Nat → Int32) : f_X5_counted g r d a 4 = some d.2.2.1 := rfl
theorem cd5 (g : GrS) (r : RuS) (d : GaS) (a : Nat → Int32) : f_X5_counted g r d a 5 = some d.2.2.2 := rfl
theorem cd6 (g : GrS) (r : RuS) (d : GaS) (a : Nat → Int32) : f_X5_counted g r d a 6 = some (b01 g.2.2.1) := by
  show (if bI g.2.2.1 = 0 then some 0 else some 1) = _
  cases g.2.2.1 <;> rfl
theorem op_CL {g : GrS} {w h : Nat} {rd : Bool} {op : Int64} : CL w h rd op op := fun x y _ _ o _ => o
theorem Sub_rf {a : Int64} : Sub a a := fun _ z => z
theorem cd7 {g : GrS} {w h : Nat} {rd : Bool} (hW : WH w h) (hG : GOK g w h rd) (r : RuS) (d : GaS) (a : Nat → Int32) : f_X5_counted g r d a 7 = some (nI (cells2 w h (fun x y => ld g (f_X3_open g d.1) (8 * y + x)))) := by
  obtain ⟨ho, -⟩ := open_c hW hG d.1
  have h1 := wout_l hW hG 0 ho 100 0 (f_X3_open g d.1) 0 Sub_rf (op_CL (g := g)) (by have := pc_le (f_X3_open g d.1); omega) (by decide)
  rw [show nI 0 = 0 from rfl, Nat.zero_add] at h1
  have h2 : cntN (fun k => (cb (f_X3_open g d.1) k && ld g (f_X3_open g d.1) k) && decide ((Lw g (f_X3_open g d.1) k &&& 0) = 0)) 64 = cells2 w h (fun x y => ld g (f_X3_open g d.1) (8 * y + x)) := by
    rw [← cnt64 hW (q := ld g (f_X3_open g d.1)) (fun i _ hi => ho i (by unfold ld at hi; rw [Bool.and_eq_true] at hi; exact hi.1))]
    refine cntN_cong (fun i _ => ?_)
    rw [decide_eq_true (show (Lw g (f_X3_open g d.1) i &&& 0) = 0 from cb_z.mpr (fun j _ => by rw [cb_and, cb_0, Bool.and_false])), Bool.and_true]
    unfold ld
    cases cb (f_X3_open g d.1) i <;> rfl
  show (Option.bind (f_X2_lawns d g) fun r1 => some r1) = _
  unfold f_X2_lawns f_X2_lawnsWithout
  rw [show f_X2_open d g = f_X3_open g d.1 from rfl, h1, h2]
  rfl
theorem cd9 {g : GrS} {w h : Nat} {rd : Bool} (hW : WH w h) (hG : GOK g w h rd) (r : RuS) (d : GaS) (a : Nat → Int32) {b : Int64} (hb : f_X4_born r g d.1 = some b) : f_X5_counted g r d a 9 = some (nI (cells2 w h (fun x y => ld g (f_X3_open g d.1) (8 * y + x) && decide ((Lw g (f_X3_open g d.1) (8 * y + x) &&& b) = 0)))) := by
  obtain ⟨ho, -⟩ := open_c hW hG d.1
  have h1 := wout_l hW hG b ho 100 0 (f_X3_open g d.1) 0 Sub_rf (op_CL (g := g)) (by have := pc_le (f_X3_open g d.1); omega) (by decide)
  rw [show nI 0 = 0 from rfl, Nat.zero_add] at h1
  have h2 : cntN (fun k => (cb (f_X3_open g d.1) k && ld g (f_X3_open g d.1) k) && decide ((Lw g (f_X3_open g d.1) k &&& b) = 0)) 64 = cells2 w h (fun x y => ld g (f_X3_open g d.1) (8 * y + x) && decide ((Lw g (f_X3_open g d.1) (8 * y + x) &&& b) = 0)) := by
    rw [← cnt64 hW (q := fun i => ld g (f_X3_open g d.1) i && decide ((Lw g (f_X3_open g d.1) i &&& b) = 0)) (fun i _ hi => ho i (by unfold ld at hi; rw [Bool.and_eq_true, Bool.and_eq_true] at hi; exact hi.1.1))]
    refine cntN_cong (fun i _ => ?_)
    congr 1
    unfold ld
    cases cb (f_X3_open g d.1) i <;> rfl
  show (Option.bind (f_X2_stillLawns d g r) fun r3 => some r3) = _
  unfold f_X2_stillLawns f_X2_lawnsWithout
  rw [hb, show f_X2_open d g = f_X3_open g d.1 from rfl, Option.bind_some, h1, h2]
  rfl
theorem cd8 {g : GrS} {w h : Nat} {rd : Bool} (hW : WH w h) (hG : GOK g w h rd) (r : RuS) (d : GaS) (a : Nat → Int32) : ∃ m, f_X5_counted g r d a 8 = some (nI m) ∧ m ≤ 64 ∧ (∀ k, ld g (f_X3_open g d.1) k = true → pc (Lw g (f_X3_open g d.1) k) ≤ m) ∧ (m = 0 ∨ ∃ k, ld g (f_X3_open g d.1) k = true ∧ m = pc (Lw g (f_X3_open g d.1) k)) := by
  obtain ⟨ho, -⟩ := open_c hW hG d.1
  obtain ⟨m, m1, m2, -, m3, m4⟩ := great_l hW hG ho 100 0 (f_X3_open g d.1) 0 Sub_rf (op_CL (g := g)) (by have := pc_le (f_X3_open g d.1); omega) (by decide) (by decide)
  refine ⟨m, ?_, m2, fun k hk => m3 k (by unfold ld at hk; rw [Bool.and_eq_true] at hk; exact hk.1) hk, ?_⟩
  · show (Option.bind (f_X2_greatestLawn d g) fun r2 => some r2) = _
    unfold f_X2_greatestLawn
    rw [show f_X2_open d g = f_X3_open g d.1 from rfl, show lp_X2_greatestLawn_10 d g 100 0 (f_X3_open g d.1) 0 = some (nI m) from m1]
    rfl
  · rcases m4 with z | ⟨k, -, z1, z2⟩
    · exact Or.inl z
    · exact Or.inr ⟨k, z1, z2⟩
theorem cd10 (g : GrS) (r : RuS) (d : GaS) (a : Nat → Int32) : f_X5_counted g r d a 10 = some (foldN (oF d.1 a) (-1) 64) := by
  show (Option.bind (f_X2_oldest d a) fun r5 => some r5) = _
  unfold f_X2_oldest
  have := oldC_l d a 100 0 (-1) (by decide) (by decide)
  rw [show lp_X2_oldest_4 d a 100 (-1) 0 = some (foldN (fun b i => oF d.1 a b (0 + i)) (-1) (64 - 0)) from this]
  show some (foldN (fun b i => oF d.1 a b (0 + i)) (-1) 64) = _
  refine congrArg some (foldN_cong (fun b i _ => ?_))
  rw [Nat.zero_add]
/-- one leader to a lawn -/
theorem ld_uni {g : GrS} {w h : Nat} {rd : Bool} (hW : WH w h) (hG : GOK g w h rd) {op : Int64} (ho : InC w h op) {a b : Nat} (ha : ld g op a = true) (hb : ld g op b = true) (e : cb (Lw g op a) b = true) : a = b := by
  unfold ld at ha hb
  rw [Bool.and_eq_true, decide_eq_true_eq] at ha hb
  have eL := Lw_eq hW hG ho ha.1 e
  rcases Nat.lt_trichotomy a b with q | q | q
  · have := hb.2 a q
    rw [eL, (Lw_ok hW hG ho ha.1).2.2.2.1] at this
    cases this
  · exact q
  · rw [ha.2 b q] at e; cases e
theorem sz_ok {g : GrS} {w h : Nat} {rd : Bool} (hW : WH w h) (hG : GOK g w h rd) {op : Int64} (ho : InC w h op) {L : Nat → Nat → Int32} (hL : LabI g op w h L) (hS : Stab w h rd L) {x0 y0 : Nat} (h1 : x0 < w) (h2 : y0 < h) : (ld g op (8 * y0 + x0) = true → ∀ x y, x < w → y < h → szP op L (w * y0 + x0) x y = BC (Lw g op (8 * y0 + x0)) x y) ∧ (ld g op (8 * y0 + x0) = false → ∀ x y, x < w → y < h → szP op L (w * y0 + x0) x y = false) := by
  have w64 := wh_64 hW
  have k0 := k_lt h1 h2
  have key : ∀ x y, x < w → y < h → szP op L (w * y0 + x0) x y = true → ld g op (8 * y0 + x0) = true ∧ BC (Lw g op (8 * y0 + x0)) x y = true := by
    intro x y hx hy q
    unfold szP at q
    rw [Bool.and_eq_true, decide_eq_true_eq] at q
    obtain ⟨x1, y1, p1, p2, p3, p4, p5⟩ := lab_ok hW hG ho hL hS hx hy q.1
    have k1 := k_lt p1 p2
    rw [q.2, l_eq (by omega) (by omega)] at p3
    obtain ⟨rfl, rfl⟩ := k_inj h1 p1 p3
    refine ⟨p4, ?_⟩
    have := Lw_eq hW hG ho q.1 p5
    rw [this]
    exact (Lw_ok hW hG ho q.1).2.2.2.1
  refine ⟨fun hl x y hx hy => ?_, fun hl x y hx hy => ?_⟩
  · cases e : BC (Lw g op (8 * y0 + x0)) x y with
    | false =>
      cases q : szP op L (w * y0 + x0) x y with
      | false => rfl
      | true => rw [(key x y hx hy q).2] at e; cases e
    | true =>
      have o0 : cb op (8 * y0 + x0) = true := by
        have := hl
        unfold ld at this
        rw [Bool.and_eq_true] at this
        exact this.1
      have o : BC op x y = true := (Lw_ok hW hG ho o0).2.1 _ e
      obtain ⟨x1, y1, p1, p2, p3, p4, p5⟩ := lab_ok hW hG ho hL hS hx hy o
      have eL := Lw_eq hW hG ho o0 e
      rw [eL] at p5
      have := ld_uni hW hG ho hl p4 p5
      have ex : x0 = x1 := by obtain ⟨w3, w8, -⟩ := hW; omega
      have ey : y0 = y1 := by obtain ⟨w3, w8, -⟩ := hW; omega
      unfold szP
      rw [o, p3, ex, ey]
      simp
  · cases q : szP op L (w * y0 + x0) x y with
    | false => rfl
    | true => rw [(key x y hx hy q).1] at hl; cases hl
theorem szN {g : GrS} {w h : Nat} {rd : Bool} (hW : WH w h) (hG : GOK g w h rd) {op : Int64} (ho : InC w h op) {L : Nat → Nat → Int32} (hL : LabI g op w h L) (hS : Stab w h rd L) {x0 y0 : Nat} (h1 : x0 < w) (h2 : y0 < h) : cells2 w h (szP op L (w * y0 + x0)) = if ld g op (8 * y0 + x0) = true then pc (Lw g op (8 * y0 + x0)) else 0 := by
  obtain ⟨a, b⟩ := sz_ok hW hG ho hL hS h1 h2
  have hw : 0 < w := by have := hW.1; omega
  by_cases q : ld g op (8 * y0 + x0) = true
  · rw [if_pos q]
    have o0 : cb op (8 * y0 + x0) = true := by
      have := q
      unfold ld at this
      rw [Bool.and_eq_true] at this
      exact this.1
    rw [pc_cells hW (Sub_in (Lw_ok hW hG ho o0).2.1 ho)]
    exact cells2_cong hw (a q)
  · rw [if_neg q]
    have q : ld g op (8 * y0 + x0) = false := by cases e : ld g op (8 * y0 + x0) with
      | false => rfl
      | true => exact absurd e q
    exact cntN_0 (fun k hk => by
      obtain ⟨p1, p2, -⟩ := k_xy hk hw
      exact b q _ _ p1 p2)
theorem ld_pc {g : GrS} {w h : Nat} {rd : Bool} (hW : WH w h) (hG : GOK g w h rd) {op : Int64} (ho : InC w h op) {k : Nat} (hk : cb op k = true) : 0 < pc (Lw g op k) := cntN_pos.mpr ⟨k, cb_lt hk, (Lw_ok hW hG ho hk).2.2.2.1⟩
theorem ld_op {g : GrS} {op : Int64} {k : Nat} (h : ld g op k = true) : cb op k = true := by
  unfold ld at h
  rw [Bool.and_eq_true] at h
  exact h.1
theorem bnN {g : GrS} {w h : Nat} {rd : Bool} (hW : WH w h) (hG : GOK g w h rd) {op : Int64} (ho : InC w h op) {L : Nat → Nat → Int32} (hL : LabI g op w h L) (hS : Stab w h rd L) {b : Int64} {c : Nat → Nat → Bool} (hb : ∀ x y, x < w → y < h → BC b x y = (BC op x y && c x y)) {x0 y0 : Nat} (h1 : x0 < w) (h2 : y0 < h) (hl : ld g op (8 * y0 + x0) = true) : decide (0 < cells2 w h (bnP op L c (w * y0 + x0))) = !decide ((Lw g op (8 * y0 + x0) &&& b) = 0) := by
  obtain ⟨sp, -⟩ := sz_ok hW hG ho hL hS h1 h2
  have hw : 0 < w := by have := hW.1; omega
  have sub := (Lw_ok hW hG ho (ld_op hl)).2.1
  have e : 0 < cells2 w h (bnP op L c (w * y0 + x0)) ↔ ¬ (Lw g op (8 * y0 + x0) &&& b) = 0 := by
    constructor
    · intro p
      obtain ⟨k, hk, q⟩ := cntN_pos.mp p
      obtain ⟨p1, p2, -⟩ := k_xy hk hw
      unfold bnP at q
      rw [Bool.and_eq_true, sp hl _ _ p1 p2] at q
      refine cb_nz.mpr ⟨8 * (k / w) + k % w, (bx hW p1 p2).1, ?_⟩
      have hb2 := hb _ _ p1 p2
      have o : BC op (k % w) (k / w) = true := sub _ q.1
      rw [o, q.2] at hb2
      rw [cb_and]
      show (BC (Lw g op (8 * y0 + x0)) (k % w) (k / w) && BC b (k % w) (k / w)) = true
      rw [q.1, hb2]; rfl
    · intro p
      obtain ⟨i, hi, q⟩ := cb_nz.mp p
      rw [cb_and, Bool.and_eq_true] at q
      obtain ⟨x, y, hx, hy, rfl⟩ := in_cell (Sub_in sub ho) q.1
      obtain ⟨kx, ky⟩ := xy_k (y := y) hx
      refine cntN_pos.mpr ⟨w * y + x, k_lt hx hy, ?_⟩
      show bnP op L c (w * y0 + x0) ((w * y + x) % w) ((w * y + x) / w) = true
      rw [kx, ky]
      unfold bnP
      rw [sp hl x y hx hy, show BC (Lw g op (8 * y0 + x0)) x y = true from q.1]
      have hb2 := hb x y hx hy
      rw [show BC b x y = true from q.2] at hb2
      cases ec : c x y with
      | true => rfl
      | false => rw [ec, Bool.and_false] at hb2; cases hb2
  by_cases q : (Lw g op (8 * y0 + x0) &&& b) = 0
  · rw [decide_eq_true q, decide_eq_false (fun z => e.mp z q)]; rfl
  · rw [decide_eq_false q, decide_eq_true (e.mpr q)]; rfl
theorem fold_inv {α : Type} (P : α → Prop) {F G : α → Nat → α} {s : α} (h0 : P s) : ∀ n, (∀ b i, i < n → P b → F b i = G b i ∧ P (G b i)) → foldN F s n = foldN G s n ∧ P (foldN G s n)
  | 0, _ => ⟨rfl, h0⟩
  | n + 1, h => by
    obtain ⟨e, p⟩ := fold_inv P h0 n (fun b i hi => h b i (by omega))
    obtain ⟨e2, p2⟩ := h _ n (Nat.lt_succ_self _) p
    refine ⟨?_, p2⟩
    show F (foldN F s n) n = G (foldN G s n) n
    rw [e, e2]
