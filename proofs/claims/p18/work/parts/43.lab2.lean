/-! labels spread until nothing changes -/
def G77 (w h : Nat) (rd : Bool) (a : Int32 × (Nat → Nat → Int32)) (k : Nat) : Int32 × (Nat → Nat → Int32) := stp w h rd (k / 4 % w) (k / 4 / w) (k % 4) a
theorem sweep_ok {w h : Nat} {rd : Bool} {bi st yr b0 d0 : Int32} (hW : WH w h) (L : Nat → Nat → Int32) : lp_X6_lawns_77 (nI w, nI h, rd, bi, st, yr, b0, d0) 2200 0 0 L = some (foldN (G77 w h rd) (0, L) (4 * w * h)) := by
  have w64 := wh_64 hW
  have e4 : 4 * w * h = 4 * (w * h) := Nat.mul_assoc ..
  have := for_fold (n := 4 * w * h) (G77 w h rd) (fun nf i a => lp_X6_lawns_77 (nI w, nI h, rd, bi, st, yr, b0, d0) nf a.1 i a.2) (fun nf k a hk => by
    have hk4 : k / 4 < w * h := by omega
    obtain ⟨h1, h2, h3⟩ := k_xy hk4 (by have := hW.1; omega)
    have := l77 (bi := bi) (st := st) (yr := yr) (b0 := b0) (d0 := d0) (rd := rd) hW nf h1 h2 (d := k % 4) (by omega) a
    rw [h3, show 4 * (k / 4) + k % 4 = k by omega] at this
    exact this) (fun nf a => by
    show lp_X6_lawns_77 (nI w, nI h, rd, bi, st, yr, b0, d0) (nf + 1) a.1 (nI (4 * w * h)) a.2 = some a
    rw [lp_X6_lawns_77.eq_2]
    dsimp only
    rw [show (4 : Int32) * nI w * nI h = nI (4 * w * h) from by rw [show (4 : Int32) = nI 4 from rfl, pk_mul, pk_mul], if_pos (by rw [l_le (by omega) (by omega)]; exact Nat.le_refl _)]) 2200 (by omega) (0, L)
  exact this
def LabI (g : GrS) (op : Int64) (w h : Nat) (L : Nat → Nat → Int32) : Prop := ∀ x y, x < w → y < h → (BC op x y = false → L y x = -1) ∧ (BC op x y = true → ∃ x' y', x' < w ∧ y' < h ∧ w * y' + x' ≤ w * y + x ∧ L y x = nI (w * y' + x') ∧ BC (Lw g op (8 * y + x)) x' y' = true)
def sumN (f : Nat → Nat) : Nat → Nat
  | 0 => 0
  | n + 1 => sumN f n + f n
theorem sumN_upd {f f' : Nat → Nat} {t : Nat} (e : ∀ k, k ≠ t → f k = f' k) : ∀ n, t < n → sumN f n + f' t = sumN f' n + f t
  | 0, h => absurd h (Nat.not_lt_zero _)
  | n + 1, h => by
    show sumN f n + f n + f' t = sumN f' n + f' n + f t
    by_cases q : n = t
    · subst q
      have : ∀ m, m ≤ n → sumN f m = sumN f' m := by
        intro m
        induction m with
        | zero => intro _; rfl
        | succ m ih => intro hm; show sumN f m + f m = sumN f' m + f' m; rw [ih (by omega), e m (by omega)]
      rw [this n (Nat.le_refl _)]
      omega
    · have := sumN_upd e n (by omega)
      rw [e n q]
      omega
theorem sumN_le {f : Nat → Nat} : ∀ n, (∀ k, k < n → f k ≤ k) → sumN f n ≤ sumN id n
  | 0, _ => Nat.le_refl _
  | n + 1, h => by
    have h1 := sumN_le n (fun k hk => h k (by omega))
    have h2 := h n (Nat.lt_succ_self _)
    show sumN f n + f n ≤ sumN id n + n
    omega
theorem sum64 : ∀ n, n < 65 → sumN id n ≤ 2016 := by decide +kernel
def mu (w h : Nat) (L : Nat → Nat → Int32) : Nat := sumN (fun k => (L (k / w) (k % w)).toNatClampNeg) (w * h)
theorem mu_le {g : GrS} {op : Int64} {w h : Nat} (hW : WH w h) {L : Nat → Nat → Int32} (hL : LabI g op w h L) : mu w h L ≤ 2016 := by
  have w64 := wh_64 hW
  refine Nat.le_trans (sumN_le _ (fun k hk => ?_)) (sum64 _ (by omega))
  obtain ⟨h1, h2, h3⟩ := k_xy hk (by have := hW.1; omega)
  obtain ⟨a, b⟩ := hL _ _ h1 h2
  cases e : BC op (k % w) (k / w) with
  | false => rw [a e]; exact Nat.zero_le _
  | true =>
    obtain ⟨x', y', _, _, q, q2, _⟩ := b e
    rw [q2, h3] at *
    rw [l_toN (by omega)]
    omega
theorem ad_Lw {g : GrS} {w h : Nat} {rd : Bool} (hW : WH w h) (hG : GOK g w h rd) {op : Int64} (ho : InC w h op) {x y x' y' : Nat} (hx : x < w) (hy : y < h) (hx' : x' < w) (hy' : y' < h) (o : BC op x y = true) (o' : BC op x' y' = true) (a : Ad w h rd x y x' y') : Lw g op (8 * y' + x') = Lw g op (8 * y + x) := by
  obtain ⟨-, -, c, m, -⟩ := Lw_ok hW hG ho o
  refine Lw_eq hW hG ho o (c x' y' hx' hy' o' (SB_ex.mpr ⟨x, y, m, ?_⟩))
  exact (adj_sym hx hy hx' hy').mp a
theorem nb_lt {w h : Nat} {rd : Bool} (hW : WH w h) {x y d x' y' : Nat} (hx : x < w) (hy : y < h) (hd : d < 4) (e1 : (nb w h rd x y d).1 = some x') (e2 : (nb w h rd x y d).2 = some y') : x' < w ∧ y' < h := SB_lt (f := fun _ _ => true) hW hx hy (nb_ad hd e1 e2)
theorem stp_inv {g : GrS} {w h : Nat} {rd : Bool} (hW : WH w h) (hG : GOK g w h rd) {op : Int64} (ho : InC w h op) {L : Nat → Nat → Int32} (hL : LabI g op w h L) (f : Int32) {x y d : Nat} (hx : x < w) (hy : y < h) (hd : d < 4) : stp w h rd x y d (f, L) = (f, L) ∨ ((stp w h rd x y d (f, L)).1 = 1 ∧ LabI g op w h (stp w h rd x y d (f, L)).2 ∧ mu w h (stp w h rd x y d (f, L)).2 < mu w h L) := by
  have w64 := wh_64 hW
  unfold stp
  cases e1 : (nb w h rd x y d).1 with
  | none => exact Or.inl rfl
  | some x' =>
    cases e2 : (nb w h rd x y d).2 with
    | none => exact Or.inl rfl
    | some y' =>
      dsimp only
      by_cases q1 : L y x < 0
      · rw [if_pos q1]; exact Or.inl rfl
      · rw [if_neg q1]
        by_cases q2 : L y' x' < 0
        · rw [if_pos q2]; exact Or.inl rfl
        · rw [if_neg q2]
          by_cases q3 : L y' x' < L y x
          · rw [if_pos q3]
            right
            obtain ⟨lx, ly⟩ := nb_lt hW hx hy hd e1 e2
            have op1 : BC op x y = true := by
              cases e : BC op x y with
              | true => rfl
              | false => exact absurd (by rw [(hL x y hx hy).1 e]; decide) q1
            have op2 : BC op x' y' = true := by
              cases e : BC op x' y' with
              | true => rfl
              | false => exact absurd (by rw [(hL x' y' lx ly).1 e]; decide) q2
            obtain ⟨ax, ay, a1, a2, a3, a4, a5⟩ := (hL x y hx hy).2 op1
            obtain ⟨bx', by', b1, b2, b3, b4, b5⟩ := (hL x' y' lx ly).2 op2
            have kb := k_lt b1 b2
            have ka := k_lt a1 a2
            have lt : w * by' + bx' < w * ay + ax := by
              rw [a4, b4, l_lt (by omega) (by omega)] at q3
              exact q3
            refine ⟨rfl, fun x2 y2 hx2 hy2 => ?_, ?_⟩
            · dsimp only
              rw [upM_at]
              by_cases z : y2 = y ∧ x2 = x
              · obtain ⟨rfl, rfl⟩ := z
                rw [if_pos ⟨rfl, rfl⟩]
                refine ⟨(fun e => by rw [op1] at e; cases e), fun _ => ⟨bx', by', b1, b2, by omega, b4, ?_⟩⟩
                rw [← ad_Lw hW hG ho hx hy lx ly op1 op2 (nb_ad hd e1 e2)]
                exact b5
              · rw [if_neg z]
                exact hL x2 y2 hx2 hy2
            · dsimp only
              unfold mu
              have := sumN_upd (f := fun k => (L (k / w) (k % w)).toNatClampNeg) (f' := fun k => (upM L y (upd (L y) x (L y' x')) (k / w) (k % w)).toNatClampNeg) (t := w * y + x) (fun k hk => by
                show _ = (upM L y (upd (L y) x (L y' x')) (k / w) (k % w)).toNatClampNeg
                rw [upM_at, if_neg (fun z => hk (by rw [← z.1, ← z.2]; exact (Nat.div_add_mod k w).symm))]) (w * h) (k_lt hx hy)
              obtain ⟨kx, ky⟩ := xy_k (y := y) hx
              rw [kx, ky, upM_self, a4, b4, l_toN (by omega), l_toN (by omega), ← b4] at this
              omega
          · rw [if_neg q3]; exact Or.inl rfl
def Stab (w h : Nat) (rd : Bool) (L : Nat → Nat → Int32) : Prop := ∀ x y d, x < w → y < h → d < 4 → stp w h rd x y d (0, L) = (0, L)
theorem sweep_inv {g : GrS} {w h : Nat} {rd : Bool} (hW : WH w h) (hG : GOK g w h rd) {op : Int64} (ho : InC w h op) {L : Nat → Nat → Int32} (hL : LabI g op w h L) : ∀ n, n ≤ 4 * w * h → (foldN (G77 w h rd) (0, L) n = (0, L) ∧ ∀ k, k < n → G77 w h rd (0, L) k = (0, L)) ∨ ((foldN (G77 w h rd) (0, L) n).1 = 1 ∧ LabI g op w h (foldN (G77 w h rd) (0, L) n).2 ∧ mu w h (foldN (G77 w h rd) (0, L) n).2 < mu w h L)
  | 0, _ => Or.inl ⟨rfl, fun k hk => absurd hk (Nat.not_lt_zero _)⟩
  | n + 1, hn => by
    have e4 : 4 * w * h = 4 * (w * h) := Nat.mul_assoc ..
    obtain ⟨h1, h2, -⟩ := k_xy (k := n / 4) (w := w) (h := h) (by omega) (by have := hW.1; omega)
    have h4 : n % 4 < 4 := Nat.mod_lt _ (by decide)
    show ((G77 w h rd (foldN (G77 w h rd) (0, L) n) n = (0, L) ∧ _) ∨ ((G77 w h rd (foldN (G77 w h rd) (0, L) n) n).1 = 1 ∧ LabI g op w h (G77 w h rd (foldN (G77 w h rd) (0, L) n) n).2 ∧ mu w h (G77 w h rd (foldN (G77 w h rd) (0, L) n) n).2 < mu w h L))
    rcases sweep_inv hW hG ho hL n (by omega) with ⟨p1, p2⟩ | ⟨p1, p2, p3⟩
    · rw [p1]
      rcases stp_inv hW hG ho hL 0 h1 h2 h4 with q | q
      · refine Or.inl ⟨q, fun k hk => ?_⟩
        by_cases z : k = n
        · rw [z]; exact q
        · exact p2 k (by omega)
      · exact Or.inr q
    · right
      generalize foldN (G77 w h rd) (0, L) n = a at p1 p2 p3 ⊢
      obtain ⟨f, L'⟩ := a
      rcases stp_inv hW hG ho p2 f h1 h2 h4 with q | q
      · have q : G77 w h rd (f, L') n = (f, L') := q
        rw [q]; exact ⟨p1, p2, p3⟩
      · exact ⟨q.1, q.2.1, Nat.lt_trans q.2.2 p3⟩
theorem l69 {g : GrS} {w h : Nat} {rd : Bool} {bi st yr b0 d0 : Int32} (hW : WH w h) (hG : GOK g w h rd) {op : Int64} (ho : InC w h op) : ∀ (nf : Nat) (L : Nat → Nat → Int32), LabI g op w h L → mu w h L + 1 < nf → ∃ Lf, lp_X6_lawns_69 (nI w, nI h, rd, bi, st, yr, b0, d0) nf 1 L = some Lf ∧ LabI g op w h Lf ∧ Stab w h rd Lf
  | 0, _, _, h => absurd h (Nat.not_lt_zero _)
  | nf + 1, L, hL, hm => by
    rw [lp_X6_lawns_69.eq_2, if_neg (show ¬ (1 : Int32) = 0 by decide), sweep_ok hW, Option.bind_some]
    rcases sweep_inv hW hG ho hL (4 * w * h) (Nat.le_refl _) with ⟨p1, p2⟩ | ⟨p1, p2, p3⟩
    · rw [p1]
      obtain ⟨m, rfl⟩ : ∃ m, nf = m + 1 := ⟨nf - 1, by omega⟩
      refine ⟨L, by rw [lp_X6_lawns_69.eq_2, if_pos rfl], hL, fun x y d hx hy hd => ?_⟩
      have hk := k_lt hx hy
      have e4 : 4 * w * h = 4 * (w * h) := Nat.mul_assoc ..
      have := p2 (4 * (w * y + x) + d) (by omega)
      unfold G77 at this
      obtain ⟨kx, ky⟩ := xy_k (y := y) hx
      rw [show (4 * (w * y + x) + d) / 4 = w * y + x by omega, show (4 * (w * y + x) + d) % 4 = d by omega, kx, ky] at this
      exact this
    · rw [p1]
      exact l69 hW hG ho nf _ p2 (by omega)
/-- a board out of a row of yes and no -/
def mkB (p : Nat → Bool) : Int64 := foldN (fun b i => if p i = true then b ||| ob i else b) 0 64
theorem mkB_b (p : Nat → Bool) {j : Nat} (hj : j < 64) : cb (mkB p) j = p j := by
  have : ∀ n, n ≤ 64 → cb (foldN (fun b i => if p i = true then b ||| ob i else b) 0 n) j = (decide (j < n) && p j) := by
    intro n
    induction n with
    | zero => intro _; show cb 0 j = _; rw [cb_0]; simp
    | succ n ih =>
      intro hn
      show cb (if p n = true then _ ||| ob n else _) j = _
      by_cases q : p n = true
      · rw [if_pos q, cb_or, ih (by omega), cb_ob (by omega) hj]
        by_cases z : j = n
        · subst z; simp [q]
        · have : (j < n + 1) = (j < n) := propext (by omega)
          simp [z, this]
      · rw [if_neg q, ih (by omega)]
        by_cases z : j = n
        · subst z; simp [q]
        · have : (j < n + 1) = (j < n) := propext (by omega)
          simp [this]
  rw [mkB, this 64 (Nat.le_refl _)]
  simp [hj]
theorem lex_k {w x y x' y' : Nat} (hx : x < w) (h8 : w ≤ 8) (hx' : x' < w) (h : 8 * y + x < 8 * y' + x') : w * y + x < w * y' + x' := by
  rcases Nat.lt_trichotomy y y' with q | q | q
  · have : w * (y + 1) ≤ w * y' := Nat.mul_le_mul_left w q
    rw [Nat.mul_add, Nat.mul_one] at this
    omega
  · subst q; omega
  · omega
/-- at the end each label is the first cell of the lawn -/
theorem lab_ok {g : GrS} {w h : Nat} {rd : Bool} (hW : WH w h) (hG : GOK g w h rd) {op : Int64} (ho : InC w h op) {L : Nat → Nat → Int32} (hL : LabI g op w h L) (hS : Stab w h rd L) {x y : Nat} (hx : x < w) (hy : y < h) (o : BC op x y = true) : ∃ x0 y0, x0 < w ∧ y0 < h ∧ L y x = nI (w * y0 + x0) ∧ ld g op (8 * y0 + x0) = true ∧ BC (Lw g op (8 * y + x)) x0 y0 = true := by
  have w64 := wh_64 hW
  have adj : ∀ x1 y1 x2 y2, x1 < w → y1 < h → x2 < w → y2 < h → BC op x1 y1 = true → BC op x2 y2 = true → Ad w h rd x1 y1 x2 y2 → ¬ L y2 x2 < L y1 x1 := by
    intro x1 y1 x2 y2 h1 h2 h3 h4 o1 o2 a q
    obtain ⟨d, hd, e1, e2⟩ := ad_nb a
    have := hS x1 y1 d h1 h2 hd
    unfold stp at this
    rw [e1, e2] at this
    dsimp only at this
    obtain ⟨ax, ay, a1, a2, -, a4, -⟩ := (hL x1 y1 h1 h2).2 o1
    obtain ⟨bx', by', b1, b2, -, b4, -⟩ := (hL x2 y2 h3 h4).2 o2
    have kb := k_lt b1 b2
    have ka := k_lt a1 a2
    rw [if_neg (by rw [a4]; exact nI_pos (by omega)), if_neg (by rw [b4]; exact nI_pos (by omega)), if_pos q] at this
    have : (1 : Int32) = 0 := congrArg Prod.fst this
    exact absurd this (by decide)
  have adj2 : ∀ x1 y1 x2 y2, x1 < w → y1 < h → x2 < w → y2 < h → BC op x1 y1 = true → BC op x2 y2 = true → Ad w h rd x1 y1 x2 y2 → L y1 x1 = L y2 x2 := by
    intro x1 y1 x2 y2 h1 h2 h3 h4 o1 o2 a
    have q1 := adj x1 y1 x2 y2 h1 h2 h3 h4 o1 o2 a
    have q2 := adj x2 y2 x1 y1 h3 h4 h1 h2 o2 o1 ((adj_sym h1 h2 h3 h4).mp a)
    rw [Int32.lt_iff_toInt_lt] at q1 q2
    exact Int32.toInt_inj.mp (by omega)
  have hR : ∀ i, i < 64 → cb (mkB (fun i => cb op i && decide (L (i / 8) (i % 8) = L y x))) i = (cb op i && decide (L (i / 8) (i % 8) = L y x)) := fun i hi => mkB_b _ hi
  obtain ⟨-, s, -, m, mn⟩ := Lw_ok hW hG ho o
  have inR := mn (mkB (fun i => cb op i && decide (L (i / 8) (i % 8) = L y x))) (fun x1 y1 h1 h2 o1 sb => by
    obtain ⟨x2, y2, r1, a⟩ := SB_ex.mp sb
    obtain ⟨h3, h4⟩ := SB_lt (f := fun _ _ => true) hW h1 h2 a
    obtain ⟨l1, d1, m1⟩ := bx hW h1 h2
    obtain ⟨l2, d2, m2⟩ := bx hW h3 h4
    unfold BC at r1 ⊢
    rw [hR _ l2, Bool.and_eq_true, decide_eq_true_eq, d2, m2] at r1
    rw [hR _ l1, Bool.and_eq_true, decide_eq_true_eq, d1, m1]
    exact ⟨o1, (adj2 x1 y1 x2 y2 h1 h2 h3 h4 o1 r1.1 a).trans r1.2⟩) (by
    obtain ⟨l1, d1, m1⟩ := bx hW hx hy
    rw [hR _ l1, d1, m1]
    have o : cb op (8 * y + x) = true := o
    rw [o]; simp)
  have same : ∀ x1 y1, x1 < w → y1 < h → BC (Lw g op (8 * y + x)) x1 y1 = true → L y1 x1 = L y x := by
    intro x1 y1 h1 h2 q
    obtain ⟨l1, d1, m1⟩ := bx hW h1 h2
    have := inR _ q
    rw [hR _ l1, Bool.and_eq_true, decide_eq_true_eq, d1, m1] at this
    exact this.2
  obtain ⟨x0, y0, p1, p2, p3, p4, p5⟩ := (hL x y hx hy).2 o
  refine ⟨x0, y0, p1, p2, p4, ?_, p5⟩
  have o0 : cb op (8 * y0 + x0) = true := s _ p5
  have eL : Lw g op (8 * y0 + x0) = Lw g op (8 * y + x) := Lw_eq hW hG ho o p5
  unfold ld
  rw [o0, Bool.true_and, decide_eq_true_eq, eL]
  intro j hj
  cases e : cb (Lw g op (8 * y + x)) j with
  | false => rfl
  | true =>
    obtain ⟨x2, y2, h1, h2, rfl⟩ := in_cell (Sub_in s ho) e
    have e2 := same x2 y2 h1 h2 e
    obtain ⟨x3, y3, r1, r2, r3, r4, -⟩ := (hL x2 y2 h1 h2).2 (s _ e)
    rw [p4, r4] at e2
    have k0 := k_lt p1 p2
    have k3 := k_lt r1 r2
    rw [l_eq (by omega) (by omega)] at e2
    have := lex_k h1 hW.2.1 p1 hj
    omega
