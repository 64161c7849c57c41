/-! what is told of each cell -/
theorem old_eq {w h : Nat} {rd : Bool} {g : GrS} {r : RuS} {d : GaS} {a : Nat → Int32} {s : SiS} {M : Nat → Nat → Int32} (H : RS w h rd g r d a s M) {T : Nat} (hT : Num T w h d a) : foldN (oF d.1 a) (-1) 64 = foldN (oldS M w) (-1) (w * h) := by
  obtain ⟨hW, hG, -, -, hc, hM⟩ := H
  have w64 := wh_64 hW
  obtain ⟨w3, w8, h3, h8⟩ := id hW
  have hw : 0 < w := by omega
  have e1 : foldN (oldS M w) (-1) (w * h) = foldN (fun b k => if simB M (k % w) (k / w) = true then oldS M w b k else b) (-1) (w * h) := (fold_inv (fun b : Int32 => ¬ b < -1) (by decide) (w * h) (fun b k hk hb => by
    obtain ⟨p1, p2, p3⟩ := k_xy hk hw
    obtain ⟨c1, c2, c3⟩ := hM _ _ p1 p2
    cases e : simB M (k % w) (k / w) with
    | true =>
      rw [e] at c1
      obtain ⟨n, hn, en⟩ := hT.2.1 _ _ p1 p2 c1.symm
      have := hT.1
      rw [if_pos rfl]
      refine ⟨rfl, ?_⟩
      unfold oldS
      rw [c2 c1.symm, en]
      by_cases q : b < nI n
      · rw [if_pos q]
        intro z
        have h1 := nI_pos (n := n) (by omega)
        rw [Int32.lt_iff_toInt_lt] at z h1
        have : (-1 : Int32).toInt = -1 := by decide
        have : (0 : Int32).toInt = 0 := by decide
        omega
      · rw [if_neg q]; exact hb
    | false =>
      rw [e] at c1
      rw [if_neg (by decide)]
      refine ⟨?_, hb⟩
      unfold oldS
      rw [c3 c1.symm, if_neg hb])).1
  rw [e1]
  refine fold_all hW (fun b x y hx hy => ?_) (fun b i hi hni => ?_) (-1)
  · obtain ⟨kx, ky⟩ := xy_k (y := y) hx
    obtain ⟨c1, c2, c3⟩ := hM x y hx hy
    unfold oF oldS
    rw [kx, ky, c1]
    show (if BC d.1 x y = true then _ else _) = _
    by_cases q : BC d.1 x y = true
    · rw [if_pos q, if_pos q, c2 q, max_le]
    · rw [if_neg q, if_neg q]
  · unfold oF
    rw [if_neg (fun z => hni (hc i z))]
theorem lead_ex {g : GrS} {w h : Nat} {rd : Bool} (hW : WH w h) (hG : GOK g w h rd) {op : Int64} (ho : InC w h op) {k : Nat} (hk : cb op k = true) : ∃ t, ld g op t = true ∧ Lw g op t = Lw g op k := by
  obtain ⟨-, l2, l3, l4, -⟩ := Lw_ok hW hG ho hk
  obtain ⟨t, ht, hl⟩ := lowB_ex (x := Lw g op k) (cb_nz.mpr ⟨k, cb_lt hk, l4⟩)
  exact ⟨t, (ld_low hW hG ho l2 l3 hl).1, Lw_eq hW hG ho hk hl.1⟩
def pairsN (w h : Nat) (rd : Bool) (c : Int64) : Nat → Nat := smN (fun k => if BC c (k % w) (k / w) = true then cnt8 (BC c) w h rd (k % w) (k / w) else 0)
abbrev tabs (w h : Nat) (g : GrS) (r : RuS) (d : GaS) (a : Nat → Int32) (n : Nat) (t1 t2 t3 : Nat → Int32) : Prop := ∀ k, k < n → t1 k = (if BC d.1 (k % w) (k / w) = true then a (8 * (k / w) + k % w) else -1) ∧ t2 k = nI (if BC d.1 (k % w) (k / w) = true then 0 else pc (Lw g (f_X3_open g d.1) (8 * (k / w) + k % w))) ∧ t3 k = b01 (BC (sqC g r d.1 1) (k % w) (k / w))
theorem nar_d (b : Bool) : vp_nar .boolean (if b01 b = 1 then (1 : Int32) else 0) = b01 b := by cases b <;> decide
theorem k161 {w h : Nat} {rd : Bool} {g : GrS} {r : RuS} {d : GaS} {a : Nat → Int32} {s : SiS} {M : Nat → Nat → Int32} (H : RS w h rd g r d a s M) {T : Nat} (hT : Num T w h d a) : ∃ t1 t2 t3, lp_L_law_161 g r d a (w * h) (w * h) (w * h) (nI w) (nI h) 70 0 0 (-1) 0 0 (fun _ => 0) (fun _ => 0) (fun _ => 0) = some (nI (cells2 w h (fun x y => !BC d.1 x y)), nI (pairsN w h rd d.1 (w * h)), foldN (oldS M w) (-1) (w * h), nI (cells2 w h (BC (sqC g r d.1 1))), t1, t2, t3) ∧ tabs w h g r d a (w * h) t1 t2 t3 := by
  obtain ⟨hW, hG, -, hr, hc, hM⟩ := H
  have w64 := wh_64 hW
  obtain ⟨w3, w8, h3, h8⟩ := id hW
  have hw : 0 < w := by omega
  obtain ⟨ho, hop⟩ := open_c hW hG d.1
  obtain ⟨m, m1, m2, m3, -⟩ := cd8 hW hG r d a
  obtain ⟨q, q1, q2⟩ := for_inv (n := w * h) (fun k (q : Int32 × Int32 × Int32 × Int32 × (Nat → Int32) × (Nat → Int32) × (Nat → Int32)) => q.1 = nI (upto w (fun x y => !BC d.1 x y) k) ∧ q.2.1 = nI (pairsN w h rd d.1 k) ∧ q.2.2.1 = foldN (oldS M w) (-1) k ∧ q.2.2.2.1 = nI (upto w (BC (sqC g r d.1 1)) k) ∧ tabs w h g r d a k q.2.2.2.2.1 q.2.2.2.2.2.1 q.2.2.2.2.2.2) (fun nf i q => lp_L_law_161 g r d a (w * h) (w * h) (w * h) (nI w) (nI h) nf q.1 q.2.1 q.2.2.1 q.2.2.2.1 i q.2.2.2.2.1 q.2.2.2.2.2.1 q.2.2.2.2.2.2) id (fun nf k q hk hq => by
      obtain ⟨q1, q2, q3, q4, q5⟩ := hq
      obtain ⟨p1, p2, p3⟩ := k_xy hk hw
      have c88 := cnt8_le (BC d.1) w h rd (k % w) (k / w)
      obtain ⟨mm1, mm2, mm3⟩ := hM _ _ p1 p2
      have tc : (nI k).toNatClampNeg = k := l_toN (by omega)
      have gk : ¬ (nI k < 0 ∨ w * h ≤ k) := fun z => z.elim (nI_pos (by omega)) (by omega)
      have us : ∀ (u : Nat → Int32) v, upd u k v k = v := fun u v => by show (if k = k then v else u k) = v; rw [if_pos rfl]
      have row : lp_L_law_161 g r d a (w * h) (w * h) (w * h) (nI w) (nI h) (nf + 1) q.1 q.2.1 q.2.2.1 q.2.2.2.1 (nI k) q.2.2.2.2.1 q.2.2.2.2.2.1 q.2.2.2.2.2.2 = _ := lp_L_law_161.eq_2 g r d a (w * h) (w * h) (w * h) (nI w) (nI h) (nf := nf) q.1 q.2.1 q.2.2.1 q.2.2.2.1 (nI k) q.2.2.2.2.1 q.2.2.2.2.2.1 q.2.2.2.2.2.2
      rw [pk_mul, if_neg (by rw [l_le (by omega) (by omega)]; omega), if_neg (nI_ne0 hw (by omega)), pk_rem (by omega) hw (by omega), pk_div (by omega) hw (by omega), told2 hW hG p1 p2, oinl_v, Option.bind_some, tc, if_neg gk, told3 hW hG p1 p2, oinl_v, Option.bind_some, if_neg gk, told4 hW hG hc p1 p2, oinl_v, Option.bind_some] at row
      simp only [bindv] at row
      rw [if_neg gk, us, us, us, nar_d, b01_v, told1 hW hG hc p1 p2, oinl_v, Option.bind_some, if_neg (nI_pos (by omega)), if_neg (by rw [show (8 : Int32) = nI 8 from rfl, l_lt (by omega) (by omega)]; omega), told0 hW hG p1 p2, oinl_v, Option.bind_some, nI_1, q1, q2, q3, q4] at row
      have tb : ∀ (v1 v2 v3 : Int32), v1 = (if BC d.1 (k % w) (k / w) = true then a (8 * (k / w) + k % w) else -1) → v2 = nI (if BC d.1 (k % w) (k / w) = true then 0 else pc (Lw g (f_X3_open g d.1) (8 * (k / w) + k % w))) → v3 = b01 (BC (sqC g r d.1 1) (k % w) (k / w)) → tabs w h g r d a (k + 1) (upd q.2.2.2.2.1 k v1) (upd q.2.2.2.2.2.1 k v2) (upd q.2.2.2.2.2.2 k v3) := fun v1 v2 v3 e1 e2 e3 i hi => by
        show (if i = k then _ else _) = _ ∧ (if i = k then _ else _) = _ ∧ (if i = k then _ else _) = _
        by_cases z : i = k
        · subst z
          rw [if_pos rfl, if_pos rfl, if_pos rfl]
          exact ⟨e1, e2, e3⟩
        · rw [if_neg z, if_neg z, if_neg z]
          exact q5 i (by omega)
      have eC : nI (upto w (BC (sqC g r d.1 1)) k) + b01 (BC (sqC g r d.1 1) (k % w) (k / w)) = nI (upto w (BC (sqC g r d.1 1)) (k + 1)) := by rw [b01_n, nI_add]; rfl
      have ea : foldN (oldS M w) (-1) (k + 1) = if foldN (oldS M w) (-1) k < M (k / w) (k % w) then M (k / w) (k % w) else foldN (oldS M w) (-1) k := rfl
      rw [show f_X5_count g r d a 8 = _ from count_e (k := 8) (by decide) m1, oinl_v, Option.bind_some, eC] at row
      cases z : BC d.1 (k % w) (k / w) with
      | true =>
        obtain ⟨n, n1, n2⟩ := hT.2.1 _ _ p1 p2 z
        have := hT.1
        have f1 : (0 ≤ nI n) = True := eq_true (nI_pos' (by omega))
        have f2 : (nI n < 0) = False := eq_false (nI_pos (by omega))
        have f3 : (b01 true = 0) = False := by decide
        have f4 : (nI 0 ≤ 0) = True := by decide
        have f5 : (nI 0 ≤ nI m) = True := by rw [l_le (by omega) (by omega)]; simp
        simp only [z, n2, f1, f2, f3, f4, f5, if_true, if_false] at row
        have eA : nI (upto w (fun x y => !BC d.1 x y) k) + 0 = nI (upto w (fun x y => !BC d.1 x y) (k + 1)) := by
          show _ = nI (upto w (fun x y => !BC d.1 x y) k + (!BC d.1 (k % w) (k / w)).toNat)
          rw [z]
          exact Int32.add_zero _
        have eP : nI (pairsN w h rd d.1 k) + nI (cnt8 (BC d.1) w h rd (k % w) (k / w)) = nI (pairsN w h rd d.1 (k + 1)) := by
          show _ = nI (pairsN w h rd d.1 k + (if BC d.1 (k % w) (k / w) = true then _ else 0))
          rw [z, if_pos rfl, nI_add]
        have eO : (if foldN (oldS M w) (-1) k < nI n then nI n else foldN (oldS M w) (-1) k) = foldN (oldS M w) (-1) (k + 1) := by rw [ea, mm2 z, n2]
        rw [eA, eP, eO] at row
        refine ⟨(nI (upto w (fun x y => !BC d.1 x y) (k + 1)), nI (pairsN w h rd d.1 (k + 1)), foldN (oldS M w) (-1) (k + 1), nI (upto w (BC (sqC g r d.1 1)) (k + 1)), upd q.2.2.2.2.1 k (nI n), upd q.2.2.2.2.2.1 k (nI 0), upd q.2.2.2.2.2.2 k (b01 (BC (sqC g r d.1 1) (k % w) (k / w)))), ⟨?_, ?_, ?_, ?_, ?_⟩, by rw [q1, q2, q3, q4]; exact row⟩
        · rfl
        · rfl
        · rfl
        · rfl
        · exact tb (nI n) (nI 0) (b01 (BC (sqC g r d.1 1) (k % w) (k / w))) (by rw [z, if_pos rfl, n2]) (by rw [z, if_pos rfl]) rfl
      | false =>
        have o : cb (f_X3_open g d.1) (8 * (k / w) + k % w) = true := by
          have := hop _ _ p1 p2
          rw [z] at this
          exact this
        obtain ⟨t, t1, t2⟩ := lead_ex hW hG ho o
        have lm := m3 t t1
        rw [t2] at lm
        have lp := ld_pc hW hG ho o
        have f0 : ((false : Bool) = true) = False := by decide
        have f1 : ((0 : Int32) ≤ -1) = False := by decide
        have f2 : ((-1 : Int32) < 0) = True := by decide
        have f3 : (b01 false = 0) = True := by decide
        have f4 : (nI (pc (Lw g (f_X3_open g d.1) (8 * (k / w) + k % w))) ≤ 0) = False := by rw [show (0 : Int32) = nI 0 from rfl, l_le (by omega) (by omega)]; simp; omega
        have f5 : (nI (pc (Lw g (f_X3_open g d.1) (8 * (k / w) + k % w))) ≤ nI m) = True := by rw [l_le (by omega) (by omega)]; simp; omega
        simp only [z, f0, f1, f2, f3, f4, f5, if_true, if_false] at row
        have eA : nI (upto w (fun x y => !BC d.1 x y) k) + 1 = nI (upto w (fun x y => !BC d.1 x y) (k + 1)) := by
          show _ = nI (upto w (fun x y => !BC d.1 x y) k + (!BC d.1 (k % w) (k / w)).toNat)
          rw [z, nI_1]
          rfl
        have eP : nI (pairsN w h rd d.1 k) + 0 = nI (pairsN w h rd d.1 (k + 1)) := by
          show _ = nI (pairsN w h rd d.1 k + (if BC d.1 (k % w) (k / w) = true then _ else 0))
          rw [z, if_neg (by decide)]
          exact Int32.add_zero _
        have eO : (if foldN (oldS M w) (-1) k < -1 then -1 else foldN (oldS M w) (-1) k) = foldN (oldS M w) (-1) (k + 1) := by rw [ea, mm3 z]
        rw [eA, eP, eO] at row
        refine ⟨(nI (upto w (fun x y => !BC d.1 x y) (k + 1)), nI (pairsN w h rd d.1 (k + 1)), foldN (oldS M w) (-1) (k + 1), nI (upto w (BC (sqC g r d.1 1)) (k + 1)), upd q.2.2.2.2.1 k (-1), upd q.2.2.2.2.2.1 k (nI (pc (Lw g (f_X3_open g d.1) (8 * (k / w) + k % w)))), upd q.2.2.2.2.2.2 k (b01 (BC (sqC g r d.1 1) (k % w) (k / w)))), ⟨?_, ?_, ?_, ?_, ?_⟩, by rw [q1, q2, q3, q4]; exact row⟩
        · rfl
        · rfl
        · rfl
        · rfl
        · exact tb (-1) (nI (pc (Lw g (f_X3_open g d.1) (8 * (k / w) + k % w)))) (b01 (BC (sqC g r d.1 1) (k % w) (k / w))) (by rw [z, if_neg (by decide)]) (by rw [z, if_neg (by decide)]) rfl) (fun nf q _ => by
      have row : lp_L_law_161 g r d a (w * h) (w * h) (w * h) (nI w) (nI h) (nf + 1) q.1 q.2.1 q.2.2.1 q.2.2.2.1 (nI (w * h)) q.2.2.2.2.1 q.2.2.2.2.2.1 q.2.2.2.2.2.2 = _ := lp_L_law_161.eq_2 g r d a (w * h) (w * h) (w * h) (nI w) (nI h) (nf := nf) q.1 q.2.1 q.2.2.1 q.2.2.2.1 (nI (w * h)) q.2.2.2.2.1 q.2.2.2.2.2.1 q.2.2.2.2.2.2
      rw [pk_mul, if_pos (by rw [l_le (by omega) (by omega)]; exact Nat.le_refl _)] at row
      exact row) 70 0 ((0, 0, -1, 0, (fun _ => 0), (fun _ => 0), (fun _ => 0)) : Int32 × Int32 × Int32 × Int32 × (Nat → Int32) × (Nat → Int32) × (Nat → Int32)) (Nat.zero_le _) (by omega) ⟨rfl, rfl, rfl, rfl, fun i hi => absurd hi (Nat.not_lt_zero _)⟩
  obtain ⟨y0, y1, y2, y3, t1, t2, t3⟩ := q
  obtain ⟨rfl, rfl, rfl, rfl, q5⟩ := q1
  exact ⟨t1, t2, t3, q2, q5⟩
