/-! ===== advise, digest ===== -/
theorem fold_nest {α : Type} {w : Nat} (G : α → Nat → α) (s : α) : ∀ h, foldN G s (w * h) = foldN (fun b y => foldN (fun b x => G b (w * y + x)) b w) s h
  | 0 => rfl
  | h + 1 => by
    rw [Nat.mul_add, Nat.mul_one, foldN_add, fold_nest G s h]
    rfl
theorem size_ok {g : GrS} {m : MoS} {r : RuS} {w h : Nat} {rd : Bool} (hW : WH w h) (hG : GOK g w h rd) (hM : MOK m w h rd) (hr : m.2.2.2.2.1 = r.1 ∧ m.2.2.2.2.2 = r.2) {fR fB : Nat → Int64} (hT : TOK w h rd fR fB) {c hs : Int64} (a : RelB w h c hs) {yr : Int32} (hy : yr = 1 ∨ yr = 2) : ∃ v, f_X5_sizeBehind g r yr c = some v ∧ f_X7_hedgesBehind m fR hs yr = some v := by
  unfold f_X5_sizeBehind f_X7_hedgesBehind
  rcases hy with rfl | rfl
  · obtain ⟨c', n, e1, e2, e3⟩ := beh1_ok hW hG hM hr hT a
    rw [e1, if_pos rfl, e2, Option.bind_some, Option.bind_some, Option.bind_some]
    exact ⟨_, rfl, by rw [RelB_bc hW e3]⟩
  · obtain ⟨c', n, n', e1, e2, e2', e3⟩ := beh2_ok hW hG hM hr hT a
    rw [e1, if_neg (by decide), e2, Option.bind_some, Option.bind_some, e2', Option.bind_some, Option.bind_some]
    exact ⟨_, rfl, by rw [RelB_bc hW e3]⟩
theorem nlt_le {x y : Int32} : ¬ x < y ↔ y ≤ x := by
  rw [Int32.lt_iff_toInt_lt, Int32.le_iff_toInt_le]
  omega
/-- one place gone through, in both -/
def avM (m : MoS) (fR : Nat → Int64) (s : StS) (yr : Int32) (b : Int32 × Int32) (k : Nat) : Option (Int32 × Int32) := if (f_X6_has s (nI k)) = 0 then (Option.bind (f_X7_hedgesBehind (mz m 0) fR (s.2.2.2 ||| (jshl 1 (nI k))) yr) fun r12 => if b.2 < r12 then (some (nI k, r12)) else (some (b.1, b.2))) else (some (b.1, b.2))
def avC (g : GrS) (r : RuS) (d : GaS) (yr : Int32) (b : Int32 × Int32) (x y : Nat) : Option (Int32 × Int32) := if (f_X2_hasHedge d (f_X3_cell (nI x) (nI y))) = 0 then (Option.bind (f_X5_sizeBehind g r yr ((f_X2_hedges d) ||| (f_X3_cell (nI x) (nI y)))) fun r71 => if r71 ≤ b.2 then (some (b.1, b.2)) else (some ((((f_X3_wide g) * nI y) + nI x), r71))) else (some (b.1, b.2))
def avG (m : MoS) (fR : Nat → Int64) (s : StS) (yr : Int32) (b : Int32 × Int32) (k : Nat) : Int32 × Int32 := (avM m fR s yr b k).getD b
theorem av_ok {w h : Nat} {rd : Bool} {g : GrS} {r : RuS} {d : GaS} {a : Nat → Int32} {m : MoS} {fR fB : Nat → Int64} {s : StS} {a' : Nat → Int32} (H : WR w h rd g r d a m fR fB s a') {yr : Int32} (hyr : yr = 1 ∨ yr = 2) (b : Int32 × Int32) {x y : Nat} (hx : x < w) (hy : y < h) : avM m fR s yr b (w * y + x) = some (avG m fR s yr b (w * y + x)) ∧ avC g r d yr b x y = some (avG m fR s yr b (w * y + x)) := by
  obtain ⟨hW, hG, hM, hr, hT, R⟩ := H
  obtain ⟨q1, q2⟩ := xy_64 hW hx hy
  have hb : cb d.1 (8 * y + x) = cb s.2.2.2 (w * y + x) := R.1.1 x y hx hy
  have key : ∃ v, avM m fR s yr b (w * y + x) = some v ∧ avC g r d yr b x y = some v := by
    unfold avM avC
    rw [l_cell, hh_ok d q1, has_ok s q2, hb]
    by_cases c : cb s.2.2.2 (w * y + x) = true
    · rw [if_pos c, if_neg (by decide), if_neg (by decide)]
      exact ⟨_, rfl, rfl⟩
    · rw [if_neg c, if_pos rfl, if_pos rfl]
      obtain ⟨v, e1, e2⟩ := size_ok hW hG (m := mz m 0) hM hr hT (RelB_or R.1 (RelB_ob hW hx hy)) hyr
      rw [show f_X2_hedges d = d.1 from rfl, e1, jshl_ob, e2, Option.bind_some, Option.bind_some]
      by_cases c2 : b.2 < v
      · rw [if_pos c2, if_neg (fun z => nlt_le.mpr z c2)]
        refine ⟨_, rfl, ?_⟩
        rw [show f_X3_wide g = m.2.1 by rw [hM.1]; exact hG.1, cellM hM]
      · rw [if_neg c2, if_pos (nlt_le.mp c2)]
        exact ⟨_, rfl, rfl⟩
  obtain ⟨v, e1, e2⟩ := key
  have : avG m fR s yr b (w * y + x) = v := by
    unfold avG
    rw [e1]; rfl
  rw [this]
  exact ⟨e1, e2⟩
theorem avM_l {w h : Nat} {rd : Bool} {g : GrS} {r : RuS} {d : GaS} {a : Nat → Int32} {m : MoS} {fR fB : Nat → Int64} {s : StS} {a' : Nat → Int32} (H : WR w h rd g r d a m fR fB s a') {yr : Int32} (hyr : yr = 1 ∨ yr = 2) : ∀ (nf k : Nat) (b : Int32 × Int32), k ≤ w * h → w * h - k < nf → lp_X7_advise_38 m fR s yr nf b.1 b.2 (nI k) = some (foldN (fun b i => avG m fR s yr b (k + i)) b (w * h - k)).1
  | 0, _, _, _, hh => absurd hh (Nat.not_lt_zero _)
  | nf + 1, k, b, hk, hh => by
    have hW := H.1
    have hM := H.2.2.1
    have h64 := wh_64 hW
    rw [lp_X7_advise_38.eq_2]
    have e0 : m.2.1 * m.2.2.1 = nI (w * h) := by rw [hM.1, hM.2.1, pk_mul]
    rw [e0]
    by_cases q : w * h ≤ k
    · rw [if_pos ((nI_leI (by omega) (by omega)).mpr q), show w * h - k = 0 by omega]
      rfl
    · rw [if_neg (fun z => q ((nI_leI (by omega) (by omega)).mp z)), nI_1]
      obtain ⟨kx, ky, kk⟩ := k_xy (w := w) (h := h) (k := k) (by omega) (by have := hW.1; omega)
      have e := (av_ok H hyr b kx ky).1
      rw [kk] at e
      unfold avM at e
      rw [e, Option.bind_some, avM_l H hyr nf (k + 1) _ (by omega) (by omega), show w * h - k = 1 + (w * h - (k + 1)) by omega, foldN_add]
      congr 2
      exact foldN_cong (fun b i _ => by rw [show k + 1 + i = k + (1 + i) by omega])
theorem avC_i {w h : Nat} {rd : Bool} {g : GrS} {r : RuS} {d : GaS} {a : Nat → Int32} {m : MoS} {fR fB : Nat → Int64} {s : StS} {a' : Nat → Int32} (H : WR w h rd g r d a m fR fB s a') {yr : Int32} (hyr : yr = 1 ∨ yr = 2) {y : Nat} (hy : y < h) : ∀ (nf x : Nat) (b : Int32 × Int32), x ≤ w → w - x < nf → lp_X5_advise_53 g r d yr (nI y) nf b.1 b.2 (nI x) = some (foldN (fun b i => avG m fR s yr b (w * y + (x + i))) b (w - x))
  | 0, _, _, _, hh => absurd hh (Nat.not_lt_zero _)
  | nf + 1, x, b, hk, hh => by
    have w8 := H.1.2.1
    have hG := H.2.1
    rw [lp_X5_advise_53.eq_2, show f_X3_wide g = nI w from hG.1]
    by_cases q : w ≤ x
    · rw [if_pos ((nI_leI (by omega) (by omega)).mpr q), show w - x = 0 by omega]
      rfl
    · rw [if_neg (fun z => q ((nI_leI (by omega) (by omega)).mp z)), nI_1]
      have e := (av_ok H hyr b (x := x) (by omega) hy).2
      unfold avC at e
      rw [show f_X3_wide g = nI w from hG.1] at e
      rw [e, Option.bind_some, avC_i H hyr hy nf (x + 1) _ (by omega) (by omega), show w - x = 1 + (w - (x + 1)) by omega, foldN_add]
      congr 1
      exact foldN_cong (fun b i _ => by rw [show x + 1 + i = x + (1 + i) by omega])
theorem avC_o {w h : Nat} {rd : Bool} {g : GrS} {r : RuS} {d : GaS} {a : Nat → Int32} {m : MoS} {fR fB : Nat → Int64} {s : StS} {a' : Nat → Int32} (H : WR w h rd g r d a m fR fB s a') {yr : Int32} (hyr : yr = 1 ∨ yr = 2) : ∀ (nf y : Nat) (b : Int32 × Int32), y ≤ h → h - y < nf → lp_X5_advise_38 g r d yr nf b.1 b.2 (nI y) = some (foldN (fun b i => foldN (fun b x => avG m fR s yr b (w * (y + i) + x)) b w) b (h - y)).1
  | 0, _, _, _, hh => absurd hh (Nat.not_lt_zero _)
  | nf + 1, y, b, hk, hh => by
    have w8 := H.1.2.1
    have h8 := H.1.2.2.2
    have hG := H.2.1
    rw [lp_X5_advise_38.eq_2, show f_X3_high g = nI h from hG.2.1]
    by_cases q : h ≤ y
    · rw [if_pos ((nI_leI (by omega) (by omega)).mpr q), show h - y = 0 by omega]
      rfl
    · rw [if_neg (fun z => q ((nI_leI (by omega) (by omega)).mp z)), nI_1]
      have h0 : nI 0 = 0 := rfl
      have e := avC_i H hyr (y := y) (by omega) 100 0 b (Nat.zero_le _) (by omega)
      rw [h0] at e
      rw [e, Option.bind_some, avC_o H hyr nf (y + 1) _ (by omega) (by omega), show h - y = 1 + (h - (y + 1)) by omega, foldN_add]
      have z1 : foldN (fun b i => avG m fR s yr b (w * y + (0 + i))) b (w - 0) = foldN (fun b i => foldN (fun b x => avG m fR s yr b (w * (y + i) + x)) b w) b 1 := by
        show foldN (fun b i => avG m fR s yr b (w * y + (0 + i))) b (w - 0) = foldN (fun b x => avG m fR s yr b (w * (y + 0) + x)) b w
        exact foldN_cong (fun b i _ => by rw [Nat.zero_add, Nat.add_zero])
      rw [z1]
      refine congrArg (fun z => some (z : Int32 × Int32).1) (foldN_cong (fun b i _ => ?_))
      show foldN (fun b x => avG m fR s yr b (w * (y + 1 + i) + x)) b w = foldN (fun b x => avG m fR s yr b (w * (y + (1 + i)) + x)) b w
      rw [show y + 1 + i = y + (1 + i) by omega]
theorem o_advise {w h : Nat} {rd : Bool} {g : GrS} {r : RuS} {d : GaS} {a : Nat → Int32} {m : MoS} {fR fB : Nat → Int64} {s : StS} {a' : Nat → Int32} (H : WR w h rd g r d a m fR fB s a') (yr : Int32) : (∃ v, f_X5_advise g r d yr = some (.inl v) ∧ f_X7_advise m fR s yr = some (v, mz m 0)) ∨ (f_X5_advise g r d yr = some (.inr "java/lang/IllegalArgumentException") ∧ f_X7_advise m fR s yr = some (0, mz m 1)) := by
  obtain ⟨hW, hG, hM, hr, hT, R⟩ := id H
  have h64 := wh_64 hW
  have h8 := hW.2.2.2
  unfold f_X5_advise f_X7_advise
  by_cases c1 : yr < 1
  · right
    rw [if_pos c1, if_pos (isIn_f (Or.inl c1))]
    exact ⟨rfl, rfl⟩
  rw [if_neg c1]
  by_cases c2 : yr ≤ 2
  · left
    rw [if_pos c2, if_neg (isIn_t c1 (fun z => nlt_le.mpr c2 z))]
    have hyr : yr = 1 ∨ yr = 2 := by
      rw [Int32.lt_iff_toInt_lt] at c1
      rw [Int32.le_iff_toInt_le] at c2
      rw [show (1 : Int32).toInt = 1 from rfl] at c1
      rw [show (2 : Int32).toInt = 2 from rfl] at c2
      rcases (show yr.toInt = 1 ∨ yr.toInt = 2 by omega) with q | q
      · exact Or.inl (Int32.toInt_inj.mp q)
      · exact Or.inr (Int32.toInt_inj.mp q)
    obtain ⟨v, e1, e2⟩ := size_ok hW hG (m := mz m 0) hM hr hT R.1 hyr
    have h0 : nI 0 = 0 := rfl
    have l1 := avC_o H hyr 100 0 (-1, v) (Nat.zero_le _) (by omega)
    have l2 := avM_l H hyr 100 0 (-1, v) (Nat.zero_le _) (by omega)
    rw [h0] at l1 l2
    rw [show f_X2_hedges d = d.1 from rfl, e1, e2, Option.bind_some, Option.bind_some]
    have l1' : lp_X5_advise_38 g r d yr 100 (-1) v 0 = _ := l1
    have l2' : lp_X7_advise_38 m fR s yr 100 (-1) v 0 = _ := l2
    rw [l1', l2', Option.bind_some, Option.bind_some]
    refine ⟨_, rfl, ?_⟩
    have e : foldN (fun b i => avG m fR s yr b (0 + i)) (-1, v) (w * h - 0) = foldN (fun b i => foldN (fun b x => avG m fR s yr b (w * (0 + i) + x)) b w) (-1, v) (h - 0) := by
      rw [Nat.sub_zero, Nat.sub_zero, foldN_cong (G := avG m fR s yr) (fun b i _ => by rw [Nat.zero_add]), fold_nest]
      refine foldN_cong (fun b i _ => ?_)
      show _ = foldN (fun b x => avG m fR s yr b (w * (0 + i) + x)) b w
      rw [Nat.zero_add]
    rw [e]
  · right
    rw [if_neg c2, if_pos (isIn_f (Or.inr (Classical.byContradiction fun z => c2 (nlt_le.mp z))))]
    exact ⟨rfl, rfl⟩
theorem dg_1 {w h : Nat} {rd : Bool} {g : GrS} {r : RuS} {d : GaS} {a : Nat → Int32} {m : MoS} {fR fB : Nat → Int64} {s : StS} {a' : Nat → Int32} (H : WR w h rd g r d a m fR fB s a') : ∀ (nf k : Nat) (b : Int64), k ≤ 11 → 11 - k < nf → ∃ v, lp_X5_digest_6 g r d a nf b (nI k) = some v ∧ lp_X7_digest_11 m fR fB s a' nf b (nI k) = some v
  | 0, _, _, _, hh => absurd hh (Nat.not_lt_zero _)
  | nf + 1, k, b, hk, hh => by
    rw [lp_X5_digest_6.eq_2, lp_X7_digest_11.eq_2]
    by_cases q : 11 ≤ k
    · rw [if_pos (show (11 : Int32) ≤ nI k from (nI_leI (a := 11) (by decide) (by omega)).mpr q), if_pos (show (10 : Int32) < nI k from (nI_ltI (a := 10) (by decide) (by omega)).mpr q)]
      exact ⟨b, rfl, rfl⟩
    · rw [if_neg (show ¬ (11 : Int32) ≤ nI k from fun z => q ((nI_leI (a := 11) (by decide) (by omega)).mp z)), if_neg (show ¬ (10 : Int32) < nI k from fun z => q ((nI_ltI (a := 10) (by decide) (by omega)).mp z))]
      obtain ⟨v, e1, e2⟩ := cnt_ok (m := mz m 0) (H.z 0) (k := k) (by omega)
      rw [e1, e2, Option.bind_some, Option.bind_some, nI_1]
      exact dg_1 H nf (k + 1) _ (by omega) (by omega)
theorem dg_2 {w h : Nat} {rd : Bool} {g : GrS} {r : RuS} {d : GaS} {a : Nat → Int32} {m : MoS} {fR fB : Nat → Int64} {s : StS} {a' : Nat → Int32} (H : WR w h rd g r d a m fR fB s a') {x y : Nat} (hx : x < w) (hy : y < h) : ∀ (nf k : Nat) (b : Int64), k ≤ 5 → 5 - k < nf → ∃ v, lp_X5_digest_96 g r d a (nI y) (nI x) nf b (nI k) = some v ∧ lp_X7_digest_80 m fR fB s a' (nI (w * y + x)) nf b (nI k) = some v
  | 0, _, _, _, hh => absurd hh (Nat.not_lt_zero _)
  | nf + 1, k, b, hk, hh => by
    rw [lp_X5_digest_96.eq_2, lp_X7_digest_80.eq_2]
    by_cases q : 5 ≤ k
    · rw [if_pos (show (5 : Int32) ≤ nI k from (nI_leI (a := 5) (by decide) (by omega)).mpr q), if_pos (show (4 : Int32) < nI k from (nI_ltI (a := 4) (by decide) (by omega)).mpr q)]
      exact ⟨b, rfl, rfl⟩
    · rw [if_neg (show ¬ (5 : Int32) ≤ nI k from fun z => q ((nI_leI (a := 5) (by decide) (by omega)).mp z)), if_neg (show ¬ (4 : Int32) < nI k from fun z => q ((nI_ltI (a := 4) (by decide) (by omega)).mp z))]
      obtain ⟨v, e1, e2⟩ := fact_ok (m := mz m 0) (H.z 0) hx hy (nI k)
      rw [e1, e2, Option.bind_some, Option.bind_some, nI_1]
      exact dg_2 H hx hy nf (k + 1) _ (by omega) (by omega)
def dgG (m : MoS) (fR fB : Nat → Int64) (s : StS) (a' : Nat → Int32) (b : Int64) (k : Nat) : Int64 := (lp_X7_digest_80 m fR fB s a' (nI k) 100 b 0).getD b
theorem dg_ok {w h : Nat} {rd : Bool} {g : GrS} {r : RuS} {d : GaS} {a : Nat → Int32} {m : MoS} {fR fB : Nat → Int64} {s : StS} {a' : Nat → Int32} (H : WR w h rd g r d a m fR fB s a') {x y : Nat} (hx : x < w) (hy : y < h) (b : Int64) : lp_X5_digest_96 g r d a (nI y) (nI x) 100 b 0 = some (dgG m fR fB s a' b (w * y + x)) ∧ lp_X7_digest_80 m fR fB s a' (nI (w * y + x)) 100 b 0 = some (dgG m fR fB s a' b (w * y + x)) := by
  obtain ⟨v, e1, e2⟩ := dg_2 H hx hy 100 0 b (by decide) (by decide)
  have h0 : nI 0 = 0 := rfl
  rw [h0] at e1 e2
  have : dgG m fR fB s a' b (w * y + x) = v := by
    unfold dgG
    rw [e2]; rfl
  rw [this]
  exact ⟨e1, e2⟩
theorem dgM_l {w h : Nat} {rd : Bool} {g : GrS} {r : RuS} {d : GaS} {a : Nat → Int32} {m : MoS} {fR fB : Nat → Int64} {s : StS} {a' : Nat → Int32} (H : WR w h rd g r d a m fR fB s a') : ∀ (nf k : Nat) (b : Int64), k ≤ w * h → w * h - k < nf → lp_X7_digest_64 m fR fB s a' nf b (nI k) = some (foldN (fun b i => dgG m fR fB s a' b (k + i)) b (w * h - k))
  | 0, _, _, _, hh => absurd hh (Nat.not_lt_zero _)
  | nf + 1, k, b, hk, hh => by
    have hW := H.1
    have hM := H.2.2.1
    have h64 := wh_64 hW
    rw [lp_X7_digest_64.eq_2]
    have e0 : m.2.1 * m.2.2.1 = nI (w * h) := by rw [hM.1, hM.2.1, pk_mul]
    rw [e0]
    by_cases q : w * h ≤ k
    · rw [if_pos ((nI_leI (by omega) (by omega)).mpr q), show w * h - k = 0 by omega]
      rfl
    · rw [if_neg (fun z => q ((nI_leI (by omega) (by omega)).mp z)), nI_1]
      obtain ⟨kx, ky, kk⟩ := k_xy (w := w) (h := h) (k := k) (by omega) (by have := hW.1; omega)
      have e := (dg_ok H kx ky b).2
      rw [kk] at e
      rw [e, Option.bind_some, dgM_l H nf (k + 1) _ (by omega) (by omega), show w * h - k = 1 + (w * h - (k + 1)) by omega, foldN_add]
      congr 1
      exact foldN_cong (fun b i _ => by rw [show k + 1 + i = k + (1 + i) by omega])
theorem dgC_i {w h : Nat} {rd : Bool} {g : GrS} {r : RuS} {d : GaS} {a : Nat → Int32} {m : MoS} {fR fB : Nat → Int64} {s : StS} {a' : Nat → Int32} (H : WR w h rd g r d a m fR fB s a') {y : Nat} (hy : y < h) : ∀ (nf x : Nat) (b : Int64), x ≤ w → w - x < nf → lp_X5_digest_81 g r d a (nI y) nf b (nI x) = some (foldN (fun b i => dgG m fR fB s a' b (w * y + (x + i))) b (w - x))
  | 0, _, _, _, hh => absurd hh (Nat.not_lt_zero _)
  | nf + 1, x, b, hk, hh => by
    have w8 := H.1.2.1
    have hG := H.2.1
    rw [lp_X5_digest_81.eq_2, show f_X3_wide g = nI w from hG.1]
    by_cases q : w ≤ x
    · rw [if_pos ((nI_leI (by omega) (by omega)).mpr q), show w - x = 0 by omega]
      rfl
    · rw [if_neg (fun z => q ((nI_leI (by omega) (by omega)).mp z)), nI_1]
      have e := (dg_ok H (x := x) (by omega) hy b).1
      rw [e, Option.bind_some, dgC_i H hy nf (x + 1) _ (by omega) (by omega), show w - x = 1 + (w - (x + 1)) by omega, foldN_add]
      congr 1
      exact foldN_cong (fun b i _ => by rw [show x + 1 + i = x + (1 + i) by omega])
theorem dgC_o {w h : Nat} {rd : Bool} {g : GrS} {r : RuS} {d : GaS} {a : Nat → Int32} {m : MoS} {fR fB : Nat → Int64} {s : StS} {a' : Nat → Int32} (H : WR w h rd g r d a m fR fB s a') : ∀ (nf y : Nat) (b : Int64), y ≤ h → h - y < nf → lp_X5_digest_67 g r d a nf b (nI y) = some (foldN (fun b i => foldN (fun b x => dgG m fR fB s a' b (w * (y + i) + x)) b w) b (h - y))
  | 0, _, _, _, hh => absurd hh (Nat.not_lt_zero _)
  | nf + 1, y, b, hk, hh => by
    have w8 := H.1.2.1
    have h8 := H.1.2.2.2
    have hG := H.2.1
    rw [lp_X5_digest_67.eq_2, show f_X3_high g = nI h from hG.2.1]
    by_cases q : h ≤ y
    · rw [if_pos ((nI_leI (by omega) (by omega)).mpr q), show h - y = 0 by omega]
      rfl
    · rw [if_neg (fun z => q ((nI_leI (by omega) (by omega)).mp z)), nI_1]
      have h0 : nI 0 = 0 := rfl
      have e := dgC_i H (y := y) (by omega) 100 0 b (Nat.zero_le _) (by omega)
      rw [h0] at e
      rw [e, Option.bind_some, dgC_o H nf (y + 1) _ (by omega) (by omega), show h - y = 1 + (h - (y + 1)) by omega, foldN_add]
      have z1 : foldN (fun b i => dgG m fR fB s a' b (w * y + (0 + i))) b (w - 0) = foldN (fun b i => foldN (fun b x => dgG m fR fB s a' b (w * (y + i) + x)) b w) b 1 := by
        show foldN (fun b i => dgG m fR fB s a' b (w * y + (0 + i))) b (w - 0) = foldN (fun b x => dgG m fR fB s a' b (w * (y + 0) + x)) b w
        exact foldN_cong (fun b i _ => by rw [Nat.zero_add, Nat.add_zero])
      rw [z1]
      refine congrArg (fun z => some z) (foldN_cong (fun b i _ => ?_))
      show foldN (fun b x => dgG m fR fB s a' b (w * (y + 1 + i) + x)) b w = foldN (fun b x => dgG m fR fB s a' b (w * (y + (1 + i)) + x)) b w
      rw [show y + 1 + i = y + (1 + i) by omega]
theorem o_digest {w h : Nat} {rd : Bool} {g : GrS} {r : RuS} {d : GaS} {a : Nat → Int32} {m : MoS} {fR fB : Nat → Int64} {s : StS} {a' : Nat → Int32} (H : WR w h rd g r d a m fR fB s a') : ∃ v, f_X5_digest g r d a = some v ∧ f_X7_digest m fR fB s a' = some (v, mz m 0) := by
  obtain ⟨hW, hG, hM, hr, hT, R⟩ := id H
  have h64 := wh_64 hW
  have h8 := hW.2.2.2
  have h0 : nI 0 = 0 := rfl
  obtain ⟨v, e1, e2⟩ := dg_1 H 100 0 1597 (by decide) (by decide)
  rw [h0] at e1 e2
  unfold f_X5_digest f_X7_digest
  rw [e1, e2, Option.bind_some, Option.bind_some, hr.1, hr.2]
  simp only [bindv]
  have l1 := dgC_o H 100 0 ((((v * 31) + (Int32.toInt64 r.1)) * 31) + (Int32.toInt64 r.2)) (Nat.zero_le _) (by omega)
  have l2 := dgM_l H 100 0 ((((v * 31) + (Int32.toInt64 r.1)) * 31) + (Int32.toInt64 r.2)) (Nat.zero_le _) (by omega)
  rw [h0] at l1 l2
  rw [show f_X4_births r = r.1 from rfl, show f_X4_stays r = r.2 from rfl, l1, l2, Option.bind_some, Option.bind_some]
  refine ⟨_, rfl, ?_⟩
  have e : ∀ b, foldN (fun b i => dgG m fR fB s a' b (0 + i)) b (w * h - 0) = foldN (fun b i => foldN (fun b x => dgG m fR fB s a' b (w * (0 + i) + x)) b w) b (h - 0) := by
    intro b
    rw [Nat.sub_zero, Nat.sub_zero, foldN_cong (G := dgG m fR fB s a') (fun b i _ => by rw [Nat.zero_add]), fold_nest]
    refine foldN_cong (fun b i _ => ?_)
    show _ = foldN (fun b x => dgG m fR fB s a' b (w * (0 + i) + x)) b w
    rw [Nat.zero_add]
  rw [e, ← hr.1, ← hr.2]
