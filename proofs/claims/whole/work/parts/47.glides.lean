/-! ===== glides ===== -/
def sh (w a x : Nat) : Nat := if a ≤ x then x - a else x + w - a
def un (w a x : Nat) : Nat := (x + a) % w
theorem un_lt {w a x : Nat} (hw : 0 < w) : un w a x < w := Nat.mod_lt _ hw
theorem sh_lt {w a x : Nat} (hx : x < w) (ha : a < w) : sh w a x < w := by
  unfold sh
  by_cases c : a ≤ x
  · rw [if_pos c]; omega
  · rw [if_neg c]; omega
theorem un_ite {w a x : Nat} (hx : x < w) (ha : a < w) : un w a x = if x + a < w then x + a else x + a - w := by
  unfold un
  by_cases c : x + a < w
  · rw [if_pos c, Nat.mod_eq_of_lt c]
  · rw [if_neg c, Nat.mod_eq_sub_mod (by omega), Nat.mod_eq_of_lt (by omega)]
theorem un_sh {w a x X : Nat} (hx : x < w) (ha : a < w) (hX : X < w) : X = un w a x ↔ x = sh w a X := by
  rw [un_ite hx ha]
  unfold sh
  by_cases c : x + a < w
  · rw [if_pos c]
    by_cases e : a ≤ X
    · rw [if_pos e]; omega
    · rw [if_neg e]; omega
  · rw [if_neg c]
    by_cases e : a ≤ X
    · rw [if_pos e]; omega
    · rw [if_neg e]; omega
theorem mo_l {m : MoS} {w h : Nat} {rd : Bool} (hW : WH w h) (hM : MOK m w h rd) (hs : Int64) {dx dy : Nat} (hdx : dx < w) (hdy : dy < h) : ∀ (nf k : Nat) (y7 : Int64), k ≤ w * h → w * h - k < nf → ∃ r, lp_X7_moved_6 m hs (nI dx) (nI dy) nf y7 (nI k) = some r ∧ ∀ j, j < 64 → (cb r j = true ↔ (cb y7 j = true ∨ ∃ x y, x < w ∧ y < h ∧ k ≤ w * y + x ∧ cb hs (w * y + x) = true ∧ j = w * un h dy y + un w dx x))
  | 0, _, _, _, hh => absurd hh (Nat.not_lt_zero _)
  | nf + 1, k, y7, hk, hh => by
    have h64 := wh_64 hW
    have w3 := hW.1
    have w8 := hW.2.1
    have h3 := hW.2.2.1
    have h8 := hW.2.2.2
    rw [lp_X7_moved_6.eq_2]
    have e0 : m.2.1 * m.2.2.1 = nI (w * h) := by rw [hM.1, hM.2.1, pk_mul]
    rw [e0]
    by_cases q : w * h ≤ k
    · rw [if_pos ((nI_leI (by omega) (by omega)).mpr q)]
      refine ⟨y7, rfl, fun j _ => ⟨Or.inl, ?_⟩⟩
      rintro (z | ⟨x, y, hx, hy, hxy, -, -⟩)
      · exact z
      · have := lt_wh hx hy
        omega
    · rw [if_neg (fun z => q ((nI_leI (by omega) (by omega)).mp z)), nI_1]
      obtain ⟨kx, ky, kk⟩ := k_xy (w := w) (h := h) (k := k) (by omega) (by omega)
      have only : ∀ x y, x < w → y < h → w * y + x = k → x = k % w ∧ y = k / w := fun x y hx hy e => cell_inj hx kx (e.trans kk.symm)
      by_cases c : cb hs k = true
      · have nz1 : ¬ m.2.1 = 0 := by
          rw [hM.1]
          exact fun z => by
            have := (nI_eq (b := 0) (by omega) (by decide)).mp z
            omega
        have nz2 : ¬ m.2.2.1 = 0 := by
          rw [hM.2.1]
          exact fun z => by
            have := (nI_eq (b := 0) (by omega) (by decide)).mp z
            omega
        rw [if_pos ((ts_1 (show k < 64 by omega)).mpr c), if_neg nz1, if_neg nz2, if_neg nz1, if_neg nz1]
        simp only [bindv]
        rw [Option.bind_some, hM.1, hM.2.1, pk_rem (by omega) (by omega) (by omega), pk_div (by omega) (by omega) (by omega), nI_add, nI_add, pk_rem (by omega) (by omega) (by omega), pk_rem (by omega) (by omega) (by omega), pk_mul, nI_add, jshl_ob]
        obtain ⟨r, e1, e2⟩ := mo_l hW hM hs hdx hdy nf (k + 1) (y7 ||| ob (w * ((k / w + dy) % h) + (k % w + dx) % w)) (by omega) (by omega)
        have hj : w * ((k / w + dy) % h) + (k % w + dx) % w < 64 := by
          have := lt_wh (w := w) (h := h) (x := (k % w + dx) % w) (y := (k / w + dy) % h) (Nat.mod_lt _ (by omega)) (Nat.mod_lt _ (by omega))
          omega
        refine ⟨r, e1, fun j hj64 => ?_⟩
        rw [e2 j hj64, cb_or, cb_ob hj hj64, Bool.or_eq_true, decide_eq_true_eq]
        constructor
        · rintro ((z | z) | ⟨x, y, hx, hy, hxy, hb, z⟩)
          · exact Or.inl z
          · exact Or.inr ⟨k % w, k / w, kx, ky, by omega, by rw [kk]; exact c, z⟩
          · exact Or.inr ⟨x, y, hx, hy, by omega, hb, z⟩
        · rintro (z | ⟨x, y, hx, hy, hxy, hb, z⟩)
          · exact Or.inl (Or.inl z)
          · by_cases e : w * y + x = k
            · obtain ⟨f1, f2⟩ := only x y hx hy e
              rw [f1, f2] at z
              exact Or.inl (Or.inr z)
            · exact Or.inr ⟨x, y, hx, hy, by omega, hb, z⟩
      · rw [if_neg (fun z => c ((ts_1 (show k < 64 by omega)).mp z)), Option.bind_some]
        obtain ⟨r, e1, e2⟩ := mo_l hW hM hs hdx hdy nf (k + 1) y7 (by omega) (by omega)
        refine ⟨r, e1, fun j hj64 => ?_⟩
        rw [e2 j hj64]
        constructor
        · rintro (z | ⟨x, y, hx, hy, hxy, hb, z⟩)
          · exact Or.inl z
          · exact Or.inr ⟨x, y, hx, hy, by omega, hb, z⟩
        · rintro (z | ⟨x, y, hx, hy, hxy, hb, z⟩)
          · exact Or.inl z
          · by_cases e : w * y + x = k
            · rw [e] at hb
              exact absurd hb c
            · exact Or.inr ⟨x, y, hx, hy, by omega, hb, z⟩
theorem mo_ok {m : MoS} {w h : Nat} {rd : Bool} (hW : WH w h) (hM : MOK m w h rd) (hs : Int64) {dx dy : Nat} (hdx : dx < w) (hdy : dy < h) : ∃ r, f_X7_moved m hs (nI dx) (nI dy) = some r ∧ InM w h r ∧ ∀ X Y, X < w → Y < h → BM w r X Y = BM w hs (sh w dx X) (sh h dy Y) := by
  have w3 := hW.1
  have h3 := hW.2.2.1
  obtain ⟨r, e1, e2⟩ := mo_l hW hM hs hdx hdy 100 0 0 (Nat.zero_le _) (by have := wh_64 hW; omega)
  have h0 : nI 0 = 0 := rfl
  rw [h0] at e1
  refine ⟨r, by unfold f_X7_moved; rw [e1, Option.bind_some], fun j hj => ?_, fun X Y hX hY => ?_⟩
  · rcases (e2 j (cb_lt hj)).mp hj with z | ⟨x, y, hx, hy, -, -, z⟩
    · rw [cb_0] at z
      exact nomatch z
    · rw [z]
      exact lt_wh (un_lt (by omega)) (un_lt (by omega))
  · unfold BM
    have hE : cb r (w * Y + X) = true ↔ cb hs (w * sh h dy Y + sh w dx X) = true := by
      rw [e2 _ (xy_64 hW hX hY).2, cb_0]
      constructor
      · rintro (z | ⟨x, y, hx, hy, -, hb, z⟩)
        · exact nomatch z
        · obtain ⟨f1, f2⟩ := cell_inj hX (un_lt (by omega)) z
          rw [← (un_sh hx hdx hX).mp f1, ← (un_sh hy hdy hY).mp f2]
          exact hb
      · intro hb
        refine Or.inr ⟨sh w dx X, sh h dy Y, sh_lt hX hdx, sh_lt hY hdy, Nat.zero_le _, hb, ?_⟩
        rw [← (un_sh (sh_lt hX hdx) hdx hX).mpr rfl, ← (un_sh (sh_lt hY hdy) hdy hY).mpr rfl]
    cases c : cb r (w * Y + X) <;> cases c' : cb hs (w * sh h dy Y + sh w dx X)
    · rfl
    · rw [hE.mpr c'] at c; exact nomatch c
    · rw [hE.mp c] at c'; exact nomatch c'
    · rfl
/-- so far moved, on the class's board -/
def Mv (w h a b : Nat) (c0 c : Int64) : Prop := InC w h c ∧ ∀ x y, x < w → y < h → BC c x y = BC c0 (sh w a x) (sh h b y)
theorem prv_sh {w a x x' : Nat} (ha : a < w) (hx : x < w) (h : prv w true x = some x') : x' < w ∧ sh w a x' = sh w (a + 1) x := by
  unfold prv at h
  unfold sh
  by_cases c : 0 < x
  · rw [if_pos c] at h
    obtain rfl := Option.some.inj h
    refine ⟨by omega, ?_⟩
    by_cases e : a ≤ x - 1
    · rw [if_pos e, if_pos (by omega)]; omega
    · rw [if_neg e, if_neg (by omega)]; omega
  · rw [if_neg c, if_pos rfl] at h
    obtain rfl := Option.some.inj h
    refine ⟨by omega, ?_⟩
    rw [if_pos (by omega), if_neg (by omega)]; omega
theorem prv_some (w x : Nat) : ∃ x', prv w true x = some x' := by
  unfold prv
  by_cases c : 0 < x
  · exact ⟨_, if_pos c⟩
  · exact ⟨_, by rw [if_neg c, if_pos rfl]⟩
theorem Mv_r {g : GrS} {w h a b : Nat} (hW : WH w h) (hG : GOK g w h true) {c0 c : Int64} (ha : a < w) (H : Mv w h a b c0 c) : Mv w h (a + 1) b c0 (f_X3_right g c) := by
  obtain ⟨r1, r2⟩ := right_ok hW hG H.1
  refine ⟨r1, fun x y hx hy => ?_⟩
  obtain ⟨x', hx'⟩ := prv_some w x
  obtain ⟨f1, f2⟩ := prv_sh ha hx hx'
  rw [r2 x y hx hy, hx', ← f2]
  exact H.2 x' y f1 hy
theorem Mv_d {g : GrS} {w h a b : Nat} (hW : WH w h) (hG : GOK g w h true) {c0 c : Int64} (hb : b < h) (H : Mv w h a b c0 c) : Mv w h a (b + 1) c0 (f_X3_down g c) := by
  obtain ⟨r1, r2⟩ := down_ok hW hG H.1
  refine ⟨r1, fun x y hx hy => ?_⟩
  obtain ⟨y', hy'⟩ := prv_some h y
  obtain ⟨f1, f2⟩ := prv_sh hb hy hy'
  rw [r2 x y hx hy, hy', ← f2]
  exact H.2 x y' hx f1
/-- the board moved so is the other one -/
def Eq2 (m : MoS) (hs ot : Int64) (x y : Nat) : Prop := ∃ r, f_X7_moved m hs (nI x) (nI y) = some r ∧ ot = r
theorem eq2_ok {m : MoS} {w h : Nat} {rd : Bool} (hW : WH w h) (hM : MOK m w h rd) {c0 hs co ho : Int64} (R0 : RelB w h c0 hs) (Ro : RelB w h co ho) {x y : Nat} (hx : x < w) (hy : y < h) {c : Int64} (H : Mv w h x y c0 c) : (c = co ↔ Eq2 m hs ho x y) := by
  obtain ⟨r, e1, e2, e3⟩ := mo_ok hW hM hs hx hy
  have hR : RelB w h c r := ⟨fun X Y hX hY => by rw [H.2 X Y hX hY, e3 X Y hX hY]; exact R0.1 _ _ (sh_lt hX hx) (sh_lt hY hy), H.1, e2⟩
  have hi := RelB_inj hW hR Ro
  constructor
  · intro z
    exact ⟨r, e1, (hi.mp z).symm⟩
  · rintro ⟨r', f1, f2⟩
    obtain rfl : r = r' := Option.some.inj (e1.symm.trans f1)
    exact hi.mpr f2.symm
theorem xy0 (x y : Nat) (hx : x < 9) (hy : y < 9) : (nI x + nI y ≤ 0) ↔ x + y = 0 := by
  rw [nI_add]
  have := nI_leI (a := x + y) (b := 0) (by omega) (by decide)
  have h0 : nI 0 = 0 := rfl
  rw [h0] at this
  rw [this]
  omega
theorem mb_i {g : GrS} {m : MoS} {w h : Nat} (hW : WH w h) (hG : GOK g w h true) (hM : MOK m w h true) {c0 hs co ho : Int64} (R0 : RelB w h c0 hs) (Ro : RelB w h co ho) {y : Nat} (hy : y < h) : ∀ (nf x : Nat) (c : Int64), x ≤ w → w - x < nf → Mv w h x y c0 c → (lp_X3_moveBetween_22 g co (nI y) nf c (nI x) = some (.inl ()) ∧ ∀ X, x ≤ X → X < w → (X + y = 0 ∨ ¬ Eq2 m hs ho X y)) ∨ ∃ X, x ≤ X ∧ X < w ∧ 0 < X + y ∧ Eq2 m hs ho X y ∧ (∀ Z, x ≤ Z → Z < X → (Z + y = 0 ∨ ¬ Eq2 m hs ho Z y)) ∧ lp_X3_moveBetween_22 g co (nI y) nf c (nI x) = some (.inr (nI (8 * y + X)))
  | 0, _, _, _, hh, _ => absurd hh (Nat.not_lt_zero _)
  | nf + 1, x, c, hx, hh, H => by
    have w8 := hW.2.1
    have h8 := hW.2.2.2
    rw [lp_X3_moveBetween_22.eq_2, hG.1]
    by_cases q : w ≤ x
    · rw [if_pos ((nI_leI (by omega) (by omega)).mpr q)]
      exact Or.inl ⟨rfl, fun X _ _ => by omega⟩
    · rw [if_neg (fun z => q ((nI_leI (by omega) (by omega)).mp z)), nI_1]
      have hx' : x < w := by omega
      have he := eq2_ok hW hM R0 Ro hx' hy H
      have go : (x + y = 0 ∨ ¬ Eq2 m hs ho x y) → ((lp_X3_moveBetween_22 g co (nI y) nf (f_X3_right g c) (nI (x + 1)) = some (.inl ()) ∧ ∀ X, x ≤ X → X < w → (X + y = 0 ∨ ¬ Eq2 m hs ho X y)) ∨ ∃ X, x ≤ X ∧ X < w ∧ 0 < X + y ∧ Eq2 m hs ho X y ∧ (∀ Z, x ≤ Z → Z < X → (Z + y = 0 ∨ ¬ Eq2 m hs ho Z y)) ∧ lp_X3_moveBetween_22 g co (nI y) nf (f_X3_right g c) (nI (x + 1)) = some (.inr (nI (8 * y + X)))) := by
        intro h0
        rcases mb_i hW hG hM R0 Ro hy nf (x + 1) _ (by omega) (by omega) (Mv_r hW hG hx' H) with ⟨e1, e2⟩ | ⟨X, e1, e2, e3, e4, e5, e6⟩
        · refine Or.inl ⟨e1, fun X h1 h2 => ?_⟩
          by_cases e : X = x
          · rw [e]; exact h0
          · exact e2 X (by omega) h2
        · refine Or.inr ⟨X, by omega, e2, e3, e4, fun Z h1 h2 => ?_, e6⟩
          by_cases e : Z = x
          · rw [e]; exact h0
          · exact e5 Z (by omega) h2
      by_cases c1 : c = co
      · rw [if_pos c1]
        by_cases c2 : x + y = 0
        · rw [if_pos ((xy0 x y (by omega) (by omega)).mpr c2)]
          exact go (Or.inl c2)
        · rw [if_neg (fun z => c2 ((xy0 x y (by omega) (by omega)).mp z))]
          refine Or.inr ⟨x, Nat.le_refl x, hx', by omega, he.mp c1, fun Z h1 h2 => by omega, ?_⟩
          rw [show (8 : Int32) * nI y + nI x = nI (8 * y + x) by rw [show (8 : Int32) = nI 8 from rfl, pk_mul, nI_add]]
      · rw [if_neg c1]
        exact go (Or.inr (fun z => c1 (he.mpr z)))
theorem mb_o {g : GrS} {m : MoS} {w h : Nat} (hW : WH w h) (hG : GOK g w h true) (hM : MOK m w h true) {c0 hs co ho : Int64} (R0 : RelB w h c0 hs) (Ro : RelB w h co ho) : ∀ (nf y : Nat) (c : Int64), y ≤ h → h - y < nf → Mv w h 0 y c0 c → (lp_X3_moveBetween_6 g co nf c (nI y) = some (-1) ∧ ∀ X Y, X < w → y ≤ Y → Y < h → (X + Y = 0 ∨ ¬ Eq2 m hs ho X Y)) ∨ ∃ X Y, X < w ∧ y ≤ Y ∧ Y < h ∧ 0 < X + Y ∧ Eq2 m hs ho X Y ∧ (∀ A B, A < w → y ≤ B → w * B + A < w * Y + X → (A + B = 0 ∨ ¬ Eq2 m hs ho A B)) ∧ lp_X3_moveBetween_6 g co nf c (nI y) = some (nI (8 * Y + X))
  | 0, _, _, _, hh, _ => absurd hh (Nat.not_lt_zero _)
  | nf + 1, y, c, hy, hh, H => by
    have w8 := hW.2.1
    have h8 := hW.2.2.2
    rw [lp_X3_moveBetween_6.eq_2, hG.2.1]
    by_cases q : h ≤ y
    · rw [if_pos ((nI_leI (by omega) (by omega)).mpr q)]
      exact Or.inl ⟨rfl, fun X Y _ _ _ => by omega⟩
    · rw [if_neg (fun z => q ((nI_leI (by omega) (by omega)).mp z)), nI_1]
      have h0 : nI 0 = 0 := rfl
      have ordl : ∀ {A B X Y : Nat}, A < w → X < w → w * B + A < w * Y + X → B < Y ∨ (B = Y ∧ A < X) := by
        intro A B X Y hA hX hlt
        rcases Nat.lt_trichotomy B Y with z | z | z
        · exact Or.inl z
        · rw [z] at hlt
          exact Or.inr ⟨z, by omega⟩
        · have : w * (Y + 1) ≤ w * B := Nat.mul_le_mul_left w z
          rw [Nat.mul_add, Nat.mul_one] at this
          omega
      rcases mb_i hW hG hM R0 Ro (y := y) (by omega) 100 0 c (Nat.zero_le _) (by omega) H with ⟨e1, e2⟩ | ⟨X, e1, e2, e3, e4, e5, e6⟩
      · rw [h0] at e1
        rw [e1]
        show (lp_X3_moveBetween_6 g co nf (f_X3_down g c) (nI (y + 1)) = some (-1) ∧ _) ∨ _
        rcases mb_o hW hG hM R0 Ro nf (y + 1) _ (by omega) (by omega) (Mv_d hW hG (by omega) H) with ⟨f1, f2⟩ | ⟨X, Y, f1, f2, f3, f4, f5, f6, f7⟩
        · refine Or.inl ⟨f1, fun X Y h1 h2 h3 => ?_⟩
          by_cases e : Y = y
          · rw [e]; exact e2 X (Nat.zero_le _) h1
          · exact f2 X Y h1 (by omega) h3
        · refine Or.inr ⟨X, Y, f1, by omega, f3, f4, f5, fun A B h1 h2 h3 => ?_, f7⟩
          by_cases e : B = y
          · rw [e]; exact e2 A (Nat.zero_le _) h1
          · exact f6 A B h1 (by omega) h3
      · rw [h0] at e6
        rw [e6]
        refine Or.inr ⟨X, y, e2, Nat.le_refl y, by omega, e3, e4, fun A B h1 h2 h3 => ?_, rfl⟩
        rcases ordl h1 e2 h3 with z | ⟨z, z'⟩
        · omega
        · rw [z]; exact e5 A (Nat.zero_le _) z'
theorem Mv_0 {w h : Nat} {c : Int64} (hc : InC w h c) : Mv w h 0 0 c c := ⟨hc, fun x y _ _ => by
  unfold sh
  rw [if_pos (Nat.zero_le _), if_pos (Nat.zero_le _), Nat.sub_zero, Nat.sub_zero]⟩
theorem gm_no {m : MoS} {w h : Nat} {rd : Bool} (hW : WH w h) (hM : MOK m w h rd) {wh : Int32} {u : Nat → Int64} {Y : Nat} (hY : Y ≤ 60) (H : ∀ A B, A < w → B < h → (A + B = 0 ∨ ¬ Eq2 (mz m 0) (u 0) (u Y) A B)) : ∀ (nf k : Nat), 1 ≤ k → k ≤ w * h → w * h - k < nf → lp_X7_glides_57 m wh u (nI Y) nf (nI k) = some (.inl ())
  | 0, _, _, _, hh => absurd hh (Nat.not_lt_zero _)
  | nf + 1, k, h1, hk, hh => by
    have h64 := wh_64 hW
    have w3 := hW.1
    have w8 := hW.2.1
    rw [lp_X7_glides_57.eq_2]
    have e0 : m.2.1 * m.2.2.1 = nI (w * h) := by rw [hM.1, hM.2.1, pk_mul]
    rw [e0]
    by_cases q : w * h ≤ k
    · rw [if_pos ((nI_leI (by omega) (by omega)).mpr q)]
    · have nz1 : ¬ m.2.1 = 0 := by
        rw [hM.1]
        exact fun z => by
          have := (nI_eq (b := 0) (by omega) (by decide)).mp z
          omega
      obtain ⟨kx, ky, kk⟩ := k_xy (w := w) (h := h) (k := k) (by omega) (by omega)
      have hk0 : ¬ k % w + k / w = 0 := fun z => by
        obtain ⟨z1, z2⟩ := Nat.add_eq_zero_iff.mp z
        rw [z1, z2] at kk
        omega
      have d1 : nI k - nI k / m.2.1 * m.2.1 = nI (k % w) := by rw [hM.1]; exact pk_rem (by omega) (by omega) (by omega)
      have d2 : nI k / m.2.1 = nI (k / w) := by rw [hM.1]; exact pk_div (by omega) (by omega) (by omega)
      obtain ⟨r, f1, -⟩ := mo_ok hW (m := mz m 0) hM (u 0) kx ky
      have hne : ¬ u Y = r := fun z => by
        rcases H _ _ kx ky with q | q
        · exact hk0 q
        · exact q ⟨r, f1, z⟩
      rw [if_neg (fun z => q ((nI_leI (by omega) (by omega)).mp z)), if_neg (l_out (by omega) (by decide)), if_neg (show ¬ ((0 : Int32) < 0 ∨ 61 ≤ (0 : Int32).toNatClampNeg) from by decide), if_neg nz1, if_neg nz1, l_toN (by omega), d1, d2, nI_1]
      have f1' : f_X7_moved (0, m.2.1, m.2.2.1, m.2.2.2.1, m.2.2.2.2.1, m.2.2.2.2.2) (u (0 : Int32).toNatClampNeg) (nI (k % w)) (nI (k / w)) = some r := f1
      rw [f1', Option.bind_some, if_neg hne]
      exact gm_no hW hM hY H nf (k + 1) (by omega) (by omega) (by omega)
theorem gm_yes {m : MoS} {w h : Nat} {rd : Bool} (hW : WH w h) (hM : MOK m w h rd) {wh : Int32} {u : Nat → Int64} {Y : Nat} (hY : Y ≤ 60) {X0 Y0 : Nat} (hX : X0 < w) (hY0 : Y0 < h) (hE : Eq2 (mz m 0) (u 0) (u Y) X0 Y0) (H : ∀ A B, A < w → w * B + A < w * Y0 + X0 → (A + B = 0 ∨ ¬ Eq2 (mz m 0) (u 0) (u Y) A B)) : ∀ (nf k : Nat), 1 ≤ k → k ≤ w * Y0 + X0 → w * h - k < nf → lp_X7_glides_57 m wh u (nI Y) nf (nI k) = some (.inr (if wh = 0 then nI Y else if wh = 1 then nI X0 else nI Y0, mz m 0, u))
  | 0, _, _, _, hh => absurd hh (Nat.not_lt_zero _)
  | nf + 1, k, h1, hk, hh => by
    have h64 := wh_64 hW
    have w3 := hW.1
    have w8 := hW.2.1
    have hlt := lt_wh hX hY0
    rw [lp_X7_glides_57.eq_2]
    have e0 : m.2.1 * m.2.2.1 = nI (w * h) := by rw [hM.1, hM.2.1, pk_mul]
    rw [e0]
    have nz1 : ¬ m.2.1 = 0 := by
      rw [hM.1]
      exact fun z => by
        have := (nI_eq (b := 0) (by omega) (by decide)).mp z
        omega
    obtain ⟨kx, ky, kk⟩ := k_xy (w := w) (h := h) (k := k) (by omega) (by omega)
    have hk0 : ¬ k % w + k / w = 0 := fun z => by
      obtain ⟨z1, z2⟩ := Nat.add_eq_zero_iff.mp z
      rw [z1, z2] at kk
      omega
    have d1 : nI k - nI k / m.2.1 * m.2.1 = nI (k % w) := by rw [hM.1]; exact pk_rem (by omega) (by omega) (by omega)
    have d2 : nI k / m.2.1 = nI (k / w) := by rw [hM.1]; exact pk_div (by omega) (by omega) (by omega)
    obtain ⟨r, f1, -⟩ := mo_ok hW (m := mz m 0) hM (u 0) kx ky
    rw [if_neg (fun z => by
      have := (nI_leI (by omega) (by omega)).mp z
      omega), if_neg (l_out (by omega) (by decide)), if_neg (show ¬ ((0 : Int32) < 0 ∨ 61 ≤ (0 : Int32).toNatClampNeg) from by decide), if_neg nz1, if_neg nz1, if_neg nz1, if_neg nz1, l_toN (by omega), d1, d2, nI_1]
    have f0 := f1
    have f1' : f_X7_moved (0, m.2.1, m.2.2.1, m.2.2.2.1, m.2.2.2.2.1, m.2.2.2.2.2) (u (0 : Int32).toNatClampNeg) (nI (k % w)) (nI (k / w)) = some r := f1
    rw [f1', Option.bind_some]
    by_cases e : k = w * Y0 + X0
    · obtain ⟨g1, g2⟩ := cell_inj kx hX (kk.trans e)
      obtain ⟨r', g3, g4⟩ := hE
      rw [g1, g2] at f0
      obtain rfl : r = r' := Option.some.inj (f0.symm.trans g3)
      rw [if_pos g4, g1, g2]
      by_cases c0 : wh = 0
      · rw [if_pos c0, if_pos c0]
      · rw [if_neg c0, if_neg c0]
        by_cases c1 : wh = 1
        · rw [if_pos c1, if_pos c1]
        · rw [if_neg c1, if_neg c1]
    · have hne : ¬ u Y = r := fun z => by
        rcases H _ _ kx (show w * (k / w) + k % w < w * Y0 + X0 by omega) with q | q
        · exact hk0 q
        · exact q ⟨r, f0, z⟩
      rw [if_neg hne]
      exact gm_yes hW hM hY hX hY0 hE H nf (k + 1) (by omega) (by omega) (by omega)
theorem mvx (x y : Nat) (hx : x < 8) (hy : y < 8) : f_X3_moveX (nI (8 * y + x)) = nI x ∧ f_X3_moveY (nI (8 * y + x)) = nI y := by
  have t : ∀ y, y < 8 → ∀ x, x < 8 → (f_X3_moveX (nI (8 * y + x)) = nI x ∧ f_X3_moveY (nI (8 * y + x)) = nI y) := by decide +kernel
  exact t y hy x hx
theorem gl_l {g : GrS} {m : MoS} {r : RuS} {w h : Nat} (hW : WH w h) (hG : GOK g w h true) (hM : MOK m w h true) {fR : Nat → Int64} {d : GaS} {hs : Int64} (sq : ∀ j, RelB w h (sqC g r d.1 j) (sqM (mz m 0) fR hs j) ∧ f_X4_behindYears r g (sqC g r d.1 j) 1 = some (sqC g r d.1 (j + 1)) ∧ f_X7_next (mz m 0) fR (sqM (mz m 0) fR hs j) = some (sqM (mz m 0) fR hs (j + 1))) {wh : Int32} {u : Nat → Int64} (hu : ∀ j, j ≤ 30 → u j = sqM (mz m 0) fR hs j) : ∀ (nf k : Nat), k ≤ 30 → 30 - k + 1 < nf → ∃ z, lp_X5_glides_52 g r d wh nf (sqC g r d.1 k) (nI (k + 1)) = some (.inl z) ∧ lp_X7_glides_49 m wh u nf (nI (k + 1)) = some (z, mz m 0, u)
  | 0, _, _, hh => absurd hh (Nat.not_lt_zero _)
  | nf + 1, k, hk, hh => by
    have h64 := wh_64 hW
    have w3 := hW.1
    have w8 := hW.2.1
    have h3 := hW.2.2.1
    have h8 := hW.2.2.2
    rw [lp_X5_glides_52.eq_2, lp_X7_glides_49.eq_2]
    by_cases q : 30 < k + 1
    · rw [if_pos (show (30 : Int32) < nI (k + 1) from (nI_ltI (a := 30) (by decide) (by omega)).mpr q), if_pos (show (30 : Int32) < nI (k + 1) from (nI_ltI (a := 30) (by decide) (by omega)).mpr q)]
      exact ⟨_, rfl, rfl⟩
    · have qn : ¬ (30 : Int32) < nI (k + 1) := fun z => q ((nI_ltI (a := 30) (by decide) (by omega)).mp z)
      have hd : f_X2_hedges d = sqC g r d.1 0 := rfl
      rw [if_neg qn, if_neg qn, (sq k).2.1, Option.bind_some, hd]
      have h0 : nI 0 = 0 := rfl
      have u0 : u 0 = sqM (mz m 0) fR hs 0 := hu 0 (by omega)
      have uk : u (k + 1) = sqM (mz m 0) fR hs (k + 1) := hu (k + 1) (by omega)
      have inner : lp_X7_glides_57 m wh u (nI (k + 1)) 100 1 = lp_X7_glides_57 m wh u (nI (k + 1)) 100 (nI 1) := rfl
      rcases mb_o hW hG (m := mz m 0) hM (sq 0).1 (sq (k + 1)).1 100 0 (sqC g r d.1 0) (Nat.zero_le _) (by omega) (Mv_0 (sq 0).1.2.1) with ⟨e1, e2⟩ | ⟨X, Y, e1, -, e3, e4, e5, e6, e7⟩
      · rw [h0] at e1
        rw [show f_X3_moveBetween g (sqC g r d.1 0) (sqC g r d.1 (k + 1)) = some (-1) from e1, Option.bind_some, if_pos (show (-1 : Int32) ≤ 0 by decide)]
        rw [inner, gm_no hW hM (by omega) (fun A B h1 h2 => by rw [u0, uk]; exact e2 A B h1 (Nat.zero_le _) h2) 100 1 (Nat.le_refl 1) (by
          have : 3 * 3 ≤ w * h := Nat.mul_le_mul w3 h3
          omega) (by omega), nI_1]
        exact gl_l hW hG hM sq hu nf (k + 1) (by omega) (by omega)
      · rw [h0] at e7
        have hpos : ¬ nI (8 * Y + X) ≤ 0 := fun z => by
          have := (nI_leI (a := 8 * Y + X) (b := 0) (by omega) (by decide)).mp z
          omega
        rw [show f_X3_moveBetween g (sqC g r d.1 0) (sqC g r d.1 (k + 1)) = some (nI (8 * Y + X)) from e7, Option.bind_some, if_neg hpos]
        have hK : 1 ≤ w * Y + X := by
          rcases Nat.eq_zero_or_pos Y with z | z
          · rw [z]; omega
          · have : w * 1 ≤ w * Y := Nat.mul_le_mul_left w z
            omega
        rw [inner, gm_yes hW hM (wh := wh) (by omega) e1 e3 (by rw [u0, uk]; exact e5) (fun A B h1 h2 => by rw [u0, uk]; exact e6 A B h1 (Nat.zero_le _) h2) 100 1 (Nat.le_refl 1) hK (by omega)]
        refine ⟨_, rfl, ?_⟩
        obtain ⟨x1, x2⟩ := mvx X Y (by omega) (by omega)
        unfold f_X5_glideFact
        rw [x1, x2]
        rfl
theorem o_glides {w h : Nat} {rd : Bool} {g : GrS} {r : RuS} {d : GaS} {a : Nat → Int32} {m : MoS} {fR fB : Nat → Int64} {s : StS} {a' : Nat → Int32} (H : WR w h rd g r d a m fR fB s a') (fD : Nat → Int64) (wh : Int32) : (∃ z u, f_X5_glides g r d wh = some (.inl z) ∧ f_X7_glides m fR s fD wh = some (z, mz m 0, u)) ∨ (f_X5_glides g r d wh = some (.inr "java/lang/IndexOutOfBoundsException") ∧ f_X7_glides m fR s fD wh = some (0, mz m 1, fD)) := by
  obtain ⟨hW, hG, hM, hr, hT, R⟩ := H
  unfold f_X5_glides f_X7_glides
  by_cases c1 : wh < 0
  · right
    rw [if_pos c1, if_pos (isIn_f (Or.inl c1))]
    exact ⟨rfl, rfl⟩
  rw [if_neg c1]
  by_cases c2 : wh ≤ 2
  · left
    rw [if_pos c2, if_neg (isIn_t c1 (fun z => nlt_le.mpr c2 z))]
    rw [show f_X3_isRound g = bI rd by unfold f_X3_isRound; rw [hG.2.2.1]]
    have hb : bI m.2.2.2.1 = bI rd := congrArg bI hM.2.2
    cases rd with
    | false =>
      rw [if_pos bI_f, if_pos (hb.trans bI_f)]
      exact ⟨_, _, rfl, rfl⟩
    | true =>
      rw [if_neg bI_t, if_neg (fun z => bI_t (hb.symm.trans z))]
      have hz : f_X2_size d = 0 ↔ s.2.2.2 = 0 := by
        rw [← RelB_z hW R.1, show f_X2_size d = f_J13_bitCount_95d88 d.1 from rfl, bc_pc]
        have hp := pc_le d.1
        have hpos := pc_pos (x := d.1)
        have h0 : nI 0 = 0 := rfl
        rw [← h0, nI_eq (by omega) (by decide)]
        constructor
        · intro z
          apply Classical.byContradiction
          intro q
          have := hpos.mpr q
          omega
        · intro z
          apply Classical.byContradiction
          intro q
          exact hpos.mp (by omega) z
      by_cases c3 : s.2.2.2 = 0
      · rw [if_pos c3, if_pos (hz.mpr c3)]
        exact ⟨_, _, rfl, rfl⟩
      · rw [if_neg c3, if_neg (fun z => c3 (hz.mp z))]
        have sq := sq_ok hW hG (m := mz m 0) hM hr hT R.1
        obtain ⟨u, u1, u2⟩ := loo_ok (m := mz m 0) (fR := fR) (s := s) (fun j => (sq j).2.2) (Y := 30) (by decide) fD
        have u1' : f_X7_look (0, m.2.1, m.2.2.1, m.2.2.2.1, m.2.2.2.2.1, m.2.2.2.2.2) fR s fD 30 = some u := u1
        obtain ⟨z, e1, e2⟩ := gl_l hW hG hM sq (wh := wh) (u := u) u2 100 0 (by decide) (by decide)
        rw [u1', Option.bind_some]
        exact ⟨z, u, e1, e2⟩
  · right
    rw [if_neg c2, if_pos (isIn_f (Or.inr (Classical.byContradiction fun z => c2 (nlt_le.mp z))))]
    exact ⟨rfl, rfl⟩
