/-! ===== gardens as boards: the class's bit 8 y + x, the model's bit w y + x ===== -/
def WH (w h : Nat) : Prop := 3 ≤ w ∧ w ≤ 8 ∧ 3 ≤ h ∧ h ≤ 8
def BC (c : Int64) (x y : Nat) : Bool := cb c (8 * y + x)
def BM (w : Nat) (m : Int64) (x y : Nat) : Bool := cb m (w * y + x)
def InC (w h : Nat) (c : Int64) : Prop := ∀ i, cb c i = true → i % 8 < w ∧ i / 8 < h
def InM (w h : Nat) (m : Int64) : Prop := ∀ k, cb m k = true → k < w * h
def RelB (w h : Nat) (c m : Int64) : Prop := (∀ x y, x < w → y < h → BC c x y = BM w m x y) ∧ InC w h c ∧ InM w h m
/-- the next place, and the one before, on a side of so many -/
def nxt (w : Nat) (rd : Bool) (x : Nat) : Option Nat := if x + 1 < w then some (x + 1) else if rd then some 0 else none
def prv (w : Nat) (rd : Bool) (x : Nat) : Option Nat := if 0 < x then some (x - 1) else if rd then some (w - 1) else none
def og (f : Nat → Nat → Bool) (a b : Option Nat) : Bool := match a, b with
  | some x, some y => f x y
  | _, _ => false
def GOK (g : GrS) (w h : Nat) (rd : Bool) : Prop := g.1 = nI w ∧ g.2.1 = nI h ∧ g.2.2.1 = rd ∧ ∀ i, i < 64 → cb g.2.2.2.1 i = decide (i % 8 < w ∧ i / 8 < h) ∧ cb g.2.2.2.2.1 i = decide (i % 8 = 0 ∧ i / 8 < h) ∧ cb g.2.2.2.2.2.1 i = decide (i % 8 + 1 = w ∧ i / 8 < h) ∧ cb g.2.2.2.2.2.2.1 i = decide (i / 8 = 0 ∧ i % 8 < w) ∧ cb g.2.2.2.2.2.2.2 i = decide (i / 8 + 1 = h ∧ i % 8 < w)
theorem bI_t : ¬ bI true = 0 := by decide
theorem bI_f : bI false = 0 := by decide
theorem left_ok {g : GrS} {w h : Nat} {rd : Bool} (hW : WH w h) (hG : GOK g w h rd) {c : Int64} (hc : InC w h c) : InC w h (f_X3_left g c) ∧ ∀ x y, x < w → y < h → BC (f_X3_left g c) x y = og (BC c) (nxt w rd x) (some y) := by
  obtain ⟨g1, g2, g3, gm⟩ := hG
  obtain ⟨w3, w8, h3, h8⟩ := hW
  have b1 : ∀ i, i < 64 → cb (jushr (c &&& (g.2.2.2.2.1 ^^^ (-1))) 1) i = (cb c (1 + i) && decide (¬ (1 + i) % 8 = 0)) := fun i hi => by
    have e : cb (jushr (c &&& (g.2.2.2.2.1 ^^^ (-1))) 1) i = cb (c &&& (g.2.2.2.2.1 ^^^ (-1))) (1 + i) := cb_ushr (k := 1) _ (by decide) i
    rw [e, cb_and]
    rcases Nat.lt_or_ge (1 + i) 64 with q | q
    · rw [cb_not q, (gm _ q).2.1]
      cases hb : cb c (1 + i) with
      | false => rfl
      | true =>
        have := hc _ hb
        by_cases z : (1 + i) % 8 = 0
        · rw [decide_eq_true ⟨z, this.2⟩, decide_eq_false (by omega)]; rfl
        · rw [decide_eq_false (fun q => z q.1), decide_eq_true z]; rfl
    · rw [cb_big q]; rfl
  have b2 : ∀ i, i < 64 → cb (jshl (c &&& g.2.2.2.2.1) (g.1 - 1)) i = (decide (w - 1 ≤ i) && (cb c (i - (w - 1)) && decide ((i - (w - 1)) % 8 = 0))) := fun i hi => by
    have e1 : g.1 - 1 = nI (w - 1) := by rw [g1]; exact pk_sub (a := w) (b := 1) (by omega)
    rw [e1, cb_shl _ (by omega) hi, cb_and]
    congr 1
    rw [(gm _ (show i - (w - 1) < 64 by omega)).2.1]
    cases hb : cb c (i - (w - 1)) with
    | false => rfl
    | true =>
      have := hc _ hb
      by_cases z : (i - (w - 1)) % 8 = 0
      · rw [decide_eq_true ⟨z, this.2⟩, decide_eq_true z]
      · rw [decide_eq_false (fun q => z q.1), decide_eq_false z]
  have bb : ∀ i, i < 64 → cb (f_X3_left g c) i = ((cb c (1 + i) && decide (¬ (1 + i) % 8 = 0)) || (rd && (decide (w - 1 ≤ i) && (cb c (i - (w - 1)) && decide ((i - (w - 1)) % 8 = 0))))) := fun i hi => by
    unfold f_X3_left
    rw [g3]
    cases rd with
    | false => rw [if_pos bI_f, b1 i hi]; simp
    | true => rw [if_neg bI_t, cb_or, b1 i hi, b2 i hi]; simp
  refine ⟨fun i hi => ?_, fun x y hx hy => ?_⟩
  · have hl := cb_lt hi
    rw [bb i hl] at hi
    simp only [Bool.or_eq_true, Bool.and_eq_true, decide_eq_true_eq] at hi
    rcases hi with ⟨h1, h2⟩ | ⟨-, h1, h2, h4⟩
    · have := hc _ h1
      omega
    · have := hc _ h2
      omega
  · unfold BC
    rw [bb _ (by omega)]
    unfold nxt
    by_cases q : x + 1 < w
    · rw [if_pos q]
      show _ = cb c (8 * y + (x + 1))
      rw [decide_eq_true (show ¬ (1 + (8 * y + x)) % 8 = 0 by omega), Bool.and_true, show 1 + (8 * y + x) = 8 * y + (x + 1) by omega]
      have : (rd && (decide (w - 1 ≤ 8 * y + x) && (cb c (8 * y + x - (w - 1)) && decide ((8 * y + x - (w - 1)) % 8 = 0)))) = false := by
        by_cases z : w - 1 ≤ 8 * y + x
        · rw [decide_eq_false (show ¬ (8 * y + x - (w - 1)) % 8 = 0 by omega)]; simp
        · rw [decide_eq_false z]; simp
      rw [this, Bool.or_false]
    · rw [if_neg q]
      have e : x = w - 1 := by omega
      have h0 : (cb c (1 + (8 * y + x)) && decide (¬ (1 + (8 * y + x)) % 8 = 0)) = false := by
        cases hb : cb c (1 + (8 * y + x)) with
        | false => rfl
        | true =>
          have := hc _ hb
          rw [decide_eq_false (by omega)]; rfl
      rw [h0, Bool.false_or]
      cases rd with
      | false => rfl
      | true =>
        show _ = cb c (8 * y + 0)
        rw [decide_eq_true (show w - 1 ≤ 8 * y + x by omega), show 8 * y + x - (w - 1) = 8 * y by omega, decide_eq_true (show 8 * y % 8 = 0 by omega)]
        simp
theorem right_ok {g : GrS} {w h : Nat} {rd : Bool} (hW : WH w h) (hG : GOK g w h rd) {c : Int64} (hc : InC w h c) : InC w h (f_X3_right g c) ∧ ∀ x y, x < w → y < h → BC (f_X3_right g c) x y = og (BC c) (prv w rd x) (some y) := by
  obtain ⟨g1, g2, g3, gm⟩ := hG
  obtain ⟨w3, w8, h3, h8⟩ := hW
  have b1 : ∀ i, i < 64 → cb (jshl (c &&& (g.2.2.2.2.2.1 ^^^ (-1))) 1) i = (decide (1 ≤ i) && (cb c (i - 1) && decide (¬ (i - 1) % 8 + 1 = w))) := fun i hi => by
    have e : cb (jshl (c &&& (g.2.2.2.2.2.1 ^^^ (-1))) 1) i = (decide (1 ≤ i) && cb (c &&& (g.2.2.2.2.2.1 ^^^ (-1))) (i - 1)) := cb_shl (k := 1) _ (by decide) hi
    rw [e, cb_and]
    congr 1
    rw [cb_not (by omega), (gm _ (show i - 1 < 64 by omega)).2.2.1]
    cases hb : cb c (i - 1) with
    | false => rfl
    | true =>
      have := hc _ hb
      by_cases z : (i - 1) % 8 + 1 = w
      · rw [decide_eq_true ⟨z, this.2⟩, decide_eq_false (by omega)]; rfl
      · rw [decide_eq_false (fun q => z q.1), decide_eq_true z]; rfl
  have b2 : ∀ i, i < 64 → cb (jushr (c &&& g.2.2.2.2.2.1) (g.1 - 1)) i = (cb c ((w - 1) + i) && decide (((w - 1) + i) % 8 + 1 = w)) := fun i hi => by
    have e1 : g.1 - 1 = nI (w - 1) := by rw [g1]; exact pk_sub (a := w) (b := 1) (by omega)
    rw [e1, cb_ushr _ (by omega), cb_and]
    rcases Nat.lt_or_ge ((w - 1) + i) 64 with q | q
    · rw [(gm _ q).2.2.1]
      cases hb : cb c ((w - 1) + i) with
      | false => rfl
      | true =>
        have := hc _ hb
        by_cases z : ((w - 1) + i) % 8 + 1 = w
        · rw [decide_eq_true ⟨z, this.2⟩, decide_eq_true z]
        · rw [decide_eq_false (fun q => z q.1), decide_eq_false z]
    · rw [cb_big q]; rfl
  have bb : ∀ i, i < 64 → cb (f_X3_right g c) i = ((decide (1 ≤ i) && (cb c (i - 1) && decide (¬ (i - 1) % 8 + 1 = w))) || (rd && (cb c ((w - 1) + i) && decide (((w - 1) + i) % 8 + 1 = w)))) := fun i hi => by
    unfold f_X3_right
    rw [g3]
    cases rd with
    | false => rw [if_pos bI_f, b1 i hi]; simp
    | true => rw [if_neg bI_t, cb_or, b1 i hi, b2 i hi]; simp
  refine ⟨fun i hi => ?_, fun x y hx hy => ?_⟩
  · have hl := cb_lt hi
    rw [bb i hl] at hi
    simp only [Bool.or_eq_true, Bool.and_eq_true, decide_eq_true_eq] at hi
    rcases hi with ⟨h1, h2, h4⟩ | ⟨-, h2, h4⟩
    · have := hc _ h2
      omega
    · have := hc _ h2
      omega
  · unfold BC
    rw [bb _ (by omega)]
    unfold prv
    by_cases q : 0 < x
    · rw [if_pos q]
      show _ = cb c (8 * y + (x - 1))
      rw [decide_eq_true (show 1 ≤ 8 * y + x by omega), decide_eq_true (show ¬ (8 * y + x - 1) % 8 + 1 = w by omega), Bool.and_true, Bool.true_and, show 8 * y + x - 1 = 8 * y + (x - 1) by omega]
      have : (rd && (cb c ((w - 1) + (8 * y + x)) && decide (((w - 1) + (8 * y + x)) % 8 + 1 = w))) = false := by
        cases hb : cb c ((w - 1) + (8 * y + x)) with
        | false => simp
        | true =>
          have := hc _ hb
          rw [decide_eq_false (by omega)]; simp
      rw [this, Bool.or_false]
    · rw [if_neg q]
      have e : x = 0 := by omega
      have h0 : (decide (1 ≤ 8 * y + x) && (cb c (8 * y + x - 1) && decide (¬ (8 * y + x - 1) % 8 + 1 = w))) = false := by
        by_cases z : 1 ≤ 8 * y + x
        · cases hb : cb c (8 * y + x - 1) with
          | false => simp
          | true =>
            have := hc _ hb
            rw [decide_eq_false (show ¬ ¬ (8 * y + x - 1) % 8 + 1 = w by omega)]; simp
        · rw [decide_eq_false z]; rfl
      rw [h0, Bool.false_or]
      cases rd with
      | false => rfl
      | true =>
        show _ = cb c (8 * y + (w - 1))
        rw [show (w - 1) + (8 * y + x) = 8 * y + (w - 1) by omega, decide_eq_true (show (8 * y + (w - 1)) % 8 + 1 = w by omega)]
        simp
theorem up_ok {g : GrS} {w h : Nat} {rd : Bool} (hW : WH w h) (hG : GOK g w h rd) {c : Int64} (hc : InC w h c) : InC w h (f_X3_up g c) ∧ ∀ x y, x < w → y < h → BC (f_X3_up g c) x y = og (BC c) (some x) (nxt h rd y) := by
  obtain ⟨g1, g2, g3, gm⟩ := hG
  obtain ⟨w3, w8, h3, h8⟩ := hW
  have b1 : ∀ i, i < 64 → cb (jushr (c &&& (g.2.2.2.2.2.2.1 ^^^ (-1))) 8) i = cb c (8 + i) := fun i hi => by
    have e : cb (jushr (c &&& (g.2.2.2.2.2.2.1 ^^^ (-1))) 8) i = cb (c &&& (g.2.2.2.2.2.2.1 ^^^ (-1))) (8 + i) := cb_ushr (k := 8) _ (by decide) i
    rw [e, cb_and]
    rcases Nat.lt_or_ge (8 + i) 64 with q | q
    · rw [cb_not q, (gm _ q).2.2.2.1, decide_eq_false (by omega)]; simp
    · rw [cb_big q]; rfl
  have b2 : ∀ i, i < 64 → cb (jshl (c &&& g.2.2.2.2.2.2.1) (8 * (g.2.1 - 1))) i = (decide (8 * (h - 1) ≤ i) && (cb c (i - 8 * (h - 1)) && decide ((i - 8 * (h - 1)) / 8 = 0))) := fun i hi => by
    have e1 : (8 : Int32) * (g.2.1 - 1) = nI (8 * (h - 1)) := by
      rw [g2]
      show nI 8 * (nI h - nI 1) = _
      rw [pk_sub (by omega), pk_mul]
    rw [e1, cb_shl _ (by omega) hi, cb_and]
    congr 1
    rw [(gm _ (show i - 8 * (h - 1) < 64 by omega)).2.2.2.1]
    cases hb : cb c (i - 8 * (h - 1)) with
    | false => rfl
    | true =>
      have := hc _ hb
      by_cases z : (i - 8 * (h - 1)) / 8 = 0
      · rw [decide_eq_true ⟨z, this.1⟩, decide_eq_true z]
      · rw [decide_eq_false (fun q => z q.1), decide_eq_false z]
  have bb : ∀ i, i < 64 → cb (f_X3_up g c) i = (cb c (8 + i) || (rd && (decide (8 * (h - 1) ≤ i) && (cb c (i - 8 * (h - 1)) && decide ((i - 8 * (h - 1)) / 8 = 0))))) := fun i hi => by
    unfold f_X3_up
    rw [g3]
    cases rd with
    | false => rw [if_pos bI_f, b1 i hi]; simp
    | true => rw [if_neg bI_t, cb_or, b1 i hi, b2 i hi]; simp
  refine ⟨fun i hi => ?_, fun x y hx hy => ?_⟩
  · have hl := cb_lt hi
    rw [bb i hl] at hi
    simp only [Bool.or_eq_true, Bool.and_eq_true, decide_eq_true_eq] at hi
    rcases hi with h1 | ⟨-, h1, h2, h4⟩
    · have := hc _ h1
      omega
    · have := hc _ h2
      omega
  · unfold BC
    rw [bb _ (by omega)]
    unfold nxt
    by_cases q : y + 1 < h
    · rw [if_pos q]
      show _ = cb c (8 * (y + 1) + x)
      rw [show 8 + (8 * y + x) = 8 * (y + 1) + x by omega]
      have : (rd && (decide (8 * (h - 1) ≤ 8 * y + x) && (cb c (8 * y + x - 8 * (h - 1)) && decide ((8 * y + x - 8 * (h - 1)) / 8 = 0)))) = false := by
        rw [decide_eq_false (show ¬ 8 * (h - 1) ≤ 8 * y + x by omega)]; simp
      rw [this, Bool.or_false]
    · rw [if_neg q]
      have e : y = h - 1 := by omega
      have h0 : cb c (8 + (8 * y + x)) = false := by
        cases hb : cb c (8 + (8 * y + x)) with
        | false => rfl
        | true =>
          have := hc _ hb
          omega
      rw [h0, Bool.false_or]
      cases rd with
      | false => rfl
      | true =>
        show _ = cb c (8 * 0 + x)
        rw [decide_eq_true (show 8 * (h - 1) ≤ 8 * y + x by omega), show 8 * y + x - 8 * (h - 1) = 8 * 0 + x by omega, decide_eq_true (show (8 * 0 + x) / 8 = 0 by omega)]
        simp
theorem down_ok {g : GrS} {w h : Nat} {rd : Bool} (hW : WH w h) (hG : GOK g w h rd) {c : Int64} (hc : InC w h c) : InC w h (f_X3_down g c) ∧ ∀ x y, x < w → y < h → BC (f_X3_down g c) x y = og (BC c) (some x) (prv h rd y) := by
  obtain ⟨g1, g2, g3, gm⟩ := hG
  obtain ⟨w3, w8, h3, h8⟩ := hW
  have b1 : ∀ i, i < 64 → cb (jshl (c &&& (g.2.2.2.2.2.2.2 ^^^ (-1))) 8) i = (decide (8 ≤ i) && (cb c (i - 8) && decide (¬ (i - 8) / 8 + 1 = h))) := fun i hi => by
    have e : cb (jshl (c &&& (g.2.2.2.2.2.2.2 ^^^ (-1))) 8) i = (decide (8 ≤ i) && cb (c &&& (g.2.2.2.2.2.2.2 ^^^ (-1))) (i - 8)) := cb_shl (k := 8) _ (by decide) hi
    rw [e, cb_and]
    congr 1
    rw [cb_not (by omega), (gm _ (show i - 8 < 64 by omega)).2.2.2.2]
    cases hb : cb c (i - 8) with
    | false => rfl
    | true =>
      have := hc _ hb
      by_cases z : (i - 8) / 8 + 1 = h
      · rw [decide_eq_true ⟨z, this.1⟩, decide_eq_false (by omega)]; rfl
      · rw [decide_eq_false (fun q => z q.1), decide_eq_true z]; rfl
  have b2 : ∀ i, i < 64 → cb (jushr (c &&& g.2.2.2.2.2.2.2) (8 * (g.2.1 - 1))) i = (cb c (8 * (h - 1) + i) && decide ((8 * (h - 1) + i) / 8 + 1 = h)) := fun i hi => by
    have e1 : (8 : Int32) * (g.2.1 - 1) = nI (8 * (h - 1)) := by
      rw [g2]
      show nI 8 * (nI h - nI 1) = _
      rw [pk_sub (by omega), pk_mul]
    rw [e1, cb_ushr _ (by omega), cb_and]
    rcases Nat.lt_or_ge (8 * (h - 1) + i) 64 with q | q
    · rw [(gm _ q).2.2.2.2]
      cases hb : cb c (8 * (h - 1) + i) with
      | false => rfl
      | true =>
        have := hc _ hb
        by_cases z : (8 * (h - 1) + i) / 8 + 1 = h
        · rw [decide_eq_true ⟨z, this.1⟩, decide_eq_true z]
        · rw [decide_eq_false (fun q => z q.1), decide_eq_false z]
    · rw [cb_big q]; rfl
  have bb : ∀ i, i < 64 → cb (f_X3_down g c) i = ((decide (8 ≤ i) && (cb c (i - 8) && decide (¬ (i - 8) / 8 + 1 = h))) || (rd && (cb c (8 * (h - 1) + i) && decide ((8 * (h - 1) + i) / 8 + 1 = h)))) := fun i hi => by
    unfold f_X3_down
    rw [g3]
    cases rd with
    | false => rw [if_pos bI_f, b1 i hi]; simp
    | true => rw [if_neg bI_t, cb_or, b1 i hi, b2 i hi]; simp
  refine ⟨fun i hi => ?_, fun x y hx hy => ?_⟩
  · have hl := cb_lt hi
    rw [bb i hl] at hi
    simp only [Bool.or_eq_true, Bool.and_eq_true, decide_eq_true_eq] at hi
    rcases hi with ⟨h1, h2, h4⟩ | ⟨-, h2, h4⟩
    · have := hc _ h2
      omega
    · have := hc _ h2
      omega
  · unfold BC
    rw [bb _ (by omega)]
    unfold prv
    by_cases q : 0 < y
    · rw [if_pos q]
      show _ = cb c (8 * (y - 1) + x)
      rw [decide_eq_true (show 8 ≤ 8 * y + x by omega), decide_eq_true (show ¬ (8 * y + x - 8) / 8 + 1 = h by omega), Bool.and_true, Bool.true_and, show 8 * y + x - 8 = 8 * (y - 1) + x by omega]
      have : (rd && (cb c (8 * (h - 1) + (8 * y + x)) && decide ((8 * (h - 1) + (8 * y + x)) / 8 + 1 = h))) = false := by
        rw [decide_eq_false (show ¬ (8 * (h - 1) + (8 * y + x)) / 8 + 1 = h by omega)]; simp
      rw [this, Bool.or_false]
    · rw [if_neg q]
      have h0 : (decide (8 ≤ 8 * y + x) && (cb c (8 * y + x - 8) && decide (¬ (8 * y + x - 8) / 8 + 1 = h))) = false := by
        rw [decide_eq_false (show ¬ 8 ≤ 8 * y + x by omega)]; rfl
      rw [h0, Bool.false_or]
      cases rd with
      | false => rfl
      | true =>
        show _ = cb c (8 * (h - 1) + x)
        rw [show 8 * (h - 1) + (8 * y + x) = 8 * (h - 1) + x by omega, decide_eq_true (show (8 * (h - 1) + x) / 8 + 1 = h by omega)]
        simp
