/-! ===== a year: both sides ===== -/
def cXq (w : Nat) (rd : Bool) (x a b : Nat) : Bool := (a == b) || (!((cX w rd x a).2 == (cX w rd x b).2)) || (cX w rd x a).2.isNone
theorem cX_d : ∀ v, v < 6 → ∀ x, x < v + 3 → ∀ a, a < 3 → ∀ b, b < 3 → cXq (v + 3) true x a b = true ∧ cXq (v + 3) false x a b = true := by decide +kernel
theorem cX_ne {w x a b : Nat} {rd : Bool} (hw : 3 ≤ w) (hw8 : w ≤ 8) (hx : x < w) (ha : a < 3) (hb : b < 3) (hab : a ≠ b) (h : (cX w rd x a).2 = (cX w rd x b).2) : (cX w rd x a).2 = none := by
  have k := cX_d (w - 3) (by omega) x (by omega) a ha b hb
  rw [Nat.sub_add_cancel hw] at k
  have k2 : cXq w rd x a b = true := by cases rd with
    | true => exact k.1
    | false => exact k.2
  unfold cXq at k2
  rw [h] at k2 ⊢
  simp [hab] at k2
  exact k2
theorem cX_lt {w x a : Nat} {rd : Bool} (hw : 3 ≤ w) (hx : x < w) (ha : a < 3) : ∀ x', (cX w rd x a).2 = some x' → x' < w := by
  intro x' e
  rcases (show a = 0 ∨ a = 1 ∨ a = 2 by omega) with rfl | rfl | rfl
  · exact prv_lt hw hx e
  · have : some x = some x' := e
    cases this; exact hx
  · exact nxt_lt hw e
theorem cell_inj {w x y x' y' : Nat} (hx : x < w) (hx' : x' < w) (h : w * y + x = w * y' + x') : x = x' ∧ y = y' := by
  have h1 : (w * y + x) % w = x := by rw [Nat.mul_add_mod, Nat.mod_eq_of_lt hx]
  have h2 : (w * y' + x') % w = x' := by rw [Nat.mul_add_mod, Nat.mod_eq_of_lt hx']
  have hw : 0 < w := by omega
  have h3 : (w * y + x) / w = y := by rw [Nat.mul_add_div hw, Nat.div_eq_of_lt hx, Nat.add_zero]
  have h4 : (w * y' + x') / w = y' := by rw [Nat.mul_add_div hw, Nat.div_eq_of_lt hx', Nat.add_zero]
  rw [h] at h1 h3
  exact ⟨h1.symm.trans h2, h3.symm.trans h4⟩
theorem cntN_0 {p : Nat → Bool} : ∀ {n : Nat}, (∀ i, i < n → p i = false) → cntN p n = 0
  | 0, _ => rfl
  | n + 1, h => by
    show cntN p n + (p n).toNat = 0
    rw [cntN_0 (fun i hi => h i (Nat.lt_succ_of_lt hi)), h n (Nat.lt_succ_self n)]
    rfl
theorem cntN_or {p q : Nat → Bool} : ∀ {n : Nat}, (∀ i, i < n → ¬ (p i = true ∧ q i = true)) → cntN (fun i => p i || q i) n = cntN p n + cntN q n
  | 0, _ => rfl
  | n + 1, h => by
    show cntN (fun i => p i || q i) n + (p n || q n).toNat = (cntN p n + (p n).toNat) + (cntN q n + (q n).toNat)
    rw [cntN_or (fun i hi => h i (Nat.lt_succ_of_lt hi))]
    have h1 := h n (Nat.lt_succ_self n)
    have h2 : (p n || q n).toNat = (p n).toNat + (q n).toNat := by
      revert h1
      cases p n <;> cases q n <;> simp
    omega
theorem cntN_one {p : Nat → Bool} {k : Nat} : ∀ {n : Nat}, cntN (fun j => p j && decide (j = k)) n = if k < n then (p k).toNat else 0
  | 0 => rfl
  | n + 1 => by
    show cntN (fun j => p j && decide (j = k)) n + (p n && decide (n = k)).toNat = _
    rw [cntN_one]
    rcases Nat.lt_trichotomy k n with h | h | h
    · rw [if_pos h, if_pos (by omega), decide_eq_false (by omega)]; simp
    · subst h
      rw [if_neg (Nat.lt_irrefl _), if_pos (Nat.lt_succ_self _), decide_eq_true rfl]; simp
    · rw [if_neg (by omega), if_neg (by omega), decide_eq_false (by omega)]; simp
def dd (w h : Nat) (rd : Bool) (x y : Nat) (c : Nat × Nat) : Option Nat × Option Nat := ((cX w rd x c.1).2, (cX h rd y c.2).2)
theorem hit_one {w h : Nat} (hW : WH w h) (m : Int64) {d : Option Nat × Option Nat} (hx : ∀ x, d.1 = some x → x < w) (hy : ∀ y, d.2 = some y → y < h) : cntN (fun j => cb m j && hit w d j) 64 = (og (BM w m) d.1 d.2).toNat := by
  obtain ⟨ox, oy⟩ := d
  cases ox with
  | none => exact cntN_0 (fun i _ => by show (cb m i && false) = false; simp)
  | some x =>
    cases oy with
    | none => exact cntN_0 (fun i _ => by show (cb m i && false) = false; simp)
    | some y =>
      have h1 : cntN (fun j => cb m j && hit w (some x, some y) j) 64 = cntN (fun j => cb m j && decide (j = w * y + x)) 64 := rfl
      have hl := lt_wh (hx x rfl) (hy y rfl)
      have := wh_64 hW
      rw [h1, cntN_one, if_pos (by omega)]
      rfl
theorem hit_dis {w : Nat} {d d' : Option Nat × Option Nat} (hx : ∀ x, d.1 = some x → x < w) (hx' : ∀ x, d'.1 = some x → x < w) (hne : d.1 = d'.1 → d.2 = d'.2 → d.1 = none ∨ d.2 = none) (j : Nat) : ¬ (hit w d j = true ∧ hit w d' j = true) := by
  obtain ⟨ox, oy⟩ := d
  obtain ⟨ox', oy'⟩ := d'
  rintro ⟨h1, h2⟩
  cases ox with
  | none => exact nomatch h1
  | some x =>
    cases oy with
    | none => exact nomatch h1
    | some y =>
      cases ox' with
      | none => exact nomatch h2
      | some x' =>
        cases oy' with
        | none => exact nomatch h2
        | some y' =>
          have e1 : j = w * y + x := of_decide_eq_true h1
          have e2 : j = w * y' + x' := of_decide_eq_true h2
          obtain ⟨q1, q2⟩ := cell_inj (hx x rfl) (hx' x' rfl) (e1.symm.trans e2)
          subst q1; subst q2
          rcases hne rfl rfl with h | h <;> exact nomatch h
theorem cnt_hits {w h : Nat} {rd : Bool} (hW : WH w h) (m : Int64) {x y : Nat} (hx : x < w) (hy : y < h) : ∀ cs : List (Nat × Nat), (∀ c ∈ cs, c.1 < 3 ∧ c.2 < 3) → cs.Nodup → cntN (fun j => cb m j && cs.any (fun c => hit w (dd w h rd x y c) j)) 64 = (cs.map (fun c => (og (BM w m) (dd w h rd x y c).1 (dd w h rd x y c).2).toNat)).sum
  | [], _, _ => cntN_0 (fun i _ => by simp)
  | c :: cs, hc, hn => by
    obtain ⟨hn1, hn2⟩ := List.nodup_cons.mp hn
    have h1 := cnt_hits (rd := rd) hW m hx hy cs (fun c' h' => hc c' (List.mem_cons_of_mem _ h')) hn2
    have hcc := hc c List.mem_cons_self
    have e : cntN (fun j => cb m j && (c :: cs).any (fun c => hit w (dd w h rd x y c) j)) 64 = cntN (fun j => (cb m j && hit w (dd w h rd x y c) j) || (cb m j && cs.any (fun c => hit w (dd w h rd x y c) j))) 64 := by
      refine cntN_cong (fun j _ => ?_)
      simp only [List.any_cons]
      cases cb m j <;> simp
    rw [e, cntN_or, h1, hit_one hW m (cX_lt hW.1 hx hcc.1) (cX_lt hW.2.2.1 hy hcc.2), List.map_cons, List.sum_cons]
    intro j hj hh
    obtain ⟨a1, a2⟩ := hh
    rw [Bool.and_eq_true] at a1 a2
    obtain ⟨c', hc', hit'⟩ := List.any_eq_true.mp a2.2
    have hcc' := hc c' (List.mem_cons_of_mem _ hc')
    have hne : c ≠ c' := fun q => hn1 (q ▸ hc')
    refine hit_dis (cX_lt hW.1 hx hcc.1) (cX_lt hW.1 hx hcc'.1) (fun q1 q2 => ?_) j ⟨a1.2, hit'⟩
    by_cases z : c.1 = c'.1
    · have z2 : c.2 ≠ c'.2 := fun q => hne (Prod.ext z q)
      exact Or.inr (cX_ne hW.2.2.1 hW.2.2.2 hy hcc.2 hcc'.2 z2 q2)
    · exact Or.inl (cX_ne hW.1 hW.2.1 hx hcc.1 hcc'.1 z q1)
def cs8 : List (Nat × Nat) := [(0, 1), (2, 1), (1, 0), (1, 2), (0, 0), (2, 0), (0, 2), (2, 2)]
theorem B8_bits {w h : Nat} {rd : Bool} (hW : WH w h) {x y : Nat} (hx : x < w) (hy : y < h) {j : Nat} (hj : j < 64) : cb (B8 w h rd x y) j = cs8.any (fun c => hit w (dd w h rd x y c) j) := by
  have t : ∀ a b, a < 3 → b < 3 → cb (oI w (cX w rd x a).2 (cX h rd y b).2) j = hit w (dd w h rd x y (a, b)) j := fun a b ha hb => cb_oI hW (cX_lt hW.1 hx ha) (cX_lt hW.2.2.1 hy hb) hj
  have t1 := t 0 1 (by decide) (by decide)
  have t2 := t 2 1 (by decide) (by decide)
  have t3 := t 1 0 (by decide) (by decide)
  have t4 := t 1 2 (by decide) (by decide)
  have t5 := t 0 0 (by decide) (by decide)
  have t6 := t 2 0 (by decide) (by decide)
  have t7 := t 0 2 (by decide) (by decide)
  have t8 := t 2 2 (by decide) (by decide)
  have e : cb (B8 w h rd x y) j = (((((((cb (oI w (cX w rd x 0).2 (cX h rd y 1).2) j || cb (oI w (cX w rd x 2).2 (cX h rd y 1).2) j) || cb (oI w (cX w rd x 1).2 (cX h rd y 0).2) j) || cb (oI w (cX w rd x 1).2 (cX h rd y 2).2) j) || cb (oI w (cX w rd x 0).2 (cX h rd y 0).2) j) || cb (oI w (cX w rd x 2).2 (cX h rd y 0).2) j) || cb (oI w (cX w rd x 0).2 (cX h rd y 2).2) j) || cb (oI w (cX w rd x 2).2 (cX h rd y 2).2) j) := by
    unfold B8 B4
    simp only [cb_or]
    rfl
  rw [e, t1, t2, t3, t4, t5, t6, t7, t8]
  simp only [cs8, List.any_cons, List.any_nil, Bool.or_false, Bool.or_assoc]
theorem pc_B8 {w h : Nat} {rd : Bool} (hW : WH w h) (m : Int64) {x y : Nat} (hx : x < w) (hy : y < h) : pc (m &&& B8 w h rd x y) = cnt8 (BM w m) w h rd x y := by
  unfold pc
  have e : cntN (cb (m &&& B8 w h rd x y)) 64 = cntN (fun j => cb m j && cs8.any (fun c => hit w (dd w h rd x y c) j)) 64 := cntN_cong (fun j hj => by rw [cb_and, B8_bits hW hx hy hj])
  rw [e, cnt_hits hW m hx hy cs8 (by decide) (by decide)]
  show (og (BM w m) (prv w rd x) (some y)).toNat + ((og (BM w m) (nxt w rd x) (some y)).toNat + ((og (BM w m) (some x) (prv h rd y)).toNat + ((og (BM w m) (some x) (nxt h rd y)).toNat + ((og (BM w m) (prv w rd x) (prv h rd y)).toNat + ((og (BM w m) (nxt w rd x) (prv h rd y)).toNat + ((og (BM w m) (prv w rd x) (nxt h rd y)).toNat + ((og (BM w m) (nxt w rd x) (nxt h rd y)).toNat + 0))))))) = _
  unfold cnt8
  omega
/-- whether a cell has a hedge behind a year -/
def cmB (bi st : Int32) (f : Nat → Nat → Bool) (w h : Nat) (rd : Bool) (x y : Nat) : Bool := rb (if f x y = true then st else bi) (cnt8 f w h rd x y)
theorem and1_n (z : Int32) : (z &&& 1) = 1 ↔ ¬ (z &&& 1) = 0 := by
  obtain ⟨j, hj, e⟩ := pk_andE z (m := 1) 1 (by decide)
  rw [e]
  rcases (show j = 0 ∨ j = 1 by omega) with rfl | rfl <;> decide
theorem comes_ok {m : MoS} {w h : Nat} {rd : Bool} (hW : WH w h) {fR fB : Nat → Int64} (hT : TOK w h rd fR fB) (hs : Int64) {x y : Nat} (hx : x < w) (hy : y < h) : f_X7_comes m fR hs (nI (w * y + x)) = some (if cmB m.2.2.2.2.1 m.2.2.2.2.2 (BM w hs) w h rd x y = true then 1 else 0) := by
  have hl := lt_wh hx hy
  have h64 := wh_64 hW
  unfold f_X7_comes
  simp only [bindv]
  rw [if_neg (l_out (N := 64) (by omega) (by decide)), l_toN (by omega), (hT x y hx hy).2, bc_pc, pc_B8 hW hs hx hy]
  unfold cmB rb
  have e1 : (jshr hs (nI (w * y + x)) &&& 1) = 1 ↔ BM w hs x y = true := ts_1 (by omega)
  by_cases c : BM w hs x y = true
  · rw [if_pos (e1.mpr c), if_pos c]
    by_cases z : ((m.2.2.2.2.2 >>> (nI (cnt8 (BM w hs) w h rd x y) &&& 31)) &&& 1) = 0
    · rw [if_neg (fun q => (and1_n _).mp q z), decide_eq_false (fun q => q z)]; rfl
    · rw [if_pos ((and1_n _).mpr z), decide_eq_true z]; rfl
  · rw [if_neg (fun q => c (e1.mp q)), if_neg c]
    by_cases z : ((m.2.2.2.2.1 >>> (nI (cnt8 (BM w hs) w h rd x y) &&& 31)) &&& 1) = 0
    · rw [if_neg (fun q => (and1_n _).mp q z), decide_eq_false (fun q => q z)]; rfl
    · rw [if_pos ((and1_n _).mpr z), decide_eq_true z]; rfl
theorem next_l {m : MoS} {w h : Nat} {rd : Bool} (hW : WH w h) (hM : MOK m w h rd) {fR fB : Nat → Int64} (hT : TOK w h rd fR fB) (hs : Int64) : ∀ (nf k : Nat) (y7 : Int64), k ≤ w * h → w * h - k < nf → ∃ r, lp_X7_next_5 m fR hs nf y7 (nI k) = some r ∧ (∀ j, j < 64 → (j < k ∨ w * h ≤ j) → cb r j = cb y7 j) ∧ ∀ x y, x < w → y < h → k ≤ w * y + x → cb r (w * y + x) = (cb y7 (w * y + x) || cmB m.2.2.2.2.1 m.2.2.2.2.2 (BM w hs) w h rd x y)
  | 0, _, _, _, hh => absurd hh (Nat.not_lt_zero _)
  | nf + 1, k, y7, hk, hh => by
    have h64 := wh_64 hW
    have hwp : 0 < w := by have := hW.1; omega
    rw [lp_X7_next_5.eq_2]
    have e0 : m.2.1 * m.2.2.1 = nI (w * h) := by rw [hM.1, hM.2.1, pk_mul]
    rw [e0]
    by_cases q : w * h ≤ k
    · rw [if_pos ((nI_leI (by omega) (by omega)).mpr q)]
      refine ⟨y7, rfl, fun j _ _ => rfl, fun x y hx hy hle => ?_⟩
      have := lt_wh hx hy
      omega
    · rw [if_neg (fun z => q ((nI_leI (by omega) (by omega)).mp z))]
      have hx : k % w < w := Nat.mod_lt _ hwp
      have hy : k / w < h := Nat.div_lt_of_lt_mul (by omega)
      have hkk : w * (k / w) + k % w = k := Nat.div_add_mod k w
      have hc := comes_ok (m := m) hW hT hs hx hy
      rw [hkk] at hc
      rw [hc, Option.bind_some, nI_1]
      simp only [bindv]
      have hob : jshl 1 (nI k) = ob k := rfl
      rw [hob]
      obtain ⟨r, h1, h2, h3⟩ := next_l hW hM hT hs nf (k + 1) (if (if cmB m.2.2.2.2.1 m.2.2.2.2.2 (BM w hs) w h rd (k % w) (k / w) = true then (1 : Int32) else 0) = 0 then y7 else (y7 ||| ob k)) (by omega) (by omega)
      have hv : ∀ j, j < 64 → cb (if (if cmB m.2.2.2.2.1 m.2.2.2.2.2 (BM w hs) w h rd (k % w) (k / w) = true then (1 : Int32) else 0) = 0 then y7 else (y7 ||| ob k)) j = (cb y7 j || (decide (j = k) && cmB m.2.2.2.2.1 m.2.2.2.2.2 (BM w hs) w h rd (k % w) (k / w))) := fun j hj => by
        cases cmB m.2.2.2.2.1 m.2.2.2.2.2 (BM w hs) w h rd (k % w) (k / w) with
        | true => rw [if_pos rfl, if_neg (by decide), cb_or, cb_ob (by omega) hj, Bool.and_true]
        | false => rw [if_pos (show (if false = true then (1 : Int32) else 0) = 0 by decide)]; simp
      refine ⟨r, h1, fun j hj hjk => ?_, fun x y hx' hy' hle => ?_⟩
      · rw [h2 j hj (by omega), hv j hj, decide_eq_false (by omega)]; simp
      · have hl := lt_wh hx' hy'
        by_cases e : k = w * y + x
        · have ex2 : k % w = x := by rw [e, Nat.mul_add_mod, Nat.mod_eq_of_lt hx']
          have ey2 : k / w = y := by rw [e, Nat.mul_add_div hwp, Nat.div_eq_of_lt hx', Nat.add_zero]
          rw [← e, h2 k (by omega) (by omega), hv k (by omega), decide_eq_true rfl, Bool.true_and, ex2, ey2]
        · rw [h3 x y hx' hy' (by omega), hv _ (by omega), decide_eq_false (show ¬ w * y + x = k by omega)]; simp
theorem next_ok {m : MoS} {w h : Nat} {rd : Bool} (hW : WH w h) (hM : MOK m w h rd) {fR fB : Nat → Int64} (hT : TOK w h rd fR fB) (hs : Int64) : ∃ r, f_X7_next m fR hs = some r ∧ InM w h r ∧ ∀ x y, x < w → y < h → BM w r x y = cmB m.2.2.2.2.1 m.2.2.2.2.2 (BM w hs) w h rd x y := by
  obtain ⟨r, h1, h2, h3⟩ := next_l hW hM hT hs 100 0 0 (Nat.zero_le _) (by have := wh_64 hW; omega)
  refine ⟨r, ?_, fun k hk => ?_, fun x y hx hy => ?_⟩
  · unfold f_X7_next
    have h1' : lp_X7_next_5 m fR hs 100 0 0 = some r := h1
    rw [h1']
    rfl
  · rcases Nat.lt_or_ge k (w * h) with q | q
    · exact q
    · rw [h2 k (cb_lt hk) (Or.inr q), cb_0] at hk
      exact nomatch hk
  · show cb r (w * y + x) = _
    rw [h3 x y hx hy (Nat.zero_le _), cb_0, Bool.false_or]
