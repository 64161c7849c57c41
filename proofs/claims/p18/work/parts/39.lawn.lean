/-! lawns: what hangs together -/
def Sub (a b : Int64) : Prop := ∀ i, cb a i = true → cb b i = true
def Ad (w h : Nat) (rd : Bool) (x y x' y' : Nat) : Prop := (nxt w rd x = some x' ∧ y = y') ∨ (prv w rd x = some x' ∧ y = y') ∨ (x = x' ∧ nxt h rd y = some y') ∨ (x = x' ∧ prv h rd y = some y')
theorem Sub_in {w h : Nat} {a b : Int64} (s : Sub a b) (hb : InC w h b) : InC w h a := fun i hi => hb i (s i hi)
theorem Sub_eq {a b : Int64} (h1 : Sub a b) (h2 : Sub b a) : a = b := cb_ext (fun i _ => by
  cases e1 : cb a i with
  | true => exact (h1 i e1).symm
  | false =>
    cases e2 : cb b i with
    | false => rfl
    | true => rw [h2 i e2] at e1; cases e1)
theorem SB_mono {f f' : Nat → Nat → Bool} {w h x y : Nat} {rd : Bool} (hW : WH w h) (hx : x < w) (hy : y < h) (e : ∀ x y, x < w → y < h → f x y = true → f' x y = true) (s : SB f w h rd x y = true) : SB f' w h rd x y = true := by
  obtain ⟨x', y', h1, h2⟩ := SB_ex.mp s
  obtain ⟨l1, l2⟩ := SB_lt (f := f) hW hx hy h2
  exact SB_ex.mpr ⟨x', y', e x' y' l1 l2 h1, h2⟩
theorem fix_CL {g : GrS} {w h : Nat} {rd : Bool} (hW : WH w h) (hG : GOK g w h rd) {R op : Int64} (ho : InC w h op) (hs : Sub R op) : f_X3_withBeside g R op = R ↔ CL w h rd op R := by
  have hR := Sub_in hs ho
  obtain ⟨i1, e1⟩ := wB_ok hW hG hR ho
  constructor
  · intro e x y hx hy ho' hs'
    have := e1 x y hx hy
    rw [e, hs', ho', Bool.or_true, Bool.and_true] at this
    exact this
  · intro hc
    refine B_ext i1 hR (fun x y hx hy => ?_)
    rw [e1 x y hx hy]
    cases q : BC R x y with
    | true =>
      have : BC op x y = true := hs _ q
      rw [this]; rfl
    | false =>
      cases q1 : BC op x y with
      | false => rw [Bool.and_false]
      | true =>
        cases q2 : SB (BC R) w h rd x y with
        | false => rfl
        | true => rw [hc x y hx hy q1 q2] at q; cases q
theorem wB_min {g : GrS} {w h : Nat} {rd : Bool} (hW : WH w h) (hG : GOK g w h rd) {c R op : Int64} (ho : InC w h op) (hc : Sub c op) (hcl : CL w h rd op R) (hs : Sub c R) : Sub (f_X3_withBeside g c op) R := fun i hi => by
  obtain ⟨i1, e1⟩ := wB_ok hW hG (Sub_in hc ho) ho
  obtain ⟨x, y, hx, hy, rfl⟩ := in_cell i1 hi
  have := e1 x y hx hy
  rw [show BC (f_X3_withBeside g c op) x y = true from hi] at this
  have := this.symm
  rw [Bool.and_eq_true, Bool.or_eq_true] at this
  rcases this.1 with q | q
  · exact hs _ q
  · exact hcl x y hx hy this.2 (SB_mono hW hx hy (fun x y _ _ z => hs _ z) q)
theorem lawnC_l {g : GrS} {w h : Nat} {rd : Bool} (hW : WH w h) (hG : GOK g w h rd) {op : Int64} (ho : InC w h op) : ∀ (nf i : Nat) (c : Int64), Sub c op → i + 1 ≤ pc c → 64 - i < nf → ∃ rc, lp_X3_lawn_8 g op nf c (nI i) = some rc ∧ Sub rc op ∧ CL w h rd op rc ∧ Sub c rc ∧ ∀ R, CL w h rd op R → Sub c R → Sub rc R
  | 0, _, _, _, _, h => absurd h (Nat.not_lt_zero _)
  | nf + 1, i, c, hc, hp, hf => by
    have p64 := pc_le c
    rw [lp_X3_lawn_8.eq_2, if_neg (show ¬ (64 : Int32) ≤ nI i by rw [show (64 : Int32) = nI 64 from rfl, l_le (by omega) (by omega)]; omega)]
    by_cases e : f_X3_withBeside g c op = c
    · rw [if_pos e]
      exact ⟨c, rfl, hc, (fix_CL hW hG ho hc).mp e, fun _ z => z, fun R _ z => z⟩
    · rw [if_neg e, nI_1]
      have hg := wB_pc hc e
      obtain ⟨rc, r1, r2, r3, r4, r5⟩ := lawnC_l hW hG ho nf (i + 1) (f_X3_withBeside g c op) (fun i z => wB_sub z) (by omega) (by omega)
      exact ⟨rc, r1, r2, r3, fun i z => r4 i (wB_grow hc z), fun R hR hs => r5 R hR (wB_min hW hG ho hc hR hs)⟩
def Lw (g : GrS) (op : Int64) (k : Nat) : Int64 := (f_X3_lawn g (ob k) op).getD 0
theorem Lw_ok {g : GrS} {w h : Nat} {rd : Bool} (hW : WH w h) (hG : GOK g w h rd) {op : Int64} (ho : InC w h op) {k : Nat} (hk : cb op k = true) : f_X3_lawn g (ob k) op = some (Lw g op k) ∧ Sub (Lw g op k) op ∧ CL w h rd op (Lw g op k) ∧ cb (Lw g op k) k = true ∧ ∀ R, CL w h rd op R → cb R k = true → Sub (Lw g op k) R := by
  have l := cb_lt hk
  have hb : cb (ob k &&& op) k = true := by rw [cb_and, cb_ob l l, hk]; simp
  obtain ⟨rc, r1, r2, r3, r4, r5⟩ := lawnC_l hW hG ho 100 0 (ob k &&& op) (fun i z => by rw [cb_and, Bool.and_eq_true] at z; exact z.2) (by
    have : 0 < pc (ob k &&& op) := cntN_pos.mpr ⟨k, l, hb⟩
    omega) (by decide)
  have e : f_X3_lawn g (ob k) op = some rc := r1
  have e2 : Lw g op k = rc := by unfold Lw; rw [e]; rfl
  rw [e2]
  exact ⟨e, r2, r3, r4 k hb, fun R hR hRk => r5 R hR (fun i z => by
    rw [cb_and, Bool.and_eq_true, cb_ob l (by have := cb_lt z.2; exact this), decide_eq_true_eq] at z
    rw [z.1]; exact hRk)⟩
theorem CL_sub {w h : Nat} {rd : Bool} {op B A : Int64} (hB : Sub B op) (hA : CL w h rd op A) : CL w h rd B A := fun x y hx hy e s => hA x y hx hy (hB _ e) s
theorem Lw_eq {g : GrS} {w h : Nat} {rd : Bool} (hW : WH w h) (hG : GOK g w h rd) {op : Int64} (ho : InC w h op) {k j : Nat} (hk : cb op k = true) (hj : cb (Lw g op k) j = true) : Lw g op j = Lw g op k := by
  obtain ⟨-, b1, b2, b3, b4⟩ := Lw_ok hW hG ho hk
  obtain ⟨-, a1, a2, a3, a4⟩ := Lw_ok hW hG ho (b1 j hj)
  have hAB : Sub (Lw g op j) (Lw g op k) := a4 _ b2 hj
  refine Sub_eq hAB ?_
  cases e : cb (Lw g op j) k with
  | true => exact b4 _ a2 e
  | false =>
    have hBi := Sub_in b1 ho
    have c1 := CL_next hW hG hBi hAB ((fix_CL hW hG hBi hAB).mpr (CL_sub b1 a2)) b2
    have s1 := b4 _ c1 (by rw [cb_and, b3, cb_not (cb_lt hk), e]; rfl) j hj
    rw [cb_and, cb_not (cb_lt hj), a3] at s1
    simp at s1
theorem lawn_0 {g : GrS} {w h : Nat} {rd : Bool} (hW : WH w h) (hG : GOK g w h rd) {op : Int64} (ho : InC w h op) {k : Nat} (hl : k < 64) (hk : cb op k = false) : f_X3_lawn g (ob k) op = some 0 := by
  have e : ob k &&& op = 0 := cb_z.mpr (fun i hi => by
    rw [cb_and, cb_ob hl hi]
    by_cases q : i = k
    · subst q; rw [hk, Bool.and_false]
    · simp [q])
  unfold f_X3_lawn
  rw [e, lp_X3_lawn_8.eq_2, if_neg (show ¬ (64 : Int32) ≤ 0 by decide), if_pos ((fix_CL hW hG ho (fun i z => by rw [cb_0] at z; cases z)).mpr (fun x y hx hy _ s => by
    obtain ⟨x', y', h1, -⟩ := SB_ex.mp s
    unfold BC at h1
    rw [cb_0] at h1; cases h1))]
/-- the first cell of its lawn -/
def ld (g : GrS) (op : Int64) (k : Nat) : Bool := cb op k && decide (∀ j, j < k → cb (Lw g op k) j = false)
theorem cntN_upd {p q : Nat → Bool} {t : Nat} (hp : ∀ k, k ≠ t → p k = q k) (hq : q t = false) : ∀ n, cntN p n = cntN q n + if t < n then (p t).toNat else 0
  | 0 => by simp [cntN]
  | n + 1 => by
    show cntN p n + (p n).toNat = cntN q n + (q n).toNat + _
    rw [cntN_upd hp hq n]
    by_cases e : n = t
    · subst e
      rw [if_neg (Nat.lt_irrefl _), if_pos (Nat.lt_succ_self _), hq]
      simp
    · rw [hp n e]
      by_cases l : t < n
      · rw [if_pos l, if_pos (by omega)]; omega
      · rw [if_neg l, if_neg (by omega)]; omega
theorem ld_low {g : GrS} {w h : Nat} {rd : Bool} (hW : WH w h) (hG : GOK g w h rd) {op rest : Int64} (ho : InC w h op) (hr : Sub rest op) (hcl : CL w h rd op rest) {t : Nat} (hl : lowB (cb rest) t) : ld g op t = true ∧ Sub (Lw g op t) rest := by
  have h1 := hr t hl.1
  obtain ⟨-, -, -, -, m⟩ := Lw_ok hW hG ho h1
  have s := m rest hcl hl.1
  refine ⟨?_, s⟩
  unfold ld
  rw [h1, Bool.true_and, decide_eq_true_eq]
  intro j hj
  cases e : cb (Lw g op t) j with
  | false => rfl
  | true => have := s j e; rw [hl.2 j hj] at this; cases this
/-- the rest without a lawn -/
theorem rest_ok {g : GrS} {w h : Nat} {rd : Bool} (hW : WH w h) (hG : GOK g w h rd) {op rest : Int64} (ho : InC w h op) (hr : Sub rest op) (hcl : CL w h rd op rest) {t : Nat} (hl : lowB (cb rest) t) : Sub (rest &&& (Lw g op t ^^^ (-1))) op ∧ CL w h rd op (rest &&& (Lw g op t ^^^ (-1))) ∧ pc (rest &&& (Lw g op t ^^^ (-1))) + 1 ≤ pc rest ∧ (∀ k, k ≠ t → (cb (rest &&& (Lw g op t ^^^ (-1))) k && ld g op k) = (cb rest k && ld g op k)) ∧ cb (rest &&& (Lw g op t ^^^ (-1))) t = false := by
  obtain ⟨-, s⟩ := ld_low hW hG ho hr hcl hl
  have h1 := hr t hl.1
  obtain ⟨-, l1, l2, l3, -⟩ := Lw_ok hW hG ho h1
  have hri := Sub_in hr ho
  have b : ∀ k, k < 64 → cb (rest &&& (Lw g op t ^^^ (-1))) k = (cb rest k && !cb (Lw g op t) k) := fun k hk => by rw [cb_and, cb_not hk]
  have bt : cb (rest &&& (Lw g op t ^^^ (-1))) t = false := by rw [b t (cb_lt h1), l3, Bool.not_true, Bool.and_false]
  refine ⟨fun i z => hr i (by rw [cb_and, Bool.and_eq_true] at z; exact z.1), CL_next hW hG hri s ((fix_CL hW hG hri s).mpr (CL_sub hr l2)) hcl, ?_, fun k hk => ?_, bt⟩
  · exact cntN_lt (fun i _ z => by rw [cb_and, Bool.and_eq_true] at z; exact z.1) ⟨t, cb_lt h1, bt, hl.1⟩
  · by_cases q : k < 64
    · rw [b k q]
      cases e : cb (Lw g op t) k with
      | false => rw [Bool.not_false, Bool.and_true]
      | true =>
        have hkr := s k e
        have hlt : t < k := by
          rcases Nat.lt_trichotomy t k with z | z | z
          · exact z
          · exact absurd z.symm hk
          · rw [hl.2 k z] at hkr; cases hkr
        have : ld g op k = false := by
          unfold ld
          rw [Lw_eq hW hG ho h1 e]
          have : ¬ ∀ j, j < k → cb (Lw g op t) j = false := fun z => by rw [z t hlt] at l3; cases l3
          rw [decide_eq_false this, Bool.and_false]
        rw [this, Bool.and_false, Bool.and_false]
    · rw [cb_big (by omega), cb_big (x := rest) (by omega)]
theorem wout_l {g : GrS} {w h : Nat} {rd : Bool} (hW : WH w h) (hG : GOK g w h rd) {d : GaS} (cs : Int64) (ho : InC w h (f_X3_open g d.1)) : ∀ (nf i : Nat) (rest : Int64) (v : Nat), Sub rest (f_X3_open g d.1) → CL w h rd (f_X3_open g d.1) rest → pc rest + i ≤ 64 → 64 - i < nf → lp_X2_lawnsWithout_11 d g cs nf (nI v) rest (nI i) = some (nI (v + cntN (fun k => (cb rest k && ld g (f_X3_open g d.1) k) && decide ((Lw g (f_X3_open g d.1) k &&& cs) = 0)) 64))
  | 0, _, _, _, _, _, _, h => absurd h (Nat.not_lt_zero _)
  | nf + 1, i, rest, v, hr, hcl, hp, hf => by
    rw [lp_X2_lawnsWithout_11.eq_2]
    have hz : rest = 0 → some (nI v) = some (nI (v + cntN (fun k => (cb rest k && ld g (f_X3_open g d.1) k) && decide ((Lw g (f_X3_open g d.1) k &&& cs) = 0)) 64)) := fun e => by
      rw [cntN_0 (fun k _ => by rw [e, cb_0]; rfl)]; rfl
    by_cases hi : i = 64
    · rw [if_pos (by rw [show (64 : Int32) = nI 64 from rfl, l_le (by omega) (by omega)]; omega)]
      refine hz ?_
      by_cases z : rest = 0
      · exact z
      · have := pc_pos.mpr z; omega
    · rw [if_neg (by rw [show (64 : Int32) = nI 64 from rfl, l_le (by omega) (by omega)]; omega)]
      by_cases z : rest = 0
      · rw [if_pos z]; exact hz z
      · rw [if_neg z]
        obtain ⟨t, ht, hl⟩ := lowB_ex z
        obtain ⟨r1, r2, r3, r4, r5⟩ := rest_ok hW hG ho hr hcl hl
        rw [low_and ht hl, show f_X2_open d g = f_X3_open g d.1 from rfl, (Lw_ok hW hG ho (hr t hl.1)).1, Option.bind_some]
        simp only [bindv]
        have hc := cntN_upd (p := fun k => (cb rest k && ld g (f_X3_open g d.1) k) && decide ((Lw g (f_X3_open g d.1) k &&& cs) = 0)) (q := fun k => (cb (rest &&& (Lw g (f_X3_open g d.1) t ^^^ (-1))) k && ld g (f_X3_open g d.1) k) && decide ((Lw g (f_X3_open g d.1) k &&& cs) = 0)) (t := t) (fun k hk => by show (_ && _) = (_ && _); rw [r4 k hk]) (by show (_ && _) = false; rw [r5]; rfl) 64
        rw [if_pos ht, hl.1, (ld_low hW hG ho hr hcl hl).1, Bool.true_and] at hc
        rw [hc, nI_1 i]
        by_cases q : (Lw g (f_X3_open g d.1) t &&& cs) = 0
        · rw [if_pos q, nI_1 v, wout_l hW hG cs ho nf (i + 1) _ (v + 1) r1 r2 (by omega) (by omega), decide_eq_true q]
          refine congrArg some (congrArg nI ?_)
          simp only [Bool.true_and, Bool.toNat_true]
          omega
        · rw [if_neg q, wout_l hW hG cs ho nf (i + 1) _ v r1 r2 (by omega) (by omega), decide_eq_false q]
          refine congrArg some (congrArg nI ?_)
          simp only [Bool.and_false, Bool.toNat_false]
          omega
theorem great_l {g : GrS} {w h : Nat} {rd : Bool} (hW : WH w h) (hG : GOK g w h rd) {d : GaS} (ho : InC w h (f_X3_open g d.1)) : ∀ (nf i : Nat) (rest : Int64) (v : Nat), Sub rest (f_X3_open g d.1) → CL w h rd (f_X3_open g d.1) rest → pc rest + i ≤ 64 → 64 - i < nf → v ≤ 64 → ∃ m, lp_X2_greatestLawn_10 d g nf (nI v) rest (nI i) = some (nI m) ∧ m ≤ 64 ∧ v ≤ m ∧ (∀ k, cb rest k = true → ld g (f_X3_open g d.1) k = true → pc (Lw g (f_X3_open g d.1) k) ≤ m) ∧ (m = v ∨ ∃ k, cb rest k = true ∧ ld g (f_X3_open g d.1) k = true ∧ m = pc (Lw g (f_X3_open g d.1) k))
  | 0, _, _, _, _, _, _, h, _ => absurd h (Nat.not_lt_zero _)
  | nf + 1, i, rest, v, hr, hcl, hp, hf, hv => by
    rw [lp_X2_greatestLawn_10.eq_2]
    have hz : rest = 0 → ∃ m, some (nI v) = some (nI m) ∧ m ≤ 64 ∧ v ≤ m ∧ (∀ k, cb rest k = true → ld g (f_X3_open g d.1) k = true → pc (Lw g (f_X3_open g d.1) k) ≤ m) ∧ (m = v ∨ ∃ k, cb rest k = true ∧ ld g (f_X3_open g d.1) k = true ∧ m = pc (Lw g (f_X3_open g d.1) k)) := fun e => ⟨v, rfl, hv, Nat.le_refl _, (fun k z => by rw [e, cb_0] at z; cases z), Or.inl rfl⟩
    by_cases hi : i = 64
    · rw [if_pos (by rw [show (64 : Int32) = nI 64 from rfl, l_le (by omega) (by omega)]; omega)]
      refine hz ?_
      by_cases z : rest = 0
      · exact z
      · have := pc_pos.mpr z; omega
    · rw [if_neg (by rw [show (64 : Int32) = nI 64 from rfl, l_le (by omega) (by omega)]; omega)]
      by_cases z : rest = 0
      · rw [if_pos z]; exact hz z
      · rw [if_neg z]
        obtain ⟨t, ht, hl⟩ := lowB_ex z
        obtain ⟨r1, r2, r3, r4, r5⟩ := rest_ok hW hG ho hr hcl hl
        have lt := (ld_low hW hG ho hr hcl hl).1
        have p64 := pc_le (Lw g (f_X3_open g d.1) t)
        rw [low_and ht hl, show f_X2_open d g = f_X3_open g d.1 from rfl, (Lw_ok hW hG ho (hr t hl.1)).1, Option.bind_some]
        simp only [bindv]
        rw [bc_pc, nI_1 i]
        have key : ∀ v', (if nI v < nI (pc (Lw g (f_X3_open g d.1) t)) then nI (pc (Lw g (f_X3_open g d.1) t)) else nI v) = nI v' → v' ≤ 64 → v ≤ v' → pc (Lw g (f_X3_open g d.1) t) ≤ v' → (v' = v ∨ v' = pc (Lw g (f_X3_open g d.1) t)) → ∃ m, lp_X2_greatestLawn_10 d g nf (if nI v < nI (pc (Lw g (f_X3_open g d.1) t)) then nI (pc (Lw g (f_X3_open g d.1) t)) else nI v) (rest &&& (Lw g (f_X3_open g d.1) t ^^^ (-1))) (nI (i + 1)) = some (nI m) ∧ m ≤ 64 ∧ v ≤ m ∧ (∀ k, cb rest k = true → ld g (f_X3_open g d.1) k = true → pc (Lw g (f_X3_open g d.1) k) ≤ m) ∧ (m = v ∨ ∃ k, cb rest k = true ∧ ld g (f_X3_open g d.1) k = true ∧ m = pc (Lw g (f_X3_open g d.1) k)) := by
          intro v' e h64 h1 h2 h3
          rw [e]
          obtain ⟨m, m1, m2, m3, m4, m5⟩ := great_l hW hG ho nf (i + 1) _ v' r1 r2 (by omega) (by omega) h64
          refine ⟨m, m1, m2, by omega, fun k hk hd => ?_, ?_⟩
          · by_cases q : k = t
            · subst q; omega
            · have := r4 k q
              rw [hk, hd, Bool.and_true, Bool.and_true] at this
              exact m4 k this hd
          · rcases m5 with m5 | ⟨k, k1, k2, k3⟩
            · rcases h3 with h3 | h3
              · exact Or.inl (m5.trans h3)
              · exact Or.inr ⟨t, hl.1, lt, m5.trans h3⟩
            · refine Or.inr ⟨k, ?_, k2, k3⟩
              rw [cb_and, Bool.and_eq_true] at k1
              exact k1.1
        by_cases q : v < pc (Lw g (f_X3_open g d.1) t)
        · exact key _ (if_pos (by rw [l_lt (by omega) (by omega)]; exact q)) p64 (by omega) (Nat.le_refl _) (Or.inr rfl)
        · exact key v (if_neg (by rw [l_lt (by omega) (by omega)]; exact q)) hv (Nat.le_refl _) (by omega) (Or.inl rfl)
