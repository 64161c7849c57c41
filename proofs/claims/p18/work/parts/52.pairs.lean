/-! neighbours, added, are even -/
def smN (f : Nat → Nat) : Nat → Nat
  | 0 => 0
  | n + 1 => smN f n + f n
theorem smN_cong {f g : Nat → Nat} : ∀ {n : Nat}, (∀ i, i < n → f i = g i) → smN f n = smN g n
  | 0, _ => rfl
  | n + 1, e => by
    show smN f n + f n = smN g n + g n
    rw [smN_cong (fun i hi => e i (by omega)), e n (by omega)]
theorem smN_add2 (f g : Nat → Nat) : ∀ n, smN (fun i => f i + g i) n = smN f n + smN g n
  | 0 => rfl
  | n + 1 => by
    show smN (fun i => f i + g i) n + (f n + g n) = (smN f n + f n) + (smN g n + g n)
    rw [smN_add2 f g n]
    omega
theorem smN_0 : ∀ n, smN (fun _ => 0) n = 0
  | 0 => rfl
  | n + 1 => by show smN (fun _ => 0) n + 0 = 0; rw [smN_0 n]
theorem smN_le {f : Nat → Nat} {b : Nat} : ∀ {n : Nat}, (∀ i, i < n → f i ≤ b) → smN f n ≤ b * n
  | 0, _ => Nat.le_refl _
  | n + 1, e => by
    show smN f n + f n ≤ _
    have := smN_le (n := n) (fun i hi => e i (by omega))
    have := e n (by omega)
    rw [Nat.mul_succ]
    omega
theorem smN_app (f : Nat → Nat) (m : Nat) : ∀ n, smN f (m + n) = smN f m + smN (fun i => f (m + i)) n
  | 0 => rfl
  | n + 1 => by
    show smN f (m + n) + f (m + n) = _ + (smN (fun i => f (m + i)) n + f (m + n))
    rw [smN_app f m n]
    omega
theorem smN_rows (f : Nat → Nat) (w : Nat) : ∀ h, smN f (w * h) = smN (fun y => smN (fun x => f (w * y + x)) w) h
  | 0 => rfl
  | h + 1 => by
    rw [Nat.mul_succ, smN_app, smN_rows f w h]
    rfl
def mO (o : Option Nat) (F : Nat → Nat) : Nat := match o with
  | some v => F v
  | none => 0
def Inv2 (n : Nat) (k k' : Nat → Option Nat) : Prop := ∀ G : Nat → Nat → Nat, smN (fun x => mO (k x) (G x)) n = smN (fun x => mO (k' x) (fun x' => G x' x)) n
theorem inv_some (n : Nat) : Inv2 n some some := fun _ => rfl
theorem inv_nxt {w : Nat} (rd : Bool) (h3 : 3 ≤ w) (h8 : w ≤ 8) : Inv2 w (nxt w rd) (prv w rd) := fun G => by
  have : w = 3 ∨ w = 4 ∨ w = 5 ∨ w = 6 ∨ w = 7 ∨ w = 8 := by omega
  rcases this with rfl | rfl | rfl | rfl | rfl | rfl <;> cases rd <;> simp [smN, nxt, prv, mO] <;> omega
theorem inv_sym {n : Nat} {k k' : Nat → Option Nat} (h : Inv2 n k k') : Inv2 n k' k := fun G => (h (fun x x' => G x' x)).symm
theorem mO_sum (o : Option Nat) (F : Nat → Nat → Nat) (n : Nat) : smN (fun x => mO o (F x)) n = mO o (fun v => smN (fun x => F x v) n) := by
  cases o with
  | some v => rfl
  | none => exact smN_0 n
def T2 (f : Nat → Nat → Bool) (w h : Nat) (k1 k2 : Nat → Option Nat) : Nat := smN (fun y => smN (fun x => (f x y && og f (k1 x) (k2 y)).toNat) w) h
theorem og_m (f : Nat → Nat → Bool) (b : Bool) (o1 o2 : Option Nat) : (b && og f o1 o2).toNat = mO o2 (fun y' => mO o1 (fun x' => (b && f x' y').toNat)) := by
  cases o1 <;> cases o2 <;> cases b <;> rfl
theorem T2_inv (f : Nat → Nat → Bool) {w h : Nat} {k1 k1' k2 k2' : Nat → Option Nat} (h1 : Inv2 w k1 k1') (h2 : Inv2 h k2 k2') : T2 f w h k1 k2 = T2 f w h k1' k2' := by
  have a1 : T2 f w h k1 k2 = smN (fun y => mO (k2 y) (fun y' => smN (fun x => mO (k1' x) (fun x' => (f x' y && f x y').toNat)) w)) h := smN_cong (fun y _ => by
    rw [show smN (fun x => (f x y && og f (k1 x) (k2 y)).toNat) w = smN (fun x => mO (k2 y) (fun y' => mO (k1 x) (fun x' => (f x y && f x' y').toNat))) w from smN_cong (fun x _ => og_m f _ _ _), mO_sum]
    exact congrArg (mO (k2 y)) (funext fun y' => h1 (fun x x' => (f x y && f x' y').toNat)))
  have a2 : T2 f w h k1' k2' = smN (fun y => mO (k2' y) (fun y' => smN (fun x => mO (k1' x) (fun x' => (f x y && f x' y').toNat)) w)) h := smN_cong (fun y _ => by
    rw [show smN (fun x => (f x y && og f (k1' x) (k2' y)).toNat) w = smN (fun x => mO (k2' y) (fun y' => mO (k1' x) (fun x' => (f x y && f x' y').toNat))) w from smN_cong (fun x _ => og_m f _ _ _), mO_sum])
  rw [a1, a2, h2 (fun y y' => smN (fun x => mO (k1' x) (fun x' => (f x' y && f x y').toNat)) w)]
  refine smN_cong (fun y _ => congrArg (mO (k2' y)) (funext fun y' => smN_cong (fun x _ => congrArg (mO (k1' x)) (funext fun x' => by rw [Bool.and_comm]))))
theorem pair_sp (f : Nat → Nat → Bool) (w h : Nat) (rd : Bool) (x y : Nat) : (if f x y = true then cnt8 f w h rd x y else 0) = ((((f x y && og f (nxt w rd x) (nxt h rd y)).toNat + (f x y && og f (some x) (nxt h rd y)).toNat) + ((f x y && og f (prv w rd x) (nxt h rd y)).toNat + (f x y && og f (nxt w rd x) (some y)).toNat)) + (((f x y && og f (prv w rd x) (some y)).toNat + (f x y && og f (nxt w rd x) (prv h rd y)).toNat) + ((f x y && og f (some x) (prv h rd y)).toNat + (f x y && og f (prv w rd x) (prv h rd y)).toNat))) := by
  cases f x y with
  | false => rfl
  | true =>
    rw [if_pos rfl]
    unfold cnt8
    simp only [Bool.true_and]
    omega
theorem pairs_even {w h : Nat} (hW : WH w h) (f : Nat → Nat → Bool) (rd : Bool) : smN (fun k => if f (k % w) (k / w) = true then cnt8 f w h rd (k % w) (k / w) else 0) (w * h) % 2 = 0 := by
  obtain ⟨w3, w8, h3, h8⟩ := id hW
  rw [smN_rows]
  have e : smN (fun y => smN (fun x => (fun k => if f (k % w) (k / w) = true then cnt8 f w h rd (k % w) (k / w) else 0) (w * y + x)) w) h = ((T2 f w h (nxt w rd) (nxt h rd) + T2 f w h some (nxt h rd)) + (T2 f w h (prv w rd) (nxt h rd) + T2 f w h (nxt w rd) some)) + ((T2 f w h (prv w rd) some + T2 f w h (nxt w rd) (prv h rd)) + (T2 f w h some (prv h rd) + T2 f w h (prv w rd) (prv h rd))) := by
    unfold T2
    simp only [← smN_add2]
    refine smN_cong (fun y _ => smN_cong (fun x hx => ?_))
    obtain ⟨kx, ky⟩ := xy_k (y := y) hx
    show (if f ((w * y + x) % w) ((w * y + x) / w) = true then cnt8 f w h rd ((w * y + x) % w) ((w * y + x) / w) else 0) = _
    rw [kx, ky]
    exact pair_sp f w h rd x y
  rw [e]
  have nw := inv_nxt (w := w) rd w3 w8
  have nh := inv_nxt (w := h) rd h3 h8
  rw [T2_inv f nw nh, T2_inv f (inv_some w) nh, T2_inv f nw (inv_some h), T2_inv f (inv_sym nw) nh]
  omega
theorem pairs_le {w h : Nat} (hW : WH w h) (f : Nat → Nat → Bool) (rd : Bool) (k : Nat) (hk : k ≤ w * h) : smN (fun k => if f (k % w) (k / w) = true then cnt8 f w h rd (k % w) (k / w) else 0) k ≤ 512 := by
  have w64 := wh_64 hW
  have := smN_le (f := fun k => if f (k % w) (k / w) = true then cnt8 f w h rd (k % w) (k / w) else 0) (b := 8) (n := k) (fun i _ => by
    show (if _ then _ else _) ≤ 8
    by_cases z : f (i % w) (i / w) = true
    · rw [if_pos z]; exact cnt8_le _ _ _ _ _ _
    · rw [if_neg z]; exact Nat.zero_le _)
  omega
