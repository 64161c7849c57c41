/-! ===== how many bits, and the lowest of them ===== -/
theorem wb_tb (n : Nat) : (lN n).toBitVec = BitVec.ofNat 64 n := rfl
theorem wb_inj {a b : Int64} (h : a.toBitVec = b.toBitVec) : a = b := Int64.toBitVec_inj.mp h
theorem wb_tn {n : Nat} (h : n < 2 ^ 64) : (lN n).toBitVec.toNat = n := by rw [wb_tb, BitVec.toNat_ofNat, Nat.mod_eq_of_lt h]
theorem wb_of (x : Int64) : ∃ n, n < 2 ^ 64 ∧ x = lN n := ⟨x.toBitVec.toNat, x.toBitVec.isLt, wb_inj (by rw [wb_tb]; simp)⟩
theorem wb_cu : ∀ k, k < 64 → ((nI k).toInt64.toUInt64 &&& Int64.toUInt64 63) = UInt64.ofNat k := by decide +kernel
theorem wb_shr {n k : Nat} (hn : n < 2 ^ 64) (hk : k < 64) : jushr (lN n) (nI k) = lN (n / 2 ^ k) := by
  unfold jushr
  rw [wb_cu k hk]
  apply wb_inj
  apply BitVec.eq_of_toNat_eq
  show ((lN n).toUInt64 >>> UInt64.ofNat k).toNat = (BitVec.ofNat 64 _).toNat
  have h1 : (UInt64.ofNat k).toNat = k := by
    show (BitVec.ofNat 64 k).toNat = k
    rw [BitVec.toNat_ofNat, Nat.mod_eq_of_lt (by omega)]
  have h2 : (lN n).toUInt64.toNat = n := wb_tn hn
  rw [UInt64.toNat_shiftRight, h1, h2, Nat.mod_eq_of_lt hk, Nat.shiftRight_eq_div_pow, BitVec.toNat_ofNat, Nat.mod_eq_of_lt (Nat.lt_of_le_of_lt (Nat.div_le_self _ _) hn)]
theorem wb_and {a b : Nat} (ha : a < 2 ^ 64) (hb : b < 2 ^ 64) : lN a &&& lN b = lN (a &&& b) := by
  apply wb_inj
  rw [Int64.toBitVec_and, wb_tb, wb_tb, wb_tb]
  apply BitVec.eq_of_toNat_eq
  rw [BitVec.toNat_and, BitVec.toNat_ofNat, BitVec.toNat_ofNat, BitVec.toNat_ofNat, Nat.mod_eq_of_lt ha, Nat.mod_eq_of_lt hb, Nat.mod_eq_of_lt (Nat.and_lt_two_pow _ hb)]
/-- how many of the first n -/
def cntN (p : Nat → Bool) : Nat → Nat
  | 0 => 0
  | n + 1 => cntN p n + (p n).toNat
theorem cntN_add (p : Nat → Bool) (m : Nat) : ∀ n, cntN p (m + n) = cntN p m + cntN (fun i => p (m + i)) n
  | 0 => rfl
  | n + 1 => by
    show cntN p (m + n) + (p (m + n)).toNat = _
    rw [cntN_add p m n]
    show _ = cntN p m + (cntN (fun i => p (m + i)) n + (p (m + n)).toNat)
    omega
theorem cntN_cong {p q : Nat → Bool} : ∀ {n : Nat}, (∀ i, i < n → p i = q i) → cntN p n = cntN q n
  | 0, _ => rfl
  | n + 1, h => by
    show cntN p n + (p n).toNat = cntN q n + (q n).toNat
    rw [cntN_cong (fun i hi => h i (Nat.lt_succ_of_lt hi)), h n (Nat.lt_succ_self n)]
theorem cntN_le (p : Nat → Bool) : ∀ n, cntN p n ≤ n
  | 0 => Nat.le_refl 0
  | n + 1 => by
    have h := cntN_le p n
    have h2 : (p n).toNat ≤ 1 := by cases p n <;> decide
    show cntN p n + (p n).toNat ≤ n + 1
    omega
theorem cntN_pos {p : Nat → Bool} : ∀ {n : Nat}, 0 < cntN p n ↔ ∃ i, i < n ∧ p i = true
  | 0 => ⟨fun h => absurd h (Nat.lt_irrefl 0), fun ⟨i, h, _⟩ => absurd h (Nat.not_lt_zero i)⟩
  | n + 1 => by
    show 0 < cntN p n + (p n).toNat ↔ _
    constructor
    · intro h
      cases hp : p n with
      | true => exact ⟨n, Nat.lt_succ_self n, hp⟩
      | false =>
        rw [hp] at h
        obtain ⟨i, hi, hc⟩ := cntN_pos.mp (show 0 < cntN p n from h)
        exact ⟨i, Nat.lt_succ_of_lt hi, hc⟩
    · rintro ⟨i, hi, hc⟩
      rcases Nat.lt_or_ge i n with h | h
      · have := cntN_pos.mpr ⟨i, h, hc⟩
        omega
      · have : i = n := by omega
        subst this
        rw [hc]
        show 0 < cntN p i + 1
        omega
/-- fewer there, fewer in all -/
theorem cntN_mono {p q : Nat → Bool} : ∀ {n : Nat}, (∀ i, i < n → p i = true → q i = true) → cntN p n ≤ cntN q n
  | 0, _ => Nat.le_refl 0
  | n + 1, h => by
    have h1 := cntN_mono (n := n) (fun i hi => h i (Nat.lt_succ_of_lt hi))
    have h2 : (p n).toNat ≤ (q n).toNat := by
      cases hp : p n with
      | false => exact Nat.zero_le _
      | true => rw [h n (Nat.lt_succ_self n) hp]; exact Nat.le_refl _
    show cntN p n + (p n).toNat ≤ cntN q n + (q n).toNat
    omega
theorem cntN_lt {p q : Nat → Bool} : ∀ {n : Nat}, (∀ i, i < n → p i = true → q i = true) → (∃ i, i < n ∧ p i = false ∧ q i = true) → cntN p n < cntN q n
  | 0, _, ⟨i, h, _⟩ => absurd h (Nat.not_lt_zero i)
  | n + 1, h, ⟨i, hi, h1, h2⟩ => by
    have hm := cntN_mono (n := n) (fun j hj => h j (Nat.lt_succ_of_lt hj))
    have h3 : (p n).toNat ≤ (q n).toNat := by
      cases hp : p n with
      | false => exact Nat.zero_le _
      | true => rw [h n (Nat.lt_succ_self n) hp]; exact Nat.le_refl _
    show cntN p n + (p n).toNat < cntN q n + (q n).toNat
    rcases Nat.lt_or_ge i n with hl | hl
    · have := cntN_lt (n := n) (fun j hj => h j (Nat.lt_succ_of_lt hj)) ⟨i, hl, h1, h2⟩
      omega
    · have : i = n := by omega
      subst this
      rw [h1, h2]
      show cntN p i + 0 < cntN q i + 1
      omega
theorem and_split {a b c d : Nat} (hb : b < 256) (hd : d < 256) : (256 * a + b) &&& (256 * c + d) = 256 * (a &&& c) + (b &&& d) := by
  have h1 : ((256 * a + b) &&& (256 * c + d)) / 2 ^ 8 = a &&& c := by
    rw [Nat.and_div_two_pow]
    rw [show (256 * a + b) / 2 ^ 8 = a by omega, show (256 * c + d) / 2 ^ 8 = c by omega]
  have h2 : ((256 * a + b) &&& (256 * c + d)) % 2 ^ 8 = b &&& d := by
    rw [Nat.and_mod_two_pow]
    rw [show (256 * a + b) % 2 ^ 8 = b by omega, show (256 * c + d) % 2 ^ 8 = d by omega]
  have h3 := Nat.div_add_mod ((256 * a + b) &&& (256 * c + d)) (2 ^ 8)
  rw [h1, h2] at h3
  omega
def mk5 : Nat → Nat
  | 0 => 0
  | L + 1 => 256 * mk5 L + 85
def mk3 : Nat → Nat
  | 0 => 0
  | L + 1 => 256 * mk3 L + 51
def mkf : Nat → Nat
  | 0 => 0
  | L + 1 => 256 * mkf L + 15
def sw1 (L n : Nat) : Nat := n - ((n / 2) &&& mk5 L)
def sw2 (L n : Nat) : Nat := (n &&& mk3 L) + ((n / 4) &&& mk3 L)
def sw3 (L n : Nat) : Nat := (n + n / 16) &&& mkf L
/-- the bytes' counts, side by side -/
def pop8 (b : Nat) : Nat := cntN b.testBit 8
def byt : Nat → Nat → Nat
  | 0, _ => 0
  | L + 1, n => 256 * byt L (n / 256) + pop8 (n % 256)
theorem sw1_le (L n : Nat) : (n / 2) &&& mk5 L ≤ n := Nat.le_trans Nat.and_le_left (Nat.div_le_self n 2)
theorem sw1_s (L q b : Nat) (hb : b < 256) : sw1 (L + 1) (256 * q + b) = 256 * sw1 L q + (b - ((b / 2) &&& 85)) := by
  have e : (256 * q + b) / 2 = 256 * (q / 2) + (128 * (q % 2) + b / 2) := by omega
  have hm : q % 2 < 2 := Nat.mod_lt _ (by decide)
  have h1 : (128 * (q % 2) + b / 2) &&& 85 = (b / 2) &&& 85 := (by decide +kernel : ∀ r, r < 2 → ∀ b, b < 256 → (128 * r + b / 2) &&& 85 = (b / 2) &&& 85) _ hm _ hb
  have h2 : (b / 2) &&& 85 ≤ b := Nat.le_trans Nat.and_le_left (Nat.div_le_self b 2)
  have h3 := sw1_le L q
  show (256 * q + b) - (((256 * q + b) / 2) &&& (256 * mk5 L + 85)) = 256 * (q - ((q / 2) &&& mk5 L)) + _
  rw [e, and_split (by omega) (by decide), h1]
  omega
theorem sw2_s (L q b : Nat) (hb : b < 256) : sw2 (L + 1) (256 * q + b) = 256 * sw2 L q + ((b &&& 51) + ((b / 4) &&& 51)) := by
  have e : (256 * q + b) / 4 = 256 * (q / 4) + (64 * (q % 4) + b / 4) := by omega
  have hm : q % 4 < 4 := Nat.mod_lt _ (by decide)
  have h1 : (64 * (q % 4) + b / 4) &&& 51 = (b / 4) &&& 51 := (by decide +kernel : ∀ r, r < 4 → ∀ b, b < 256 → (64 * r + b / 4) &&& 51 = (b / 4) &&& 51) _ hm _ hb
  show ((256 * q + b) &&& (256 * mk3 L + 51)) + (((256 * q + b) / 4) &&& (256 * mk3 L + 51)) = 256 * ((q &&& mk3 L) + ((q / 4) &&& mk3 L)) + _
  rw [e, and_split hb (by decide), and_split (by omega) (by decide), h1]
  omega
theorem sw3_s (L q b : Nat) (hb : b ≤ 68) (hb2 : b / 16 ≤ 4) (hq : q % 16 ≤ 4) : sw3 (L + 1) (256 * q + b) = 256 * sw3 L q + ((b + b / 16) &&& 15) := by
  have e : (256 * q + b) + (256 * q + b) / 16 = 256 * (q + q / 16) + (b + (16 * (q % 16) + b / 16)) := by omega
  have h1 : (b + (16 * (q % 16) + b / 16)) &&& 15 = (b + b / 16) &&& 15 := (by decide +kernel : ∀ r, r < 5 → ∀ b, b < 69 → (b + (16 * r + b / 16)) &&& 15 = (b + b / 16) &&& 15) _ (by omega) _ (by omega)
  show ((256 * q + b) + (256 * q + b) / 16) &&& (256 * mkf L + 15) = 256 * ((q + q / 16) &&& mkf L) + _
  rw [e, and_split (by omega) (by decide), h1]
theorem sw_b : ∀ b, b < 256 → ((b - ((b / 2) &&& 85)) < 256 ∧ (((b - ((b / 2) &&& 85)) &&& 51) + (((b - ((b / 2) &&& 85)) / 4) &&& 51)) ≤ 68 ∧ (((b - ((b / 2) &&& 85)) &&& 51) + (((b - ((b / 2) &&& 85)) / 4) &&& 51)) / 16 ≤ 4 ∧ (((b - ((b / 2) &&& 85)) &&& 51) + (((b - ((b / 2) &&& 85)) / 4) &&& 51)) % 16 ≤ 4 ∧ (((((b - ((b / 2) &&& 85)) &&& 51) + (((b - ((b / 2) &&& 85)) / 4) &&& 51)) + (((b - ((b / 2) &&& 85)) &&& 51) + (((b - ((b / 2) &&& 85)) / 4) &&& 51)) / 16) &&& 15) = pop8 b) := by decide +kernel
theorem sw_low : ∀ (L n : Nat), n < 256 ^ L → (sw2 L (sw1 L n)) % 16 ≤ 4
  | 0, n, h => by
    have : n = 0 := by simpa using h
    subst this
    decide
  | L + 1, n, h => by
    have e : n = 256 * (n / 256) + n % 256 := by omega
    have hb : n % 256 < 256 := Nat.mod_lt _ (by decide)
    obtain ⟨h1, h2, h3, h4, h5⟩ := sw_b _ hb
    rw [e, sw1_s L _ _ hb, sw2_s L _ _ h1]
    omega
theorem sw_byt : ∀ (L n : Nat), n < 256 ^ L → sw3 L (sw2 L (sw1 L n)) = byt L n
  | 0, n, h => by
    have : n = 0 := by simpa using h
    subst this
    decide
  | L + 1, n, h => by
    have e : n = 256 * (n / 256) + n % 256 := by omega
    have hb : n % 256 < 256 := Nat.mod_lt _ (by decide)
    have hq : n / 256 < 256 ^ L := by
      rw [Nat.pow_succ] at h
      exact Nat.div_lt_of_lt_mul (by rw [Nat.mul_comm]; exact h)
    obtain ⟨h1, h2, h3, h4, h5⟩ := sw_b _ hb
    have e1 : sw1 (L + 1) n = 256 * sw1 L (n / 256) + (n % 256 - ((n % 256 / 2) &&& 85)) := by
      have := sw1_s L (n / 256) (n % 256) hb
      rw [← e] at this
      exact this
    rw [e1, sw2_s L _ _ h1, sw3_s L _ _ h2 h3 (sw_low L _ hq), h5, sw_byt L _ hq]
    rfl
theorem byt_cnt : ∀ (L n : Nat), cntN n.testBit (8 * L) = cntN n.testBit 8 * (if L = 0 then 0 else 1) + (if L = 0 then 0 else cntN (n / 256).testBit (8 * (L - 1)))
  | 0, n => rfl
  | L + 1, n => by
    rw [show 8 * (L + 1) = 8 + 8 * L by omega, cntN_add]
    simp only [Nat.add_one_ne_zero, if_false, Nat.mul_one, Nat.add_sub_cancel]
    congr 1
    refine cntN_cong (fun i _ => ?_)
    rw [show (256 : Nat) = 2 ^ 8 by decide, Nat.testBit_div_two_pow, Nat.add_comm]
theorem pop8_mod (n : Nat) : pop8 (n % 256) = cntN n.testBit 8 := by
  unfold pop8
  refine cntN_cong (fun i hi => ?_)
  rw [show (256 : Nat) = 2 ^ 8 by decide, Nat.testBit_mod_two_pow]
  simp [hi]
theorem byt_8 (n : Nat) : byt 8 n = pop8 (n % 256) + 256 * (pop8 (n / 256 % 256) + 256 * (pop8 (n / 256 / 256 % 256) + 256 * (pop8 (n / 256 / 256 / 256 % 256) + 256 * (pop8 (n / 256 / 256 / 256 / 256 % 256) + 256 * (pop8 (n / 256 / 256 / 256 / 256 / 256 % 256) + 256 * (pop8 (n / 256 / 256 / 256 / 256 / 256 / 256 % 256) + 256 * pop8 (n / 256 / 256 / 256 / 256 / 256 / 256 / 256 % 256))))))) := by
  simp only [byt]
  omega
theorem cnt_64 (n : Nat) : cntN n.testBit 64 = pop8 (n % 256) + (pop8 (n / 256 % 256) + (pop8 (n / 256 / 256 % 256) + (pop8 (n / 256 / 256 / 256 % 256) + (pop8 (n / 256 / 256 / 256 / 256 % 256) + (pop8 (n / 256 / 256 / 256 / 256 / 256 % 256) + (pop8 (n / 256 / 256 / 256 / 256 / 256 / 256 % 256) + pop8 (n / 256 / 256 / 256 / 256 / 256 / 256 / 256 % 256))))))) := by
  have h : ∀ L n, cntN n.testBit (8 * (L + 1)) = pop8 (n % 256) + cntN (n / 256).testBit (8 * L) := fun L n => by
    have := byt_cnt (L + 1) n
    simp only [Nat.add_one_ne_zero, if_false, Nat.mul_one, Nat.add_sub_cancel] at this
    rw [this, pop8_mod]
  rw [show (64 : Nat) = 8 * (7 + 1) by decide, h, show 8 * 7 = 8 * (6 + 1) by decide, h, show 8 * 6 = 8 * (5 + 1) by decide, h, show 8 * 5 = 8 * (4 + 1) by decide, h, show 8 * 4 = 8 * (3 + 1) by decide, h, show 8 * 3 = 8 * (2 + 1) by decide, h, show 8 * 2 = 8 * (1 + 1) by decide, h, show 8 * 1 = 8 * (0 + 1) by decide, h]
  rfl
theorem pop8_le (b : Nat) : pop8 b ≤ 8 := cntN_le _ 8
