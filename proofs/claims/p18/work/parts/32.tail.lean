/-! ===== the tail of the count: the bytes are added ===== -/
theorem tl_1 (a b : Nat) (h : a < 256) : (a + 256 * b) / 256 = b := by omega
theorem tl_2 (a b : Nat) (h : a < 65536) : (a + 65536 * b) / 65536 = b := by omega
theorem tl_3 (a b : Nat) (h : a < 4294967296) : (a + 4294967296 * b) / 4294967296 = b := by omega
theorem tl_4 (l0 l1 Q q0 q1 : Nat) (h : l0 + q0 < 128) : ((l0 + 256 * l1) + 4294967296 * Q + (q0 + 256 * q1)) % 128 = l0 + q0 := by omega
theorem tl_5 (A0 B0 A1 B1 A2 B2 Z : Nat) : ((A0 + 256 * B0) + 65536 * ((A1 + 256 * B1) + 65536 * ((A2 + 256 * B2) + 65536 * Z))) + ((A1 + 256 * B1) + 65536 * ((A2 + 256 * B2) + 65536 * Z)) = ((A0 + A1) + 256 * (B0 + B1) + 65536 * ((A1 + A2) + 256 * (B1 + B2))) + 4294967296 * (((A2 + 256 * B2) + 65536 * Z) + Z) := by omega
set_option maxHeartbeats 200000 in
theorem tl_6 (A0 B0 A1 B1 A2 B2 A3 B3 : Nat) (h0 : A0 ≤ 16) (h1 : B0 ≤ 16) (h2 : A1 ≤ 16) (h3 : B1 ≤ 16) (h4 : A2 ≤ 16) (h5 : B2 ≤ 16) (h6 : A3 ≤ 16) (h7 : B3 ≤ 16) (Y y : Nat) (hY : Y = (A0 + 256 * B0) + 65536 * ((A1 + 256 * B1) + 65536 * ((A2 + 256 * B2) + 65536 * (A3 + 256 * B3)))) (hy : y = (A1 + 256 * B1) + 65536 * ((A2 + 256 * B2) + 65536 * (A3 + 256 * B3))) : (Y + y + (Y + y) / 4294967296) % 128 = A0 + A1 + (A2 + A3) := by
  rw [hY, hy, tl_5, tl_3 _ _ (by omega)]
  have e : ((A2 + 256 * B2) + 65536 * (A3 + 256 * B3)) + (A3 + 256 * B3) = (A2 + A3) + 256 * (B2 + 256 * (A3 + 256 * B3) + B3) := by omega
  have e2 : (A0 + A1) + 256 * (B0 + B1) + 65536 * ((A1 + A2) + 256 * (B1 + B2)) = (A0 + A1) + 256 * ((B0 + B1) + 256 * ((A1 + A2) + 256 * (B1 + B2))) := by omega
  rw [e, e2]
  exact tl_4 _ _ _ _ _ (by omega)
theorem tl_7 (a0 a1 a2 a3 a4 a5 a6 a7 : Nat) : (a0 + 256 * (a1 + 256 * (a2 + 256 * (a3 + 256 * (a4 + 256 * (a5 + 256 * (a6 + 256 * a7))))))) + (a1 + 256 * (a2 + 256 * (a3 + 256 * (a4 + 256 * (a5 + 256 * (a6 + 256 * a7)))))) = ((a0 + a1) + 256 * (a1 + a2)) + 65536 * (((a2 + a3) + 256 * (a3 + a4)) + 65536 * (((a4 + a5) + 256 * (a5 + a6)) + 65536 * ((a6 + a7) + 256 * a7))) := by omega
set_option maxHeartbeats 200000 in
theorem sw_tail (n : Nat) : ((byt 8 n + byt 8 n / 256 + (byt 8 n + byt 8 n / 256) / 65536) + (byt 8 n + byt 8 n / 256 + (byt 8 n + byt 8 n / 256) / 65536) / 4294967296) % 128 = cntN n.testBit 64 := by
  rw [byt_8, cnt_64]
  have h0 := pop8_le (n % 256)
  have h1 := pop8_le (n / 256 % 256)
  have h2 := pop8_le (n / 256 / 256 % 256)
  have h3 := pop8_le (n / 256 / 256 / 256 % 256)
  have h4 := pop8_le (n / 256 / 256 / 256 / 256 % 256)
  have h5 := pop8_le (n / 256 / 256 / 256 / 256 / 256 % 256)
  have h6 := pop8_le (n / 256 / 256 / 256 / 256 / 256 / 256 % 256)
  have h7 := pop8_le (n / 256 / 256 / 256 / 256 / 256 / 256 / 256 % 256)
  revert h0 h1 h2 h3 h4 h5 h6 h7
  generalize pop8 (n % 256) = a0
  generalize pop8 (n / 256 % 256) = a1
  generalize pop8 (n / 256 / 256 % 256) = a2
  generalize pop8 (n / 256 / 256 / 256 % 256) = a3
  generalize pop8 (n / 256 / 256 / 256 / 256 % 256) = a4
  generalize pop8 (n / 256 / 256 / 256 / 256 / 256 % 256) = a5
  generalize pop8 (n / 256 / 256 / 256 / 256 / 256 / 256 % 256) = a6
  generalize pop8 (n / 256 / 256 / 256 / 256 / 256 / 256 / 256 % 256) = a7
  intro h0 h1 h2 h3 h4 h5 h6 h7
  rw [tl_1 _ _ (by omega), tl_7, tl_2 _ _ (by omega), tl_6 (a0 + a1) (a1 + a2) (a2 + a3) (a3 + a4) (a4 + a5) (a5 + a6) (a6 + a7) a7 (by omega) (by omega) (by omega) (by omega) (by omega) (by omega) (by omega) (by omega) _ _ rfl rfl]
  simp only [Nat.add_assoc]
theorem mk5_8 : mk5 8 = 6148914691236517205 := by decide +kernel
theorem mk3_8 : mk3 8 = 3689348814741910323 := by decide +kernel
theorem mkf_8 : mkf 8 = 1085102592571150095 := by decide +kernel
theorem bc_lN (n : Nat) (hn : n < 2 ^ 64) : f_J13_bitCount_95d88 (lN n) = nI (cntN n.testBit 64) := by
  have hn' : n < 18446744073709551616 := hn
  have s1 : lN n - ((jushr (lN n) 1) &&& 6148914691236517205) = lN (sw1 8 n) := by
    have h1 : jushr (lN n) 1 = lN (n / 2) := wb_shr (k := 1) hn (by decide)
    rw [h1]
    show lN n - (lN (n / 2) &&& lN 6148914691236517205) = _
    rw [wb_and (by omega) (by decide), ← mk5_8, lN_sub (sw1_le 8 n)]
    rfl
  have b1 : sw1 8 n < 18446744073709551616 := by unfold sw1; omega
  have s2 : ((lN (sw1 8 n)) &&& 3689348814741910323) + ((jushr (lN (sw1 8 n)) 2) &&& 3689348814741910323) = lN (sw2 8 (sw1 8 n)) := by
    have h1 : jushr (lN (sw1 8 n)) 2 = lN (sw1 8 n / 4) := wb_shr (k := 2) b1 (by decide)
    rw [h1]
    show (lN (sw1 8 n) &&& lN 3689348814741910323) + (lN (sw1 8 n / 4) &&& lN 3689348814741910323) = _
    rw [wb_and b1 (by decide), wb_and (by omega) (by decide), lN_add, ← mk3_8]
    rfl
  have b2 : sw2 8 (sw1 8 n) ≤ 7378697629483820646 := by
    have h1 : (sw1 8 n) &&& mk3 8 ≤ mk3 8 := Nat.and_le_right
    have h2 : (sw1 8 n / 4) &&& mk3 8 ≤ mk3 8 := Nat.and_le_right
    rw [mk3_8] at h1 h2
    unfold sw2
    rw [mk3_8]
    omega
  have s3 : ((lN (sw2 8 (sw1 8 n)) + (jushr (lN (sw2 8 (sw1 8 n))) 4)) &&& 1085102592571150095) = lN (byt 8 n) := by
    have h1 : jushr (lN (sw2 8 (sw1 8 n))) 4 = lN (sw2 8 (sw1 8 n) / 16) := wb_shr (k := 4) (by omega) (by decide)
    rw [h1, lN_add]
    show lN _ &&& lN 1085102592571150095 = _
    rw [wb_and (by omega) (by decide), ← mkf_8, ← sw_byt 8 n hn]
    rfl
  have b3 : byt 8 n ≤ 1085102592571150095 := by
    rw [← sw_byt 8 n hn, ← mkf_8]
    exact Nat.and_le_right
  have h8 : jushr (lN (byt 8 n)) 8 = lN (byt 8 n / 256) := wb_shr (k := 8) (by omega) (by decide)
  have h16 : jushr (lN (byt 8 n + byt 8 n / 256)) 16 = lN ((byt 8 n + byt 8 n / 256) / 65536) := wb_shr (k := 16) (by omega) (by decide)
  have h32 : jushr (lN (byt 8 n + byt 8 n / 256 + (byt 8 n + byt 8 n / 256) / 65536)) 32 = lN ((byt 8 n + byt 8 n / 256 + (byt 8 n + byt 8 n / 256) / 65536) / 4294967296) := wb_shr (k := 32) (by omega) (by decide)
  unfold f_J13_bitCount_95d88 bindv
  rw [s1, s2]
  (try dsimp only)
  rw [s3, h8, lN_add]
  (try dsimp only)
  rw [h16, lN_add, h32, lN_add, lN_i, pk_and _ 7 (by decide)]
  congr 1
  show (BitVec.ofNat 32 _).toNat % 2 ^ 7 = _
  rw [BitVec.toNat_ofNat, Nat.mod_mod_of_dvd _ (by decide : 2 ^ 7 ∣ 2 ^ 32)]
  exact sw_tail n
/-- how many bits -/
def pc (x : Int64) : Nat := cntN (cb x) 64
theorem bc_pc (x : Int64) : f_J13_bitCount_95d88 x = nI (pc x) := by
  obtain ⟨n, hn, rfl⟩ := wb_of x
  rw [bc_lN n hn]
  congr 1
  unfold pc
  refine cntN_cong (fun i hi => ?_)
  show n.testBit i = (BitVec.ofNat 64 n).getLsbD i
  rw [BitVec.getLsbD_ofNat]
  simp [hi]
theorem pc_le (x : Int64) : pc x ≤ 64 := cntN_le _ 64
