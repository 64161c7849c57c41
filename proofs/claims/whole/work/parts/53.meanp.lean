/-! ===== mean ===== -/
theorem meM_l {m : MoS} {w h : Nat} {rd : Bool} (hW : WH w h) (hM : MOK m w h rd) (s : StS) (a : Nat → Int32) : ∀ (nf k : Nat) (b : Int32), k ≤ w * h → w * h - k < nf → lp_X7_mean_9 m s a nf b (nI k) = some (foldN (fun b i => sF s.2.2.2 a b (k + i)) b (w * h - k))
  | 0, _, _, _, hh => absurd hh (Nat.not_lt_zero _)
  | nf + 1, k, b, hk, hh => by
    have h64 := wh_64 hW
    rw [lp_X7_mean_9.eq_2]
    have e0 : m.2.1 * m.2.2.1 = nI (w * h) := by rw [hM.1, hM.2.1, pk_mul]
    rw [e0]
    by_cases q : w * h ≤ k
    · rw [if_pos ((nI_leI (by omega) (by omega)).mpr q), show w * h - k = 0 by omega]
      rfl
    · rw [if_neg (fun z => q ((nI_leI (by omega) (by omega)).mp z)), has_ok s (show k < 64 by omega), if_neg (l_out (by omega) (by decide)), l_toN (by omega), nI_1]
      have key : ∀ v : Int32, (Option.bind (if (if cb s.2.2.2 k = true then (1 : Int32) else 0) = 0 then (some 0) else (some (a k)) : Option Int32) fun v7 => lp_X7_mean_9 m s a nf (b + v7) (nI (k + 1))) = lp_X7_mean_9 m s a nf (sF s.2.2.2 a b k) (nI (k + 1)) := fun _ => by
        unfold sF
        by_cases c : cb s.2.2.2 k = true
        · rw [if_pos c, if_pos c, if_neg (by decide), Option.bind_some]
        · rw [if_neg c, if_neg c, if_pos rfl, Option.bind_some, Int32.add_zero]
      rw [key 0, meM_l hW hM s a nf (k + 1) _ (by omega) (by omega), show w * h - k = 1 + (w * h - (k + 1)) by omega, foldN_add]
      congr 1
      exact foldN_cong (fun b i _ => by rw [show k + 1 + i = k + (1 + i) by omega])
theorem o_mean {w h : Nat} {rd : Bool} {g : GrS} {r : RuS} {d : GaS} {a : Nat → Int32} {m : MoS} {fR fB : Nat → Int64} {s : StS} {a' : Nat → Int32} (H : WR w h rd g r d a m fR fB s a') : ∃ v, f_X5_mean d a = some v ∧ f_X7_mean m s a' = some (v, mz m 0) := by
  obtain ⟨hW, hG, hM, hr, hT, R⟩ := H
  have h64 := wh_64 hW
  have w8 := hW.2.1
  have h0 : nI 0 = 0 := rfl
  have e1 := sumC_l d a 100 0 0 (by decide) (by decide)
  have e2 := meM_l hW hM s a' 100 0 0 (Nat.zero_le _) (by omega)
  have e3 : foldN (fun b i => sF d.1 a b (0 + i)) 0 (64 - 0) = foldN (fun b i => sF s.2.2.2 a' b (0 + i)) 0 (w * h - 0) := by
    refine fold_all hW (fun b x y hx hy => ?_) (fun b i hi hn => ?_) 0
    · have hb := R.1.1 x y hx hy
      unfold BC BM at hb
      simp only [Nat.zero_add]
      unfold sF
      rw [hb]
      by_cases c : cb s.2.2.2 (w * y + x) = true
      · rw [if_pos c, if_pos c, R.2.2.2.2 x y hx hy (hb.trans c)]
      · rw [if_neg c, if_neg c]
    · simp only [Nat.zero_add]
      unfold sF
      rw [if_neg (fun z => hn (R.1.2.1 i z))]
  rw [← e3] at e2
  rw [h0] at e1 e2
  unfold f_X5_mean f_X7_mean f_X2_ageOfAll
  rw [e1, e2, Option.bind_some, Option.bind_some, Option.bind_some]
  have hs : f_X2_size d = nI (pc d.1) := bc_pc d.1
  have hz := RelB_z hW R.1
  have hp := pc_le d.1
  by_cases c : s.2.2.2 = 0
  · have : pc d.1 = 0 := by
      apply Classical.byContradiction
      intro q
      exact pc_pos.mp (Nat.pos_of_ne_zero q) (hz.mpr c)
    rw [if_pos c, hs, this, if_pos (show nI 0 ≤ 0 by decide)]
    exact ⟨_, rfl, rfl⟩
  · have hpos : 0 < pc d.1 := pc_pos.mpr (fun z => c (hz.mp z))
    rw [if_neg c, hs, if_neg (show ¬ nI (pc d.1) ≤ 0 from fun z => by
      have := (nI_leI (a := pc d.1) (b := 0) (by omega) (by decide)).mp z
      omega)]
    refine ⟨_, rfl, ?_⟩
    rw [← RelB_bc hW R.1, bc_pc]
