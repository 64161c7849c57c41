/-! ===== the law's loop ===== -/
theorem gt_ok {L j : Nat} (hL : L ≤ 2560) (hj : j ≤ 600) : (nI L - 5 < nI (5 * j)) ↔ L < 5 * j + 5 := by
  rcases Nat.lt_or_ge L 5 with h | h
  · have h0 : nI L - 5 < 0 := by
      match L, h with
      | 0, _ => decide
      | 1, _ => decide
      | 2, _ => decide
      | 3, _ => decide
      | 4, _ => decide
    have h1 : ¬ nI (5 * j) < 0 := nI_pos (by omega)
    refine ⟨fun _ => by omega, fun _ => ?_⟩
    rw [Int32.lt_iff_toInt_lt] at h0 h1 ⊢
    omega
  · rw [show nI L - 5 = nI (L - 5) from pk_sub (a := L) (b := 5) h, nI_ltI (by omega) (by omega)]
    omega
set_option maxHeartbeats 1000000 in
set_option maxRecDepth 100000 in
theorem law_loop {p : Program} {l : Launch} {e : Env} {s : State} {m : MethodId} {below : List Frame} {meth : Method} {c : Code} {b L : Nat} {xs : Nat → Int32} {A : Nat → Prop} {dC : Nat → ClassId} {dI : Nat → Nat → Nat} {cI cJ : ClassId} (hlt : l.stackTraces = false) (hx : p.tables.exec = Jvm.exec) (hb : c.code = cL_law) (hml : c.maxLocals = 9) (hown : s.vm.findClass RL = some m.cls) (hts : ∀ w ∈ wsL_law, w.before #[Value.ref b] s = true) (hX : va_X b L xs s s.heap) (hbl : b < s.heap.size) (hbA : ¬ A b) (hA : ∀ q, s.heap.size ≤ q → A q) (hnw : nwM s) (hfg : fgM A s) (hex : exE A s) (hn1 : va_Nc "java/lang/IllegalStateException" "java/lang/IndexOutOfBoundsException" s) (hn2 : va_Nc "java/lang/IndexOutOfBoundsException" "java/lang/IllegalArgumentException" s) (hK : va_K (dC, dI) vwCl [(cI, .int), (cJ, .long)] s) (hr : meth.sig.returnType = ret) (hlocks : meth.locks = false) (hL : L ≤ 2560) {k0 n0 : Nat} (hk0 : k0 + 513 ≤ 1056) (hn0 : n0 + 3078 ≤ 8839) {zhg zgr zru zcr zga zag zfo zaf zco zmo zar zbe zst zsa zah zaa zgd zou : Nat} : ∀ (nf j : Nat), L - 5 * j < nf → 5 * j ≤ L + 4 → ∀ (d0 : Drawn) (_ : s.drawn.sameBut d0 lw_cs) (w h : Nat) (rd : Bool) (gG : GrS) (rR : RuS) (qC : CrS) (dG : GaS) (aG : Nat → Int32) (dF : GaS) (aF : Nat → Int32) (kC : Nat → Int64) (mM : MoS) (fR : Nat → Int64) (fB : Nat → Int64) (sS : StS) (aS : Nat → Int32) (sA : StS) (aA : Nat → Int32) (fD : Nat → Int64) (oO : Nat → Int64) (H : Heap) (locs : List Loc) (ls : Array Slot), WR w h rd gG rR dG aG mM fR fB sS aS → va_P (dC, dI) vwCl [(zhg, .inr (4, [.ref zgr, .ref zru, .ref zga, .ref zfo, .ref zco])), (zgr, .inr (2, [.int gG.1, .int gG.2.1, .int (bI gG.2.2.1), .long gG.2.2.2.1, .long gG.2.2.2.2.1, .long gG.2.2.2.2.2.1, .long gG.2.2.2.2.2.2.1, .long gG.2.2.2.2.2.2.2])), (zru, .inr (3, [.ref zgr, .ref zcr, .int rR.1, .int rR.2])), (zcr, .inr (0, [.long qC.1, .long qC.2.1, .long qC.2.2.1, .long qC.2.2.2])), (zga, .inr (1, [.ref zgr, .ref zru, .ref zag, .long dG.1, .int dG.2.1, .int dG.2.2.1, .int dG.2.2.2])), (zag, .inl (cI, 64, .inl aG)), (zfo, .inr (1, [.ref zgr, .ref zru, .ref zaf, .long dF.1, .int dF.2.1, .int dF.2.2.1, .int dF.2.2.2])), (zaf, .inl (cI, 64, .inl aF)), (zco, .inl (cJ, 61, .inr (.inl kC))), (zmo, .inr (6, [.int mM.1, .int mM.2.1, .int mM.2.2.1, .int (bI mM.2.2.2.1), .int mM.2.2.2.2.1, .int mM.2.2.2.2.2, .ref zar, .ref zbe, .ref zst, .ref zah, .ref zgd])), (zar, .inl (cJ, 64, .inr (.inl fR))), (zbe, .inl (cJ, 64, .inr (.inl fB))), (zst, .inr (5, [.int sS.1, .int sS.2.1, .int sS.2.2.1, .long sS.2.2.2, .ref zsa])), (zsa, .inl (cI, 64, .inl aS)), (zah, .inr (5, [.int sA.1, .int sA.2.1, .int sA.2.2.1, .long sA.2.2.2, .ref zaa])), (zaa, .inl (cI, 64, .inl aA)), (zgd, .inl (cJ, 61, .inr (.inl fD))), (zou, .inl (cJ, 1, .inr (.inl oO)))] H → va_D A [(zhg, .inr (4, [.ref zgr, .ref zru, .ref zga, .ref zfo, .ref zco])), (zgr, .inr (2, [.int gG.1, .int gG.2.1, .int (bI gG.2.2.1), .long gG.2.2.2.1, .long gG.2.2.2.2.1, .long gG.2.2.2.2.2.1, .long gG.2.2.2.2.2.2.1, .long gG.2.2.2.2.2.2.2])), (zru, .inr (3, [.ref zgr, .ref zcr, .int rR.1, .int rR.2])), (zcr, .inr (0, [.long qC.1, .long qC.2.1, .long qC.2.2.1, .long qC.2.2.2])), (zga, .inr (1, [.ref zgr, .ref zru, .ref zag, .long dG.1, .int dG.2.1, .int dG.2.2.1, .int dG.2.2.2])), (zag, .inl (cI, 64, .inl aG)), (zfo, .inr (1, [.ref zgr, .ref zru, .ref zaf, .long dF.1, .int dF.2.1, .int dF.2.2.1, .int dF.2.2.2])), (zaf, .inl (cI, 64, .inl aF)), (zco, .inl (cJ, 61, .inr (.inl kC))), (zmo, .inr (6, [.int mM.1, .int mM.2.1, .int mM.2.2.1, .int (bI mM.2.2.2.1), .int mM.2.2.2.2.1, .int mM.2.2.2.2.2, .ref zar, .ref zbe, .ref zst, .ref zah, .ref zgd])), (zar, .inl (cJ, 64, .inr (.inl fR))), (zbe, .inl (cJ, 64, .inr (.inl fB))), (zst, .inr (5, [.int sS.1, .int sS.2.1, .int sS.2.2.1, .long sS.2.2.2, .ref zsa])), (zsa, .inl (cI, 64, .inl aS)), (zah, .inr (5, [.int sA.1, .int sA.2.1, .int sA.2.2.1, .long sA.2.2.2, .ref zaa])), (zaa, .inl (cI, 64, .inl aA)), (zgd, .inl (cJ, 61, .inr (.inl fD))), (zou, .inl (cJ, 1, .inr (.inl oO)))] → va_S A s.heap H locs → (∀ q, A q → s.heap.size ≤ q) → lv_has ls 9 [(0, .ref b), (1, .ref zhg), (2, .ref zmo), (3, .ref zou), (4, .int (nI (5 * j)))] → W p l e room_1 (s.setDrawn d0) m #[Value.ref b] below meth c H locs (k0 + j) (n0 + 6 * j) (lw_Z below #[Value.ref b] s) (F0 m 23 ls [])
  | 0, _, hh, _ => absurd hh (Nat.not_lt_zero _)
  | nf + 1, j, hh, hj0 => by
    intro d0 hd0 w h rd gG rR qC dG aG dF aF kC mM fR fB sS aS sA aA fD oO H locs ls HW hP hD hS hAs hl
    have hj6 : j ≤ 512 := by omega
    refine lv_iload hx hb dL_law_23 (lv_at hl 4 rfl) ?_
    refine lv_aload_n hx hb dL_law_25 rfl (lv_at hl 0 rfl) ?_
    refine va_slen hx hb hX hbl hbA hS dL_law_26 ?_
    refine lv_iconst (v := 5) hx hb dL_law_27 (by decide) ?_
    refine lv_isub hx hb dL_law_28 ?_
    refine lv_icmp_gt (tgt := 1030) hx hb dL_law_29 (by decide) (fun hc => ?_) (fun hc => ?_)
    · refine lv_iconst (v := 1) hx hb dL_law_1030 (by decide) ?_
      refine va_forget (fun q hq => hAs _ (hS.2.2 q hq)) ?_
      refine W.widen (k := 1056) (n := 8839) (by omega) (by omega) ?_
      exact lw_ret hd0 hx hb hr hlocks dL_law_1031
    have hj : 5 * j + 4 < L := by
      rcases Nat.lt_or_ge (5 * j + 4) L with z | z
      · exact z
      · exact absurd ((gt_ok hL (by omega)).mpr (by omega)) hc
    have hk : k0 + j + 1 ≤ 1056 := by omega
    have hn : n0 + 6 * j + 6 ≤ 8839 := by omega
    have K : ∀ (d0 : Drawn) (_ : s.drawn.sameBut d0 lw_cs) (w h : Nat) (rd : Bool) (gG : GrS) (rR : RuS) (qC : CrS) (dG : GaS) (aG : Nat → Int32) (dF : GaS) (aF : Nat → Int32) (kC : Nat → Int64) (mM : MoS) (fR : Nat → Int64) (fB : Nat → Int64) (sS : StS) (aS : Nat → Int32) (sA : StS) (aA : Nat → Int32) (fD : Nat → Int64) (oO : Nat → Int64) (H : Heap) (locs : List Loc) (ls : Array Slot), WR w h rd gG rR dG aG mM fR fB sS aS → va_P (dC, dI) vwCl [(zhg, .inr (4, [.ref zgr, .ref zru, .ref zga, .ref zfo, .ref zco])), (zgr, .inr (2, [.int gG.1, .int gG.2.1, .int (bI gG.2.2.1), .long gG.2.2.2.1, .long gG.2.2.2.2.1, .long gG.2.2.2.2.2.1, .long gG.2.2.2.2.2.2.1, .long gG.2.2.2.2.2.2.2])), (zru, .inr (3, [.ref zgr, .ref zcr, .int rR.1, .int rR.2])), (zcr, .inr (0, [.long qC.1, .long qC.2.1, .long qC.2.2.1, .long qC.2.2.2])), (zga, .inr (1, [.ref zgr, .ref zru, .ref zag, .long dG.1, .int dG.2.1, .int dG.2.2.1, .int dG.2.2.2])), (zag, .inl (cI, 64, .inl aG)), (zfo, .inr (1, [.ref zgr, .ref zru, .ref zaf, .long dF.1, .int dF.2.1, .int dF.2.2.1, .int dF.2.2.2])), (zaf, .inl (cI, 64, .inl aF)), (zco, .inl (cJ, 61, .inr (.inl kC))), (zmo, .inr (6, [.int mM.1, .int mM.2.1, .int mM.2.2.1, .int (bI mM.2.2.2.1), .int mM.2.2.2.2.1, .int mM.2.2.2.2.2, .ref zar, .ref zbe, .ref zst, .ref zah, .ref zgd])), (zar, .inl (cJ, 64, .inr (.inl fR))), (zbe, .inl (cJ, 64, .inr (.inl fB))), (zst, .inr (5, [.int sS.1, .int sS.2.1, .int sS.2.2.1, .long sS.2.2.2, .ref zsa])), (zsa, .inl (cI, 64, .inl aS)), (zah, .inr (5, [.int sA.1, .int sA.2.1, .int sA.2.2.1, .long sA.2.2.2, .ref zaa])), (zaa, .inl (cI, 64, .inl aA)), (zgd, .inl (cJ, 61, .inr (.inl fD))), (zou, .inl (cJ, 1, .inr (.inl oO)))] H → va_D A [(zhg, .inr (4, [.ref zgr, .ref zru, .ref zga, .ref zfo, .ref zco])), (zgr, .inr (2, [.int gG.1, .int gG.2.1, .int (bI gG.2.2.1), .long gG.2.2.2.1, .long gG.2.2.2.2.1, .long gG.2.2.2.2.2.1, .long gG.2.2.2.2.2.2.1, .long gG.2.2.2.2.2.2.2])), (zru, .inr (3, [.ref zgr, .ref zcr, .int rR.1, .int rR.2])), (zcr, .inr (0, [.long qC.1, .long qC.2.1, .long qC.2.2.1, .long qC.2.2.2])), (zga, .inr (1, [.ref zgr, .ref zru, .ref zag, .long dG.1, .int dG.2.1, .int dG.2.2.1, .int dG.2.2.2])), (zag, .inl (cI, 64, .inl aG)), (zfo, .inr (1, [.ref zgr, .ref zru, .ref zaf, .long dF.1, .int dF.2.1, .int dF.2.2.1, .int dF.2.2.2])), (zaf, .inl (cI, 64, .inl aF)), (zco, .inl (cJ, 61, .inr (.inl kC))), (zmo, .inr (6, [.int mM.1, .int mM.2.1, .int mM.2.2.1, .int (bI mM.2.2.2.1), .int mM.2.2.2.2.1, .int mM.2.2.2.2.2, .ref zar, .ref zbe, .ref zst, .ref zah, .ref zgd])), (zar, .inl (cJ, 64, .inr (.inl fR))), (zbe, .inl (cJ, 64, .inr (.inl fB))), (zst, .inr (5, [.int sS.1, .int sS.2.1, .int sS.2.2.1, .long sS.2.2.2, .ref zsa])), (zsa, .inl (cI, 64, .inl aS)), (zah, .inr (5, [.int sA.1, .int sA.2.1, .int sA.2.2.1, .long sA.2.2.2, .ref zaa])), (zaa, .inl (cI, 64, .inl aA)), (zgd, .inl (cJ, 61, .inr (.inl fD))), (zou, .inl (cJ, 1, .inr (.inl oO)))] → va_S A s.heap H locs → lv_has ls 9 [(0, .ref b), (1, .ref zhg), (2, .ref zmo), (3, .ref zou), (4, .int (nI (5 * j)))] → W p l e room_1 (s.setDrawn d0) m #[Value.ref b] below meth c H locs (k0 + j + 1) (n0 + 6 * j + 6) (lw_Z below #[Value.ref b] s) (F0 m 1024 ls []) := by
      intro d0 hd0 w h rd gG rR qC dG aG dF aF kC mM fR fB sS aS sA aA fD oO H locs ls HW hP hD hS hl
      refine lv_iinc (v := nI (5 * (j + 1))) (lv' := [(4, .int (nI (5 * (j + 1)))), (0, .ref b), (1, .ref zhg), (2, .ref zmo), (3, .ref zou)]) hx hb dL_law_1024 hl (k := 4) rfl (by rw [show (Int32.ofInt 5) = nI 5 from rfl, nI_add, Nat.mul_add, Nat.mul_one]) (by decide) rfl (fun ls hl => ?_)
      refine lv_goto (tgt := 23) hx hb dL_law_1027 (by decide) ?_
      have ih := law_loop (e := e) (below := below) (s := s) (m := m) (l := l) (p := p) hlt hx hb hml hown hts hX hbl hbA hA hnw hfg hex hn1 hn2 hK hr hlocks hL hk0 hn0 nf (j + 1) (by omega) (by omega) d0 hd0 w h rd gG rR qC dG aG dF aF kC mM fR fB sS aS sA aA fD oO H locs ls HW hP hD hS hAs (lv_sub hl [1, 2, 3, 4, 0] rfl)
      rw [show n0 + 6 * (j + 1) = n0 + 6 * j + 6 by omega] at ih
      exact ih
    have hts0 := dr_words hts d0
    have hX0 : va_X b L xs (s.setDrawn d0) (s.setDrawn d0).heap := va_X.moved (u := s) (U := s.setDrawn d0) (Vm.Alike.refl s.vm) hX
    have hnw0 := nwM.same (u := s) (U := s.setDrawn d0) rfl hnw
    have hfg0 := fgM_same (u := s) (U := s.setDrawn d0) rfl rfl hfg
    have hex0 := exE_same (u := s) (U := s.setDrawn d0) rfl rfl hex
    have hn10 := va_Nc.moved (u := s) (U := s.setDrawn d0) (Vm.Alike.refl s.vm) hn1
    have hn20 := va_Nc.moved (u := s) (U := s.setDrawn d0) (Vm.Alike.refl s.vm) hn2
    have hK0 := va_K.moved (u := s) (U := s.setDrawn d0) (Vm.Alike.refl s.vm) hK
    refine lv_aload_n hx hb dL_law_32 rfl (lv_at hl 0 rfl) ?_
    refine lv_iload hx hb dL_law_33 (lv_at hl 4 rfl) ?_
    refine va_sld (s := s.setDrawn d0) hx hb hX0 hbl hbA hS (l_out (i := 5 * j) (N := L) (by omega) (by omega)) dL_law_35 ?_
    refine lv_bipush (v := 15) hx hb dL_law_36 (by decide) ?_
    refine lv_iand hx hb dL_law_38 ?_
    obtain ⟨v, hv⟩ : ∃ v, v = (xs (nI (5 * j)).toNatClampNeg &&& 15) := ⟨_, rfl⟩
    rw [← hv]
    by_cases hc0 : v = 0
    · refine lv_tableIn (off := 73) (tgt := 112) hx hb dL_law_39 (by rw [hc0]; decide) (by rw [hc0]; decide) (by rw [hc0]; rfl) (by decide) ?_
      exact law_lay (s := s.setDrawn d0) hlt hx hb hml hown hts0 hX0 hbl hbA hA hnw0 hfg0 hex0 hn10 hn20 hK0 hk hn hL hj gG rR qC dG aG dF aF kC mM fR fB sS aS sA aA fD oO H locs ls HW hP hD hS hl (K d0 hd0)
    by_cases hc1 : v = 1
    · refine lv_tableIn (off := 141) (tgt := 180) hx hb dL_law_39 (by rw [hc1]; decide) (by rw [hc1]; decide) (by rw [hc1]; rfl) (by decide) ?_
      exact law_setRules (s := s.setDrawn d0) hlt hx hb hml hown hts0 hX0 hbl hbA hA hnw0 hfg0 hex0 hn10 hn20 hK0 hk hn hL hj gG rR qC dG aG dF aF kC mM fR fB sS aS sA aA fD oO H locs ls HW hP hD hS hl (K d0 hd0)
    by_cases hc2 : v = 2
    · refine lv_tableIn (off := 209) (tgt := 248) hx hb dL_law_39 (by rw [hc2]; decide) (by rw [hc2]; decide) (by rw [hc2]; rfl) (by decide) ?_
      exact law_setEdge (s := s.setDrawn d0) hlt hx hb hml hown hts0 hX0 hbl hbA hA hnw0 hfg0 hex0 hn10 hn20 hK0 hk hn hL hj gG rR qC dG aG dF aF kC mM fR fB sS aS sA aA fD oO H locs ls HW hP hD hS hl (K d0 hd0)
    by_cases hc3 : v = 3
    · refine lv_tableIn (off := 250) (tgt := 289) hx hb dL_law_39 (by rw [hc3]; decide) (by rw [hc3]; decide) (by rw [hc3]; rfl) (by decide) ?_
      exact law_turn (s := s.setDrawn d0) hlt hx hb hml hown hts0 hX0 hbl hbA hA hnw0 hfg0 hex0 hn10 hn20 hK0 hk hn hL hj gG rR qC dG aG dF aF kC mM fR fB sS aS sA aA fD oO H locs ls HW hP hD hS hl (K d0 hd0)
    by_cases hc4 : v = 4
    · refine lv_tableIn (off := 318) (tgt := 357) hx hb dL_law_39 (by rw [hc4]; decide) (by rw [hc4]; decide) (by rw [hc4]; rfl) (by decide) ?_
      exact law_plant (s := s.setDrawn d0) hlt hx hb hml hown hts0 hX0 hbl hbA hA hnw0 hfg0 hex0 hn10 hn20 hK0 hk hn hL hj gG rR qC dG aG dF aF kC mM fR fB sS aS sA aA fD oO H locs ls HW hP hD hS hl (K d0 hd0)
    by_cases hc5 : v = 5
    · refine lv_tableIn (off := 410) (tgt := 449) hx hb dL_law_39 (by rw [hc5]; decide) (by rw [hc5]; decide) (by rw [hc5]; rfl) (by decide) ?_
      exact law_pass (s := s.setDrawn d0) hlt hx hb hml hown hts0 hX0 hbl hbA hA hnw0 hfg0 hex0 hn10 hn20 hK0 hk hn hL hj gG rR qC dG aG dF aF kC mM fR fB sS aS sA aA fD oO H locs ls HW hP hD hS hl (K d0 hd0)
    by_cases hc6 : v = 6
    · refine lv_tableIn (off := 466) (tgt := 505) hx hb dL_law_39 (by rw [hc6]; decide) (by rw [hc6]; decide) (by rw [hc6]; rfl) (by decide) ?_
      exact law_told (s := s.setDrawn d0) hlt hx hb hml hown hts0 hX0 hbl hbA hA hnw0 hfg0 hex0 hn10 hn20 hK0 hk hn hL hj gG rR qC dG aG dF aF kC mM fR fB sS aS sA aA fD oO H locs ls HW hP hD hS hl (K d0 hd0)
    by_cases hc7 : v = 7
    · refine lv_tableIn (off := 546) (tgt := 585) hx hb dL_law_39 (by rw [hc7]; decide) (by rw [hc7]; decide) (by rw [hc7]; rfl) (by decide) ?_
      exact law_count (s := s.setDrawn d0) hlt hx hb hml hown hts0 hX0 hbl hbA hA hnw0 hfg0 hex0 hn10 hn20 hK0 hk hn hL hj gG rR qC dG aG dF aF kC mM fR fB sS aS sA aA fD oO H locs ls HW hP hD hS hl (K d0 hd0)
    by_cases hc8 : v = 8
    · refine lv_tableIn (off := 602) (tgt := 641) hx hb dL_law_39 (by rw [hc8]; decide) (by rw [hc8]; decide) (by rw [hc8]; rfl) (by decide) ?_
      exact law_way (s := s.setDrawn d0) hlt hx hb hml hown hts0 hX0 hbl hbA hA hnw0 hfg0 hex0 hn10 hn20 hK0 hk hn hL hj gG rR qC dG aG dF aF kC mM fR fB sS aS sA aA fD oO H locs ls HW hP hD hS hl (K d0 hd0)
    by_cases hc9 : v = 9
    · refine lv_tableIn (off := 694) (tgt := 733) hx hb dL_law_39 (by rw [hc9]; decide) (by rw [hc9]; decide) (by rw [hc9]; rfl) (by decide) ?_
      exact law_period (s := s.setDrawn d0) hlt hx hb hml hown hts0 hX0 hbl hbA hA hnw0 hfg0 hex0 hn10 hn20 hK0 hk hn hL hj gG rR qC dG aG dF aF kC mM fR fB sS aS sA aA fD oO H locs ls HW hP hD hS hl (K d0 hd0)
    by_cases hc10 : v = 10
    · refine lv_tableIn (off := 750) (tgt := 789) hx hb dL_law_39 (by rw [hc10]; decide) (by rw [hc10]; decide) (by rw [hc10]; rfl) (by decide) ?_
      exact law_glides (s := s.setDrawn d0) hlt hx hb hml hown hts0 hX0 hbl hbA hA hnw0 hfg0 hex0 hn10 hn20 hK0 hk hn hL hj gG rR qC dG aG dF aF kC mM fR fB sS aS sA aA fD oO H locs ls HW hP hD hS hl (K d0 hd0)
    by_cases hc11 : v = 11
    · refine lv_tableIn (off := 806) (tgt := 845) hx hb dL_law_39 (by rw [hc11]; decide) (by rw [hc11]; decide) (by rw [hc11]; rfl) (by decide) ?_
      exact law_foresee (s := s.setDrawn d0) hlt hx hb hml hown hts0 hX0 hbl hbA hA hnw0 hfg0 hex0 hn10 hn20 hK0 hk hn hL hj gG rR qC dG aG dF aF kC mM fR fB sS aS sA aA fD oO H locs ls HW hP hD hS hl (K d0 hd0)
    by_cases hc12 : v = 12
    · refine lv_tableIn (off := 874) (tgt := 913) hx hb dL_law_39 (by rw [hc12]; decide) (by rw [hc12]; decide) (by rw [hc12]; rfl) (by decide) ?_
      exact law_advise (s := s.setDrawn d0) hlt hx hb hml hown hts0 hX0 hbl hbA hA hnw0 hfg0 hex0 hn10 hn20 hK0 hk hn hL hj gG rR qC dG aG dF aF kC mM fR fB sS aS sA aA fD oO H locs ls HW hP hD hS hl (K d0 hd0)
    by_cases hc13 : v = 13
    · refine lv_tableIn (off := 930) (tgt := 969) hx hb dL_law_39 (by rw [hc13]; decide) (by rw [hc13]; decide) (by rw [hc13]; rfl) (by decide) ?_
      exact law_mean hlt hx hb hml hown hts hX hbl hbA hA hnw hfg hex hn1 hn2 hK hd0 hk hn hL hj gG rR qC dG aG dF aF kC mM fR fB sS aS sA aA fD oO H locs ls HW hP hD hS hl K
    by_cases hc14 : v = 14
    · refine lv_tableIn (off := 971) (tgt := 1010) hx hb dL_law_39 (by rw [hc14]; decide) (by rw [hc14]; decide) (by rw [hc14]; rfl) (by decide) ?_
      exact law_digest (s := s.setDrawn d0) hlt hx hb hml hown hts0 hX0 hbl hbA hA hnw0 hfg0 hex0 hn10 hn20 hK0 hk hn hL hj gG rR qC dG aG dF aF kC mM fR fB sS aS sA aA fD oO H locs ls HW hP hD hS hl (K d0 hd0)
    have ht0 : v.toInt ≠ 0 := fun h9 => hc0 (Int32.toInt_inj.mp (h9.trans (by decide)))
    have ht1 : v.toInt ≠ 1 := fun h9 => hc1 (Int32.toInt_inj.mp (h9.trans (by decide)))
    have ht2 : v.toInt ≠ 2 := fun h9 => hc2 (Int32.toInt_inj.mp (h9.trans (by decide)))
    have ht3 : v.toInt ≠ 3 := fun h9 => hc3 (Int32.toInt_inj.mp (h9.trans (by decide)))
    have ht4 : v.toInt ≠ 4 := fun h9 => hc4 (Int32.toInt_inj.mp (h9.trans (by decide)))
    have ht5 : v.toInt ≠ 5 := fun h9 => hc5 (Int32.toInt_inj.mp (h9.trans (by decide)))
    have ht6 : v.toInt ≠ 6 := fun h9 => hc6 (Int32.toInt_inj.mp (h9.trans (by decide)))
    have ht7 : v.toInt ≠ 7 := fun h9 => hc7 (Int32.toInt_inj.mp (h9.trans (by decide)))
    have ht8 : v.toInt ≠ 8 := fun h9 => hc8 (Int32.toInt_inj.mp (h9.trans (by decide)))
    have ht9 : v.toInt ≠ 9 := fun h9 => hc9 (Int32.toInt_inj.mp (h9.trans (by decide)))
    have ht10 : v.toInt ≠ 10 := fun h9 => hc10 (Int32.toInt_inj.mp (h9.trans (by decide)))
    have ht11 : v.toInt ≠ 11 := fun h9 => hc11 (Int32.toInt_inj.mp (h9.trans (by decide)))
    have ht12 : v.toInt ≠ 12 := fun h9 => hc12 (Int32.toInt_inj.mp (h9.trans (by decide)))
    have ht13 : v.toInt ≠ 13 := fun h9 => hc13 (Int32.toInt_inj.mp (h9.trans (by decide)))
    have ht14 : v.toInt ≠ 14 := fun h9 => hc14 (Int32.toInt_inj.mp (h9.trans (by decide)))
    refine lv_tableOut (tgt := 1024) hx hb dL_law_39 (by omega) (by decide) ?_
    exact W.widen (k := k0 + j + 1) (n := n0 + 6 * j + 6) (Nat.le_succ _) (Nat.le_add_right _ 6) (K d0 hd0 w h rd gG rR qC dG aG dF aF kC mM fR fB sS aS sA aA fD oO H locs ls HW hP hD hS hl)
