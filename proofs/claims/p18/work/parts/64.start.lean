/-! ===== the law, from its entry ===== -/
set_option maxHeartbeats 1000000 in
set_option maxRecDepth 100000 in
theorem whole_start {p : Program} {e : Env} {s : State} {m : MethodId} {below : List Frame} {meth : Method} {c : Code} (l : Launch) (hflags : l.flags = flags0) {b L : Nat} {xs : Nat → Int32} (hL : L ≤ 260) (C0 : lw_At p s m meth c b L xs) : W p l e room_1 s m #[Value.ref b] below meth c s.heap [] 0 0 (lw_Z below #[Value.ref b] s) (entryFrame m ([Value.ref b] : List Value).toArray 31) := by
  obtain ⟨hx, hb, hr, hml, hown, hts0, hX, hbl, hlocks, hgv⟩ := id C0
  have hown : s.vm.findClass RL = some m.cls := hown
  have hb : c.code = cL_law := hb
  have hts : ∀ w ∈ wsL_law, w.before #[Value.ref b] s = true := fun w h => hts0 w (wsL_law_in w h)
  obtain ⟨A, hA, hbA, hAs, hAn⟩ : ∃ A : Nat → Prop, (∀ q : Nat, s.heap.size ≤ q → A q) ∧ ¬ A b ∧ (∀ q : Nat, A q → s.heap.size ≤ q) ∧ (∀ q : Nat, q < s.heap.size → ¬ A q) := ⟨fun q => s.heap.size ≤ q, fun _ h => h, Nat.not_le.mpr hbl, fun _ h => h, fun _ h => Nat.not_le.mpr h⟩
  have hlt := st_lt hflags
  obtain ⟨dC, dI, hK⟩ := st_K hts0
  obtain ⟨hn3, hn0, hn6⟩ := st_n9 hts0
  have hex := st_ex (A := A) hts0 hgv hAn
  have hao := st_ao hts0
  have hd0 := Drawn.sameBut.refl s.drawn lw_cs
  have hS : va_S A s.heap s.heap [] := va_S.rf
  have hP : va_P (dC, dI) vwCl [] s.heap := fun k q h => by simp at h
  have hD : va_D A [] := ⟨fun i j p q h => by simp at h, fun k q h => by simp at h⟩
  have hl := lv_entry ([.ref b]) (n := 31) (Nat.le_of_ble_eq_true rfl)
  rw [lg_entry_eq]
  generalize (lg_sl ([.ref b]) ++ List.replicate (31 - (lg_sl ([.ref b])).length) Slot.unset).toArray = ls at hl ⊢
  have hl : lv_has ls 31 [(0, .ref b)] := hl
  refine va_new (ci := 4) (fs := [.null, .null, .null, .null, .null]) (C := RX5) (T := TX5) (N := 5) hx hb hts0 wsL_in_X5 tyX5 tyX5_ok hown (hts0 (.classLink RL 40 RX5) (by decide +kernel)) (hts0 (.instantiable RX5 5) (by decide +kernel)) (hts0 (.initialized RX5) (by decide +kernel)) hK hP hD hS hA rfl (fun j hj => by rcases (show j = 0 ∨ j = 1 ∨ j = 2 ∨ j = 3 ∨ j = 4 by omega) with rfl | rfl | rfl | rfl | rfl <;> rfl) (Nat.le_of_ble_eq_true rfl) (Nat.le_of_ble_eq_true rfl) dL_law_0 (fun zhg H hP hD hS => ?_)
  have hP : va_P (dC, dI) vwCl [(zhg, .inr (4, [.null, .null, .null, .null, .null]))] H := hP
  have hD : va_D A [(zhg, .inr (4, [.null, .null, .null, .null, .null]))] := hD
  refine W.widen (k := 1) (n := 5) (Nat.le_of_ble_eq_true rfl) (Nat.le_of_ble_eq_true rfl) ?_
  refine lv_dup hx hb dL_law_3 rfl ?_
  have hPc := hP.sub (ws' := [(zhg, .inr (4, [.null, .null, .null, .null, .null]))]) [0] rfl
  have hDc := hD.sub (ws' := [(zhg, .inr (4, [.null, .null, .null, .null, .null]))]) [0] (by decide) rfl
  have hKc := hK.sub (tys' := []) [] rfl
  have hFc := va_free (wc := [(zhg, .inr (4, [.null, .null, .null, .null, .null]))]) hD hS hA [0] rfl
  refine va_callv (va_runI (As := []) (rest := [.ref zhg]) ⟨hx, hb, hml, hown, hts⟩ (c_X5_init l dC dI zhg H.size) (cwI 0 hts gL_law_X5_init rfl rfl rfl (hts0 (.initialized RX5) (by decide +kernel)) (hts0 (.methodLink RL 84 yX5_init) (by decide +kernel)) (hts0 (.instanceMethod yX5_init) (by decide +kernel)) rfl (by decide +kernel) ⟨Nat.le_of_ble_eq_true rfl, Nat.le_of_ble_eq_true rfl⟩) ⟨fun a U g mk q => by obtain ⟨q0, q1, qP, qK, qD, qn0, qn1⟩ := q; exact ⟨q0, q1, qP, va_K.moved (u := U) (U := U.calling g mk a) (Vm.Alike.refl U.vm) qK, qD, va_Nw.same rfl (u := U) (U := U.calling g mk a) rfl qn0, va_Nw.same rfl (u := U) (U := U.calling g mk a) rfl qn1⟩, fun U hU hW => ⟨rfl, by rw [hU], by rw [hU]; exact hPc, va_K.moved hW.alike hKc, hDc.weaken (fun _ _ _ _ => trivial), va_Nw.warmM hW hn3, va_Nw.warmM hW hn0⟩⟩ rfl rfl hl.1 rfl (lv_room (Nat.le_of_ble_eq_true rfl)) dL_law_4 ⟨Nat.le_of_ble_eq_true rfl, Nat.le_of_ble_eq_true rfl⟩) hS (fun q _ h => hFc q h) hFc (fun u t H1 locs ht hvm h5 hB hz1 hk1 hS => ?_)
  obtain ⟨zgr, zru, zcr, zga, zag, zfo, zaf, zco, cI, cJ, gG, hG, hP1, hK1, hD1⟩ := hB
  rw [ht] at hP1
  have hK1 := va_K.moved hvm.symm hK1
  obtain ⟨hP, hD⟩ := va_join (wr := []) (w1 := [(zhg, .inr (4, [.ref zgr, .ref zru, .ref zga, .ref zfo, .ref zco])), (zgr, .inr (2, [.int gG.1, .int gG.2.1, .int (bI gG.2.2.1), .long gG.2.2.2.1, .long gG.2.2.2.2.1, .long gG.2.2.2.2.2.1, .long gG.2.2.2.2.2.2.1, .long gG.2.2.2.2.2.2.2])), (zru, .inr (3, [.ref zgr, .ref zcr, .int 8, .int 62])), (zcr, .inr (0, [.long 0, .long 0, .long 0, .long 0])), (zga, .inr (1, [.ref zgr, .ref zru, .ref zag, .long 0, .int 0, .int 0, .int 0])), (zag, .inl (cI, 64, .inl (fun _ => 0))), (zfo, .inr (1, [.ref zgr, .ref zru, .ref zaf, .long 0, .int 0, .int 0, .int 0])), (zaf, .inl (cI, 64, .inl (fun _ => 0))), (zco, .inl (cJ, 61, .inr (.inl (fun _ => 0))))]) hP hD [0] [] rfl rfl (by decide) (by decide) hk1 hFc hP1 hD1
  have hK := (hK.sub (tys' := []) [] rfl).app hK1
  generalize H1 = H at hP hS ⊢
  have hP : va_P (dC, dI) vwCl [(zhg, .inr (4, [.ref zgr, .ref zru, .ref zga, .ref zfo, .ref zco])), (zgr, .inr (2, [.int gG.1, .int gG.2.1, .int (bI gG.2.2.1), .long gG.2.2.2.1, .long gG.2.2.2.2.1, .long gG.2.2.2.2.2.1, .long gG.2.2.2.2.2.2.1, .long gG.2.2.2.2.2.2.2])), (zru, .inr (3, [.ref zgr, .ref zcr, .int 8, .int 62])), (zcr, .inr (0, [.long 0, .long 0, .long 0, .long 0])), (zga, .inr (1, [.ref zgr, .ref zru, .ref zag, .long 0, .int 0, .int 0, .int 0])), (zag, .inl (cI, 64, .inl (fun _ => 0))), (zfo, .inr (1, [.ref zgr, .ref zru, .ref zaf, .long 0, .int 0, .int 0, .int 0])), (zaf, .inl (cI, 64, .inl (fun _ => 0))), (zco, .inl (cJ, 61, .inr (.inl (fun _ => 0))))] H := hP
  have hD : va_D A [(zhg, .inr (4, [.ref zgr, .ref zru, .ref zga, .ref zfo, .ref zco])), (zgr, .inr (2, [.int gG.1, .int gG.2.1, .int (bI gG.2.2.1), .long gG.2.2.2.1, .long gG.2.2.2.2.1, .long gG.2.2.2.2.2.1, .long gG.2.2.2.2.2.2.1, .long gG.2.2.2.2.2.2.2])), (zru, .inr (3, [.ref zgr, .ref zcr, .int 8, .int 62])), (zcr, .inr (0, [.long 0, .long 0, .long 0, .long 0])), (zga, .inr (1, [.ref zgr, .ref zru, .ref zag, .long 0, .int 0, .int 0, .int 0])), (zag, .inl (cI, 64, .inl (fun _ => 0))), (zfo, .inr (1, [.ref zgr, .ref zru, .ref zaf, .long 0, .int 0, .int 0, .int 0])), (zaf, .inl (cI, 64, .inl (fun _ => 0))), (zco, .inl (cJ, 61, .inr (.inl (fun _ => 0))))] := hD
  have hK : va_K (dC, dI) vwCl [(cI, .int), (cJ, .long)] s := hK
  refine W.widen (k := 9) (n := 224) (Nat.le_of_ble_eq_true rfl) (Nat.le_of_ble_eq_true rfl) ?_
  refine lv_astore_n (lv' := [(1, .ref zhg), (0, .ref b)]) hx hb dL_law_7 rfl hl (by decide) rfl (fun ls hl => ?_)
  have hG8 : GOK gG 8 8 false := hG
  have hR := law_ok (fun _ => 0) (Ln := L) (by omega) xs hG8 rfl rfl ((0 : Int64), (0 : Int32), (0 : Int32), (0 : Int32)) (fun _ => 0) (fun _ => 0)
  obtain ⟨cO, cB, hOB⟩ := st_OB hts0 hK
  have hK4 : va_K (dC, dI) vwCl [(cI, .int), (cJ, .long), (cO, .array .int), (cB, .boolean)] s := hK.app hOB
  refine W.base ?_
  exact law_main (below := below) (e := e) (p := p) (s := s) (Q := lw_Z below #[Value.ref b] s) dC dI cI cJ cO cB zhg zgr zru zcr zga zag zfo zaf zco b gG ((8 : Int32), (62 : Int32)) ((0 : Int64), (0 : Int32), (0 : Int32), (0 : Int32)) (fun _ => 0) ((0 : Int64), (0 : Int32), (0 : Int32), (0 : Int32)) (fun _ => 0) (fun _ => 0) L xs ((0 : Int64), (0 : Int64), (0 : Int64), (0 : Int64)) () hR hlt hx hb hml hown hts hX hbl hbA hA hex hao hn6 hK4 (fun d1 hd H locs ls hS => va_forget (fun q hq => hAs _ (hS.2.2 q hq)) (lw_ret hd hx hb hr hlocks dL_law_1120)) H _ ls hP hD hS hl
